section K6
variable {E : EE} {d : Nat} {I : IH} {Q : QT} {T : Nat → Nat} {k e g r : Nat}
theorem ev_gn (h : isEv e g r) : ∀ i, i < 8 → g + i ≠ e := fun i hi => by have := ev_nums h; omega
/-- a minute on the class's side: the score is more by w -/
def Gc (e g r : Nat) (I I2 : IH) (w : Nat) : Prop := Same [e, g + 1, g + 4, g + 6, r + 5] I I2 ∧ I2 e 9 = I e 9 ∧ I2 e 6 = I e 6 + nI w
theorem sgo_sc {n q : Nat} (h : n ≤ q) : sgo T n (39 + 6 * q) = T (39 + 6 * q) := sgo_ne T n _ (by intro w hw; omega)
theorem c_goOn_loop (hE : isEv e g r) (hW : WfE T) (w : Nat) : ∀ (n k : Nat) (I : IH), k + n = T 6 → EvR I e g (sgo T k) → (∀ I2, EvR I2 e g (fin_ T) → Gc e g r I I2 w → Q none I2) → J E (d + 3) mX1_goOn 2 [(0, .ref (eb E + e)), (1, .int (nI w)), (2, .int (nI k))] [] I Q := by
  intro n
  have h6 : T 6 ≤ 6 := hW.1
  have h0 : T 0 ≤ 16 := hW.2.1
  have hn := ev_nums hE
  induction n with
  | zero =>
    intro k I hk h hQ
    have : k = T 6 := by omega
    subst this
    refine S_X1_goOn_2 hE _ _ ?_
    have v5 : I e 7 = nI (T 6) := by have := h.2.2.2.2.1; rw [sgo_ne T _ 6 (by intro q _; omega)] at this; exact this
    have v2 : I e 3 = nI (T 0) := by have := h.2.1; rw [sgo_0] at this; exact this
    rw [v5, v2, nI_leI (by omega) (by omega), nI_add]
    refine ⟨fun _ I1 e1 I3 e3 => ?_, fun q => by omega⟩
    refine hQ I3 ?_ ⟨?_, ?_, ?_⟩
    · rw [e3]
      refine EvR.scr ?_ (ev_gn hE)
      rw [e1]
      exact h.mnt (ev_gn hE)
    · rw [e3, e1]; exact (Same.st (by simp)).tr (Same.st (by simp))
    · rw [e3, st_nj (by omega), e1, st_nj (by omega)]
    · rw [e3, st_at, e1, st_nj (by omega)]
  | succ n ih =>
    intro k I hk h hQ
    obtain ⟨k6, p1, p2, p3, p4, p5, p6⟩ := hW.p (k := k) (by omega)
    obtain ⟨ws, wa⟩ := wf_sgo hW k (by omega)
    have s6 : sgo T k 6 = T 6 := sgo_ne T _ 6 (by intro q _; omega)
    refine S_X1_goOn_2 hE _ _ ?_
    have v5 : I e 7 = nI (T 6) := by have := h.2.2.2.2.1; rw [s6] at this; exact this
    have v2 : I e 3 = nI (T 0) := by have := h.2.1; rw [sgo_0] at this; exact this
    have v12 : I (g + 4) k = nI (T (39 + 6 * k)) := by
      have := h.2.2.2.2.2.2.2.2.2.2.2.1 k (by omega)
      rw [sgo_sc (by omega)] at this; exact this
    rw [v5, nI_leI (by omega) (by omega)]
    refine ⟨fun q => by omega, fun _ => c_thing hE h ws rfl (by omega) ⟨_, ?_, rfl, k, rfl, k6, ?_⟩⟩
    · rw [sgo_ne T k _ (by intro q _; omega)]; omega
    · rw [v12, v2, sgo_ne T k _ (by intro q _; omega)]
      refine c_next _ _ ⟨p1, p2⟩ rfl rfl p3 (by omega) ⟨_, rfl, k, rfl, k6, fun I13 e13 => ?_⟩
      rw [nI_add]
      refine ih (k + 1) I13 (by omega) ?_ (fun I2 h2 G2 => hQ I2 h2 ⟨?_, ?_, ?_⟩)
      · rw [e13]
        exact h.sc (ev_gn hE) ws (by omega)
      · exact Same.tr (by rw [e13]; exact Same.st (by simp)) G2.1
      · rw [G2.2.1, e13, st_ne (by omega)]
      · rw [G2.2.2, e13, st_ne (by omega)]
theorem c_goOn {x : Int32} (hE : isEv e g r) (h : EvR I e g T) (hW : WfE T) (w : Nat) (hx : x = nI w) (hQ : ∀ I2, EvR I2 e g (fin_ T) → Gc e g r I I2 w → Q none I2) : Mt E (d + 3) mX1_goOn [.ref (eb E + e), .int x] I Q := by
  subst hx
  exact S_X1_goOn hE _ (c_goOn_loop hE hW w (T 6) 0 I (by omega) h hQ)
theorem wil_le (hR : WfR T) : wil T k ≤ 2 := by
  have : ∀ n r, r + n = T 7 → wilF T k r n ≤ 2 := by
    intro n
    induction n with
    | zero => intro r _; exact Nat.zero_le _
    | succ n ih =>
      intro r hr
      unfold wilF
      split
      · exact (hR.2 r (by omega)).2.1
      · exact ih (r + 1) (by omega)
  exact this (T 7) 0 (by omega)
theorem Ke.of {I2 : IH} (hE : isEv e g r) (h : Same [r + 5] I I2) : Ke e g r I I2 := by
  have hn := ev_nums hE
  have : I2 e = I e := h e (by simp; omega)
  exact ⟨h.mono (by simp), by rw [this], by rw [this]⟩
theorem c_doBy {x : Int32} (hE : isEv e g r) (h : EvR I e g T) (hr : RuR I r T) (hW : WfE T) (hWR : WfR T) (hx : x = nI k) (hk : k < T 6) (hQ : ∀ I2, EvR I2 e g (mee T k).1 → Ke e g r I I2 → Q (some (.int (nI (mee T k).2))) I2) : Mt E (d + 3) mX1_doBy [.ref (eb E + e), .int x] I Q := by
  subst hx
  have hn := ev_nums hE
  have hg := ev_gn hE
  have h6 : T 6 ≤ 6 := hW.1
  obtain ⟨k6, p1, p2, p3, p4, p5, p6⟩ := hW.p hk
  obtain ⟨w1, w2⟩ := hW.w hk
  have hl := lt8_le T k
  have h4 : T 4 ≤ 999 := hW.2.2.2.2.1
  have ha := ask_le (T := T) (k := k) (by omega)
  have hwl := wil_le (k := k) hWR
  refine S_X1_doBy hE _ ?_
  rw [h.2.2.2.2.1, nI_ltI (by omega) (by omega)]
  refine ⟨fun q => absurd q (nI_pos (by omega)), fun _ => ⟨fun _ => ?_, fun q => absurd hk q⟩⟩
  refine c_lights hE h hW rfl hk ⟨_, rfl, c_thing hE h hW rfl hk ⟨T (38 + 6 * k), by omega, rfl, c_price (lt8 T k) k ⟨p1, p2⟩ rfl rfl hl ⟨_, rfl, c_will hE h hr hW hWR rfl rfl hk (fun I8 s8 => ⟨_, rfl, ?_⟩)⟩⟩⟩
  have h8 : EvR I8 e g T := h.same s8 (by simp; omega) (fun i hi => by simp; omega)
  have K8 : Ke e g r I I8 := Ke.of hE s8
  rw [nI_eq (by omega) (by omega)]
  refine ⟨fun q => ?_, fun q => ⟨k, rfl, k6, k, rfl, k6, T (41 + 6 * k), h8.2.2.2.2.2.2.2.2.2.2.2.2.1 k hk, p5, T (41 + 6 * k), h8.2.2.2.2.2.2.2.2.2.2.2.2.1 k hk, p5, fun I19 e19 => ?_⟩⟩
  · refine S_X1_doBy_74 hE _ _ _ _ ?_
    rw [n0, nI_eq (by omega) (by omega)]
    refine ⟨fun z => ?_, fun z => c_kisOpen hE h8 hW rfl rfl hk ⟨_, rfl, ?_⟩⟩
    · have em : mee T k = (T, 0) := by unfold mee; rw [if_neg z, if_neg q]
      rw [em] at hQ
      exact hQ I8 h8 K8
    · rw [nI_eq (by have := bn_le (opn T k); omega) (by omega)]
      refine ⟨fun y => ?_, fun y => ?_⟩
      · have ho : opn T k := by
          by_cases ho : opn T k
          · exact ho
          · rw [bn_f ho] at y; exact absurd rfl y
        have em : mee T k = (lks T k, lksW T k) := by unfold mee; rw [if_pos z, if_pos (dc_t ho)]
        rw [em] at hQ
        obtain ⟨o1, o2⟩ := ho
        intro I3 e3
        have v4 : I8 e 5 = nI (T 4) := h8.2.2.2.1
        rw [v4, show nI (T 4) - nI (askBy (T (38 + 6 * k)) (lt8 T k) k) = nI (T 4 - ask T k) from pk_sub o2] at e3
        have h3 : EvR I3 e g (up T 4 (T 4 - ask T k)) := by rw [e3]; exact h8.prs hg
        have W3 : WfE (up T 4 (T 4 - ask T k)) := hW.put (by unfold may; omega)
        have t3 : (up T 4 (T 4 - ask T k)) 6 = T 6 := up_ne (by omega)
        have K3 : Ke e g r I I3 := K8.tr (by rw [e3]; exact ⟨Same.st (by simp), by rw [st_nj (by omega)], by rw [st_nj (by omega)]⟩)
        refine ⟨k, rfl, k6, k, rfl, k6, fun I8b e8b => ?_⟩
        have v14 : I3 (g + 6) k = nI (T (40 + 6 * k)) := by
          have := h3.2.2.2.2.2.2.2.2.2.2.2.2.2.1 k (by omega)
          rw [up_ne (by omega)] at this; exact this
        rw [v14, nI_add] at e8b
        have h8b : EvR I8b e g (up (up T 4 (T 4 - ask T k)) (40 + 6 * k) (T (40 + 6 * k) + 1)) := by rw [e8b]; exact h3.lk hg W3 (by omega)
        have W8b : WfE (up (up T 4 (T 4 - ask T k)) (40 + 6 * k) (T (40 + 6 * k) + 1)) := W3.put (by unfold may; exact Or.inr (Or.inr (Or.inr (Or.inr (Or.inr (Or.inr (Or.inl ⟨k, by omega, by omega⟩)))))))
        have t8b : (up (up T 4 (T 4 - ask T k)) (40 + 6 * k) (T (40 + 6 * k) + 1)) 6 = T 6 := by rw [up_ne (by omega)]; exact t3
        have K8b : Ke e g r I I8b := K3.tr (by rw [e8b]; exact ⟨Same.st (by simp), by rw [st_ne (by omega)], by rw [st_ne (by omega)]⟩)
        refine ⟨k, rfl, k6, k, rfl, k6, k, rfl, k6, fun I19 e19 => ?_⟩
        have v12 : I8b (g + 4) k = nI (T (39 + 6 * k)) := by
          have := h8b.2.2.2.2.2.2.2.2.2.2.2.1 k (by omega)
          rw [up_ne (by omega), up_ne (by omega)] at this; exact this
        rw [v12, and_eq _ p3] at e19
        have h19 : EvR I19 e g (up (up (up T 4 (T 4 - ask T k)) (40 + 6 * k) (T (40 + 6 * k) + 1)) (39 + 6 * k) (T (39 + 6 * k) &&& (T (39 + 6 * k) - 1))) := by rw [e19]; exact h8b.sc hg W8b (by omega)
        have hand : (T (39 + 6 * k) &&& (T (39 + 6 * k) - 1)) ≤ T (39 + 6 * k) := Nat.and_le_left
        have W19 : WfE (up (up (up T 4 (T 4 - ask T k)) (40 + 6 * k) (T (40 + 6 * k) + 1)) (39 + 6 * k) (T (39 + 6 * k) &&& (T (39 + 6 * k) - 1))) := W8b.put (by unfold may; exact Or.inr (Or.inr (Or.inr (Or.inr (Or.inr (Or.inr (Or.inl ⟨k, by omega, by omega⟩)))))))
        have K19 : Ke e g r I I19 := K8b.tr (by rw [e19]; exact ⟨Same.st (by simp), by rw [st_ne (by omega)], by rw [st_ne (by omega)]⟩)
        generalize hT3 : up (up (up T 4 (T 4 - ask T k)) (40 + 6 * k) (T (40 + 6 * k) + 1)) (39 + 6 * k) (T (39 + 6 * k) &&& (T (39 + 6 * k) - 1)) = T3 at h19 W19
        have t36 : T3 6 = T 6 := by rw [← hT3, up_ne (by omega)]; exact t8b
        have t3s : T3 (42 + 6 * k) = T (42 + 6 * k) := by rw [← hT3, up_ne (by omega), up_ne (by omega), up_ne (by omega)]
        have elk : lks T k = up T3 (42 + 6 * k) (if 2 < lt8 T k then 1 else T (42 + 6 * k)) := by unfold lks; rw [hT3]
        have same : ∀ v, v = T (42 + 6 * k) → up T3 (42 + 6 * k) v = T3 := by
          intro v hv
          funext i
          unfold up
          split
          · rename_i hi; subst hi; rw [hv, t3s]
          · rfl
        rw [h19.2.2.2.2.2.1, bit_sw W19 (by omega), t3s, nI_ltI (by omega) (by omega), nI_eq (by omega) (by omega)]
        refine ⟨fun y3 => ?_, fun y3 => ⟨fun y4 => ?_, fun y4 => ?_⟩⟩
        · have ew : lksW T k = lt8 T k := by unfold lksW; rw [if_neg (by omega)]; omega
          rw [ew] at hQ
          refine hQ I19 ?_ K19
          rw [elk, if_neg (by omega), same _ rfl]; exact h19
        · intro I24 e24
          have z0 : T (42 + 6 * k) = 0 := by omega
          have ew : lksW T k = lt8 T k + 5 := by unfold lksW; rw [if_pos (by omega)]
          rw [ew] at hQ
          rw [nI_add]
          rw [bit_or _ (swn_lt W19) k k6 (by rw [swn_bit W19 (by omega), t3s]; exact z0)] at e24
          refine hQ I24 ?_ (K19.tr (by rw [e24]; exact ⟨Same.st (by simp), by rw [st_nj (by omega)], by rw [st_nj (by omega)]⟩))
          rw [elk, if_pos (by omega), e24]
          exact h19.shw hg W19 (by omega) (by rw [swn_set (by omega) (by rw [t3s]; exact z0)])
        · have ew : lksW T k = lt8 T k := by unfold lksW; rw [if_neg (by omega)]; omega
          rw [ew] at hQ
          refine hQ I19 ?_ K19
          rw [elk, if_pos (by omega), same 1 (by omega)]; exact h19
      · have ho : ¬ opn T k := fun ho => by rw [bn_t ho] at y; omega
        have em : mee T k = (T, 0) := by unfold mee; rw [if_pos z, if_neg (by rw [dc_f ho]; decide)]
        rw [em] at hQ
        exact hQ I8 h8 K8
  · have v9 : I8 (g + 1) (T (41 + 6 * k)) = nI (T (26 + T (41 + 6 * k))) := h8.2.2.2.2.2.2.2.2.1 _ p5
    rw [v9, nI_add, nI_minB (by omega) (by omega)] at e19
    refine S_X1_doBy_74 hE _ _ _ _ ?_
    rw [n0, nI_eq (by omega) (by omega)]
    refine ⟨fun z => ?_, fun z => by omega⟩
    have em : mee T k = (up T (26 + T (41 + 6 * k)) (min (T (26 + T (41 + 6 * k)) + 1) 9), 0) := by unfold mee; rw [if_neg z, if_pos q]
    rw [em] at hQ
    refine hQ I19 ?_ (K8.tr (by rw [e19]; exact ⟨Same.st (by simp), by rw [st_ne (by omega)], by rw [st_ne (by omega)]⟩))
    rw [e19]
    exact h8.rag hg hW p5
theorem RuR.ke {I2 : IH} (hE : isEv e g r) (h : RuR I r T) (hK : Same [e, g + 1, g + 4, g + 6, r + 5] I I2) : RuR I2 r T := by
  have hn := ev_nums hE
  exact h.same hK (fun i hi => by simp; omega)
theorem RuR.c {T2 : Nat → Nat} (h : RuR I r T) (h7 : T2 7 = T 7) (ha : ∀ j, 74 ≤ j → T2 j = T j) : RuR I r T2 := by
  obtain ⟨h1, en, h2, h3⟩ := h
  have sp : ∀ (ops : List Op3) (i z : Nat), spM T i z ops → spM T2 i z ops := by
    intro ops
    induction ops with
    | nil => intro i z h; exact h
    | cons q ops ih =>
      intro i z h
      unfold spM at h ⊢
      rw [ha _ (by omega), ha _ (by omega), ha _ (by omega)]
      split
      · rename_i hq; rw [if_pos hq] at h
        exact ⟨h.1, h.2.1, h.2.2.1, h.2.2.2.1, h.2.2.2.2.1, ih _ _ h.2.2.2.2.2⟩
      · rename_i hq; rw [if_neg hq] at h
        exact ⟨h.1, h.2.1, ih _ _ h.2.2⟩
  refine ⟨by rw [h7]; exact h1, en, h2, fun i hi => ?_⟩
  rw [h7] at hi
  obtain ⟨a1, a2, a3, a4, oC, oM, b1, b2, b3⟩ := h3 i hi
  refine ⟨by rw [ha _ (by omega)]; exact a1, by rw [ha _ (by omega)]; exact a2, a3, a4, oC, oM, b1, ?_, b3⟩
  have e1 : rfr T2 i = rfr T i := by
    unfold rfr; split
    · rfl
    · rw [ha _ (by omega)]
  have e2 : rto T2 i = rto T i := by unfold rto; rw [ha _ (by omega)]
  rw [e1, e2]
  exact sp _ _ _ b2
theorem Ag.ru {T2 : Nat → Nat} (h : Ag T T2) (hr : RuR I r T) : RuR I r T2 := hr.c (h 7 (by omega)) (fun j hj => h j (by omega))
theorem c_kgo {x : Int32} {a : Nat} (hE : isEv e g r) (h : EvR I e g T) (hr : RuR I r T) (hW : WfE T) (hWR : WfR T) (hx : x = nI a) (ha : a ≤ T 6) (hQ : ∀ I2, EvR I2 e g (goA T a).1 → Gc e g r I I2 (goA T a).2 → Q (some (.int (nI (goA T a).2))) I2) : Mt E (d + 4) mX1_go [.ref (eb E + e), .int x] I Q := by
  subst hx
  have h6 : T 6 ≤ 6 := hW.1
  obtain ⟨wf, wa⟩ := wf_fgo hW
  have f6 : fgo T 6 = T 6 := wa 6 (by omega)
  refine S_X1_go hE _ (c_bringNews hE h hW (fun I1 h1 K1 => ⟨rfl, ?_⟩))
  have r1 : RuR I1 r (fgo T) := wa.ru (hr.ke hE K1.1)
  have fin : ∀ (w : Nat) (T2 : Nat → Nat) (I2 : IH), EvR I2 e g T2 → WfE T2 → Ke e g r I I2 → fin_ T2 = (goA T a).1 → w = (goA T a).2 → J E (d + 4) mX1_go 19 [(0, .ref (eb E + e))] [.int (nI w)] I2 Q := by
    intro w T2 I2 h2 W2 K2 ef ew
    subst ew
    refine S_X1_go_19 hE _ (c_goOn hE h2 W2 _ rfl (fun I3 h3 G3 => ⟨rfl, ?_⟩))
    rw [ef] at h3
    exact hQ I3 h3 ⟨K2.1.tr G3.1, G3.2.1.trans K2.2.1, by rw [G3.2.2, K2.2.2]⟩
  rw [n0, nI_eq (by omega) (by omega)]
  refine ⟨fun q => ?_, fun q => fin 0 (fgo T) I1 h1 wf K1 (by unfold goA; rw [if_pos q]; rfl) (by unfold goA; rw [if_pos q]; rfl)⟩
  rw [pk_sub (by omega)]
  refine c_doBy hE h1 r1 wf (wa.R hWR) rfl (by omega) (fun I2 h2 K2 => ⟨_, rfl, ?_⟩)
  exact fin _ _ I2 h2 (wf_mee wf (by omega)).1 (K1.tr K2) (by unfold goA; rw [if_neg q]; rfl) (by unfold goA; rw [if_neg q]; rfl)
theorem c_goRest_loop (hE : isEv e g r) (h : EvR I e g T) (hr : RuR I r T) (hW : WfE T) (hWR : WfR T) (hQ : ∀ I2, EvR I2 e g (fin_ (met T (rst T)).1) → Gc e g r I I2 (met T (rst T)).2 → Q (some (.int (nI (met T (rst T)).2))) I2) : ∀ (n k : Nat), k + n = T 6 → rst T = rsF T k n → J E (d + 4) mX1_goRest 8 [(0, .ref (eb E + e)), (1, .int (nI 0)), (2, .int (nI k))] [] I Q := by
  intro n
  have h6 : T 6 ≤ 6 := hW.1
  have fin : ∀ (w : Nat) (T2 : Nat → Nat) (I2 : IH), EvR I2 e g T2 → WfE T2 → Ke e g r I I2 → T2 = (met T (rst T)).1 → w = (met T (rst T)).2 → J E (d + 4) mX1_goRest 39 [(0, .ref (eb E + e)), (1, .int (nI w))] [] I2 Q := by
    intro w T2 I2 h2 W2 K2 ef ew
    subst ew
    refine S_X1_goRest_39 hE _ (c_goOn hE h2 W2 _ rfl (fun I3 h3 G3 => ⟨rfl, ?_⟩))
    rw [ef] at h3
    exact hQ I3 h3 ⟨K2.1.tr G3.1, G3.2.1.trans K2.2.1, by rw [G3.2.2, K2.2.2]⟩
  induction n with
  | zero =>
    intro k hk hs
    refine S_X1_goRest_8 hE _ _ ?_
    rw [h.2.2.2.2.1, nI_leI (by omega) (by omega)]
    have hs : rst T = none := hs
    exact ⟨fun _ => fin 0 T I h hW (Ke.rf I) (by rw [hs]; rfl) (by rw [hs]; rfl), fun q => by omega⟩
  | succ n ih =>
    intro k hk hs
    refine S_X1_goRest_8 hE _ _ ?_
    rw [h.2.2.2.2.1, nI_leI (by omega) (by omega)]
    refine ⟨fun q => by omega, fun _ => c_kwouldShow hE h hW rfl (by omega) ⟨_, rfl, ?_⟩⟩
    by_cases hw : wsh T k
    · have es : rst T = some k := by rw [hs]; unfold rsF; rw [if_pos (dc_t hw)]
      rw [bn_t hw]
      refine ⟨fun q => absurd q (by decide +kernel), fun _ => c_doBy hE h hr hW hWR rfl (by omega) (fun I2 h2 K2 => ⟨_, rfl, ?_⟩)⟩
      exact fin _ _ I2 h2 (wf_mee hW (by omega)).1 K2 (by rw [es]; rfl) (by rw [es]; rfl)
    · rw [bn_f hw]
      refine ⟨fun _ => ?_, fun q => absurd rfl q⟩
      rw [nI_add]
      refine ih (k + 1) (by omega) ?_
      rw [hs]
      conv => lhs; unfold rsF
      rw [if_neg (by rw [dc_f hw]; decide)]
theorem c_kgoRest (hE : isEv e g r) (h : EvR I e g T) (hr : RuR I r T) (hW : WfE T) (hWR : WfR T) (hQ : ∀ I2, EvR I2 e g (goR T).1 → Gc e g r I I2 (goR T).2 → Q (some (.int (nI (goR T).2))) I2) : Mt E (d + 4) mX1_goRest [.ref (eb E + e)] I Q := by
  obtain ⟨wf, wa⟩ := wf_fgo hW
  refine S_X1_goRest hE (c_bringNews hE h hW (fun I1 h1 K1 => ⟨rfl, ?_⟩))
  exact c_goRest_loop hE h1 (wa.ru (hr.ke hE K1.1)) wf (wa.R hWR) (fun I2 h2 G2 => hQ I2 h2 ⟨K1.1.tr G2.1, G2.2.1.trans K1.2.1, by rw [G2.2.2, K1.2.2]; rfl⟩) (fgo T 6) 0 (by omega) rfl
end K6
