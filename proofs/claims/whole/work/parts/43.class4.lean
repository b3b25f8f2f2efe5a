section K4
variable {E : EE} {d : Nat} {I : IH} {Q : QT} {T : Nat → Nat} {k e g r : Nat}
theorem nI_minB {a b : Nat} (ha : a < 2147483648) (hb : b < 2147483648) : (if nI b < nI a then nI b else nI a) = nI (min a b) := by
  split
  · rename_i w; rw [nI_ltI (by omega) (by omega)] at w; congr 1; omega
  · rename_i w; rw [nI_ltI (by omega) (by omega)] at w; congr 1; omega
theorem nI_maxB {a b : Nat} (ha : a < 2147483648) (hb : b < 2147483648) : (if nI a < nI b then nI b else nI a) = nI (max a b) := by
  split
  · rename_i w; rw [nI_ltI (by omega) (by omega)] at w; congr 1; omega
  · rename_i w; rw [nI_ltI (by omega) (by omega)] at w; congr 1; omega
/-- the rules of the class at r are those of the row -/
def RuR (I : IH) (r : Nat) (T : Nat → Nat) : Prop := I r 0 = nI (T 7) ∧ ∃ en : Nat → Nat, en 0 = 0 ∧ ∀ i, i < T 7 → I (r + 1) i = nI (T (98 + 3 * i)) ∧ I (r + 2) i = nI (T (99 + 3 * i)) ∧ I (r + 3) i = nI (en (i + 1)) ∧ en (i + 1) ≤ 200 ∧ ∃ oC oM : List Op3, spC (I (r + 4)) (en i) (en (i + 1)) oC ∧ spM T (rfr T i) (rto T i) oM ∧ okO oC ∧ okO oM ∧ (oC = [] ↔ oM = []) ∧ ∀ f : Nat → Nat, (∀ w, f w < 10000) → prun f oC [] = prun f oM []
theorem RuR.same {I2 : IH} {L : List Nat} (h : RuR I r T) (hs : Same L I I2) (h0 : ∀ i, i < 5 → r + i ∉ L) : RuR I2 r T := by
  have q : ∀ i, i < 5 → I2 (r + i) = I (r + i) := fun i hi => hs _ (h0 i hi)
  have q0 : I2 r = I r := q 0 (by omega)
  unfold RuR
  rw [q0, q 1 (by omega), q 2 (by omega), q 3 (by omega), q 4 (by omega)]
  exact h
theorem c_tells_loop (hR : isRu r) (h : RuR I r T) (hW : WfE T) (hWR : WfR T) (hk : k < T 6) (hfa : ∀ w, w < 5 → I (r + 5) w = nI (kn T k w)) (en : Nat → Nat) (hen : ∀ i, i < T 7 → I (r + 1) i = nI (T (98 + 3 * i)) ∧ I (r + 2) i = nI (T (99 + 3 * i)) ∧ I (r + 3) i = nI (en (i + 1)) ∧ en (i + 1) ≤ 200 ∧ ∃ oC oM : List Op3, spC (I (r + 4)) (en i) (en (i + 1)) oC ∧ spM T (rfr T i) (rto T i) oM ∧ okO oC ∧ okO oM ∧ (oC = [] ↔ oM = []) ∧ ∀ f : Nat → Nat, (∀ w, f w < 10000) → prun f oC [] = prun f oM []) : ∀ (n i : Nat), i + n = T 7 → Q (some (.int (nI (wilF T k i n)))) I → J E (d + 1) mX6_tells 4 [(0, .ref (eb E + r)), (1, .int (nI (T (38 + 6 * k)))), (2, .int (nI (en i))), (3, .int (nI i))] [] I Q := by
  intro n
  have h8 : T 7 ≤ 8 := hWR.1
  obtain ⟨k6, p1, p2, p3, p4, p5, p6⟩ := hW.p hk
  induction n with
  | zero =>
    intro i hn hQ
    refine S_X6_tells_4 hR _ _ _ ?_
    rw [h.1, nI_leI (by omega) (by omega)]
    exact ⟨fun _ => hQ, fun q => by omega⟩
  | succ n ih =>
    intro i hn hQ
    obtain ⟨a1, a2, a3, a4, oC, oM, b1, b2, b3, b4, b5, b6⟩ := hen i (by omega)
    obtain ⟨q1, q2, q3⟩ := hWR.2 i (by omega)
    refine S_X6_tells_4 hR _ _ _ ?_
    rw [h.1, nI_leI (by omega) (by omega)]
    refine ⟨fun q => by omega, fun _ => ⟨i, rfl, by omega, ?_⟩⟩
    rw [a1]
    refine c_isOrUnder _ _ rfl rfl (by omega) (by omega) ⟨_, rfl, ?_⟩
    by_cases hu : under (T (38 + 6 * k)) (T (98 + 3 * i))
    · rw [bn_t hu]
      refine ⟨fun q => absurd q (by decide +kernel), fun _ => ⟨i, rfl, by omega, ?_⟩⟩
      rw [a3]
      refine c_holds hR (kn T k) (kn_lt hW hk) hfa _ _ oC rfl rfl a4 b1 b3 ⟨_, rfl, ?_⟩
      have hh : hop (kn T k) oC ↔ hld T i k := by
        rw [hld_hop b2 b4]
        unfold hop
        rw [b5, b6 _ (kn_lt hW hk)]
      rw [bn_c hh]
      by_cases hl : hld T i k
      · rw [bn_t hl]
        refine ⟨fun q => absurd q (by decide +kernel), fun _ => ⟨i, rfl, by omega, ?_⟩⟩
        rw [a2]
        have e : wilF T k i (n + 1) = T (99 + 3 * i) := by
          unfold wilF
          rw [if_pos (dc_t ⟨hu, hl⟩)]
        rw [e] at hQ; exact hQ
      · rw [bn_f hl]
        refine ⟨fun _ => ⟨i, rfl, by omega, ?_⟩, fun q => absurd rfl q⟩
        rw [a3, nI_add]
        refine ih (i + 1) (by omega) ?_
        have e : wilF T k i (n + 1) = wilF T k (i + 1) n := by
          conv => lhs; unfold wilF
          rw [if_neg (by rw [dc_f (fun z => hl z.2)]; decide)]
        rw [e] at hQ; exact hQ
    · rw [bn_f hu]
      refine ⟨fun _ => ⟨i, rfl, by omega, ?_⟩, fun q => absurd rfl q⟩
      rw [a3, nI_add]
      refine ih (i + 1) (by omega) ?_
      have e : wilF T k i (n + 1) = wilF T k (i + 1) n := by
        conv => lhs; unfold wilF
        rw [if_neg (by rw [dc_f (fun z => hu z.1)]; decide)]
      rw [e] at hQ; exact hQ
theorem c_will {x y : Int32} (hE : isEv e g r) (h : EvR I e g T) (hr : RuR I r T) (hW : WfE T) (hWR : WfR T) (hx : x = nI k) (hy : y = nI (lt8 T k)) (hk : k < T 6) (hQ : ∀ I2, Same [r + 5] I I2 → Q (some (.int (nI (wil T k)))) I2) : Mt E (d + 2) mX1_will [.ref (eb E + e), .int x, .int y] I Q := by
  subst hx; subst hy
  have hn := ev_nums hE
  obtain ⟨k6, p1, p2, p3, p4, p5, p6⟩ := hW.p hk
  have h8 : T 7 ≤ 8 := hWR.1
  obtain ⟨v1, v2, v3, v4, v5, v6, v7, v8, v9, v10, v11, v12, v13, v14, v15⟩ := h
  refine S_X1_will hE _ _ ?_
  rw [hr.1, n0, nI_eq (by omega) (by omega)]
  refine ⟨fun q => fun I1 e1 I3 e3 => ⟨k, rfl, k6, fun I8 e8 I10 e10 I12 e12 => ⟨k, rfl, k6, ?_⟩⟩, fun q => ?_⟩
  · have s1 : Same [r + 5] I I1 := by rw [e1]; exact Same.st (by simp)
    have s3 : Same [r + 5] I I3 := s1.tr (by rw [e3]; exact Same.st (by simp))
    have s8 : Same [r + 5] I I8 := s3.tr (by rw [e8]; exact Same.st (by simp))
    have s10 : Same [r + 5] I I10 := s8.tr (by rw [e10]; exact Same.st (by simp))
    have s12 : Same [r + 5] I I12 := s10.tr (by rw [e12]; exact Same.st (by simp))
    have ee : ∀ I2, Same [r + 5] I I2 → I2 e = I e := fun I2 hs => hs e (by simp; omega)
    have eg : ∀ I2, Same [r + 5] I I2 → ∀ i, i < 8 → I2 (g + i) = I (g + i) := fun I2 hs i hi => hs (g + i) (by simp; omega)
    rw [eg I12 s12 3 (by omega), v11 k hk]
    have hr2 : RuR I12 r T := hr.same s12 (fun i hi => by simp; omega)
    have hfa : ∀ w, w < 5 → I12 (r + 5) w = nI (kn T k w) := by
      intro w hw
      rw [eg I3 s3 6 (by omega), v14 k hk] at e8
      rw [ee I8 s8, v3] at e10
      rw [v2] at e1
      rcases (show w = 0 ∨ w = 1 ∨ w = 2 ∨ w = 3 ∨ w = 4 by omega) with rfl | rfl | rfl | rfl | rfl
      · rw [e12, st_nj (by omega), e10, st_nj (by omega), e8, st_nj (by omega), e3, st_nj (by omega), e1, st_at]; rfl
      · rw [e12, st_nj (by omega), e10, st_nj (by omega), e8, st_nj (by omega), e3, st_at]; rfl
      · rw [e12, st_nj (by omega), e10, st_nj (by omega), e8, st_at]; rfl
      · rw [e12, st_nj (by omega), e10, st_at]; rfl
      · rw [e12, st_at]; rfl
    obtain ⟨c0, en, en0, hen⟩ := id hr2
    have := c_tells_loop (E := E) (d := d) (Q := fun rv I17 => ∃ v18 : Int32, rv = some (.int v18) ∧ Q (some (.int v18)) I17) (ev_ru hE) hr2 hW hWR hk hfa en hen (T 7) 0 (by omega) ⟨_, rfl, hQ I12 s12⟩
    rw [en0] at this
    exact S_X6_tells (ev_ru hE) _ this
  · have := hQ I (Same.rf _ _)
    have e : wil T k = 0 := by unfold wil; rw [q]; rfl
    rw [e] at this; exact this
theorem c_lights {x : Int32} (hE : isEv e g r) (h : EvR I e g T) (hW : WfE T) (hx : x = nI k) (hk : k < T 6) (hQ : Q (some (.int (nI (lt8 T k)))) I) : Mt E (d + 1) mX1_lights [.ref (eb E + e), .int x] I Q := by
  subst hx
  obtain ⟨k6, p1, p2, p3, p4, p5, p6⟩ := hW.p hk
  obtain ⟨w1, w2⟩ := hW.w hk
  have h3 : T 3 ≤ 9 := hW.2.2.2.1
  have hp := pc8_le (T (39 + 6 * k))
  obtain ⟨v1, v2, v3, v4, v5, v6, v7, v8, v9, v10, v11, v12, v13, v14, v15⟩ := h
  refine S_X1_lights hE _ ⟨k, rfl, k6, ?_⟩
  rw [v12 k hk]
  refine c_bitCount _ rfl p3 ⟨_, rfl, k, rfl, k6, T (41 + 6 * k), v13 k hk, p5, ?_⟩
  rw [v9 _ p5, v3, pk_div (by omega) (by omega) (by omega)]
  have e : nI (pc8 (T (39 + 6 * k))) - nI (T (26 + T (41 + 6 * k))) - nI (T 3 / 3) = zI ((pc8 (T (39 + 6 * k)) : Int) - T (26 + T (41 + 6 * k)) - ((T 3 / 3 : Nat) : Int)) := by
    simp only [nI_z, zI_sub]
  rw [e, nI_z 0]
  have e2 : (if zI ((pc8 (T (39 + 6 * k)) : Int) - T (26 + T (41 + 6 * k)) - ((T 3 / 3 : Nat) : Int)) < zI ((0 : Nat) : Int) then zI ((0 : Nat) : Int) else zI ((pc8 (T (39 + 6 * k)) : Int) - T (26 + T (41 + 6 * k)) - ((T 3 / 3 : Nat) : Int))) = nI (lt8 T k) := by
    rw [nI_z]
    split
    · rename_i q
      rw [zI_lt (by omega) (by omega) (by omega) (by omega)] at q
      congr 1; unfold lt8; omega
    · rename_i q
      rw [zI_lt (by omega) (by omega) (by omega) (by omega)] at q
      congr 1; unfold lt8; omega
  rw [e2]; exact hQ
theorem c_thing {x : Int32} (hE : isEv e g r) (h : EvR I e g T) (hW : WfE T) (hx : x = nI k) (hk : k < T 6) (hQ : Q (some (.ref (eb E + (21 + T (38 + 6 * k))))) I) : Mt E d mX1_thing [.ref (eb E + e), .int x] I Q := by
  subst hx
  obtain ⟨k6, p1, p2, p3, p4, p5, p6⟩ := hW.p hk
  obtain ⟨v1, v2, v3, v4, v5, v6, v7, v8, v9, v10, v11, v12, v13, v14, v15⟩ := h
  exact S_X1_thing hE _ ⟨k, rfl, k6, T (38 + 6 * k), v11 k hk, by omega, hQ⟩
theorem c_kisOpen {x y : Int32} (hE : isEv e g r) (h : EvR I e g T) (hW : WfE T) (hx : x = nI k) (hy : y = nI (ask T k)) (hk : k < T 6) (hQ : Q (some (.int (nI (bn (opn T k))))) I) : Mt E d mX1_isOpen [.ref (eb E + e), .int x, .int y] I Q := by
  subst hx; subst hy
  obtain ⟨k6, p1, p2, p3, p4, p5, p6⟩ := hW.p hk
  obtain ⟨w1, w2⟩ := hW.w hk
  have h4 : T 4 ≤ 999 := hW.2.2.2.2.1
  have ha := ask_le (T := T) (k := k) (by omega)
  obtain ⟨v1, v2, v3, v4, v5, v6, v7, v8, v9, v10, v11, v12, v13, v14, v15⟩ := h
  refine S_X1_isOpen hE _ _ ⟨k, rfl, k6, k, rfl, k6, T (41 + 6 * k), v13 k hk, p5, ?_⟩
  rw [v10 _ p5, v14 k hk, v4, nI_leI (by omega) (by omega), nI_ltI (by omega) (by omega)]
  refine ⟨fun q => ?_, fun q => ⟨fun z => ?_, fun z => ?_⟩⟩
  · rw [bn_f (fun z => by have := z.1; omega)] at hQ; exact hQ
  · rw [bn_f (fun y => by have := y.2; omega)] at hQ; exact hQ
  · rw [bn_t ⟨by omega, by omega⟩] at hQ; exact hQ
theorem c_kwouldShow {x : Int32} (hE : isEv e g r) (h : EvR I e g T) (hW : WfE T) (hx : x = nI k) (hk : k < T 6) (hQ : Q (some (.int (nI (bn (wsh T k))))) I) : Mt E (d + 3) mX1_wouldShow [.ref (eb E + e), .int x] I Q := by
  subst hx
  obtain ⟨k6, p1, p2, p3, p4, p5, p6⟩ := hW.p hk
  have hl := lt8_le T k
  have v6 : I e 8 = nI (swn T) := h.2.2.2.2.2.1
  refine S_X1_wouldShow hE _ ?_
  rw [v6, bit_sw hW hk, nI_eq (by omega) (by omega)]
  refine ⟨fun q => c_lights hE h hW rfl hk ⟨_, rfl, ?_⟩, fun q => ?_⟩
  · rw [nI_ltI (by omega) (by omega)]
    refine ⟨fun z => ?_, fun z => c_thing hE h hW rfl hk ⟨T (38 + 6 * k), by omega, rfl, c_price (lt8 T k) k ⟨p1, p2⟩ rfl rfl hl ⟨_, rfl, c_kisOpen hE h hW rfl rfl hk ⟨_, rfl, ?_⟩⟩⟩⟩
    · rw [bn_f (fun y => by have := y.2.1; omega)] at hQ; exact hQ
    · by_cases ho : opn T k
      · rw [bn_t ho]
        refine ⟨fun y => absurd y (by decide +kernel), fun y => ?_⟩
        rw [bn_t ⟨by omega, by omega, ho⟩] at hQ; exact hQ
      · rw [bn_f ho]
        refine ⟨fun y => ?_, fun y => absurd rfl y⟩
        rw [bn_f (fun y => ho y.2.2)] at hQ; exact hQ
  · rw [bn_f (fun z => by have := z.1; omega)] at hQ; exact hQ
theorem c_kisOver (hE : isEv e g r) (h : EvR I e g T) (hW : WfE T) (hQ : Q (some (.int (nI (if T 1 ≤ T 0 then 1 else 0)))) I) : Mt E d mX1_isOver [.ref (eb E + e)] I Q := by
  have h0 : T 0 ≤ 16 := hW.2.1
  have h1 : T 1 ≤ 16 := hW.2.2.1
  refine S_X1_isOver hE ?_
  rw [h.1, h.2.1, nI_ltI (by omega) (by omega)]
  refine ⟨fun q => ?_, fun q => ?_⟩
  · rw [if_neg (by omega)] at hQ; exact hQ
  · rw [if_pos (by omega)] at hQ; exact hQ
/-- the news that there are now -/
def nnw (T : Nat → Nat) : Nat := if T 0 < 16 then T (10 + T 0) else 0
theorem c_newsNow (hE : isEv e g r) (h : EvR I e g T) (hW : WfE T) (hQ : Q (some (.int (nI (nnw T)))) I) : Mt E d mX1_newsNow [.ref (eb E + e)] I Q := by
  have h0 : T 0 ≤ 16 := hW.2.1
  refine S_X1_newsNow hE ?_
  rw [h.2.1, nI_leI (by omega) (by omega)]
  refine ⟨fun q => ?_, fun q => ⟨T 0, rfl, by omega, ?_⟩⟩
  · have e : nnw T = 0 := by unfold nnw; rw [if_neg (by omega)]
    rw [e] at hQ; exact hQ
  · rw [h.2.2.2.2.2.2.2.1 _ (by omega)]
    have e : nnw T = T (10 + T 0) := by unfold nnw; rw [if_pos (by omega)]
    rw [e] at hQ; exact hQ
theorem fgo_nnw (hW : WfE T) : ∀ i, fgo T i = up T 3 (fogT (T 3) (nnw T)) i := by
  intro i
  unfold fgo nnw
  split
  · rfl
  · have h3 : T 3 ≤ 9 := hW.2.2.2.1
    unfold up
    split
    · rename_i hi; subst hi
      simp [fogT]; omega
    · rfl
theorem EvR.fog {v : Nat} (h : EvR I e g T) (hn : ∀ i, i < 8 → g + i ≠ e) : EvR (stI I e 4 (nI v)) e g (up T 3 v) := by
  obtain ⟨v1, v2, v3, v4, v5, v6, v7, v8, v9, v10, v11, v12, v13, v14, v15⟩ := h
  have hg : ∀ i, i < 8 → stI I e 4 (nI v) (g + i) = I (g + i) := fun i hi => st_ne (hn i hi)
  have hg0 : stI I e 4 (nI v) g = I g := hg 0 (by omega)
  have s : swn (up T 3 v) = swn T := by
    unfold swn
    rw [up_ne (by omega)]
    exact swF_c _ (fun k hk => up_ne (by omega))
  unfold EvR
  rw [s, hg0, hg 1 (by omega), hg 2 (by omega), hg 3 (by omega), hg 4 (by omega), hg 5 (by omega), hg 6 (by omega), hg 7 (by omega), st_at, st_nj (by omega), st_nj (by omega), st_nj (by omega), st_nj (by omega), st_nj (by omega), st_nj (by omega), up_eq, up_ne (by omega), up_ne (by omega), up_ne (by omega), up_ne (by omega), up_ne (by omega)]
  refine ⟨v1, v2, rfl, v4, v5, v6, v7, ?_, ?_, ?_, ?_, ?_, ?_, ?_, ?_⟩
  · intro j hj; rw [up_ne (by omega)]; exact v8 j hj
  · intro j hj; rw [up_ne (by omega)]; exact v9 j hj
  · intro j hj; rw [up_ne (by omega)]; exact v10 j hj
  · intro j hj; rw [up_ne (by omega)]; exact v11 j hj
  · intro j hj; rw [up_ne (by omega)]; exact v12 j hj
  · intro j hj; rw [up_ne (by omega)]; exact v13 j hj
  · intro j hj; rw [up_ne (by omega)]; exact v14 j hj
  · intro j hj; rw [up_ne (by omega)]; exact v15 j hj
/-- what the class keeps of an evening while a minute goes by: z, the score, all but five cells -/
def Ke (e g r : Nat) (I I2 : IH) : Prop := Same [e, g + 1, g + 4, g + 6, r + 5] I I2 ∧ I2 e 9 = I e 9 ∧ I2 e 6 = I e 6
theorem Ke.rf (I : IH) : Ke e g r I I := ⟨Same.rf _ _, rfl, rfl⟩
theorem Ke.tr {I2 I3 : IH} (h : Ke e g r I I2) (h2 : Ke e g r I2 I3) : Ke e g r I I3 := ⟨h.1.tr h2.1, h2.2.1.trans h.2.1, h2.2.2.trans h.2.2⟩
theorem c_bringNews (hE : isEv e g r) (h : EvR I e g T) (hW : WfE T) (hQ : ∀ I2, EvR I2 e g (fgo T) → Ke e g r I I2 → Q none I2) : Mt E (d + 1) mX1_bringNews [.ref (eb E + e)] I Q := by
  have hn := ev_nums hE
  have h0 : T 0 ≤ 16 := hW.2.1
  have h3 : T 3 ≤ 9 := hW.2.2.2.1
  have hw : nnw T ≤ 15 := by
    unfold nnw; split
    · exact hW.2.2.2.2.2.1 _ (by omega)
    · omega
  have ef : fgo T = up T 3 (fogT (T 3) (nnw T)) := funext (fgo_nnw hW)
  have fin : ∀ (v : Nat) (I2 : IH), v = fogT (T 3) (nnw T) → I2 = stI I e 4 (nI v) → Q none I2 := by
    intro v I2 hv hI
    refine hQ I2 ?_ ?_
    · rw [ef, hI, ← hv]; exact h.fog (fun i hi => by omega)
    · rw [hI]; exact ⟨Same.st (by simp), by rw [st_nj (by omega)], by rw [st_nj (by omega)]⟩
  refine S_X1_bringNews hE (c_newsNow hE h hW ⟨_, rfl, c_newsNow hE h hW ⟨_, rfl, ?_⟩⟩)
  rw [rem_eq (by omega) (by omega) (by omega), h.2.2.1, pk_div (by omega) (by omega) (by omega)]
  have ke : ∀ c : Nat, c < 100 → (nI (nnw T % 4) = nI c ↔ nnw T % 4 = c) := fun c hc => nI_eq (by omega) (by omega)
  rw [ke 0 (by omega), ke 1 (by omega), ke 2 (by omega), nI_add, nI_leI (by omega) (by omega)]
  have ltn : ∀ a b : Nat, a < 100 → b < 100 → (nI a < nI b ↔ a < b) := fun a b ha hb => nI_ltI (by omega) (by omega)
  have sub : nI (T 3) - nI (nnw T / 4) = zI ((T 3 : Int) - ((nnw T / 4 : Nat) : Int)) := by rw [nI_z, nI_z, zI_sub]
  refine ⟨fun q I5 e5 => ?_, fun q I7 e7 => ?_, fun q => ⟨fun z I9 e9 => ?_, fun z I11 e11 => ?_⟩, fun q => ?_⟩
  · rw [nI_minB (by omega) (by omega)] at e5
    exact fin (min (T 3 + nnw T / 4) 9) I5 (by simp [fogT, q]) e5
  · rw [sub, nI_z 0] at e7
    refine fin (T 3 - nnw T / 4) I7 (by simp [fogT, q]) ?_
    rw [e7]; congr 1
    split
    · rename_i w; rw [zI_lt (by omega) (by omega) (by omega) (by omega)] at w
      rw [nI_z]; congr 1; omega
    · rename_i w; rw [zI_lt (by omega) (by omega) (by omega) (by omega)] at w
      rw [nI_z]; congr 1; omega
  · rw [sub, nI_z 5] at e9
    refine fin (max (T 3 - nnw T / 4) 5) I9 (by simp [fogT, q]; omega) ?_
    rw [e9]; congr 1
    split
    · rename_i w; rw [zI_lt (by omega) (by omega) (by omega) (by omega)] at w
      rw [nI_z]; congr 1; omega
    · rename_i w; rw [zI_lt (by omega) (by omega) (by omega) (by omega)] at w
      rw [nI_z]; congr 1; omega
  · rw [nI_minB (by omega) (by omega)] at e11
    exact fin (min (T 3 + nnw T / 4) 5) I11 (by simp [fogT, q]; omega) e11
  · obtain ⟨q0, q1, q2⟩ := q
    have e1 : up T 3 (fogT (T 3) (nnw T)) = T := by
      funext i
      unfold up
      split
      · rename_i hi; subst hi; simp [fogT, q0, q1, q2]
      · rfl
    rw [e1] at ef
    exact hQ I (by rw [ef]; exact h) (Ke.rf I)
end K4
