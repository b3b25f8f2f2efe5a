section P10
variable {E : EE} {d : Nat} {I : IH} {Q : QT} {T : Nat → Nat} {k e g r e1 g1 r1 : Nat} {x1 x2 x3 x4 : Int32}
abbrev trL : List Nat := [32, 57, 58, 59, 60, 61, 62, 63, 64, 65]
theorem Pair.think {Mx Mm : MD} {ax am : List Value} (h : InvT I T) (v : Int32) (hx : ∀ Q : QT, (∀ I1, Same trL I I1 → Q (some (.int v)) I1) → Mt E d Mx (.ref (eb E + 0) :: ax) I Q) (hm : ∀ I1, RM I1 T → Same trL I I1 → ∀ Q : QT, (∀ I2, RM I2 T → I2 116 2 = I1 116 2 → I2 116 5 = I1 116 5 → Same [116, 118, 119] I1 I2 → Q (some (.int v)) I2) → Mt E d Mm (.ref (eb E + 115) :: am) I1 Q) : Pair E d Mx Mm ax am I := by
  refine ⟨v, fun I1 => Same trL I I1, hx, fun I1 s1 Q hQ => hm I1 (h.1.same s1 (by simp)) s1 Q (fun I2 r2 e2 e5 s2 => hQ I2 ⟨T, h.scr s1 s2 (by decide) r2 ?_ ?_⟩)⟩
  · rw [e2, s1 116 (by simp)]
  · rw [e5, s1 116 (by simp)]
theorem if_bn {p : Prop} [Decidable p] : (if p then 1 else 0) = bn p := by
  by_cases h : p
  · rw [if_pos h, bn_t h]
  · rw [if_neg h, bn_f h]
theorem d_over (hE : isEv e g r) (h : EvR I e g T) (hW : WfE T) (hQ : Q (some (.int (nI (bn (T 1 ≤ T 0))))) I) : Mt E d mX1_isOver [.ref (eb E + e)] I Q := c_kisOver hE h hW (by rw [if_bn]; exact hQ)
theorem m_over (h : RM I T) (hW : WfE T) (hQ : Q (some (.int (nI (bn (T 1 ≤ T 0))))) I) : Mt E d mX12_isOver [.ref (eb E + 115)] I Q := by
  have h0 : T 0 ≤ 16 := hW.2.1
  have h1 : T 1 ≤ 16 := hW.2.2.1
  exact c_isOver h (by omega) (by omega) (by rw [if_bn]; exact hQ)
/-- an act there is -/
def isA (T : Nat → Nat) (x : Int32) : Prop := 0 ≤ x.toInt ∧ x.toInt ≤ T 6
theorem isA_n {x : Int32} (h : isA T x) : x = nI x.toInt.toNat ∧ x.toInt.toNat ≤ T 6 := ⟨x_n h.1, by have := h.1; have := h.2; omega⟩
theorem m_isAct {x : Int32} (h : RM I T) (h6 : T 6 ≤ 6) (hQ : Q (some (.int (nI (bn (isA T x))))) I) : Mt E (d + 1) mX12_isAct [.ref (eb E + 115), .int x] I Q := by
  refine c_isAct h h6 x ?_
  rw [if_bn]; exact hQ
theorem d_isAct {x : Int32} (hE : isEv e g r) (h : I e 7 = nI (T 6)) (h6 : T 6 ≤ 6) (hQ : Q (some (.int (nI (bn (isA T x))))) I) : Mt E d mX1_isAct [.ref (eb E + e), .int x] I Q := by
  refine S_X1_isAct hE _ ?_
  rw [h, x_lt0, x_lt (by omega)]
  refine ⟨fun q => ?_, fun q => ⟨fun z => ?_, fun z => ?_⟩⟩
  · rw [bn_f (fun w => by have := w.1; omega)] at hQ; exact hQ
  · rw [bn_f (fun w => by have := w.2; omega)] at hQ; exact hQ
  · rw [bn_t ⟨by omega, by omega⟩] at hQ; exact hQ
/-! when a pane is shown -/
noncomputable def whn (k : Nat) : Nat → (Nat → Nat) → Int32
  | 0, _ => (-3)
  | n + 1, T => if (goR T).1 (42 + 6 * k) = 1 then nI (T 0) else whn k n (goR T).1
theorem nI_m1 (n : Nat) : nI (n + 1) - nI 1 = nI n := by rw [← nI_add, Int32.add_sub_cancel]
theorem x_when_loop {en : Nat} (hen : en ≤ 16) : ∀ (n m : Nat) (T : Nat → Nat) (I : IH), m + n = en → T 0 = m → T 1 = en → I 33 2 = nI en → EvR I 57 58 T → RuR I 27 T → WfE T → WfR T → k < T 6 → (∀ I2, Same trL I I2 → Q (some (.int (whn k n T))) I2) → J E (d + 5) mX11_when 47 [(0, .ref (eb E + 0)), (1, .int (nI k)), (2, .int (nI m))] [] I Q := by
  intro n
  induction n with
  | zero =>
    intro m T I hm h0 h1 h2 h hr hW hR hk hQ
    refine S_X11_when_47 _ _ ?_
    rw [h2, nI_leI (by omega) (by omega)]
    exact ⟨fun _ => hQ I (Same.rf _ _), fun q => by omega⟩
  | succ n ih =>
    intro m T I hm h0 h1 h2 h hr hW hR hk hQ
    refine S_X11_when_47 _ _ ?_
    rw [h2, nI_leI (by omega) (by omega)]
    refine ⟨fun q => by omega, fun _ => c_kgoRest isEv_tr h hr hW hR (fun I2 e2 G2 => ⟨_, rfl, ?_⟩)⟩
    obtain ⟨g1, g2, g3⟩ := wf_goR hW (by omega)
    have e6 : (goR T).1 6 = T 6 := g2 6 (by omega)
    have pw := (g1.p (k := k) (by omega)).2.2.2.2.2.2
    rw [e2.2.2.2.2.2.1, bit_sw g1 (by omega), nI_eq (by omega) (by omega), nI_add]
    have s2 : Same trL I I2 := G2.1.mono (by simp)
    unfold whn at hQ
    refine ⟨fun q => ?_, fun q => ?_⟩
    · rw [if_neg q] at hQ
      exact ih (m + 1) (goR T).1 I2 (by omega) (by rw [g3, h0]) (by rw [g2 1 (by omega), h1]) (by rw [s2 33 (by simp)]; exact h2) e2 (g2.ru (hr.ke isEv_tr G2.1)) g1 (g2.R hR) (by omega) (fun I3 s3 => hQ I3 (s2.tr s3))
    · rw [if_pos q, h0] at hQ
      exact hQ I2 s2
theorem m_when_loop : ∀ (n : Nat) (T : Nat → Nat) (I : IH), T 0 + n = T 1 → RM I T → WfE T → WfR T → k < T 6 → (∀ I2 T2, RM I2 T2 → (∀ j, 74 ≤ j → T2 j = T j) → Same [116, 119] I I2 → J E (d + 7) mX12_when 91 [(0, .ref (eb E + 115)), (2, .int (whn k n T))] [] I2 Q) → J E (d + 7) mX12_when 32 [(0, .ref (eb E + 115)), (1, .int (nI k)), (2, .int (-3)), (3, .int (nI 1))] [] I Q := by
  intro n
  induction n with
  | zero =>
    intro T I hm h hW hR hk hQ
    refine S_X12_when_32 _ _ _ ⟨fun q => absurd q (by decide +kernel), fun _ => m_over h hW ⟨_, rfl, bk2 (fun _ => hQ I T h (fun _ _ => rfl) (Same.rf _ _)) (fun q => by omega)⟩⟩
  | succ n ih =>
    intro T I hm h hW hR hk hQ
    have h1 : T 1 ≤ 16 := hW.2.2.1
    obtain ⟨g1, g2, g3⟩ := wf_goR hW (by omega)
    have e6 : (goR T).1 6 = T 6 := g2 6 (by omega)
    obtain ⟨k6, pw⟩ := g1.p (k := k) (by omega)
    have pw := pw.2.2.2.2.2
    have hw := goR_le T
    refine S_X12_when_32 _ _ _ ⟨fun q => absurd q (by decide +kernel), fun _ => m_over h hW ⟨_, rfl, bk2 (fun q => by omega) (fun _ => c_goesR h hW hR rfl (fun I2 r2 G2 => ⟨_, rfl, c_get k 4 rfl rfl (by omega) ⟨_, rfl, ?_⟩⟩))⟩⟩
    rw [r2.sw k6, n0, nI_eq (by omega) (by omega)]
    unfold whn at hQ
    refine ⟨fun q => ?_, fun q => ?_⟩
    · rw [if_pos (show (goR T).1 (42 + 6 * k) = 1 by omega)] at hQ
      refine S_X12_when_64 _ _ _ ⟨fun z => absurd (by decide +kernel) z, fun _ => ⟨fun _ => ?_, fun z => absurd (nI_pos' (by omega)) z⟩⟩
      rw [r2 0 (by omega) (by omega) (by omega), g3, nI_m1]
      exact S_X12_when_32 _ _ _ ⟨fun _ => hQ I2 _ r2 (fun j hj => g2 j (by omega)) G2.1, fun z => absurd (by decide +kernel) z⟩
    · rw [if_neg (show ¬ (goR T).1 (42 + 6 * k) = 1 by omega)] at hQ
      refine S_X12_when_64 _ _ _ ⟨fun _ => ?_, fun z => absurd z (by decide +kernel)⟩
      exact ih (goR T).1 I2 (by rw [g3, g2 1 (by omega)]; omega) r2 g1 (g2.R hR) (by omega) (fun I3 T3 r3 a3 s3 => hQ I3 T3 r3 (fun j hj => (a3 j hj).trans (g2 j (by omega))) (G2.1.tr s3))
theorem p_when (hI : Inv I) : Pair E (d + 40) mX11_when mX12_when [.int x1] [.int x1] I := by
  obtain ⟨T, h⟩ := id hI
  obtain ⟨a1, a2, a3, a4, a5, a6⟩ := id h
  obtain ⟨v1, v2, v3, v4, v5, v6, v7, v8, v9, v10, v11, v12, v13, v14, v15⟩ := id a3.1
  have h6 : T 6 ≤ 6 := a2.1.1
  have h1 : T 1 ≤ 16 := a2.1.2.2.1
  have h01 : T 0 ≤ T 1 := a2.2.2.2.1
  by_cases ok : isP T x1
  · obtain ⟨k, hk, hk2⟩ := isP_n ok
    subst hk
    obtain ⟨k6, p1, p2, p3, p4, p5, p6⟩ := a2.1.p hk2
    by_cases sh : T (42 + 6 * k) = 1
    · refine h.1 |> fun _ => Pair.think h (-3) (fun Q hQ => S_X11_when _ (d_isPane v5 h6 ⟨_, rfl, bk2 (fun _ => ?_) (fun q => absurd ok q)⟩)) (fun I1 r1 s1 Q hQ => S_X12_when _ (m_isPane r1 h6 ⟨_, rfl, bk2 (fun _ => c_layDown (fun I3 l3 s3 => ⟨rfl, c_get k 4 rfl rfl (by omega) ⟨_, rfl, ?_⟩⟩)) (fun q => absurd ok q)⟩))
      · rw [v6, bit_sw a2.1 hk2, nI_eq (by omega) (by omega)]
        exact ⟨fun q => absurd sh q, fun _ => hQ I (Same.rf _ _)⟩
      · have r3 : RM I3 T := r1.same s3 (by simp)
        have L3 := laid_of r1 l3
        rw [r3.sw k6, n0, nI_eq (by omega) (by omega)]
        refine ⟨fun _ => S_X12_when_32 _ _ _ ⟨fun _ => S_X12_when_91 _ (c_layBack (fun I4 b1 b2 s4 => ⟨rfl, ?_⟩)), fun z => absurd (by decide +kernel) z⟩, fun q => by omega⟩
        obtain ⟨m1, m2, m5⟩ := laid_back L3 r3 (fun _ _ => rfl) b1 b2
        exact hQ I4 m1 m2 m5 ((s3.mono (by simp)).tr (s4.mono (by simp)))
    · refine Pair.think h (whn k (T 1 - T 0) T) (fun Q hQ => S_X11_when _ (d_isPane v5 h6 ⟨_, rfl, bk2 (fun _ => ?_) (fun q => absurd ok q)⟩)) (fun I1 r1 s1 Q hQ => S_X12_when _ (m_isPane r1 h6 ⟨_, rfl, bk2 (fun _ => c_layDown (fun I3 l3 s3 => ⟨rfl, c_get k 4 rfl rfl (by omega) ⟨_, rfl, ?_⟩⟩)) (fun q => absurd ok q)⟩))
      · rw [v6, bit_sw a2.1 hk2, nI_eq (by omega) (by omega)]
        refine ⟨fun _ => c_become isEv_tr isEv_ev (by omega) a3.1 h6 a2.2.2.1.1 (fun I2 h2 s2 e6 e9 => ⟨rfl, ?_⟩), fun q => absurd q sh⟩
        have e33 : I2 33 = I 33 := s2 33 (by simp)
        rw [show I2 33 3 = nI (T 0) by rw [e33]; exact v2]
        exact x_when_loop h1 (T 1 - T 0) (T 0) T I2 (by omega) rfl rfl (by rw [e33]; exact v1) h2 (a3.2.same s2 (fun i hi => by simp; omega)) a2.1 a2.2.1 hk2 (fun I3 s3 => hQ I3 ((s2.mono (by simp)).tr s3))
      · have r3 : RM I3 T := r1.same s3 (by simp)
        have L3 := laid_of r1 l3
        rw [r3.sw k6, n0, nI_eq (by omega) (by omega)]
        refine ⟨fun q => by omega, fun _ => m_when_loop (T 1 - T 0) T I3 (by omega) r3 a2.1 a2.2.1 hk2 (fun I4 T4 r4 c4 s4 => S_X12_when_91 _ (c_layBack (fun I5 b1 b2 s5 => ⟨rfl, ?_⟩)))⟩
        obtain ⟨m1, m2, m5⟩ := laid_back (L3.same s4 (by simp)) r4 c4 b1 b2
        exact hQ I5 m1 m2 m5 (((s3.mono (by simp)).tr (s4.mono (by simp))).tr (s5.mono (by simp)))
  · exact Pair.pure hI (-1) (fun Q hQ => S_X11_when _ (d_isPane v5 h6 ⟨_, rfl, bk2 (fun p => absurd p ok) (fun _ => hQ)⟩)) (fun Q hQ => S_X12_when _ (m_isPane a1 h6 ⟨_, rfl, bk2 (fun p => absurd p ok) (fun _ => hQ)⟩))
/-! the best scene, the best ward -/
def bsF (f : Nat → Nat) : Nat → Nat → Nat → Int → Nat
  | 0, _, b, _ => b
  | n + 1, v, b, mo => if (f v : Int) ≤ mo then bsF f n (v + 1) b mo else bsF f n (v + 1) v (f v)
theorem nI_lez {w : Nat} {mo : Int} (hw : w < 2147483648) (h1 : -2147483648 ≤ mo) (h2 : mo < 2147483648) : nI w ≤ zI mo ↔ (w : Int) ≤ mo := by
  rw [nI_z, zI_le (by omega) (by omega) h1 h2]
theorem x_best_loop {o2 j last : Nat} (hs2 : shape[o2]? = some (.inr (0, 6, []))) (ho : o2 ∈ trL ∧ o2 ≠ 57) (hl : last ≤ 255) (hW : WfE T) (hR : WfR T) (h8 : T 8 ≤ 6) (h01 : T 0 ≤ T 1) (hk : k < T 6) (hj : 10 ≤ j ∧ j < 74) (hm : ∀ v, v ≤ last → may T j v) (hput : ∀ (I : IH) (v : Nat), v ≤ last → EvR I 57 58 T → EvR (stI I o2 k (nI v)) 57 58 (up T j v)) : ∀ (n v b : Nat) (mo : Int) (I : IH), v + n = last + 1 → -1 ≤ mo → mo ≤ 208 → EvR I 33 34 T → RuR I 27 T → (∀ I2, Same trL I I2 → Q (some (.int (nI (bsF (fun u => (rsN 16 (up T j u)).2) n v b mo)))) I2) → J E (d + 6) mX11_bestFor 9 [(0, .ref (eb E + 0)), (1, .int (nI k)), (2, .ref (eb E + o2)), (3, .int (nI last)), (4, .int (nI b)), (5, .int (zI mo)), (6, .int (nI v))] [] I Q := by
  have h6 : T 6 ≤ 6 := hW.1
  intro n
  induction n with
  | zero =>
    intro v b mo I hv m1 m2 h hr hQ
    refine S_X11_bestFor_9 hs2 (by omega) _ _ _ _ _ ?_
    rw [nI_ltI (by omega) (by omega)]
    exact ⟨fun _ => hQ I (Same.rf _ _), fun q => by omega⟩
  | succ n ih =>
    intro v b mo I hv m1 m2 h hr hQ
    refine S_X11_bestFor_9 hs2 (by omega) _ _ _ _ _ ?_
    rw [nI_ltI (by omega) (by omega)]
    refine ⟨fun q => by omega, fun _ => c_become isEv_tr isEv_ev (by omega) h h6 h8 (fun I2 h2 s2 e6 e9 => ⟨rfl, k, rfl, by omega, fun I3 e3 => ?_⟩)⟩
    have s2 : Same trL I I2 := s2.mono (by simp)
    have s3 : Same trL I I3 := s2.tr (by rw [e3]; exact Same.st ho.1)
    have hv2 : v ≤ last := by omega
    have p7 : up T j v 7 = T 7 := up_ne (by omega)
    have pa : ∀ i, 74 ≤ i → up T j v i = T i := fun i hi => up_ne (by omega)
    refine c_goRestFor isEv_tr (by rw [e3]; exact hput I2 v hv2 h2) ((hr.same s3 (fun i hi => by simp; omega)).c p7 pa) (hW.put (hm v hv2)) (hR.c p7 pa) (by rw [up_ne (by omega), up_ne (by omega)]; exact h01) rfl (by omega) (fun I4 h4 s4 => ⟨_, rfl, ?_⟩)
    have s4 : Same trL I I4 := s3.tr (s4.mono (by simp))
    have hw := rsN_le 16 (up T j v)
    rw [nI_lez (by omega) (by omega) (by omega), nI_add]
    unfold bsF at hQ
    refine ⟨fun q => ?_, fun q => ?_⟩
    · rw [if_pos q] at hQ
      exact ih (v + 1) b mo I4 (by omega) m1 m2 (h.same s4 (by simp) (fun i hi => by simp; omega)) (hr.same s4 (fun i hi => by simp; omega)) (fun I5 s5 => hQ I5 (s4.tr s5))
    · rw [if_neg q] at hQ
      rw [nI_z (rsN 16 (up T j v)).2]
      exact ih (v + 1) v _ I4 (by omega) (by omega) (by omega) (h.same s4 (by simp) (fun i hi => by simp; omega)) (hr.same s4 (fun i hi => by simp; omega)) (fun I5 s5 => hQ I5 (s4.tr s5))
theorem m_best_loop {fld j last : Nat} {sc z : Int32} (hl : last ≤ 255) (hW : WfE T) (hR : WfR T) (h01 : T 0 ≤ T 1) (hk : k < T 6) (hj : j = 38 + 6 * k + fld) (hf : fld < 6) (hm : ∀ v, v ≤ last → may T j v) : ∀ (n v b : Nat) (mo : Int) (I : IH), v + n = last + 1 → -1 ≤ mo → mo ≤ 208 → RM I T → I 116 2 = sc → I 116 5 = z → Laid I T sc z → (∀ I2, RM I2 T → I2 116 2 = sc → I2 116 5 = z → Same [116, 118, 119] I I2 → Q (some (.int (nI (bsF (fun u => (rsN 16 (up T j u)).2) n v b mo)))) I2) → J E (d + 8) mX12_bestFor 23 [(0, .ref (eb E + 115)), (1, .int (nI k)), (2, .int (nI fld)), (3, .int (nI last)), (4, .int (nI b)), (5, .int (zI mo)), (6, .int (nI v))] [] I Q := by
  have h6 : T 6 ≤ 6 := hW.1
  intro n
  induction n with
  | zero =>
    intro v b mo I hv m1 m2 h e2 e5 L hQ
    refine S_X12_bestFor_23 _ _ _ _ _ _ ?_
    rw [nI_ltI (by omega) (by omega)]
    exact ⟨fun _ => hQ I h e2 e5 (Same.rf _ _), fun q => by omega⟩
  | succ n ih =>
    intro v b mo I hv m1 m2 h e2 e5 L hQ
    have p7 : up T j v 7 = T 7 := up_ne (by omega)
    have pa : ∀ i, 74 ≤ i → up T j v i = T i := fun i hi => up_ne (by omega)
    have hw := rsN_le 16 (up T j v)
    have hWu := hW.put (hm v (by omega))
    have h01u : up T j v 0 ≤ up T j v 1 := by rw [up_ne (by omega), up_ne (by omega)]; exact h01
    refine S_X12_bestFor_23 _ _ _ _ _ _ ?_
    rw [nI_ltI (by omega) (by omega)]
    refine ⟨fun q => by omega, fun _ => c_puts k fld rfl rfl (by omega) ⟨rfl, ?_⟩⟩
    rw [← hj]
    have s1 : Same [116, 118, 119] I (stI I 116 j (nI v)) := Same.st (by simp)
    have L1 : Laid (stI I 116 j (nI v)) T sc z := L.same (Same.st (L := [116]) (by simp)) (by simp)
    refine c_restOf h.st hWu (hR.c p7 pa) h01u rfl (by omega) (fun I2 r2 s2 => ⟨_, rfl, ?_⟩)
    obtain ⟨w1, w2, w3⟩ := rsN_wf 16 (up T j v) hWu h01u
    have L2 := L1.same s2 (by simp)
    have s2 : Same [116, 118, 119] I I2 := s1.tr (s2.mono (by simp))
    rw [nI_lez (by omega) (by omega) (by omega)]
    unfold bsF at hQ
    refine ⟨fun q => ?_, fun q => ?_⟩
    · rw [if_pos q] at hQ
      refine S_X12_bestFor_59 _ _ _ _ _ _ _ ⟨fun _ => S_X12_bestFor_75 _ _ _ _ _ _ (c_layBack (fun I3 b1 b2 s3 => ⟨rfl, ?_⟩)), fun z => ?_⟩
      · obtain ⟨m1, m2, m5⟩ := laid_back L2 r2 (fun i hi => (w2 i (by omega)).trans (pa i hi)) b1 b2
        rw [nI_add]
        exact ih (v + 1) b mo I3 (by omega) (by omega) (by omega) m1 m2 m5 (L2.same s3 (by simp)) (fun I4 r4 f2 f5 s4 => hQ I4 r4 f2 f5 ((s2.tr (s3.mono (by simp))).tr s4))
      · rw [nI_lez (by omega) (by omega) (by omega)] at z; exact absurd q z
    · rw [if_neg q] at hQ
      refine S_X12_bestFor_59 _ _ _ _ _ _ _ ⟨fun z => ?_, fun _ => S_X12_bestFor_75 _ _ _ _ _ _ (c_layBack (fun I3 b1 b2 s3 => ⟨rfl, ?_⟩))⟩
      · rw [nI_lez (by omega) (by omega) (by omega)] at z; exact absurd z q
      · obtain ⟨m1, m2, m5⟩ := laid_back L2 r2 (fun i hi => (w2 i (by omega)).trans (pa i hi)) b1 b2
        rw [nI_add, nI_z (rsN 16 (up T j v)).2]
        exact ih (v + 1) v _ I3 (by omega) (by omega) (by omega) m1 m2 m5 (L2.same s3 (by simp)) (fun I4 r4 f2 f5 s4 => hQ I4 r4 f2 f5 ((s2.tr (s3.mono (by simp))).tr s4))
theorem m_bestFor {fld j last : Nat} (h : RM I T) (hl : last ≤ 255) (hW : WfE T) (hR : WfR T) (h01 : T 0 ≤ T 1) (hk : k < T 6) (hj : j = 38 + 6 * k + fld) (hf : fld < 6) (hm : ∀ v, v ≤ last → may T j v) (hQ : ∀ I2, RM I2 T → I2 116 2 = I 116 2 → I2 116 5 = I 116 5 → Same [116, 118, 119] I I2 → Q (some (.int (nI (bsF (fun u => (rsN 16 (up T j u)).2) (last + 1) 0 0 (-1))))) I2) : Mt E (d + 8) mX12_bestFor [.ref (eb E + 115), .int (nI k), .int (nI fld), .int (nI last)] I Q := by
  have h6 : T 6 ≤ 6 := hW.1
  have ok : isP T (nI k) := by unfold isP; rw [nI_toInt (by omega)]; omega
  refine S_X12_bestFor _ _ _ (m_isPane h h6 ⟨_, rfl, bk2 (fun _ => c_layDown (fun I3 l3 s3 => ⟨rfl, ?_⟩)) (fun q => absurd ok q)⟩)
  have e116 : I3 116 = I 116 := s3 116 (by simp)
  exact m_best_loop hl hW hR h01 hk hj hf hm (last + 1) 0 0 (-1) I3 (by omega) (by omega) (by omega) (h.same s3 (by simp)) (by rw [e116]) (by rw [e116]) (laid_of h l3) (fun I4 r4 f2 f5 s4 => hQ I4 r4 f2 f5 ((s3.mono (by simp)).tr s4))
theorem p_sceneFor (hI : Inv I) : Pair E (d + 40) mX11_sceneFor mX12_sceneFor [.int x1] [.int x1] I := by
  obtain ⟨T, h⟩ := id hI
  obtain ⟨a1, a2, a3, a4, a5, a6⟩ := id h
  have v5 : I 33 7 = nI (T 6) := a3.1.2.2.2.2.1
  have h6 : T 6 ≤ 6 := a2.1.1
  by_cases ok : isP T x1
  · obtain ⟨k, hk, hk2⟩ := isP_n ok
    subst hk
    have hm : ∀ v, v ≤ 255 → may T (39 + 6 * k) v := fun v hv => by
      unfold may
      right; right; right; right; right; right; left
      exact ⟨k, hk2, by omega⟩
    refine Pair.think h (nI (bsF (fun u => (rsN 16 (up T (39 + 6 * k) u)).2) (255 + 1) 0 0 (-1))) (fun Q hQ => S_X11_sceneFor _ (d_isPane v5 h6 ⟨_, rfl, bk (fun _ => S_X11_bestFor _ sh62 (by omega) _ ?_) (fun q => absurd ok q)⟩)) (fun I1 r1 s1 Q hQ => S_X12_sceneFor _ (m_bestFor r1 (by omega) a2.1 a2.2.1 a2.2.2.2.1 hk2 (by omega) (by omega) hm (fun I2 r2 e2 e5 s2 => ⟨_, rfl, hQ I2 r2 e2 e5 s2⟩)))
    rw [zI_neg1]
    exact x_best_loop sh62 (by decide) (by omega) a2.1 a2.2.1 a2.2.2.1.1 a2.2.2.2.1 hk2 (by omega) hm (fun I v hv hE => EvR.sc hE (ev_gn isEv_tr) a2.1 hk2) (255 + 1) 0 0 (-1) I (by omega) (by omega) (by omega) a3.1 a3.2 (fun I2 s2 => ⟨_, rfl, hQ I2 s2⟩)
  · refine Pair.pure hI (-1) (fun Q hQ => S_X11_sceneFor _ (d_isPane v5 h6 ⟨_, rfl, bk (fun p => absurd p ok) (fun _ => hQ)⟩)) (fun Q hQ => S_X12_sceneFor _ (S_X12_bestFor _ _ _ (m_isPane a1 h6 ⟨_, rfl, bk2 (fun p => absurd p ok) (fun _ => ⟨_, rfl, hQ⟩)⟩)))
theorem p_wardFor (hI : Inv I) : Pair E (d + 40) mX11_wardFor mX12_wardFor [.int x1] [.int x1] I := by
  obtain ⟨T, h⟩ := id hI
  obtain ⟨a1, a2, a3, a4, a5, a6⟩ := id h
  have v5 : I 33 7 = nI (T 6) := a3.1.2.2.2.2.1
  have h6 : T 6 ≤ 6 := a2.1.1
  by_cases ok : isP T x1
  · obtain ⟨k, hk, hk2⟩ := isP_n ok
    subst hk
    have hm : ∀ v, v ≤ 5 → may T (41 + 6 * k) v := fun v hv => by
      unfold may
      right; right; right; right; right; right; left
      exact ⟨k, hk2, by omega⟩
    refine Pair.think h (nI (bsF (fun u => (rsN 16 (up T (41 + 6 * k) u)).2) (5 + 1) 0 0 (-1))) (fun Q hQ => S_X11_wardFor _ (d_isPane v5 h6 ⟨_, rfl, bk (fun _ => S_X11_bestFor _ sh63 (by omega) _ ?_) (fun q => absurd ok q)⟩)) (fun I1 r1 s1 Q hQ => S_X12_wardFor _ (m_bestFor r1 (by omega) a2.1 a2.2.1 a2.2.2.2.1 hk2 (by omega) (by omega) hm (fun I2 r2 e2 e5 s2 => ⟨_, rfl, hQ I2 r2 e2 e5 s2⟩)))
    rw [zI_neg1]
    exact x_best_loop sh63 (by decide) (by omega) a2.1 a2.2.1 a2.2.2.1.1 a2.2.2.2.1 hk2 (by omega) hm (fun I v hv hE => EvR.wr hE (ev_gn isEv_tr) a2.1 hk2) (5 + 1) 0 0 (-1) I (by omega) (by omega) (by omega) a3.1 a3.2 (fun I2 s2 => ⟨_, rfl, hQ I2 s2⟩)
  · refine Pair.pure hI (-1) (fun Q hQ => S_X11_wardFor _ (d_isPane v5 h6 ⟨_, rfl, bk (fun p => absurd p ok) (fun _ => hQ)⟩)) (fun Q hQ => S_X12_wardFor _ (S_X12_bestFor _ _ _ (m_isPane a1 h6 ⟨_, rfl, bk2 (fun p => absurd p ok) (fun _ => ⟨_, rfl, hQ⟩)⟩)))
end P10
