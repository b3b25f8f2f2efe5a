section P11
variable {E : EE} {d : Nat} {I : IH} {Q : QT} {T : Nat → Nat} {k e g r e1 g1 r1 : Nat} {x1 x2 x3 x4 : Int32}
/-! minutes by lot, thought -/
noncomputable def ltN : Nat → (Nat → Nat) → Int32 → Nat × Int32
  | 0, _, z => (0, z)
  | n + 1, T, z => ((goA T (lotA z (T 6))).2 + (ltN n (goA T (lotA z (T 6))).1 (zNx z)).1, (ltN n (goA T (lotA z (T 6))).1 (zNx z)).2)
theorem ltN_le : ∀ n T z, (ltN n T z).1 ≤ 13 * n := by
  intro n
  induction n with
  | zero => intro T z; exact Nat.le_refl _
  | succ n ih =>
    intro T z
    have h1 := goA_le T (lotA z (T 6))
    have h2 := ih (goA T (lotA z (T 6))).1 (zNx z)
    unfold ltN
    show _ + _ ≤ _
    omega
theorem ltN_1 (n : Nat) (T : Nat → Nat) (z : Int32) : (ltN (n + 1) T z).1 = (goA T (lotA z (T 6))).2 + (ltN n (goA T (lotA z (T 6))).1 (zNx z)).1 := by
  conv => lhs; unfold ltN
theorem ltN_2 (n : Nat) (T : Nat → Nat) (z : Int32) : (ltN (n + 1) T z).2 = (ltN n (goA T (lotA z (T 6))).1 (zNx z)).2 := by
  conv => lhs; unfold ltN
theorem ltN_0 (T : Nat → Nat) (z : Int32) : (ltN 0 T z).1 = 0 ∧ (ltN 0 T z).2 = z := by
  unfold ltN; exact ⟨rfl, rfl⟩
noncomputable def tmF (T : Nat → Nat) (v : Nat) : Nat → Int32 → Nat → Nat
  | 0, _, c => c
  | i + 1, z, c => tmF T v i (ltN (T 1 - T 0) T z).2 (if (ltN (T 1 - T 0) T z).1 < v then c else c + 1)
theorem x_lt_loop {en N v c i : Nat} (hen : en ≤ 16) (hv : v ≤ 999) : ∀ (n m w : Nat) (T : Nat → Nat) (I : IH), m + n = en → w ≤ 13 * m → T 0 = m → T 1 = en → I 33 2 = nI en → EvR I 57 58 T → RuR I 27 T → WfE T → WfR T → (∀ I2, Same trL I I2 → I2 57 9 = (ltN n T (I 57 9)).2 → (w + (ltN n T (I 57 9)).1 < v → J E (d + 6) mX11_times 37 [(0, .ref (eb E + 0)), (1, .int (nI N)), (2, .int (nI v)), (3, .int (nI c)), (4, .int (ltN n T (I 57 9)).2), (5, .int (nI i + nI 1))] [] I2 Q) ∧ (¬ w + (ltN n T (I 57 9)).1 < v → J E (d + 6) mX11_times 37 [(0, .ref (eb E + 0)), (1, .int (nI N)), (2, .int (nI v)), (3, .int (nI c + nI 1)), (4, .int (ltN n T (I 57 9)).2), (5, .int (nI i + nI 1))] [] I2 Q)) → J E (d + 6) mX11_times 75 [(0, .ref (eb E + 0)), (1, .int (nI N)), (2, .int (nI v)), (3, .int (nI c)), (5, .int (nI i)), (6, .int (nI w)), (7, .int (nI m))] [] I Q := by
  intro n
  induction n with
  | zero =>
    intro m w T I hm hw h0 h1 h2 h hr hW hR hQ
    refine S_X11_times_75 _ _ _ _ _ _ ?_
    rw [h2, nI_leI (by omega) (by omega), nI_ltI (by omega) (by omega)]
    rw [(ltN_0 T (I 57 9)).1, (ltN_0 T (I 57 9)).2] at hQ
    exact ⟨fun _ => hQ I (Same.rf _ _) rfl, fun q => by omega⟩
  | succ n ih =>
    intro m w T I hm hw h0 h1 h2 h hr hW hR hQ
    refine S_X11_times_75 _ _ _ _ _ _ ?_
    rw [h2, nI_leI (by omega) (by omega)]
    refine ⟨fun q => by omega, fun _ => c_goLot isEv_tr h hr hW hR (fun I2 e2 s2 e9 e6 => ⟨_, rfl, ?_⟩)⟩
    obtain ⟨-, -, l3⟩ := lot_act (I 57 9) hW.1
    obtain ⟨g1, g2, g3⟩ := wf_goA hW (by omega) l3
    have hl := goA_le T (lotA (I 57 9) (T 6))
    rw [nI_add, nI_add]
    have s2' : Same trL I I2 := s2.mono (by simp)
    refine ih (m + 1) (w + (goA T (lotA (I 57 9) (T 6))).2) _ I2 (by omega) (by omega) (by rw [g3, h0]) (by rw [g2 1 (by omega), h1]) (by rw [s2' 33 (by simp)]; exact h2) e2 (g2.ru (hr.ke isEv_tr s2)) g1 (g2.R hR) (fun I3 s3 z3 => ?_)
    rw [e9] at z3 ⊢
    rw [ltN_1, ltN_2] at hQ
    rw [Nat.add_assoc]
    exact hQ I3 (s2'.tr s3) z3
theorem x_times_loop {N v : Nat} (hN : N ≤ 40) (hv : v ≤ 999) (hW : WfE T) (hR : WfR T) (h8 : T 8 ≤ 6) (h01 : T 0 ≤ T 1) : ∀ (n i c : Nat) (z : Int32) (I : IH), i + n = N → EvR I 33 34 T → RuR I 27 T → (∀ I2, Same trL I I2 → Q (some (.int (nI (tmF T v n z c)))) I2) → J E (d + 6) mX11_times 37 [(0, .ref (eb E + 0)), (1, .int (nI N)), (2, .int (nI v)), (3, .int (nI c)), (4, .int z), (5, .int (nI i))] [] I Q := by
  have h6 : T 6 ≤ 6 := hW.1
  have h0 : T 0 ≤ 16 := hW.2.1
  have h1 : T 1 ≤ 16 := hW.2.2.1
  intro n
  induction n with
  | zero =>
    intro i c z I hi h hr hQ
    refine S_X11_times_37 _ _ _ _ _ ?_
    rw [nI_leI (by omega) (by omega)]
    exact ⟨fun _ => hQ I (Same.rf _ _), fun q => by omega⟩
  | succ n ih =>
    intro i c z I hi h hr hQ
    refine S_X11_times_37 _ _ _ _ _ ?_
    rw [nI_leI (by omega) (by omega)]
    refine ⟨fun q => by omega, fun _ => c_become isEv_tr isEv_ev (by omega) h h6 h8 (fun I2 h2 s2 e6 e9 => ⟨rfl, fun I3 e3 => ?_⟩)⟩
    have s2 : Same trL I I2 := s2.mono (by simp)
    have s3 : Same trL I I3 := s2.tr (by rw [e3]; exact Same.st (by simp))
    have e33 : I3 33 = I 33 := s3 33 (by simp)
    have z3 : I3 57 9 = z := by rw [e3, st_at]
    rw [show I3 33 3 = nI (T 0) by rw [e33]; exact h.2.1]
    refine x_lt_loop h1 hv (T 1 - T 0) (T 0) 0 T I3 (by omega) (by omega) rfl rfl (by rw [e33]; exact h.1) (by rw [e3]; exact h2.zz (ev_gn isEv_tr)) (hr.same s3 (fun i hi => by simp; omega)) hW hR (fun I4 s4 z4 => ?_)
    have s4 := s3.tr s4
    rw [z3, nI_add, nI_add]
    rw [Nat.zero_add]
    have ev4 : EvR I4 33 34 T := h.same s4 (by simp) (fun i hi => by simp; omega)
    have ru4 : RuR I4 27 T := hr.same s4 (fun i hi => by simp; omega)
    unfold tmF at hQ
    refine ⟨fun q => ?_, fun q => ?_⟩
    · rw [if_pos q] at hQ
      exact ih (i + 1) c _ I4 (by omega) ev4 ru4 (fun I5 s5 => hQ I5 (s4.tr s5))
    · rw [if_neg q] at hQ
      exact ih (i + 1) (c + 1) _ I4 (by omega) ev4 ru4 (fun I5 s5 => hQ I5 (s4.tr s5))
theorem m_lt_loop {N v c i : Nat} (hv : v ≤ 999) : ∀ (n w : Nat) (T : Nat → Nat) (I : IH), T 0 + n = T 1 → w ≤ 13 * T 0 → RM I T → WfE T → WfR T → (∀ I2 T2, RM I2 T2 → (∀ j, 74 ≤ j → T2 j = T j) → Same [116, 119] I I2 → I2 116 5 = (ltN n T (I 116 5)).2 → (w + (ltN n T (I 116 5)).1 < v → J E (d + 8) mX12_times 72 [(0, .ref (eb E + 115)), (1, .int (nI N)), (2, .int (nI v)), (4, .int (nI i))] [.int (nI 0), .int (nI c)] I2 Q) ∧ (¬ w + (ltN n T (I 116 5)).1 < v → J E (d + 8) mX12_times 72 [(0, .ref (eb E + 115)), (1, .int (nI N)), (2, .int (nI v)), (4, .int (nI i))] [.int (nI 1), .int (nI c)] I2 Q)) → J E (d + 8) mX12_times 41 [(0, .ref (eb E + 115)), (1, .int (nI N)), (2, .int (nI v)), (3, .int (nI c)), (4, .int (nI i)), (5, .int (nI w))] [] I Q := by
  intro n
  induction n with
  | zero =>
    intro w T I hm hw h hW hR hQ
    have h0 : T 0 ≤ 16 := hW.2.1
    refine S_X12_times_41 _ _ _ _ _ (m_over h hW ⟨_, rfl, bk2 (fun _ => ?_) (fun q => by omega)⟩)
    rw [nI_ltI (by omega) (by omega)]
    rw [(ltN_0 T (I 116 5)).1, (ltN_0 T (I 116 5)).2] at hQ
    exact hQ I T h (fun _ _ => rfl) (Same.rf _ _) rfl
  | succ n ih =>
    intro w T I hm hw h hW hR hQ
    have h1 : T 1 ≤ 16 := hW.2.2.1
    obtain ⟨-, -, l3⟩ := lot_act (I 116 5) hW.1
    obtain ⟨g1, g2, g3⟩ := wf_goA hW (by omega) l3
    have hl := goA_le T (lotA (I 116 5) (T 6))
    refine S_X12_times_41 _ _ _ _ _ (m_over h hW ⟨_, rfl, bk2 (fun q => by omega) (fun _ => c_byLot h hW hR (fun I2 r2 s2 e5 e2 => ⟨_, rfl, ?_⟩))⟩)
    rw [nI_add]
    refine ih (w + (goA T (lotA (I 116 5) (T 6))).2) _ I2 (by rw [g3, g2 1 (by omega)]; omega) (by rw [g3]; omega) r2 g1 (g2.R hR) (fun I3 T3 r3 a3 s3 z3 => ?_)
    rw [e5] at z3 ⊢
    rw [ltN_1, ltN_2] at hQ
    rw [Nat.add_assoc]
    exact hQ I3 T3 r3 (fun j hj => (a3 j hj).trans (g2 j (by omega))) (s2.tr s3) z3
theorem m_times_loop {N v : Nat} {sc z0 : Int32} (hN : N ≤ 40) (hv : v ≤ 999) (hW : WfE T) (hR : WfR T) (h01 : T 0 ≤ T 1) : ∀ (n i c : Nat) (z : Int32) (I : IH), i + n = N → RM I T → I 116 5 = z → Laid I T sc z0 → (∀ I2, RM I2 T → I2 116 2 = sc → I2 116 5 = z0 → Same [116, 118, 119] I I2 → Q (some (.int (nI (tmF T v n z c)))) I2) → J E (d + 8) mX12_times 32 [(0, .ref (eb E + 115)), (1, .int (nI N)), (2, .int (nI v)), (3, .int (nI c)), (4, .int (nI i))] [] I Q := by
  intro n
  induction n with
  | zero =>
    intro i c z I hi h hz L hQ
    refine S_X12_times_32 _ _ _ _ ?_
    rw [nI_leI (by omega) (by omega)]
    refine ⟨fun _ => c_layBack (fun I3 b1 b2 s3 => ⟨rfl, ?_⟩), fun q => by omega⟩
    obtain ⟨m1, m2, m5⟩ := laid_back L h (fun _ _ => rfl) b1 b2
    exact hQ I3 m1 m2 m5 (s3.mono (by simp))
  | succ n ih =>
    intro i c z I hi h hz L hQ
    refine S_X12_times_32 _ _ _ _ ?_
    rw [nI_leI (by omega) (by omega)]
    refine ⟨fun q => by omega, fun _ => m_lt_loop hv (T 1 - T 0) 0 T I (by omega) (by omega) h hW hR (fun I2 T2 r2 a2 s2 z2 => ?_)⟩
    rw [hz] at z2 ⊢
    rw [Nat.zero_add]
    have kon : ∀ c2 b : Nat, c + b = c2 → (∀ I5, RM I5 T → I5 116 2 = sc → I5 116 5 = z0 → Same [116, 118, 119] I I5 → Q (some (.int (nI (tmF T v n (ltN (T 1 - T 0) T z).2 c2)))) I5) → J E (d + 8) mX12_times 72 [(0, .ref (eb E + 115)), (1, .int (nI N)), (2, .int (nI v)), (4, .int (nI i))] [.int (nI b), .int (nI c)] I2 Q := by
      intro c2 b hc hQ2
      refine S_X12_times_72 _ _ _ _ _ (c_layBack (fun I3 b1 b2 s3 => ⟨rfl, fun I4 e4 => ?_⟩))
      obtain ⟨m1, m2, m5⟩ := laid_back (L.same s2 (by simp)) r2 a2 b1 b2
      rw [nI_add, nI_add, hc]
      have s4 : Same [116, 118, 119] I I4 := ((s2.mono (by simp)).tr (s3.mono (by simp))).tr (by rw [e4]; exact Same.st (by simp))
      have L4 : Laid I4 T sc z0 := by
        unfold Laid
        rw [e4, st_ne (by omega), s3 118 (by simp), s2 118 (by simp)]
        exact L
      exact ih (i + 1) c2 _ I4 (by omega) (by rw [e4]; exact m1.st2 (Or.inr rfl)) (by rw [e4, st_at]; exact z2) L4 (fun I5 r5 f2 f5 s5 => hQ2 I5 r5 f2 f5 (s4.tr s5))
    unfold tmF at hQ
    refine ⟨fun q => ?_, fun q => ?_⟩
    · rw [if_pos q] at hQ; exact kon c 0 rfl hQ
    · rw [if_neg q] at hQ; exact kon (c + 1) 1 rfl hQ
theorem p_times (hI : Inv I) : Pair E (d + 40) mX11_times mX12_times [.int x1, .int x2] [.int x1, .int x2] I := by
  obtain ⟨T, h⟩ := id hI
  obtain ⟨a1, a2, a3, a4, a5, a6⟩ := id h
  have xs : ∀ Q : QT, (inr x1 1 40 ∧ inr x2 0 999 → J E (d + 40) mX11_times 37 [(0, .ref (eb E + 0)), (1, .int x1), (2, .int x2), (3, .int (nI 0)), (4, .int (I 33 9)), (5, .int (nI 0))] [] I Q) → (¬ (inr x1 1 40 ∧ inr x2 0 999) → Q (some (.int (-1))) I) → Mt E (d + 40) mX11_times [.ref (eb E + 0), .int x1, .int x2] I Q := by
    intro Q k1 k2
    refine S_X11_times _ _ ?_
    rw [lt_x (by omega), x_lt (by omega)]
    refine ⟨fun q => k2 (fun w => by have := w.1.1; omega), fun q => ⟨fun z => k2 (fun w => by have := w.1.2; omega), fun z => d_isWithin (by omega) ⟨_, rfl, bk2 (fun p => k1 ⟨⟨by omega, by omega⟩, p⟩) (fun p => k2 (fun w => p w.2))⟩⟩⟩
  by_cases ok : inr x1 1 40 ∧ inr x2 0 999
  · obtain ⟨N, hN, hN1, hN2⟩ := inr_n ok.1
    obtain ⟨v, hv, -, hv2⟩ := inr_n ok.2
    subst hN; subst hv
    refine Pair.think h (nI (tmF T v N (I 33 9) 0)) (fun Q hQ => xs Q (fun _ => x_times_loop hN2 hv2 a2.1 a2.2.1 a2.2.2.1.1 a2.2.2.2.1 N 0 0 (I 33 9) I (by omega) a3.1 a3.2 hQ) (fun q => absurd ok q)) (fun I1 r1 s1 Q hQ => S_X12_times _ _ (m_in1 (by omega) (by omega) ⟨_, rfl, bk (fun _ => m_in1 (by omega) (by omega) ⟨_, rfl, bk2 (fun _ => c_layDown (fun I3 l3 s3 => ⟨rfl, ?_⟩)) (fun q => absurd ok.2 q)⟩) (fun q => absurd ok.1 q)⟩))
    refine m_times_loop hN2 hv2 a2.1 a2.2.1 a2.2.2.2.1 N 0 0 (I 33 9) I3 (by omega) (r1.same s3 (by simp)) (by rw [s3 116 (by simp), s1 116 (by simp)]; exact a5.symm) (laid_of r1 l3) (fun I4 r4 f2 f5 s4 => hQ I4 r4 f2 f5 ((s3.mono (by simp)).tr s4))
  · exact Pair.pure hI (-1) (fun Q hQ => xs Q (fun w => absurd w ok) (fun _ => hQ)) (fun Q hQ => S_X12_times _ _ (m_in1 (by omega) (by omega) ⟨_, rfl, bk (fun p1 => m_in1 (by omega) (by omega) ⟨_, rfl, bk2 (fun p2 => absurd ⟨p1, p2⟩ ok) (fun _ => hQ)⟩) (fun _ => hQ)⟩))
/-! who reads rows -/
noncomputable def jdF (R : Nat → Int32) : Nat → Nat → (Nat → Nat) → Nat
  | 0, _, _ => 0
  | n + 1, k, T => if dc ((¬ T 1 ≤ T 0) ∧ isA T (R (3 * k)) ∧ nI (goA T (R (3 * k)).toInt.toNat).2 = R (3 * k + 1) ∧ nI (swn (goA T (R (3 * k)).toInt.toNat).1) = R (3 * k + 2)) = true then jdF R n (k + 1) (goA T (R (3 * k)).toInt.toNat).1 else k + 1
theorem ix3 (n j : Nat) : nI n * nI 3 + nI j = nI (3 * n + j) ∧ nI n * nI 3 = nI (3 * n) ∧ nI 3 * nI n + nI j = nI (3 * n + j) ∧ nI 3 * nI n = nI (3 * n) := by
  refine ⟨?_, ?_, ?_, ?_⟩
  · rw [nI_mul, nI_add]; congr 1; omega
  · rw [nI_mul]; congr 1; omega
  · rw [nI_mul, nI_add]
  · rw [nI_mul]
theorem x_judge_loop {N : Nat} {R : Nat → Int32} (hN : N ≤ 4) : ∀ (n k : Nat) (T : Nat → Nat) (I : IH), k + n = N → I 0 9 = nI N → (∀ i, i < 3 * N → I 13 i = R i) → EvR I 57 58 T → RuR I 27 T → WfE T → WfR T → (∀ I2, Same trL I I2 → Q (some (.int (nI (jdF R n k T)))) I2) → J E (d + 6) mX11_judge 13 [(0, .ref (eb E + 0)), (1, .int (nI k))] [] I Q := by
  intro n
  induction n with
  | zero =>
    intro k T I hk h9 h13 h hr hW hR hQ
    refine S_X11_judge_13 _ ?_
    rw [h9, nI_leI (by omega) (by omega)]
    exact ⟨fun _ => hQ I (Same.rf _ _), fun q => by omega⟩
  | succ n ih =>
    intro k T I hk h9 h13 h hr hW hR hQ
    have h1 : T 1 ≤ 16 := hW.2.2.1
    refine S_X11_judge_13 _ ?_
    rw [h9, nI_leI (by omega) (by omega), h13 (3 * k) (by omega) |> fun _ => nI_add]
    refine ⟨fun q => by omega, fun _ => ⟨3 * k, (ix3 k 0).2.1, by omega, ?_⟩⟩
    rw [h13 (3 * k) (by omega)]
    unfold jdF at hQ
    refine d_over isEv_tr h hW ⟨_, rfl, bk2 (fun p => ?_) (fun p => d_isAct isEv_tr h.2.2.2.2.1 hW.1 ⟨_, rfl, bk2 (fun p2 => ?_) (fun p2 => ?_)⟩)⟩
    · rw [dc_f (fun w => w.1 p)] at hQ
      exact hQ I (Same.rf _ _)
    · obtain ⟨b1, b2⟩ := isA_n p2
      refine c_kgo isEv_tr h hr hW hR b1 b2 (fun I2 e2 G2 => ⟨_, rfl, 3 * k + 1, (ix3 k 1).1, by omega, ?_⟩)
      obtain ⟨g1, g2, g3⟩ := wf_goA hW (by omega) b2
      have s2 : Same trL I I2 := G2.1.mono (by simp)
      have q13 : ∀ i, i < 3 * N → I2 13 i = R i := fun i hi => by rw [s2 13 (by simp)]; exact h13 i hi
      rw [q13 (3 * k + 1) (by omega)]
      refine ⟨fun q => ?_, fun q => ⟨3 * k + 2, (ix3 k 2).1, by omega, ?_⟩⟩
      · rw [dc_f (fun w => q w.2.2.1)] at hQ; exact hQ I2 s2
      · rw [q13 (3 * k + 2) (by omega), e2.2.2.2.2.2.1]
        refine ⟨fun q2 => ?_, fun q2 => ?_⟩
        · rw [dc_t ⟨p, p2, q, q2⟩] at hQ
          exact ih (k + 1) _ I2 (by omega) (by rw [s2 0 (by simp)]; exact h9) q13 e2 (g2.ru (hr.ke isEv_tr G2.1)) g1 (g2.R hR) (fun I3 s3 => hQ I3 (s2.tr s3))
        · rw [dc_f (fun w => q2 w.2.2.2)] at hQ; exact hQ I2 s2
    · rw [dc_f (fun w => p2 w.2.1)] at hQ
      exact hQ I (Same.rf _ _)
theorem m_judge_loop {N : Nat} {R : Nat → Int32} (hN : N ≤ 4) : ∀ (n k : Nat) (T : Nat → Nat) (I : IH), k + n = N → I 115 28 = nI N → (∀ i, i < 3 * N → I 128 i = R i) → RM I T → WfE T → WfR T → (∀ I2 T2, RM I2 T2 → (∀ j, 74 ≤ j → T2 j = T j) → Same [116, 119] I I2 → J E (d + 7) mX12_judge 133 [(0, .ref (eb E + 115)), (1, .int (nI (jdF R n k T)))] [] I2 Q) → J E (d + 7) mX12_judge 8 [(0, .ref (eb E + 115)), (1, .int (nI 0)), (2, .int (nI k))] [] I Q := by
  intro n
  induction n with
  | zero =>
    intro k T I hk h9 h13 h hW hR hQ
    refine S_X12_judge_8 _ _ ?_
    rw [h9, nI_leI (by omega) (by omega)]
    exact ⟨fun _ => hQ I T h (fun _ _ => rfl) (Same.rf _ _), fun q => by omega⟩
  | succ n ih =>
    intro k T I hk h9 h13 h hW hR hQ
    have h1 : T 1 ≤ 16 := hW.2.2.1
    have bad : ∀ I2 T2, RM I2 T2 → (∀ j, 74 ≤ j → T2 j = T j) → Same [116, 119] I I2 → jdF R (n + 1) k T = k + 1 → J E (d + 7) mX12_judge 8 [(0, .ref (eb E + 115)), (1, .int (nI 1 + nI k)), (2, .int (nI k + nI 1))] [] I2 Q := by
      intro I2 T2 r2 c2 s2 ej
      have q := hQ I2 T2 r2 c2 s2
      rw [ej] at q
      rw [nI_add, nI_add, Nat.add_comm 1 k]
      refine S_X12_judge_8 _ _ ?_
      exact ⟨fun _ => q, fun _ => ⟨fun _ => q, fun z => by rw [n0, nI_eq (by omega) (by omega)] at z; omega⟩⟩
    refine S_X12_judge_8 _ _ ?_
    rw [h9, nI_leI (by omega) (by omega)]
    refine ⟨fun q => by omega, fun _ => ⟨fun z => absurd (by decide +kernel) z, fun _ => ⟨3 * k, (ix3 k 0).2.2.2, by omega, ?_⟩⟩⟩
    rw [h13 (3 * k) (by omega)]
    refine m_isAct h hW.1 ⟨_, rfl, bk (fun p2 => m_over h hW ⟨_, rfl, bk2 (fun p => ?_) (fun p => ?_)⟩) (fun p2 => ?_)⟩
    · refine S_X12_judge_46 _ (S_X12_judge_47 _ _ ⟨fun _ => S_X12_judge_68 _ _ _ ⟨fun _ => ⟨fun _ => bad I T h (fun _ _ => rfl) (Same.rf _ _) ?_, fun z => absurd (by decide +kernel) z⟩, fun z => absurd (by decide +kernel) z⟩, fun z => absurd (by decide +kernel) z⟩)
      unfold jdF; rw [dc_f (fun w => w.1 p)]; rfl
    · obtain ⟨b1, b2⟩ := isA_n p2
      refine S_X12_judge_47 _ _ ⟨fun z => absurd z (by decide +kernel), fun _ => ⟨3 * k, (ix3 k 0).2.2.2, by omega, ?_⟩⟩
      rw [h13 (3 * k) (by omega)]
      refine c_goesA h hW hR b1 b2 (fun I2 r2 G2 => ⟨_, rfl, ?_⟩)
      obtain ⟨g1, g2, g3⟩ := wf_goA hW (by omega) b2
      have c2 : ∀ j, 74 ≤ j → (goA T (R (3 * k)).toInt.toNat).1 j = T j := fun j hj => g2 j (by omega)
      have q13 : ∀ i, i < 3 * N → I2 128 i = R i := fun i hi => by rw [G2.1 128 (by simp)]; exact h13 i hi
      refine S_X12_judge_68 _ _ _ ⟨fun z => absurd z (by decide +kernel), fun _ => ⟨3 * k + 1, (ix3 k 1).2.2.1, by omega, ?_⟩⟩
      rw [q13 (3 * k + 1) (by omega)]
      refine ⟨fun q => ⟨fun _ => bad I2 _ r2 c2 G2.1 ?_, fun z => absurd (by decide +kernel) z⟩, fun q => c_those r2 g1 rfl ⟨_, rfl, 3 * k + 2, (ix3 k 2).2.2.1, by omega, ?_⟩⟩
      · unfold jdF; rw [dc_f (fun w => q w.2.2.1)]; rfl
      · rw [q13 (3 * k + 2) (by omega)]
        refine ⟨fun q2 => ⟨fun _ => bad I2 _ r2 c2 G2.1 ?_, fun z => absurd (by decide +kernel) z⟩, fun q2 => ⟨fun z => absurd z (by decide +kernel), fun _ => ?_⟩⟩
        · unfold jdF; rw [dc_f (fun w => q2 w.2.2.2)]; rfl
        · rw [nI_add]
          unfold jdF at hQ
          rw [dc_t ⟨p, p2, q, q2⟩] at hQ
          exact ih (k + 1) _ I2 (by omega) (by rw [G2.1 115 (by simp)]; exact h9) q13 r2 g1 (g2.R hR) (fun I3 T3 r3 c3 s3 => hQ I3 T3 r3 (fun j hj => (c3 j hj).trans (c2 j hj)) (G2.1.tr s3))
    · refine S_X12_judge_46 _ (S_X12_judge_47 _ _ ⟨fun _ => S_X12_judge_68 _ _ _ ⟨fun _ => ⟨fun _ => bad I T h (fun _ _ => rfl) (Same.rf _ _) ?_, fun z => absurd (by decide +kernel) z⟩, fun z => absurd (by decide +kernel) z⟩, fun z => absurd (by decide +kernel) z⟩)
      unfold jdF; rw [dc_f (fun w => p2 w.2.1)]; rfl
theorem p_judge (hI : Inv I) : Pair E (d + 40) mX11_judge mX12_judge [] [] I := by
  obtain ⟨T, h⟩ := id hI
  obtain ⟨a1, a2, a3, a4, a5, a6⟩ := id h
  obtain ⟨n, hn, h9, h28, heq⟩ := a6.2.2.1
  refine Pair.think h (nI (jdF (I 13) n 0 T)) (fun Q hQ => S_X11_judge (c_become isEv_tr isEv_ev (by omega) a3.1 a2.1.1 a2.2.2.1.1 (fun I2 h2 s2 e6 e9 => ⟨rfl, ?_⟩))) (fun I1 r1 s1 Q hQ => S_X12_judge (c_layDown (fun I3 l3 s3 => ⟨rfl, ?_⟩)))
  · have s2 : Same trL I I2 := s2.mono (by simp)
    exact x_judge_loop hn n 0 T I2 (by omega) (by rw [s2 0 (by simp)]; exact h9) (fun i hi => by rw [s2 13 (by simp)]) h2 (a3.2.same s2 (fun i hi => by simp; omega)) a2.1 a2.2.1 (fun I3 s3 => hQ I3 (s2.tr s3))
  · have L3 := laid_of r1 l3
    refine m_judge_loop (R := I 13) hn n 0 T I3 (by omega) (by rw [s3 115 (by simp), s1 115 (by simp)]; exact h28) (fun i hi => by rw [s3 128 (by simp), s1 128 (by simp)]; exact (heq i hi).symm) (r1.same s3 (by simp)) a2.1 a2.2.1 (fun I4 T4 r4 c4 s4 => S_X12_judge_133 _ (c_layBack (fun I5 b1 b2 s5 => ⟨rfl, ?_⟩)))
    obtain ⟨m1, m2, m5⟩ := laid_back (L3.same s4 (by simp)) r4 c4 b1 b2
    exact hQ I5 m1 m2 m5 (((s3.mono (by simp)).tr (s4.mono (by simp))).tr (s5.mono (by simp)))
/-! acts from a sheet -/
def itm (x : Int32) (sz g : Nat) : Prop := 0 ≤ x.toInt ∧ x.toInt + g < sz
theorem sz_sub {sz g : Nat} (h1 : sz ≤ 40) (h2 : g ≤ 40) (x : Int32) : (x < nI sz - nI g ↔ x.toInt + g < sz) ∧ (nI sz - nI g ≤ x ↔ (sz : Int) ≤ x.toInt + g) := by
  have hb := x_b x
  have e : nI sz - nI g = zI ((sz : Int) - g) := by rw [nI_z, nI_z, zI_sub]
  rw [e]
  constructor
  · rw [Int32.lt_iff_toInt_lt, zI_toInt (by omega) (by omega)]; omega
  · rw [Int32.le_iff_toInt_le, zI_toInt (by omega) (by omega)]; omega
theorem m_isItem {s sz g : Nat} (hx : x1 = nI s) (hs : s < 4) (hz : I 130 s = nI sz) (h1 : sz ≤ 40) (h2 : g ≤ 40) (hQ : Q (some (.int (nI (bn (itm x2 sz g))))) I) : Mt E d mX12_isItem [.ref (eb E + 115), .int x1, .int x2, .int (nI g)] I Q := by
  subst hx
  refine S_X12_isItem _ _ _ ?_
  rw [x_lt0]
  refine ⟨fun q => ?_, fun q => ⟨s, rfl, hs, ?_⟩⟩
  · rw [bn_f (fun w => by have := w.1; omega)] at hQ; exact hQ
  · rw [hz, (sz_sub h1 h2 x2).2]
    refine ⟨fun z => ?_, fun z => ?_⟩
    · rw [bn_f (fun w => by have := w.2; omega)] at hQ; exact hQ
    · rw [bn_t ⟨by omega, by omega⟩] at hQ; exact hQ
theorem itm_ix {s sz g : Nat} (hs : s < 4) (h1 : sz ≤ 40) (h : itm x2 sz g) : nI s * nI 40 + x2 + nI g = nI (40 * s + (x2.toInt.toNat + g)) ∧ nI 40 * nI s + x2 + nI g = nI (40 * s + (x2.toInt.toNat + g)) ∧ x2.toInt.toNat + g < 40 := by
  have h2 := h.2
  have h3 := h.1
  have e : x2 = nI x2.toInt.toNat := x_n h3
  refine ⟨?_, ?_, by omega⟩
  · conv => lhs; rw [e]
    rw [nI_mul, nI_add, nI_add]; congr 1; omega
  · conv => lhs; rw [e]
    rw [nI_mul, nI_add, nI_add]; congr 1; omega
noncomputable def gaF (f : Nat → Int32) (x : Int32) (sz : Nat) : Nat → Nat → (Nat → Nat) → Nat → Int32 × (Nat → Nat) × Nat
  | 0, _, T, w => (nI w, T, w)
  | n + 1, g, T, w => if dc (itm x sz g) = true then (if dc ((¬ T 1 ≤ T 0) ∧ isA T (f (x.toInt.toNat + g))) = true then gaF f x sz n (g + 1) (goA T (f (x.toInt.toNat + g)).toInt.toNat).1 (w + (goA T (f (x.toInt.toNat + g)).toInt.toNat).2) else gaF f x sz n (g + 1) T w) else ((-12), T, w)
theorem gaF_wf (f : Nat → Int32) (x : Int32) (sz : Nat) : ∀ (n g : Nat) (T : Nat → Nat) (w : Nat), WfE T → T 0 ≤ T 1 → WfE (gaF f x sz n g T w).2.1 ∧ Ag T (gaF f x sz n g T w).2.1 ∧ (gaF f x sz n g T w).2.1 0 ≤ (gaF f x sz n g T w).2.1 1 := by
  intro n
  induction n with
  | zero => intro g T w hW ho; exact ⟨hW, Ag.rf T, ho⟩
  | succ n ih =>
    intro g T w hW ho
    have h1 : T 1 ≤ 16 := hW.2.2.1
    unfold gaF
    split
    · split
      · rename_i q
        rw [dc_i] at q
        obtain ⟨b1, b2⟩ := isA_n q.2
        obtain ⟨g1, g2, g3⟩ := wf_goA hW (by omega) b2
        obtain ⟨i1, i2, i3⟩ := ih (g + 1) (goA T (f (x.toInt.toNat + g)).toInt.toNat).1 (w + (goA T (f (x.toInt.toNat + g)).toInt.toNat).2) g1 (by rw [g3, g2 1 (by omega)]; omega)
        exact ⟨i1, g2.tr i2, i3⟩
      · exact ih (g + 1) T w hW ho
    · exact ⟨hW, Ag.rf T, ho⟩
theorem Gc.ad {I0 I2 : IH} {w w2 : Nat} (h : Gc e g r I0 I w) (h2 : Gc e g r I I2 w2) : Gc e g r I0 I2 (w + w2) := ⟨h.1.tr h2.1, h2.2.1.trans h.2.1, by rw [h2.2.2, h.2.2, Int32.add_assoc, nI_add]⟩
theorem Gm.ad {I0 I2 : IH} {w w2 : Nat} (h : Gm I0 I w) (h2 : Gm I I2 w2) : Gm I0 I2 (w + w2) := ⟨h.1.tr h2.1, h2.2.1.trans h.2.1, by rw [h2.2.2, h.2.2, Int32.add_assoc, nI_add]⟩
theorem x_goAll_loop {I0 : IH} {N s sz : Nat} {f : Nat → Int32} (hN : N ≤ 20) (hs : s < 4) (hsz : sz ≤ 40) : ∀ (n g w : Nat) (T : Nat → Nat) (I : IH), g + n = N → w ≤ 13 * g → I 15 s = nI sz → (∀ i, i < 40 → I 16 (40 * s + i) = f i) → EvR I 33 34 T → RuR I 27 T → WfE T → WfR T → Gc 33 34 27 I0 I w → (∀ I2, EvR I2 33 34 (gaF f x2 sz n g T w).2.1 → Gc 33 34 27 I0 I2 (gaF f x2 sz n g T w).2.2 → Q (some (.int (gaF f x2 sz n g T w).1)) I2) → J E (d + 6) mX11_goAll 22 [(0, .ref (eb E + 0)), (1, .int (nI s)), (2, .int x2), (3, .int (nI N)), (5, .int (nI w)), (6, .int (nI g))] [] I Q := by
  intro n
  induction n with
  | zero =>
    intro g w T I hg hw h15 h16 h hr hW hR hG hQ
    refine S_X11_goAll_22 _ _ _ _ _ ?_
    rw [nI_leI (by omega) (by omega)]
    exact ⟨fun _ => hQ I h hG, fun q => by omega⟩
  | succ n ih =>
    intro g w T I hg hw h15 h16 h hr hW hR hG hQ
    have h1 : T 1 ≤ 16 := hW.2.2.1
    refine S_X11_goAll_22 _ _ _ _ _ ?_
    rw [nI_leI (by omega) (by omega), x_lt0]
    unfold gaF at hQ
    refine ⟨fun q => by omega, fun _ => ⟨fun q => ?_, fun q => ⟨s, rfl, hs, ?_⟩⟩⟩
    · rw [dc_f (fun w => by have := w.1; omega)] at hQ; exact hQ I h hG
    · rw [h15, (sz_sub hsz (by omega) x2).1]
      refine ⟨fun z => ?_, fun z => ?_⟩
      · have it : itm x2 sz g := ⟨by omega, z⟩
        obtain ⟨c1, c2, c3⟩ := itm_ix hs hsz it
        rw [dc_t it] at hQ
        simp only [if_true] at hQ
        refine ⟨_, c1, by omega, ?_⟩
        rw [h16 _ c3]
        have nx : nI g + nI 1 = nI (g + 1) := nI_add _ _
        rw [nx]
        refine d_over isEv_ev h hW ⟨_, rfl, bk2 (fun p => ?_) (fun p => d_isAct isEv_ev h.2.2.2.2.1 hW.1 ⟨_, rfl, bk (fun p2 => ?_) (fun p2 => ?_)⟩)⟩
        · rw [dc_f (fun w => w.1 p)] at hQ
          exact ih (g + 1) w T I (by omega) (by omega) h15 h16 h hr hW hR hG hQ
        · obtain ⟨b1, b2⟩ := isA_n p2
          rw [dc_t ⟨p, p2⟩] at hQ
          refine c_kgo isEv_ev h hr hW hR b1 b2 (fun I2 e2 G2 => ⟨_, rfl, ?_⟩)
          obtain ⟨g1, g2, g3⟩ := wf_goA hW (by omega) b2
          have hl := goA_le T (f (x2.toInt.toNat + g)).toInt.toNat
          rw [nI_add]
          exact ih (g + 1) _ _ I2 (by omega) (by omega) (by rw [G2.1 15 (by simp)]; exact h15) (fun i hi => by rw [G2.1 16 (by simp)]; exact h16 i hi) e2 (g2.ru (hr.ke isEv_ev G2.1)) g1 (g2.R hR) (hG.ad G2) hQ
        · rw [dc_f (fun w => p2 w.2)] at hQ
          exact ih (g + 1) w T I (by omega) (by omega) h15 h16 h hr hW hR hG hQ
      · rw [dc_f (fun w => z w.2)] at hQ; exact hQ I h hG
theorem m_goAll_loop {I0 : IH} {N s sz : Nat} {f : Nat → Int32} (hN : N ≤ 20) (hs : s < 4) (hsz : sz ≤ 40) : ∀ (n g w : Nat) (T : Nat → Nat) (I : IH), g + n = N → w ≤ 13 * g → I 130 s = nI sz → (∀ i, i < 40 → I 131 (40 * s + i) = f i) → RM I T → WfE T → WfR T → Gm I0 I w → (∀ I2, RM I2 (gaF f x2 sz n g T w).2.1 → Gm I0 I2 (gaF f x2 sz n g T w).2.2 → Q (some (.int (gaF f x2 sz n g T w).1)) I2) → J E (d + 7) mX12_goAll 41 [(0, .ref (eb E + 115)), (1, .int (nI s)), (2, .int x2), (3, .int (nI N)), (5, .int (nI w)), (6, .int (nI g))] [] I Q := by
  intro n
  induction n with
  | zero =>
    intro g w T I hg hw h15 h16 h hW hR hG hQ
    refine S_X12_goAll_41 _ _ _ _ _ ?_
    rw [nI_leI (by omega) (by omega)]
    exact ⟨fun _ => hQ I h hG, fun q => by omega⟩
  | succ n ih =>
    intro g w T I hg hw h15 h16 h hW hR hG hQ
    have h1 : T 1 ≤ 16 := hW.2.2.1
    refine S_X12_goAll_41 _ _ _ _ _ ?_
    rw [nI_leI (by omega) (by omega)]
    unfold gaF at hQ
    refine ⟨fun q => by omega, fun _ => m_isItem rfl hs h15 hsz (by omega) ⟨_, rfl, bk2 (fun it => ?_) (fun it => ?_)⟩⟩
    · obtain ⟨c1, c2, c3⟩ := itm_ix hs hsz it
      rw [dc_t it] at hQ
      simp only [if_true] at hQ
      refine ⟨_, c2, by omega, ?_⟩
      rw [h16 _ c3]
      have nx : nI g + nI 1 = nI (g + 1) := nI_add _ _
      rw [nx]
      have w0 : nI w + nI 0 = nI w := nI_add _ _
      refine m_isAct h hW.1 ⟨_, rfl, bk (fun p2 => m_over h hW ⟨_, rfl, bk2 (fun p => ?_) (fun p => ?_)⟩) (fun p2 => ?_)⟩
      · rw [dc_f (fun w => w.1 p)] at hQ
        rw [w0]
        exact ih (g + 1) w T I (by omega) (by omega) h15 h16 h hW hR hG hQ
      · obtain ⟨b1, b2⟩ := isA_n p2
        rw [dc_t ⟨p, p2⟩] at hQ
        refine c_goesA h hW hR b1 b2 (fun I2 r2 G2 => ⟨_, rfl, ?_⟩)
        obtain ⟨g1, g2, g3⟩ := wf_goA hW (by omega) b2
        have hl := goA_le T (f (x2.toInt.toNat + g)).toInt.toNat
        rw [nI_add]
        exact ih (g + 1) _ _ I2 (by omega) (by omega) (by rw [G2.1 130 (by simp)]; exact h15) (fun i hi => by rw [G2.1 131 (by simp)]; exact h16 i hi) r2 g1 (g2.R hR) (hG.ad G2) hQ
      · rw [dc_f (fun w => p2 w.2)] at hQ
        rw [w0]
        exact ih (g + 1) w T I (by omega) (by omega) h15 h16 h hW hR hG hQ
    · rw [dc_f it] at hQ; exact hQ I h hG
theorem d_refActs (hQ : Q (some (.int (if dc (inr x1 0 3 ∧ inr x2 0 20) = true then why I x1.toInt.toNat (nI 0) else (-1)))) I) : Mt E (d + 1) mX11_refusalOfActs [.ref (eb E + 0), .int x1, .int x2] I Q := by
  refine S_X11_refusalOfActs _ _ (d_isSheet ⟨_, rfl, bk (fun p1 => d_isWithin (by omega) ⟨_, rfl, bk (fun p2 => d_refusalAs (s := x1.toInt.toNat) (x_n (by have := p1.1; omega)) (by have := p1.2; have := p1.1; omega) ⟨_, rfl, ?_⟩) (fun p2 => ?_)⟩) (fun p1 => ?_)⟩)
  · rw [dc_t ⟨p1, p2⟩] at hQ; exact hQ
  · rw [dc_f (fun w => p2 w.2)] at hQ; exact hQ
  · rw [dc_f (fun w => p1 w.1)] at hQ; exact hQ
theorem Gc.rf : Gc e g r I I 0 := ⟨Same.rf _ _, rfl, by show I e 6 = I e 6 + 0; rw [Int32.add_zero]⟩
theorem Gm.rf : Gm I I 0 := ⟨Same.rf _ _, rfl, by show I 116 2 = I 116 2 + 0; rw [Int32.add_zero]⟩
theorem p_goAll (hI : Inv I) : Pair E (d + 40) mX11_goAll mX12_goAll [.int x1, .int x2, .int x3] [.int x1, .int x2, .int x3] I := by
  obtain ⟨T, h⟩ := id hI
  obtain ⟨a1, a2, a3, a4, a5, a6⟩ := id h
  obtain ⟨o1, o2, o3, o4, o5, o6⟩ := id a6
  by_cases ok : inr x1 0 3 ∧ inr x3 0 20
  · obtain ⟨s, hs, -, hs2⟩ := inr_n ok.1
    obtain ⟨N, hN, -, hN2⟩ := inr_n ok.2
    have es : x1.toInt.toNat = s := by rw [hs, nI_toInt (by omega)]; omega
    subst hs; subst hN
    obtain ⟨m1, m2, hc⟩ := o4.1 s (by omega)
    by_cases w : why I s (nI 0) = nI 0
    · obtain ⟨sz, hsz, c2⟩ : ∃ sz : Nat, sz ≤ 40 ∧ I 15 s = nI sz := by
        rcases hc with ⟨c1, c2⟩ | ⟨so, sz, hso, hsz, c1, c2⟩
        · exact ⟨0, by omega, c2⟩
        · exact ⟨sz, hsz, c2⟩
      obtain ⟨f, hf⟩ : ∃ f : Nat → Int32, f = fun i => I 16 (40 * s + i) := ⟨_, rfl⟩
      obtain ⟨w1, w2, w3⟩ := gaF_wf f x2 sz N 0 T 0 a2.1 a2.2.2.2.1
      refine ⟨(gaF f x2 sz N 0 T 0).1, fun I1 => EvR I1 33 34 (gaF f x2 sz N 0 T 0).2.1 ∧ Gc 33 34 27 I I1 (gaF f x2 sz N 0 T 0).2.2, fun Q hQ => S_X11_goAll _ _ _ (d_refActs ⟨_, rfl, ?_⟩), fun I1 ⟨ev1, gc1⟩ Q hQ => S_X12_goAll _ _ _ (m_isSheet ⟨_, rfl, bk (fun _ => m_in1 (by omega) (by omega) ⟨_, rfl, bk2 (fun _ => ?_) (fun q => absurd ok.2 q)⟩) (fun q => absurd ok.1 q)⟩)⟩
      · rw [dc_t ok, es]
        simp only [if_true]
        rw [w]
        exact ⟨fun _ => x_goAll_loop hN2 (by omega) hsz N 0 0 T I (by omega) (by omega) c2 (fun i hi => by rw [hf]) a3.1 a3.2 a2.1 a2.2.1 Gc.rf (fun I2 e2 G2 => hQ I2 ⟨e2, G2⟩), fun z => absurd (by decide +kernel) z⟩
      · have g1 : ∀ a, a ∉ [33, 34 + 1, 34 + 4, 34 + 6, 27 + 5] → I1 a = I a := gc1.1
        have o4' : SheetR I1 := o4.eqs (fun a ha => g1 a (by simp; omega))
        have ew : why I1 s (nI 0) = why I s (nI 0) := by unfold why; rw [g1 14 (by simp)]
        refine m_lacks o4' rfl (by omega) ⟨_, rfl, ?_⟩
        rw [ew, w]
        refine ⟨fun _ => m_goAll_loop hN2 (by omega) hsz N 0 0 T I1 (by omega) (by omega) (by rw [g1 130 (by simp), m2]; exact c2) (fun i hi => by rw [hf, g1 131 (by simp)]; exact o4.2.1 _ (by omega)) (a1.same gc1.1 (by simp)) a2.1 a2.2.1 Gm.rf (fun I2 r2 G2 => hQ I2 ⟨_, h.go gc1 ev1 r2 G2 w1 w2 w3⟩), fun z => absurd (by decide +kernel) z⟩
    · obtain ⟨z1, z2⟩ := why_z w
      refine Pair.pure hI (why I s (nI 0)) (fun Q hQ => S_X11_goAll _ _ _ (d_refActs ⟨_, rfl, ?_⟩)) (fun Q hQ => S_X12_goAll _ _ _ (m_isSheet ⟨_, rfl, bk (fun _ => m_in1 (by omega) (by omega) ⟨_, rfl, bk2 (fun _ => m_lacks o4 rfl (by omega) ⟨_, rfl, fun q => absurd q z2, fun _ => hQ⟩) (fun q => absurd ok.2 q)⟩) (fun q => absurd ok.1 q)⟩))
      rw [dc_t ok, es]
      simp only [if_true]
      exact ⟨fun q => absurd q z1, fun _ => hQ⟩
  · refine Pair.pure hI (-1) (fun Q hQ => S_X11_goAll _ _ _ (d_refActs ⟨_, rfl, ?_⟩)) (fun Q hQ => S_X12_goAll _ _ _ (m_isSheet ⟨_, rfl, bk (fun p1 => m_in1 (by omega) (by omega) ⟨_, rfl, bk2 (fun p2 => absurd ⟨p1, p2⟩ ok) (fun _ => hQ)⟩) (fun _ => hQ)⟩))
    rw [dc_f ok]
    exact ⟨fun q => absurd (show (0 : Int32) ≤ (-1) from q) (by decide +kernel), fun _ => hQ⟩
noncomputable def wbF (f : Nat → Int32) (x : Int32) (sz : Nat) : Nat → Nat → (Nat → Nat) → Nat → Int32
  | 0, _, _, w => nI w
  | n + 1, g, T, w => if dc (itm x sz g) = true then (if dc ((¬ T 1 ≤ T 0) ∧ isA T (f (x.toInt.toNat + g))) = true then wbF f x sz n (g + 1) (goA T (f (x.toInt.toNat + g)).toInt.toNat).1 (w + (goA T (f (x.toInt.toNat + g)).toInt.toNat).2) else (-4)) else (-12)
theorem x_wouldBe_loop {N s sz : Nat} {f : Nat → Int32} (hN : N ≤ 20) (hs : s < 4) (hsz : sz ≤ 40) : ∀ (n g w : Nat) (T : Nat → Nat) (I : IH), g + n = N → w ≤ 13 * g → I 15 s = nI sz → (∀ i, i < 40 → I 16 (40 * s + i) = f i) → EvR I 57 58 T → RuR I 27 T → WfE T → WfR T → (∀ I2, Same trL I I2 → Q (some (.int (wbF f x2 sz n g T w))) I2) → J E (d + 6) mX11_wouldBe 33 [(0, .ref (eb E + 0)), (1, .int (nI s)), (2, .int x2), (3, .int (nI N)), (5, .int (nI w)), (6, .int (nI g))] [] I Q := by
  intro n
  induction n with
  | zero =>
    intro g w T I hg hw h15 h16 h hr hW hR hQ
    refine S_X11_wouldBe_33 _ _ _ _ _ ?_
    rw [nI_leI (by omega) (by omega)]
    exact ⟨fun _ => hQ I (Same.rf _ _), fun q => by omega⟩
  | succ n ih =>
    intro g w T I hg hw h15 h16 h hr hW hR hQ
    have h1 : T 1 ≤ 16 := hW.2.2.1
    refine S_X11_wouldBe_33 _ _ _ _ _ ?_
    rw [nI_leI (by omega) (by omega), x_lt0]
    unfold wbF at hQ
    refine ⟨fun q => by omega, fun _ => ⟨fun q => ?_, fun q => ⟨s, rfl, hs, ?_⟩⟩⟩
    · rw [dc_f (fun w => by have := w.1; omega)] at hQ; exact hQ I (Same.rf _ _)
    · rw [h15, (sz_sub hsz (by omega) x2).1]
      refine ⟨fun z => ?_, fun z => ?_⟩
      · have it : itm x2 sz g := ⟨by omega, z⟩
        obtain ⟨c1, c2, c3⟩ := itm_ix hs hsz it
        rw [dc_t it] at hQ
        simp only [if_true] at hQ
        refine ⟨_, c1, by omega, ?_⟩
        rw [h16 _ c3]
        have nx : nI g + nI 1 = nI (g + 1) := nI_add _ _
        rw [nx]
        refine d_over isEv_tr h hW ⟨_, rfl, bk2 (fun p => ?_) (fun p => d_isAct isEv_tr h.2.2.2.2.1 hW.1 ⟨_, rfl, bk2 (fun p2 => ?_) (fun p2 => ?_)⟩)⟩
        · rw [dc_f (fun w => w.1 p)] at hQ
          exact hQ I (Same.rf _ _)
        · obtain ⟨b1, b2⟩ := isA_n p2
          rw [dc_t ⟨p, p2⟩] at hQ
          refine c_kgo isEv_tr h hr hW hR b1 b2 (fun I2 e2 G2 => ⟨_, rfl, ?_⟩)
          obtain ⟨g1, g2, g3⟩ := wf_goA hW (by omega) b2
          have hl := goA_le T (f (x2.toInt.toNat + g)).toInt.toNat
          have s2 : Same trL I I2 := G2.1.mono (by simp)
          rw [nI_add]
          exact ih (g + 1) _ _ I2 (by omega) (by omega) (by rw [s2 15 (by simp)]; exact h15) (fun i hi => by rw [s2 16 (by simp)]; exact h16 i hi) e2 (g2.ru (hr.ke isEv_tr G2.1)) g1 (g2.R hR) (fun I3 s3 => hQ I3 (s2.tr s3))
        · rw [dc_f (fun w => p2 w.2)] at hQ
          exact hQ I (Same.rf _ _)
      · rw [dc_f (fun w => z w.2)] at hQ; exact hQ I (Same.rf _ _)
theorem m_wouldBe_loop {N s sz : Nat} {f : Nat → Int32} (hN : N ≤ 20) (hs : s < 4) (hsz : sz ≤ 40) : ∀ (n g w : Nat) (T : Nat → Nat) (I : IH), g + n = N → w ≤ 13 * g → I 130 s = nI sz → (∀ i, i < 40 → I 131 (40 * s + i) = f i) → RM I T → WfE T → WfR T → (∀ (I2 : IH) (T2 : Nat → Nat) (y u : Int32), RM I2 T2 → (∀ j, 74 ≤ j → T2 j = T j) → Same [116, 119] I I2 → (y = 0 ∧ u = wbF f x2 sz n g T w ∨ ¬ y = 0 ∧ y = wbF f x2 sz n g T w) → J E (d + 7) mX12_wouldBe 145 [(0, .ref (eb E + 115)), (4, .int y), (5, .int u)] [] I2 Q) → J E (d + 7) mX12_wouldBe 37 [(0, .ref (eb E + 115)), (1, .int (nI s)), (2, .int x2), (3, .int (nI N)), (4, .int (nI 0)), (5, .int (nI w)), (6, .int (nI g))] [] I Q := by
  intro n
  induction n with
  | zero =>
    intro g w T I hg hw h15 h16 h hW hR hQ
    refine S_X12_wouldBe_37 _ _ _ _ _ _ ?_
    rw [nI_leI (by omega) (by omega)]
    exact ⟨fun _ => hQ I T _ _ h (fun _ _ => rfl) (Same.rf _ _) (Or.inl ⟨by decide +kernel, rfl⟩), fun q => by omega⟩
  | succ n ih =>
    intro g w T I hg hw h15 h16 h hW hR hQ
    have h1 : T 1 ≤ 16 := hW.2.2.1
    have bad : ∀ y u v : Int32, y = wbF f x2 sz (n + 1) g T w → ¬ y = 0 → J E (d + 7) mX12_wouldBe 37 [(0, .ref (eb E + 115)), (1, .int (nI s)), (2, .int x2), (3, .int (nI N)), (4, .int y), (5, .int u), (6, .int v)] [] I Q := by
      intro y u v ey y0
      have q := hQ I T y u h (fun _ _ => rfl) (Same.rf _ _) (Or.inr ⟨y0, ey⟩)
      exact S_X12_wouldBe_37 _ _ _ _ _ _ ⟨fun _ => q, fun _ => ⟨fun _ => q, fun z => absurd z y0⟩⟩
    refine S_X12_wouldBe_37 _ _ _ _ _ _ ?_
    rw [nI_leI (by omega) (by omega)]
    refine ⟨fun q => by omega, fun _ => ⟨fun z => absurd (by decide +kernel) z, fun _ => m_isItem rfl hs h15 hsz (by omega) ⟨_, rfl, bk (fun it => ?_) (fun it => ?_)⟩⟩⟩
    · obtain ⟨c1, c2, c3⟩ := itm_ix hs hsz it
      refine ⟨_, c2, by omega, ?_⟩
      rw [h16 _ c3]
      refine S_X12_wouldBe_77 _ _ _ _ _ _ (m_isItem rfl hs h15 hsz (by omega) ⟨_, rfl, bk2 (fun _ => m_isAct h hW.1 ⟨_, rfl, bk (fun p2 => m_over h hW ⟨_, rfl, bk (fun p => ?_) (fun p => ?_)⟩) (fun p2 => ?_)⟩) (fun q => absurd it q)⟩)
      · refine S_X12_wouldBe_111 _ _ _ _ _ _ (S_X12_wouldBe_117 _ _ _ _ _ _ _ ⟨fun _ => bad _ _ _ ?_ (by decide +kernel), fun z => absurd z (by decide +kernel)⟩)
        unfold wbF; rw [dc_t it, dc_f (fun w => w.1 p)]; rfl
      · obtain ⟨b1, b2⟩ := isA_n p2
        refine S_X12_wouldBe_117 _ _ _ _ _ _ _ ⟨fun z => absurd (by decide +kernel) z, fun _ => c_goesA h hW hR b1 b2 (fun I2 r2 G2 => ⟨_, rfl, ?_⟩)⟩
        obtain ⟨g1, g2, g3⟩ := wf_goA hW (by omega) b2
        have hl := goA_le T (f (x2.toInt.toNat + g)).toInt.toNat
        rw [nI_add, nI_add]
        refine ih (g + 1) _ _ I2 (by omega) (by omega) (by rw [G2.1 130 (by simp)]; exact h15) (fun i hi => by rw [G2.1 131 (by simp)]; exact h16 i hi) r2 g1 (g2.R hR) (fun I3 T3 y u r3 c3 s3 hy => hQ I3 T3 y u r3 (fun j hj => (c3 j hj).trans (g2 j (by omega))) (G2.1.tr s3) ?_)
        unfold wbF; rw [dc_t it, dc_t ⟨p, p2⟩]; exact hy
      · refine S_X12_wouldBe_111 _ _ _ _ _ _ (S_X12_wouldBe_117 _ _ _ _ _ _ _ ⟨fun _ => bad _ _ _ ?_ (by decide +kernel), fun z => absurd z (by decide +kernel)⟩)
        unfold wbF; rw [dc_t it, dc_f (fun w => p2 w.2)]; rfl
    · refine S_X12_wouldBe_77 _ _ _ _ _ _ (m_isItem rfl hs h15 hsz (by omega) ⟨_, rfl, bk2 (fun q => absurd q it) (fun _ => S_X12_wouldBe_117 _ _ _ _ _ _ _ ⟨fun _ => bad _ _ _ ?_ (by decide +kernel), fun z => absurd z (by decide +kernel)⟩)⟩)
      unfold wbF; rw [dc_f it]; rfl
theorem p_wouldBe (hI : Inv I) : Pair E (d + 40) mX11_wouldBe mX12_wouldBe [.int x1, .int x2, .int x3] [.int x1, .int x2, .int x3] I := by
  obtain ⟨T, h⟩ := id hI
  obtain ⟨a1, a2, a3, a4, a5, a6⟩ := id h
  obtain ⟨o1, o2, o3, o4, o5, o6⟩ := id a6
  by_cases ok : inr x1 0 3 ∧ inr x3 0 20
  · obtain ⟨s, hs, -, hs2⟩ := inr_n ok.1
    obtain ⟨N, hN, -, hN2⟩ := inr_n ok.2
    have es : x1.toInt.toNat = s := by rw [hs, nI_toInt (by omega)]; omega
    subst hs; subst hN
    obtain ⟨m1, m2, hc⟩ := o4.1 s (by omega)
    have ms : ∀ (I1 : IH) (Q : QT), Same trL I I1 → RM I1 T → (∀ I3, RM I3 T → Laid I3 T (I1 116 2) (I1 116 5) → Same [116, 118, 119] I1 I3 → Same [118] I1 I3 → J E (d + 40) mX12_wouldBe 37 [(0, .ref (eb E + 115)), (1, .int (nI s)), (2, .int x2), (3, .int (nI N)), (4, .int (why I s (nI 0))), (5, .int (nI 0)), (6, .int (nI 0))] [] I3 Q) → Mt E (d + 40) mX12_wouldBe [.ref (eb E + 115), .int (nI s), .int x2, .int (nI N)] I1 Q := by
      intro I1 Q s1 r1 kk
      have o4' : SheetR I1 := o4.eqs (fun a ha => s1 a (by simp; omega))
      have ew : why I1 s (nI 0) = why I s (nI 0) := by unfold why; rw [s1 14 (by simp)]
      refine S_X12_wouldBe _ _ _ (m_isSheet ⟨_, rfl, bk (fun _ => m_in1 (by omega) (by omega) ⟨_, rfl, bk2 (fun _ => m_lacks o4' rfl (by omega) ⟨_, rfl, c_layDown (fun I3 l3 s3 => ⟨rfl, ?_⟩)⟩) (fun q => absurd ok.2 q)⟩) (fun q => absurd ok.1 q)⟩)
      rw [ew]
      exact kk I3 (r1.same s3 (by simp)) (laid_of r1 l3) (s3.mono (by simp)) s3
    by_cases w : why I s (nI 0) = nI 0
    · obtain ⟨sz, hsz, c2⟩ : ∃ sz : Nat, sz ≤ 40 ∧ I 15 s = nI sz := by
        rcases hc with ⟨c1, c2⟩ | ⟨so, sz, hso, hsz, c1, c2⟩
        · exact ⟨0, by omega, c2⟩
        · exact ⟨sz, hsz, c2⟩
      obtain ⟨f, hf⟩ : ∃ f : Nat → Int32, f = fun i => I 16 (40 * s + i) := ⟨_, rfl⟩
      refine Pair.think h (wbF f x2 sz N 0 T 0) (fun Q hQ => S_X11_wouldBe _ _ _ (d_refActs ⟨_, rfl, ?_⟩)) (fun I1 r1 s1 Q hQ => ms I1 Q s1 r1 (fun I3 r3 L3 s3 s3b => ?_))
      · rw [dc_t ok, es]
        simp only [if_true]
        rw [w]
        refine ⟨fun _ => c_become isEv_tr isEv_ev (by omega) a3.1 a2.1.1 a2.2.2.1.1 (fun I2 h2 s2 e6 e9 => ⟨rfl, ?_⟩), fun z => absurd (by decide +kernel) z⟩
        have s2 : Same trL I I2 := s2.mono (by simp)
        exact x_wouldBe_loop hN2 (by omega) hsz N 0 0 T I2 (by omega) (by omega) (by rw [s2 15 (by simp)]; exact c2) (fun i hi => by rw [hf, s2 16 (by simp)]) h2 (a3.2.same s2 (fun i hi => by simp; omega)) a2.1 a2.2.1 (fun I3 s3 => hQ I3 (s2.tr s3))
      · rw [w]
        refine m_wouldBe_loop (f := f) hN2 (by omega) hsz N 0 0 T I3 (by omega) (by omega) (by rw [s3 130 (by simp), s1 130 (by simp), m2]; exact c2) (fun i hi => by rw [hf, s3 131 (by simp), s1 131 (by simp)]; exact o4.2.1 _ (by omega)) r3 a2.1 a2.2.1 (fun I4 T4 y u r4 c4 s4 hy => S_X12_wouldBe_145 _ _ (c_layBack (fun I5 b1 b2 s5 => ⟨rfl, ?_⟩)))
        obtain ⟨m1, m2, m5⟩ := laid_back (L3.same s4 (by simp)) r4 c4 b1 b2
        have := hQ I5 m1 m2 m5 ((s3.tr (s4.mono (by simp))).tr (s5.mono (by simp)))
        rcases hy with ⟨y0, eu⟩ | ⟨y0, ey⟩
        · exact ⟨fun _ => by rw [eu]; exact this, fun z => absurd y0 z⟩
        · exact ⟨fun z => absurd z y0, fun _ => by rw [ey]; exact this⟩
    · obtain ⟨z1, z2⟩ := why_z w
      refine Pair.think h (why I s (nI 0)) (fun Q hQ => S_X11_wouldBe _ _ _ (d_refActs ⟨_, rfl, ?_⟩)) (fun I1 r1 s1 Q hQ => ms I1 Q s1 r1 (fun I3 r3 L3 s3 s3b => ?_))
      · rw [dc_t ok, es]
        simp only [if_true]
        exact ⟨fun q => absurd q z1, fun _ => hQ I (Same.rf _ _)⟩
      · have fin : J E (d + 40) mX12_wouldBe 145 [(0, .ref (eb E + 115)), (4, .int (why I s (nI 0))), (5, .int (nI 0))] [] I3 Q := by
          refine S_X12_wouldBe_145 _ _ (c_layBack (fun I5 b1 b2 s5 => ⟨rfl, fun z => absurd z z2, fun _ => ?_⟩))
          obtain ⟨m1, m2, m5⟩ := laid_back L3 r3 (fun _ _ => rfl) b1 b2
          exact hQ I5 m1 m2 m5 (s3.tr (s5.mono (by simp)))
        exact S_X12_wouldBe_37 _ _ _ _ _ _ ⟨fun _ => fin, fun _ => ⟨fun _ => fin, fun z => absurd z z2⟩⟩
  · refine Pair.pure hI (-1) (fun Q hQ => S_X11_wouldBe _ _ _ (d_refActs ⟨_, rfl, ?_⟩)) (fun Q hQ => S_X12_wouldBe _ _ _ (m_isSheet ⟨_, rfl, bk (fun p1 => m_in1 (by omega) (by omega) ⟨_, rfl, bk2 (fun p2 => absurd ⟨p1, p2⟩ ok) (fun _ => hQ)⟩) (fun _ => hQ)⟩))
    rw [dc_f ok]
    exact ⟨fun q => absurd (show (0 : Int32) ≤ (-1) from q) (by decide +kernel), fun _ => hQ⟩
end P11
