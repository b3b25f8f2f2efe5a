section P6
variable {E : EE} {d : Nat} {I : IH} {Q : QT} {T : Nat → Nat} {k e g r e1 g1 r1 : Nat} {x1 x2 x3 x4 : Int32}
theorem c_layDown_loop : ∀ (m k : Nat) (I2 : IH), k + m = 74 → I2 = stA I 118 (fun j => if j < k then I 116 j else I 118 j) → Q none (stA I 118 (fun j => if j < 74 then I 116 j else I 118 j)) → J E d mX12_layDown 2 [(0, .ref (eb E + 115)), (1, .int (nI k))] [] I2 Q := by
  intro m
  induction m with
  | zero =>
    intro k I2 hk e2 hQ
    refine S_X12_layDown_2 _ ?_
    rw [nI_leI (by omega) (by omega)]
    refine ⟨fun _ => ?_, fun q => by omega⟩
    rw [e2, show k = 74 by omega]; exact hQ
  | succ m ih =>
    intro k I2 hk e2 hQ
    refine S_X12_layDown_2 _ ?_
    rw [nI_leI (by omega) (by omega)]
    refine ⟨fun q => by omega, fun _ => ⟨k, rfl, by omega, k, rfl, by omega, fun I4 e4 => ?_⟩⟩
    rw [nI_add]
    refine ih (k + 1) I4 (by omega) ?_ hQ
    rw [e4, e2, sA_ne (by omega)]
    funext a
    by_cases ha : a = 118
    · subst ha
      rw [st_eq, sA_eq, sA_eq]
      funext j
      unfold upd
      by_cases h1 : j = k
      · subst h1; simp
      · by_cases h2 : j < k
        · simp [h1, h2, show j < k + 1 by omega]
        · simp [h1, h2, show ¬ j < k + 1 by omega]
    · rw [st_ne ha, sA_ne ha, sA_ne ha]
theorem c_layDown (hQ : ∀ I2, (∀ j, j < 74 → I2 118 j = I 116 j) → Same [118] I I2 → Q none I2) : Mt E d mX12_layDown [.ref (eb E + 115)] I Q := by
  refine S_X12_layDown (c_layDown_loop (I := I) 74 0 I (by omega) ?_ (hQ _ (fun j hj => by rw [sA_eq, if_pos hj]) (Same.sA (by simp))))
  funext a
  by_cases ha : a = 118
  · subst ha; rw [sA_eq]; funext j; simp
  · rw [sA_ne ha]
theorem c_layBack_loop : ∀ (m k : Nat) (I2 : IH), k + m = 74 → I2 = stA I 116 (fun j => if j < k then I 118 j else I 116 j) → Q none (stA I 116 (fun j => if j < 74 then I 118 j else I 116 j)) → J E d mX12_layBack 2 [(0, .ref (eb E + 115)), (1, .int (nI k))] [] I2 Q := by
  intro m
  induction m with
  | zero =>
    intro k I2 hk e2 hQ
    refine S_X12_layBack_2 _ ?_
    rw [nI_leI (by omega) (by omega)]
    refine ⟨fun _ => ?_, fun q => by omega⟩
    rw [e2, show k = 74 by omega]; exact hQ
  | succ m ih =>
    intro k I2 hk e2 hQ
    refine S_X12_layBack_2 _ ?_
    rw [nI_leI (by omega) (by omega)]
    refine ⟨fun q => by omega, fun _ => ⟨k, rfl, by omega, k, rfl, by omega, fun I4 e4 => ?_⟩⟩
    rw [nI_add]
    refine ih (k + 1) I4 (by omega) ?_ hQ
    rw [e4, e2, sA_ne (by omega : (118 : Nat) ≠ 116)]
    funext a
    by_cases ha : a = 116
    · subst ha
      rw [st_eq, sA_eq, sA_eq]
      funext j
      unfold upd
      by_cases h1 : j = k
      · subst h1; simp
      · by_cases h2 : j < k
        · simp [h1, h2, show j < k + 1 by omega]
        · simp [h1, h2, show ¬ j < k + 1 by omega]
    · rw [st_ne ha, sA_ne ha, sA_ne ha]
theorem c_layBack (hQ : ∀ I2, (∀ j, j < 74 → I2 116 j = I 118 j) → (∀ j, 74 ≤ j → I2 116 j = I 116 j) → Same [116] I I2 → Q none I2) : Mt E d mX12_layBack [.ref (eb E + 115)] I Q := by
  refine S_X12_layBack (c_layBack_loop (I := I) 74 0 I (by omega) ?_ (hQ _ (fun j hj => by rw [sA_eq, if_pos hj]) (fun j hj => by rw [sA_eq, if_neg (by omega)]) (Same.sA (by simp))))
  funext a
  by_cases ha : a = 116
  · subst ha; rw [sA_eq]; funext j; simp
  · rw [sA_ne ha]
/-- what was laid down -/
def Laid (I : IH) (T : Nat → Nat) (sc z : Int32) : Prop := (∀ j, j < 74 → j ≠ 2 → j ≠ 5 → I 118 j = nI (T j)) ∧ I 118 2 = sc ∧ I 118 5 = z
theorem Laid.same {I2 : IH} {sc z : Int32} {L : List Nat} (h : Laid I T sc z) (hs : Same L I I2) (hL : 118 ∉ L) : Laid I2 T sc z := by
  unfold Laid; rw [hs 118 hL]; exact h
theorem laid_of {I2 : IH} (h : RM I T) (hl : ∀ j, j < 74 → I2 118 j = I 116 j) : Laid I2 T (I 116 2) (I 116 5) := ⟨fun j h1 h2 h3 => by rw [hl j h1]; exact h j (by omega) h2 h3, hl 2 (by omega), hl 5 (by omega)⟩
/-- what is laid back, when but minutes went by -/
theorem laid_back {I2 : IH} {T2 : Nat → Nat} {sc z : Int32} (hl : Laid I T sc z) (h : RM I T2) (ha : ∀ j, 74 ≤ j → T2 j = T j) (h1 : ∀ j, j < 74 → I2 116 j = I 118 j) (h2 : ∀ j, 74 ≤ j → I2 116 j = I 116 j) : RM I2 T ∧ I2 116 2 = sc ∧ I2 116 5 = z := by
  refine ⟨fun j j1 j2 j3 => ?_, by rw [h1 2 (by omega)]; exact hl.2.1, by rw [h1 5 (by omega)]; exact hl.2.2⟩
  by_cases hj : j < 74
  · rw [h1 j hj]; exact hl.1 j hj j2 j3
  · rw [h2 j (by omega), h j j1 j2 j3, ha j (by omega)]
theorem rsN_wf : ∀ (n : Nat) (T : Nat → Nat), WfE T → T 0 ≤ T 1 → WfE (rsN n T).1 ∧ Ag T (rsN n T).1 ∧ (rsN n T).1 0 ≤ (rsN n T).1 1 := by
  intro n
  induction n with
  | zero => intro T h ho; exact ⟨h, Ag.rf T, ho⟩
  | succ n ih =>
    intro T h ho
    have h1 : T 1 ≤ 16 := h.2.2.1
    unfold rsN
    split
    · exact ⟨h, Ag.rf T, ho⟩
    · rename_i hov
      obtain ⟨g1, g2, g3⟩ := wf_goR h (by omega)
      obtain ⟨i1, i2, i3⟩ := ih (goR T).1 g1 (by rw [g3, g2 1 (by omega)]; omega)
      exact ⟨i1, g2.tr i2, i3⟩
theorem c_restOf_loop (m : Nat) (hm : m ≤ 16) : ∀ (n i w : Nat) (T : Nat → Nat) (I : IH), i + n = m → w ≤ 13 * i → RM I T → WfE T → WfR T → T 0 ≤ T 1 → (∀ I2, RM I2 (rsN n T).1 → Same [116, 119] I I2 → Q (some (.int (nI (w + (rsN n T).2)))) I2) → J E (d + 7) mX12_restOf 4 [(0, .ref (eb E + 115)), (1, .int (nI m)), (2, .int (nI w)), (3, .int (nI i))] [] I Q := by
  intro n
  induction n with
  | zero =>
    intro i w T I hi hw h hW hR ho hQ
    refine S_X12_restOf_4 _ _ _ ?_
    rw [nI_leI (by omega) (by omega)]
    exact ⟨fun _ => hQ I h (Same.rf _ _), fun q => by omega⟩
  | succ n ih =>
    intro i w T I hi hw h hW hR ho hQ
    have h1 : T 1 ≤ 16 := hW.2.2.1
    refine S_X12_restOf_4 _ _ _ ?_
    rw [nI_leI (by omega) (by omega)]
    refine ⟨fun q => by omega, fun _ => c_isOver h (by omega) (by omega) ⟨_, rfl, ?_⟩⟩
    by_cases hov : T 1 ≤ T 0
    · rw [if_pos hov]
      refine ⟨fun _ => ?_, fun q => absurd q (by decide +kernel)⟩
      have e : rsN (n + 1) T = (T, 0) := by unfold rsN; rw [if_pos hov]
      rw [e] at hQ
      exact hQ I h (Same.rf _ _)
    · rw [if_neg hov]
      refine ⟨fun q => absurd rfl q, fun _ => c_goesR h hW hR rfl (fun I2 h2 G2 => ⟨_, rfl, ?_⟩)⟩
      obtain ⟨g1, g2, g3⟩ := wf_goR hW (by omega)
      have hl := goR_le T
      rw [nI_add, nI_add]
      have e : rsN (n + 1) T = ((rsN n (goR T).1).1, (goR T).2 + (rsN n (goR T).1).2) := by
        conv => lhs; unfold rsN
        rw [if_neg hov]
      rw [e] at hQ
      refine ih (i + 1) (w + (goR T).2) (goR T).1 I2 (by omega) (by omega) h2 g1 (g2.R hR) (by rw [g3, g2 1 (by omega)]; omega) (fun I3 h3 s3 => ?_)
      have := hQ I3 h3 (G2.1.tr s3)
      rw [Nat.add_assoc]
      exact this
theorem c_restOf {x : Int32} {m : Nat} (h : RM I T) (hW : WfE T) (hR : WfR T) (ho : T 0 ≤ T 1) (hx : x = nI m) (hm : m ≤ 16) (hQ : ∀ I2, RM I2 (rsN m T).1 → Same [116, 119] I I2 → Q (some (.int (nI (rsN m T).2))) I2) : Mt E (d + 7) mX12_restOf [.ref (eb E + 115), .int x] I Q := by
  subst hx
  refine S_X12_restOf _ (c_restOf_loop m hm m 0 0 T I (by omega) (by omega) h hW hR ho (fun I2 h2 s2 => ?_))
  rw [Nat.zero_add]; exact hQ I2 h2 s2
/-! what is only thought -/
theorem Oth.eq2 {I2 : IH} (h : Oth I) (hs : ∀ a ∈ othC, a ≠ 0 → a ≠ 1 → a ≠ 11 → a ≠ 115 → I2 a = I a) (h03 : I2 0 3 = I 0 3) (h09 : I2 0 9 = I 0 9) (h10 : I2 1 0 = I 1 0) (h11 : I2 11 1 = I 11 1) (m3 : I2 115 3 = I 115 3) (m6 : I2 115 6 = I 115 6) (m28 : I2 115 28 = I 115 28) (m35 : I2 115 35 = I 115 35) : Oth I2 := by
  have q : ∀ a, a ∈ othC → a ≠ 0 → a ≠ 1 → a ≠ 11 → a ≠ 115 → I2 a = I a := hs
  obtain ⟨h1, h2, h3, h4, h5, h6⟩ := h
  refine ⟨?_, ?_, ?_, ?_, ?_, ?_⟩
  · unfold KeptR at h1 ⊢
    rw [h03, m3, q 117 (by decide) (by decide) (by decide) (by decide) (by decide), q 42 (by decide) (by decide) (by decide) (by decide) (by decide)]
    rcases h1 with h1 | ⟨a, b, K, c, dd, ee, f, gg⟩
    · exact Or.inl h1
    · refine Or.inr ⟨a, b, K, c, dd, ?_, ?_, gg⟩
      · unfold EvR at ee ⊢
        rw [q 42 (by decide) (by decide) (by decide) (by decide) (by decide), q 49 (by decide) (by decide) (by decide) (by decide) (by decide), q (49 + 1) (by decide) (by decide) (by decide) (by decide) (by decide), q (49 + 2) (by decide) (by decide) (by decide) (by decide) (by decide), q (49 + 3) (by decide) (by decide) (by decide) (by decide) (by decide), q (49 + 4) (by decide) (by decide) (by decide) (by decide) (by decide), q (49 + 5) (by decide) (by decide) (by decide) (by decide) (by decide), q (49 + 6) (by decide) (by decide) (by decide) (by decide) (by decide), q (49 + 7) (by decide) (by decide) (by decide) (by decide) (by decide)]
        exact ee
      · unfold RuR at f ⊢
        rw [q 43 (by decide) (by decide) (by decide) (by decide) (by decide), q (43 + 1) (by decide) (by decide) (by decide) (by decide) (by decide), q (43 + 2) (by decide) (by decide) (by decide) (by decide) (by decide), q (43 + 3) (by decide) (by decide) (by decide) (by decide) (by decide), q (43 + 4) (by decide) (by decide) (by decide) (by decide) (by decide)]
        exact f
  · unfold TapeR at h2 ⊢
    rw [h10, m6, q 120 (by decide) (by decide) (by decide) (by decide) (by decide), q 2 (by decide) (by decide) (by decide) (by decide) (by decide)]; exact h2
  · unfold RowsR at h3 ⊢
    rw [h09, m28, q 13 (by decide) (by decide) (by decide) (by decide) (by decide), q 128 (by decide) (by decide) (by decide) (by decide) (by decide)]; exact h3
  · unfold SheetR at h4 ⊢
    rw [q 14 (by decide) (by decide) (by decide) (by decide) (by decide), q 15 (by decide) (by decide) (by decide) (by decide) (by decide), q 16 (by decide) (by decide) (by decide) (by decide) (by decide), q 129 (by decide) (by decide) (by decide) (by decide) (by decide), q 130 (by decide) (by decide) (by decide) (by decide) (by decide), q 131 (by decide) (by decide) (by decide) (by decide) (by decide), q 121 (by decide) (by decide) (by decide) (by decide) (by decide)]; exact h4
  · unfold ShelfR at h5 ⊢
    rw [q 17 (by decide) (by decide) (by decide) (by decide) (by decide), q 18 (by decide) (by decide) (by decide) (by decide) (by decide), q 19 (by decide) (by decide) (by decide) (by decide) (by decide), q 132 (by decide) (by decide) (by decide) (by decide) (by decide), q 133 (by decide) (by decide) (by decide) (by decide) (by decide)]; exact h5
  · unfold TraceR at h6 ⊢
    rw [h11, m35, q 12 (by decide) (by decide) (by decide) (by decide) (by decide), q 134 (by decide) (by decide) (by decide) (by decide) (by decide)]; exact h6
/-- the cells of the class's evening and rules -/
def evC : List Nat := [27, 28, 29, 30, 31, 33, 34, 35, 36, 37, 38, 39, 40, 41]
theorem XE.eqs {I2 : IH} (h : XE I T) (hs : ∀ a ∈ evC, I2 a = I a) : XE I2 T := by
  obtain ⟨h1, h2⟩ := h
  refine ⟨?_, ?_⟩
  · unfold EvR at h1 ⊢
    rw [hs 33 (by decide), hs 34 (by decide), hs (34 + 1) (by decide), hs (34 + 2) (by decide), hs (34 + 3) (by decide), hs (34 + 4) (by decide), hs (34 + 5) (by decide), hs (34 + 6) (by decide), hs (34 + 7) (by decide)]
    exact h1
  · unfold RuR at h2 ⊢
    rw [hs 27 (by decide), hs (27 + 1) (by decide), hs (27 + 2) (by decide), hs (27 + 3) (by decide), hs (27 + 4) (by decide)]
    exact h2
/-- nothing that is held has changed: class's cells L1, then the reference's L2, the row is as it was -/
theorem InvT.scr {I1 I2 : IH} {L1 L2 : List Nat} (h : InvT I T) (s1 : Same L1 I I1) (s2 : Same L2 I1 I2) (d1 : ∀ a ∈ othC ++ evC, a ∉ L1 ∧ a ∉ L2) (hm : RM I2 T) (h2 : I2 116 2 = I 116 2) (h5 : I2 116 5 = I 116 5) : InvT I2 T := by
  obtain ⟨a1, a2, a3, a4, a5, a6⟩ := h
  have q : ∀ a ∈ othC ++ evC, I2 a = I a := fun a ha => by rw [s2 a (d1 a ha).2, s1 a (d1 a ha).1]
  refine ⟨hm, a2, a3.eqs (fun a ha => q a (List.mem_append_right _ ha)), ?_, ?_, a6.eqs (fun a ha => q a (List.mem_append_left _ ha))⟩
  · rw [q 33 (by decide), h2]; exact a4
  · rw [q 33 (by decide), h5]; exact a5
theorem p_on (hI : Inv I) : Pair E (d + 40) mX11_on mX12_on [.int x1] [.int x1] I := by
  obtain ⟨T, h⟩ := id hI
  obtain ⟨a1, a2, a3, a4, a5, a6⟩ := id h
  by_cases ok : inr x1 0 16
  · obtain ⟨n, hn, -, hn2⟩ := inr_n ok
    subst hn
    refine ⟨nI (rsN n T).2, fun I1 => Same [32, 57, 58, 59, 60, 61, 62, 63, 64, 65] I I1, fun Q hQ => ?_, fun I1 s1 Q hQ => ?_⟩
    · refine S_X11_on _ (d_isWithin (by omega) ⟨_, rfl, bk2 (fun _ => c_become isEv_tr isEv_ev (by omega) a3.1 a2.1.1 a2.2.2.1.1 (fun I2 h2 s2 e6 e9 => ⟨rfl, c_goRestFor isEv_tr h2 (a3.2.same s2 (fun i hi => by simp; omega)) a2.1 a2.2.1 a2.2.2.2.1 rfl hn2 (fun I3 h3 s3 => ⟨_, rfl, hQ I3 ((s2.mono (by simp)).tr (s3.mono (by simp)))⟩)⟩)) (fun q => absurd ok q)⟩)
    · have r1 : RM I1 T := a1.same s1 (by simp)
      refine S_X12_on _ (m_in1 (by omega) (by omega) ⟨_, rfl, bk2 (fun _ => c_layDown (fun I3 l3 s3 => ⟨rfl, ?_⟩)) (fun q => absurd ok q)⟩)
      have r3 : RM I3 T := r1.same s3 (by simp)
      have L3 := laid_of r1 l3
      refine c_restOf r3 a2.1 a2.2.1 a2.2.2.2.1 rfl hn2 (fun I4 r4 s4 => ⟨_, rfl, c_layBack (fun I6 b1 b2 s6 => ⟨rfl, hQ I6 ⟨T, ?_⟩⟩)⟩)
      obtain ⟨w1, w2, w3⟩ := rsN_wf n T a2.1 a2.2.2.2.1
      obtain ⟨m1, m2, m5⟩ := laid_back (L3.same s4 (by simp)) r4 (fun j hj => w2 j (by omega)) b1 b2
      refine h.scr s1 (L2 := [116, 118, 119]) (((s3.mono (by simp)).tr (s4.mono (by simp))).tr (s6.mono (by simp))) (by decide) m1 ?_ ?_
      · rw [m2, s1 116 (by simp)]
      · rw [m5, s1 116 (by simp)]
  · refine Pair.pure hI (-1) (fun Q hQ => ?_) (fun Q hQ => ?_)
    · exact S_X11_on _ (d_isWithin (by omega) ⟨_, rfl, bk2 (fun p => absurd p ok) (fun _ => hQ)⟩)
    · exact S_X12_on _ (m_in1 (by omega) (by omega) ⟨_, rfl, bk2 (fun p => absurd p ok) (fun _ => hQ)⟩)
/-! minutes by lot -/
def zNx (z : Int32) : Int32 := z * nI 1103515245 + nI 12345
def lotA (z : Int32) (n : Nat) : Nat := (zNx z).toBitVec.toNat / 65536 % (n + 1)
theorem ushr16 (x : Int32) : ushr x (nI 16) = nI (x.toBitVec.toNat / 65536) ∧ x.toBitVec.toNat / 65536 < 65536 := by
  have h1 : x.toBitVec.toNat < 4294967296 := x.toBitVec.isLt
  have h2 := pk_ushr x (nI 16) 16 (by decide +kernel)
  refine ⟨?_, by omega⟩
  apply Int32.toBitVec_inj.1
  apply BitVec.eq_of_toNat_eq
  rw [pk_tn (by omega)]
  exact h2
theorem lot_act (z : Int32) {n : Nat} (hn : n ≤ 6) : ¬ nI n + nI 1 = 0 ∧ ushr (zNx z) (nI 16) - ushr (zNx z) (nI 16) / (nI n + nI 1) * (nI n + nI 1) = nI (lotA z n) ∧ lotA z n ≤ n := by
  obtain ⟨h1, h2⟩ := ushr16 (zNx z)
  rw [nI_add, h1]
  refine ⟨?_, rem_eq (by omega) (by omega) (by omega), ?_⟩
  · rw [n0, nI_eq (by omega) (by omega)]; omega
  · unfold lotA
    have := Nat.mod_lt ((zNx z).toBitVec.toNat / 65536) (show 0 < n + 1 by omega)
    omega
theorem c_goLot (hE : isEv e g r) (h : EvR I e g T) (hr : RuR I r T) (hW : WfE T) (hWR : WfR T) (hQ : ∀ I2, EvR I2 e g (goA T (lotA (I e 9) (T 6))).1 → Same [e, g + 1, g + 4, g + 6, r + 5] I I2 → I2 e 9 = zNx (I e 9) → I2 e 6 = I e 6 + nI (goA T (lotA (I e 9) (T 6))).2 → Q (some (.int (nI (goA T (lotA (I e 9) (T 6))).2))) I2) : Mt E (d + 5) mX1_goLot [.ref (eb E + e)] I Q := by
  have hn := ev_nums hE
  obtain ⟨l1, l2, l3⟩ := lot_act (I e 9) hW.1
  refine S_X1_goLot hE (fun I1 e1 => ?_)
  have v7 : I1 e 7 = nI (T 6) := by rw [e1, st_nj (by omega)]; exact h.2.2.2.2.1
  have z1 : I1 e 9 = zNx (I e 9) := by rw [e1, st_at]; rfl
  rw [v7, z1]
  refine ⟨l1, ?_⟩
  rw [l2]
  have h1 : EvR I1 e g T := by rw [e1]; exact h.zz (ev_gn hE)
  have s1 : Same [e, g + 1, g + 4, g + 6, r + 5] I I1 := by rw [e1]; exact Same.st (by simp)
  refine c_kgo hE h1 (hr.ke hE s1) hW hWR rfl l3 (fun I2 h2 G2 => ⟨_, rfl, hQ I2 h2 (s1.tr G2.1) (by rw [G2.2.1, z1]) ?_⟩)
  rw [G2.2.2, e1, st_nj (by omega)]
theorem c_byLot (h : RM I T) (hW : WfE T) (hWR : WfR T) (hQ : ∀ I2, RM I2 (goA T (lotA (I 116 5) (T 6))).1 → Same [116, 119] I I2 → I2 116 5 = zNx (I 116 5) → I2 116 2 = I 116 2 + nI (goA T (lotA (I 116 5) (T 6))).2 → Q (some (.int (nI (goA T (lotA (I 116 5) (T 6))).2))) I2) : Mt E (d + 7) mX12_byLot [.ref (eb E + 115)] I Q := by
  obtain ⟨l1, l2, l3⟩ := lot_act (I 116 5) hW.1
  refine S_X12_byLot (fun I1 e1 => ?_)
  have r1 : RM I1 T := by rw [e1]; exact h.st2 (Or.inr rfl)
  have z1 : I1 116 5 = zNx (I 116 5) := by rw [e1, st_at]; rfl
  rw [r1.at 6 (by omega), z1]
  refine ⟨l1, ?_⟩
  rw [l2]
  have s1 : Same [116, 119] I I1 := by rw [e1]; exact Same.st (by simp)
  refine c_goesA r1 hW hWR rfl l3 (fun I2 h2 G2 => ⟨_, rfl, hQ I2 h2 (s1.tr G2.1) (by rw [G2.2.1, z1]) ?_⟩)
  rw [G2.2.2, e1, st_nj (by omega)]
theorem p_lot (hI : Inv I) : Pair E (d + 40) mX11_lot mX12_lot [] [] I := by
  obtain ⟨T, h⟩ := id hI
  obtain ⟨a1, a2, a3, a4, a5, a6⟩ := id h
  have h0 : T 0 ≤ 16 := a2.1.2.1
  have h1 : T 1 ≤ 16 := a2.1.2.2.1
  by_cases ho : T 1 ≤ T 0
  · refine Pair.pure hI (-4) (fun Q hQ => S_X11_lot (c_kisOver isEv_ev a3.1 a2.1 ⟨_, rfl, ?_⟩)) (fun Q hQ => S_X12_lot (c_isOver a1 (by omega) (by omega) ⟨_, rfl, ?_⟩))
    · rw [if_pos ho]; exact ⟨fun q => absurd q (by decide +kernel), fun _ => hQ⟩
    · rw [if_pos ho]; exact ⟨fun q => absurd q (by decide +kernel), fun _ => hQ⟩
  · obtain ⟨-, -, l3⟩ := lot_act (I 33 9) a2.1.1
    obtain ⟨g1, g2, g3⟩ := wf_goA a2.1 (by omega) l3
    obtain ⟨w1, w2, w3, w4, w5⟩ := id a2
    refine ⟨nI (goA T (lotA (I 33 9) (T 6))).2, fun I1 => EvR I1 33 34 (goA T (lotA (I 33 9) (T 6))).1 ∧ Same [32, 33, 34, 35, 36, 37, 38, 39, 40, 41] I I1 ∧ I1 33 9 = zNx (I 33 9) ∧ I1 33 6 = I 33 6 + nI (goA T (lotA (I 33 9) (T 6))).2, fun Q hQ => S_X11_lot (c_kisOver isEv_ev a3.1 a2.1 ⟨_, rfl, ?_⟩), fun I1 ⟨ev1, s1, z9, z6⟩ Q hQ => S_X12_lot (c_isOver (a1.same s1 (by simp)) (by omega) (by omega) ⟨_, rfl, ?_⟩)⟩
    · rw [if_neg ho]
      exact ⟨fun _ => c_goLot isEv_ev a3.1 a3.2 a2.1 a2.2.1 (fun I2 h2 s2 e9 e6 => ⟨_, rfl, hQ I2 ⟨h2, s2.mono (by simp), e9, e6⟩⟩), fun q => absurd rfl q⟩
    · rw [if_neg ho]
      have m5 : I1 116 5 = I 33 9 := by rw [s1 116 (by simp)]; exact a5.symm
      refine ⟨fun _ => c_byLot (a1.same s1 (by simp)) a2.1 a2.2.1 (fun I2 h2 s2 e5 e2 => ⟨_, rfl, ?_⟩), fun q => absurd rfl q⟩
      rw [m5] at h2 e5 e2 ⊢
      refine hQ I2 ⟨_, h.step s1 ev1 s2 h2 ⟨g1, g2.R w2, ?_, by rw [g3, g2 1 (by omega)]; omega, by rw [g2 1 (by omega)]; exact w5⟩ (g2 7 (by omega)) (fun j hj => g2 j (by omega)) ?_ ?_⟩
      · obtain ⟨q1, q2⟩ := w3
        refine ⟨by rw [g2 8 (by omega)]; exact q1, fun i hi => ?_⟩
        rw [g2 8 (by omega)] at hi
        rw [g2 _ (by omega), g2 _ (by omega), g2 _ (by omega), g2 _ (by omega)]
        exact q2 i hi
      · rw [z6, e2, a4, s1 116 (by simp)]
      · rw [z9, e5]
end P6
