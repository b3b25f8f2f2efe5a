section P7
variable {E : EE} {d : Nat} {I : IH} {Q : QT} {T : Nat → Nat} {k e g r e1 g1 r1 : Nat} {x1 x2 x3 x4 : Int32}
/-! each thing that is held, by its cells -/
theorem KeptR.eqs {I2 : IH} (h : KeptR I) (h0 : I2 0 3 = I 0 3) (h1 : I2 115 3 = I 115 3) (hs : ∀ a, a = 117 ∨ (42 ≤ a ∧ a ≤ 56 ∧ a ≠ 48) → I2 a = I a) : KeptR I2 := by
  unfold KeptR at h ⊢
  rw [h0, h1, hs 117 (by omega), hs 42 (by omega)]
  rcases h with h1 | ⟨a, b, K, c, dd, ee, f, gg⟩
  · exact Or.inl h1
  · refine Or.inr ⟨a, b, K, c, dd, ?_, ?_, gg⟩
    · unfold EvR at ee ⊢
      rw [hs 42 (by omega), hs 49 (by omega), hs (49 + 1) (by omega), hs (49 + 2) (by omega), hs (49 + 3) (by omega), hs (49 + 4) (by omega), hs (49 + 5) (by omega), hs (49 + 6) (by omega), hs (49 + 7) (by omega)]
      exact ee
    · unfold RuR at f ⊢
      rw [hs 43 (by omega), hs (43 + 1) (by omega), hs (43 + 2) (by omega), hs (43 + 3) (by omega), hs (43 + 4) (by omega)]
      exact f
theorem TapeR.eqs {I2 : IH} (h : TapeR I) (h0 : I2 1 0 = I 1 0) (h1 : I2 115 6 = I 115 6) (h2 : I2 120 = I 120) (h3 : I2 2 = I 2) : TapeR I2 := by
  unfold TapeR at h ⊢; rw [h0, h1, h2, h3]; exact h
theorem RowsR.eqs {I2 : IH} (h : RowsR I) (h0 : I2 0 9 = I 0 9) (h1 : I2 115 28 = I 115 28) (h2 : I2 13 = I 13) (h3 : I2 128 = I 128) : RowsR I2 := by
  unfold RowsR at h ⊢; rw [h0, h1, h2, h3]; exact h
theorem SheetR.eqs {I2 : IH} (h : SheetR I) (hs : ∀ a, a = 14 ∨ a = 15 ∨ a = 16 ∨ a = 129 ∨ a = 130 ∨ a = 131 ∨ a = 121 → I2 a = I a) : SheetR I2 := by
  unfold SheetR at h ⊢; rw [hs 14 (by omega), hs 15 (by omega), hs 16 (by omega), hs 129 (by omega), hs 130 (by omega), hs 131 (by omega), hs 121 (by omega)]; exact h
theorem ShelfR.eqs {I2 : IH} (h : ShelfR I) (hs : ∀ a, a = 17 ∨ a = 18 ∨ a = 19 ∨ a = 132 ∨ a = 133 → I2 a = I a) : ShelfR I2 := by
  unfold ShelfR at h ⊢; rw [hs 17 (by omega), hs 18 (by omega), hs 19 (by omega), hs 132 (by omega), hs 133 (by omega)]; exact h
theorem TraceR.eqs {I2 : IH} (h : TraceR I) (h0 : I2 11 1 = I 11 1) (h1 : I2 115 35 = I 115 35) (h2 : I2 12 = I 12) (h3 : I2 134 = I 134) : TraceR I2 := by
  unfold TraceR at h ⊢; rw [h0, h1, h2, h3]; exact h
/-- the evening is as it was: only what is beside it has changed -/
theorem InvT.oth {I2 : IH} (h : InvT I T) (hs : ∀ a, a = 116 ∨ a ∈ evC → I2 a = I a) (ho : Oth I2) : InvT I2 T := by
  obtain ⟨a1, a2, a3, a4, a5, a6⟩ := h
  have e116 := hs 116 (Or.inl rfl)
  have e33 := hs 33 (Or.inr (by decide))
  refine ⟨fun j h1 h2 h3 => by rw [e116]; exact a1 j h1 h2 h3, a2, a3.eqs (fun a ha => hs a (Or.inr ha)), by rw [e33, e116]; exact a4, by rw [e33, e116]; exact a5, ho⟩
/-! rows -/
theorem m_in1s {x : Int32} {n : Nat} (hn : n < 1000) (hQ : Q (some (.int (nI (bn (0 ≤ x.toInt ∧ x.toInt < n))))) I) : Mt E d mX12_in1 [.int x, .int (nI 0), .int (nI n - nI 1)] I Q := by
  refine c_in1 x.toInt 0 ((n : Int) - 1) (x_z x) (nI_z 0) (by rw [nI_z, nI_z, zI_sub]; rfl) (x_b x) (by omega) (by omega) ?_
  have e : (if (0 : Int) ≤ x.toInt ∧ x.toInt ≤ (n : Int) - 1 then 1 else 0) = bn (0 ≤ x.toInt ∧ x.toInt < n) := by
    by_cases q : 0 ≤ x.toInt ∧ x.toInt < (n : Int)
    · rw [bn_t q, if_pos (by omega)]
    · rw [bn_f q, if_neg (by omega)]
  rw [e]; exact hQ
def inRow (n : Nat) (x1 x2 : Int32) : Prop := (0 ≤ x1.toInt ∧ x1.toInt < n) ∧ inr x2 0 2
theorem d_isInRow {n : Nat} (h : I 0 9 = nI n) (hn : n ≤ 4) (hQ : Q (some (.int (nI (bn (inRow n x1 x2))))) I) : Mt E d mX11_isInRow [.ref (eb E + 0), .int x1, .int x2] I Q := by
  refine S_X11_isInRow _ _ ?_
  rw [h, x_lt0, x_le (by omega), x_lt0, x_le (by omega)]
  refine ⟨fun q => ?_, fun q => ⟨fun z => ?_, fun z => ⟨fun w => ?_, fun w => ⟨fun u => ?_, fun u => ?_⟩⟩⟩⟩
  · rw [bn_f (fun y => by have := y.1.1; omega)] at hQ; exact hQ
  · rw [bn_f (fun y => by have := y.1.2; omega)] at hQ; exact hQ
  · rw [bn_f (fun y => by have := y.2.1; omega)] at hQ; exact hQ
  · rw [bn_f (fun y => by have := y.2.2; omega)] at hQ; exact hQ
  · rw [bn_t ⟨by omega, by unfold inr; omega⟩] at hQ; exact hQ
theorem m_isRow {n : Nat} (h : I 115 28 = nI n) (hn : n ≤ 4) (hQ : Q (some (.int (nI (bn (inRow n x1 x2))))) I) : Mt E (d + 1) mX12_isRow [.ref (eb E + 115), .int x1, .int x2] I Q := by
  refine S_X12_isRow _ _ ?_
  rw [h]
  refine m_in1s (by omega) ⟨_, rfl, bk (fun p => m_in1 (by omega) (by omega) ⟨_, rfl, bk (fun p2 => ?_) (fun p2 => ?_)⟩) (fun p => ?_)⟩
  · rw [bn_t ⟨p, p2⟩] at hQ; exact hQ
  · rw [bn_f (fun y => p2 y.2)] at hQ; exact hQ
  · rw [bn_f (fun y => p y.1)] at hQ; exact hQ
theorem row_ix {n : Nat} (hn : n ≤ 4) (h : inRow n x1 x2) : ∃ j : Nat, j < 3 * n ∧ x1 * nI 3 + x2 = nI j ∧ nI 3 * x1 + x2 = nI j := by
  obtain ⟨b, hb, -, hb2⟩ := inr_n h.2
  obtain ⟨a, ha, ha2⟩ : ∃ a : Nat, x1 = nI a ∧ a < n := ⟨x1.toInt.toNat, x_n h.1.1, by have := h.1; omega⟩
  subst ha; subst hb
  refine ⟨3 * a + b, by omega, ?_, by rw [nI_mul, nI_add]⟩
  rw [nI_mul, nI_add]; congr 1; omega
theorem p_row (hI : Inv I) : Pair E (d + 40) mX11_row mX12_row [.int x1, .int x2] [.int x1, .int x2] I := by
  obtain ⟨T, h⟩ := id hI
  obtain ⟨n, hn, h9, h28, heq⟩ := h.2.2.2.2.2.2.2.1
  by_cases ok : inRow n x1 x2
  · obtain ⟨j, hj, e1, e2⟩ := row_ix hn ok
    refine Pair.pure hI (I 13 j) (fun Q hQ => S_X11_row _ _ (d_isInRow h9 hn ⟨_, rfl, bk (fun _ => ⟨j, e1, by omega, hQ⟩) (fun q => absurd ok q)⟩)) (fun Q hQ => S_X12_row _ _ (m_isRow h28 hn ⟨_, rfl, bk (fun _ => ⟨j, e2, by omega, ?_⟩) (fun q => absurd ok q)⟩))
    rw [← heq j hj]; exact hQ
  · exact Pair.pure hI (-9) (fun Q hQ => S_X11_row _ _ (d_isInRow h9 hn ⟨_, rfl, bk (fun p => absurd p ok) (fun _ => hQ)⟩)) (fun Q hQ => S_X12_row _ _ (m_isRow h28 hn ⟨_, rfl, bk (fun p => absurd p ok) (fun _ => hQ)⟩))
theorem p_alterRow (hI : Inv I) : Pair E (d + 40) mX11_alterRow mX12_alterRow [.int x1, .int x2, .int x3] [.int x1, .int x2, .int x3] I := by
  obtain ⟨T, h⟩ := id hI
  obtain ⟨n, hn, h9, h28, heq⟩ := h.2.2.2.2.2.2.2.1
  by_cases ok : inRow n x1 x2
  · obtain ⟨j, hj, e1, e2⟩ := row_ix hn ok
    refine ⟨I 13 j, fun I1 => I1 = stI I 13 j x3, fun Q hQ => S_X11_alterRow _ _ _ (d_isInRow h9 hn ⟨_, rfl, bk2 (fun _ => ⟨j, e1, by omega, j, e1, by omega, fun I6 e6 => hQ I6 e6⟩) (fun q => absurd ok q)⟩), fun I1 q1 Q hQ => ?_⟩
    subst q1
    refine S_X12_alterRow _ _ _ (m_isRow (by rw [st_ne (by omega)]; exact h28) hn ⟨_, rfl, bk2 (fun _ => ⟨j, e2, by omega, j, e2, by omega, fun I6 e6 => ?_⟩) (fun q => absurd ok q)⟩)
    rw [st_ne (by omega), ← heq j hj]
    obtain ⟨o1, o2, o3, o4, o5, o6⟩ := h.2.2.2.2.2
    have q : ∀ a, a ≠ 13 → a ≠ 128 → I6 a = I a := fun a h1 h2 => by rw [e6, st_ne h2, st_ne h1]
    refine hQ I6 ⟨T, h.oth (fun a ha => q a (by rcases ha with rfl | ha; · omega
                                                revert a; decide) (by rcases ha with rfl | ha; · omega
                                                                      revert a; decide)) ⟨o1.eqs (by rw [q 0 (by omega) (by omega)]) (by rw [q 115 (by omega) (by omega)]) (fun a ha => q a (by omega) (by omega)), o2.eqs (by rw [q 1 (by omega) (by omega)]) (by rw [q 115 (by omega) (by omega)]) (q _ (by omega) (by omega)) (q _ (by omega) (by omega)), ⟨n, hn, by rw [q 0 (by omega) (by omega)]; exact h9, by rw [q 115 (by omega) (by omega)]; exact h28, fun i hi => ?_⟩, o4.eqs (fun a ha => q a (by omega) (by omega)), o5.eqs (fun a ha => q a (by omega) (by omega)), o6.eqs (by rw [q 11 (by omega) (by omega)]) (by rw [q 115 (by omega) (by omega)]) (q _ (by omega) (by omega)) (q _ (by omega) (by omega))⟩⟩
    rw [e6, st_ne (by omega)]
    by_cases ei : i = j
    · subst ei; rw [st_at, st_at]
    · rw [st_nj ei, st_nj ei, st_ne (by omega)]; exact heq i hi
  · exact Pair.pure hI (-9) (fun Q hQ => S_X11_alterRow _ _ _ (d_isInRow h9 hn ⟨_, rfl, bk2 (fun p => absurd p ok) (fun _ => hQ)⟩)) (fun Q hQ => S_X12_alterRow _ _ _ (m_isRow h28 hn ⟨_, rfl, bk2 (fun p => absurd p ok) (fun _ => hQ)⟩))
/-! sheets -/
theorem d_isSheet (hQ : Q (some (.int (nI (bn (inr x1 0 3))))) I) : Mt E d mX11_isSheet [.int x1] I Q := by
  refine S_X11_isSheet _ ?_
  rw [x_lt0, x_le (by omega)]
  refine ⟨fun q => ?_, fun q => ⟨fun z => ?_, fun z => ?_⟩⟩
  · rw [bn_f (fun w => by have := w.1; omega)] at hQ; exact hQ
  · rw [bn_f (fun w => by have := w.2; omega)] at hQ; exact hQ
  · rw [bn_t ⟨by omega, by omega⟩] at hQ; exact hQ
theorem m_isSheet (hQ : Q (some (.int (nI (bn (inr x1 0 3))))) I) : Mt E (d + 1) mX12_isSheet [.int x1] I Q := S_X12_isSheet _ (m_in1 (by omega) (by omega) ⟨_, rfl, bz _, hQ⟩)
theorem neg1_lt (x : Int32) (so : Nat) (h : so ≤ 4) : ¬ nI so = (-1) ∧ 0 ≤ nI so ∧ ¬ (0 : Int32) ≤ (-1) := by
  refine ⟨?_, nI_pos' (by omega), by decide +kernel⟩
  rcases (show so = 0 ∨ so = 1 ∨ so = 2 ∨ so = 3 ∨ so = 4 by omega) with rfl | rfl | rfl | rfl | rfl <;> decide +kernel
/-- a value narrowed to a sort -/
def nrw (x : Int32) (so : Nat) : Int32 := if so = 0 then x.toInt8.toInt32 else if so = 1 then x.toInt16.toInt32 else if so = 4 then (if x = 0 then nI 0 else nI 1) else x
theorem d_narrowed {so : Nat} (h : x2 = nI so) (hs : so ≤ 4) (hQ : Q (some (.int (nrw x1 so))) I) : Mt E d mX11_narrowed [.int x1, .int x2] I Q := by
  subst h
  have ke : ∀ c : Nat, c < 100 → (nI so = nI c ↔ so = c) := fun c hc => nI_eq (by omega) (by omega)
  refine S_X11_narrowed _ _ ?_
  rw [ke 0 (by omega), ke 1 (by omega), ke 2 (by omega), ke 3 (by omega), ke 4 (by omega)]
  refine ⟨fun q => ?_, fun q => ?_, fun q => ?_, fun q => ?_, fun q => ⟨fun z => ?_, fun z => ?_⟩, fun q => by omega⟩
  · simpa [nrw, q] using hQ
  · simpa [nrw, q] using hQ
  · simpa [nrw, q] using hQ
  · simpa [nrw, q] using hQ
  · simpa [nrw, q, z] using hQ
  · simpa [nrw, q, z] using hQ
theorem m_narrowed {so : Nat} (h : x2 = nI so) (hs : so ≤ 4) (hQ : Q (some (.int (nrw x1 so))) I) : Mt E d mX12_narrowed [.int x1, .int x2] I Q := by
  subst h
  have ke : ∀ c : Nat, c < 100 → (nI so = nI c ↔ so = c) := fun c hc => nI_eq (by omega) (by omega)
  refine S_X12_narrowed _ _ ?_
  rw [n0, ke 0 (by omega), ke 1 (by omega), ke 4 (by omega)]
  refine ⟨fun q => ⟨fun q1 => ⟨fun q4 => ?_, fun q4 => ⟨fun z => ?_, fun z => ?_⟩⟩, fun q1 => ?_⟩, fun q => ?_⟩
  · simpa [nrw, q, q1, q4] using hQ
  · rw [← n0] at z; simpa [nrw, q4, z] using hQ
  · rw [← n0] at z; simpa [nrw, q4, z] using hQ
  · simpa [nrw, q1] using hQ
  · simpa [nrw, q] using hQ
theorem sheet_ix {s i : Nat} (hs : s < 4) (hi : i < 40) : nI s * nI 40 + nI i = nI (40 * s + i) ∧ nI 40 * nI s + nI i = nI (40 * s + i) ∧ 40 * s + i < 160 := by
  refine ⟨?_, by rw [nI_mul, nI_add], by omega⟩
  rw [nI_mul, nI_add]; congr 1; omega
theorem p_write (hI : Inv I) : Pair E (d + 40) mX11_write mX12_write [.int x1, .int x2, .int x3] [.int x1, .int x2, .int x3] I := by
  obtain ⟨T, h⟩ := id hI
  obtain ⟨o1, o2, o3, o4, o5, o6⟩ := id h.2.2.2.2.2
  by_cases ok : inr x1 0 3
  · obtain ⟨s, hs, -, hs2⟩ := inr_n ok
    subst hs
    obtain ⟨m1, m2, hc⟩ := o4.1 s (by omega)
    rcases hc with ⟨c1, c2⟩ | ⟨so, sz, hso, hsz, c1, c2⟩
    · refine Pair.pure hI (-11) (fun Q hQ => S_X11_write _ _ _ (d_isSheet ⟨_, rfl, bk2 (fun _ => ⟨s, rfl, by omega, fun q => absurd c1 q, fun _ => hQ⟩) (fun q => absurd ok q)⟩)) (fun Q hQ => S_X12_write _ _ _ (m_isSheet ⟨_, rfl, bk2 (fun _ => ⟨s, rfl, by omega, fun q => ?_, fun _ => hQ⟩) (fun q => absurd ok q)⟩))
      rw [m1, c1] at q; exact absurd q (by decide +kernel)
    · obtain ⟨g1, g2, g3⟩ := neg1_lt 0 so hso
      by_cases hx : 0 ≤ x2.toInt ∧ x2.toInt < sz
      · obtain ⟨i, hi, hi2⟩ : ∃ i : Nat, x2 = nI i ∧ i < sz := ⟨x2.toInt.toNat, x_n hx.1, by have := hx; omega⟩
        subst hi
        obtain ⟨f1, f2, f3⟩ := sheet_ix (s := s) (i := i) (by omega) (by omega)
        refine ⟨nI 1, fun I1 => I1 = stI I 16 (40 * s + i) (nrw x3 so), fun Q hQ => S_X11_write _ _ _ (d_isSheet ⟨_, rfl, bk2 (fun _ => ⟨s, rfl, by omega, fun _ => ⟨fun q => absurd q (nI_pos (by omega)), fun _ => ⟨s, rfl, by omega, fun _ => ⟨s, rfl, by omega, ?_⟩, fun q => absurd (by rw [c2, nI_ltI (by omega) (by omega)]; exact hi2) q⟩⟩, fun q => absurd (c1.symm.trans q) g1⟩) (fun q => absurd ok q)⟩), fun I1 q1 Q hQ => ?_⟩
        · exact d_narrowed c1 hso ⟨_, rfl, 40 * s + i, f1, f3, fun I14 e14 => hQ I14 e14⟩
        · subst q1
          have w : ∀ a, a ≠ 16 → stI I 16 (40 * s + i) (nrw x3 so) a = I a := fun a ha => st_ne ha
          refine S_X12_write _ _ _ (m_isSheet ⟨_, rfl, bk2 (fun _ => ⟨s, rfl, by omega, fun _ => ⟨s, rfl, by omega, ?_⟩, fun q => ?_⟩) (fun q => absurd ok q)⟩)
          · rw [w 130 (by omega), m2, c2]
            refine m_in1s (by omega) ⟨_, rfl, bk2 (fun _ => ⟨s, rfl, by omega, ?_⟩) (fun q => absurd hx q)⟩
            rw [w 129 (by omega), m1, c1]
            refine m_narrowed rfl hso ⟨_, rfl, 40 * s + i, f2, f3, fun I16 e16 => ?_⟩
            have q : ∀ a, a ≠ 16 → a ≠ 131 → I16 a = I a := fun a h1 h2 => by rw [e16, st_ne h2, st_ne h1]
            refine hQ I16 ⟨T, h.oth (fun a ha => q a (by rcases ha with rfl | ha; · omega
                                                         revert a; decide) (by rcases ha with rfl | ha; · omega
                                                                               revert a; decide)) ⟨o1.eqs (by rw [q 0 (by omega) (by omega)]) (by rw [q 115 (by omega) (by omega)]) (fun a ha => q a (by omega) (by omega)), o2.eqs (by rw [q 1 (by omega) (by omega)]) (by rw [q 115 (by omega) (by omega)]) (q _ (by omega) (by omega)) (q _ (by omega) (by omega)), o3.eqs (by rw [q 0 (by omega) (by omega)]) (by rw [q 115 (by omega) (by omega)]) (q _ (by omega) (by omega)) (q _ (by omega) (by omega)), ⟨?_, fun j hj => ?_, by rw [q 121 (by omega) (by omega)]; exact o4.2.2⟩, o5.eqs (fun a ha => q a (by omega) (by omega)), o6.eqs (by rw [q 11 (by omega) (by omega)]) (by rw [q 115 (by omega) (by omega)]) (q _ (by omega) (by omega)) (q _ (by omega) (by omega))⟩⟩
            · rw [q 129 (by omega) (by omega), q 130 (by omega) (by omega), q 14 (by omega) (by omega), q 15 (by omega) (by omega)]; exact o4.1
            · rw [e16]
              by_cases ej : j = 40 * s + i
              · subst ej; rw [st_at, st_ne (by omega), st_at]
              · rw [st_nj ej, st_ne (by omega), st_ne (by omega), st_nj ej]; exact o4.2.1 j hj
          · rw [w 129 (by omega), m1, c1] at q; exact absurd g2 q
      · refine Pair.pure hI (-12) (fun Q hQ => S_X11_write _ _ _ (d_isSheet ⟨_, rfl, bk2 (fun _ => ⟨s, rfl, by omega, fun _ => ⟨fun _ => hQ, fun q => ⟨s, rfl, by omega, fun z => ?_, fun _ => hQ⟩⟩, fun q => absurd (c1.symm.trans q) g1⟩) (fun q => absurd ok q)⟩)) (fun Q hQ => S_X12_write _ _ _ (m_isSheet ⟨_, rfl, bk2 (fun _ => ⟨s, rfl, by omega, fun _ => ⟨s, rfl, by omega, ?_⟩, fun q => ?_⟩) (fun q => absurd ok q)⟩))
        · rw [c2, lt_x (by omega)] at z
          rw [x_lt0] at q
          exact absurd ⟨by omega, z⟩ hx
        · rw [m2, c2]
          exact m_in1s (by omega) ⟨_, rfl, bk2 (fun p => absurd p hx) (fun _ => hQ)⟩
        · rw [m1, c1] at q; exact absurd g2 q
  · exact Pair.pure hI (-1) (fun Q hQ => S_X11_write _ _ _ (d_isSheet ⟨_, rfl, bk2 (fun p => absurd p ok) (fun _ => hQ)⟩)) (fun Q hQ => S_X12_write _ _ _ (m_isSheet ⟨_, rfl, bk2 (fun p => absurd p ok) (fun _ => hQ)⟩))
end P7
