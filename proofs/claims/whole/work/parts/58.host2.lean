section P8
variable {E : EE} {d : Nat} {I : IH} {Q : QT} {T : Nat → Nat} {k e g r e1 g1 r1 : Nat} {x1 x2 x3 x4 : Int32}
theorem p_trace (hI : Inv I) : Pair E (d + 40) mX11_trace mX12_trace [.int x1] [.int x1] I := by
  obtain ⟨T, h⟩ := id hI
  obtain ⟨o1, o2, o3, o4, o5, n, hn, c1, m1, heq⟩ := id h.2.2.2.2.2
  by_cases ok : 0 ≤ x1.toInt ∧ x1.toInt < n
  · obtain ⟨j, hj, hj2⟩ : ∃ j : Nat, x1 = nI j ∧ j < n := ⟨x1.toInt.toNat, x_n ok.1, by omega⟩
    refine Pair.pure hI (I 12 j) (fun Q hQ => S_X11_trace _ ?_) (fun Q hQ => S_X12_trace _ ?_)
    · rw [c1, x_lt0, x_le (by omega)]
      exact ⟨fun q => by omega, fun _ => ⟨fun q => by omega, fun _ => ⟨j, hj, by omega, hQ⟩⟩⟩
    · rw [m1]
      refine m_in1s (by omega) ⟨_, rfl, bk (fun _ => ⟨j, hj, by omega, ?_⟩) (fun q => absurd ok q)⟩
      rw [← heq j hj2]; exact hQ
  · refine Pair.pure hI (-3) (fun Q hQ => S_X11_trace _ ?_) (fun Q hQ => S_X12_trace _ ?_)
    · rw [c1, x_lt0, x_le (by omega)]
      exact ⟨fun _ => hQ, fun q => ⟨fun _ => hQ, fun z => absurd ⟨by omega, by omega⟩ ok⟩⟩
    · rw [m1]
      exact m_in1s (by omega) ⟨_, rfl, bk (fun p => absurd p ok) (fun _ => hQ)⟩
theorem p_many (hI : Inv I) : Pair E (d + 40) mX11_many mX12_many [.int x1] [.int x1] I := by
  obtain ⟨T, h⟩ := id hI
  obtain ⟨a1, a2, a3, a4, a5, o1, o2, o3, o4, o5, o6⟩ := id h
  have hs : swn T < 256 := Nat.lt_trans (swn_lt a2.1) (by omega)
  have c0 : I 33 7 = nI (T 6) := a3.1.2.2.2.2.1
  have c1 : I 27 0 = nI (T 7) := a3.2.1
  have c2 : I 33 8 = nI (swn T) := a3.1.2.2.2.2.2.1
  have c3 : I 33 10 = nI (T 8) := a3.1.2.2.2.2.2.2.1
  have c4 : I 115 28 = I 0 9 := by obtain ⟨n, hn, b1, b2, b3⟩ := o3; rw [b1, b2]
  have c5 : I 115 6 = I 1 0 := by obtain ⟨n, hn, b1, b2, b3⟩ := o2; rw [b1, b2]
  have c6 : I 115 35 = I 11 1 := by obtain ⟨n, hn, b1, b2, b3⟩ := o6; rw [b1, b2]
  have m0 := a1.at 6 (by omega)
  have m1 := a1.at 7 (by omega)
  have m3 := a1.at 8 (by omega)
  by_cases q0 : x1 = nI 0
  · subst q0
    refine Pair.pure hI (nI (T 6)) (fun Q hQ => S_X11_many _ ⟨fun q => by rw [c0]; exact hQ, fun q => ?_, fun q => ?_, fun q => ?_, fun q => ?_, fun q => ?_, fun q => ?_, fun q => ?_⟩) (fun Q hQ => S_X12_many _ ⟨fun q => by rw [m0]; exact hQ, fun q => ?_, fun q => ?_, fun q => ?_, fun q => ?_, fun q => ?_, fun q => ?_, fun q => ?_⟩)
    all_goals exact absurd q (by decide +kernel)
  by_cases q1 : x1 = nI 1
  · subst q1
    refine Pair.pure hI (nI (T 7)) (fun Q hQ => S_X11_many _ ⟨fun q => ?_, fun q => by rw [c1]; exact hQ, fun q => ?_, fun q => ?_, fun q => ?_, fun q => ?_, fun q => ?_, fun q => ?_⟩) (fun Q hQ => S_X12_many _ ⟨fun q => ?_, fun q => by rw [m1]; exact hQ, fun q => ?_, fun q => ?_, fun q => ?_, fun q => ?_, fun q => ?_, fun q => ?_⟩)
    all_goals exact absurd q (by decide +kernel)
  by_cases q2 : x1 = nI 2
  · subst q2
    refine Pair.pure hI (nI (pc8 (swn T))) (fun Q hQ => S_X11_many _ ⟨fun q => ?_, fun q => ?_, fun q => c_bitCount _ c2 hs ⟨_, rfl, hQ⟩, fun q => ?_, fun q => ?_, fun q => ?_, fun q => ?_, fun q => ?_⟩) (fun Q hQ => S_X12_many _ ⟨fun q => ?_, fun q => ?_, fun q => c_those a1 a2.1 rfl ⟨_, rfl, c_ones _ rfl hs ⟨_, rfl, hQ⟩⟩, fun q => ?_, fun q => ?_, fun q => ?_, fun q => ?_, fun q => ?_⟩)
    all_goals exact absurd q (by decide +kernel)
  by_cases q3 : x1 = nI 3
  · subst q3
    refine Pair.pure hI (nI (T 8)) (fun Q hQ => S_X11_many _ ⟨fun q => ?_, fun q => ?_, fun q => ?_, fun q => by rw [c3]; exact hQ, fun q => ?_, fun q => ?_, fun q => ?_, fun q => ?_⟩) (fun Q hQ => S_X12_many _ ⟨fun q => ?_, fun q => ?_, fun q => ?_, fun q => by rw [m3]; exact hQ, fun q => ?_, fun q => ?_, fun q => ?_, fun q => ?_⟩)
    all_goals exact absurd q (by decide +kernel)
  by_cases q4 : x1 = nI 4
  · subst q4
    refine Pair.pure hI (I 0 9) (fun Q hQ => S_X11_many _ ⟨fun q => ?_, fun q => ?_, fun q => ?_, fun q => ?_, fun q => hQ, fun q => ?_, fun q => ?_, fun q => ?_⟩) (fun Q hQ => S_X12_many _ ⟨fun q => ?_, fun q => ?_, fun q => ?_, fun q => ?_, fun q => by rw [c4]; exact hQ, fun q => ?_, fun q => ?_, fun q => ?_⟩)
    all_goals exact absurd q (by decide +kernel)
  by_cases q5 : x1 = nI 5
  · subst q5
    refine Pair.pure hI (I 1 0) (fun Q hQ => S_X11_many _ ⟨fun q => ?_, fun q => ?_, fun q => ?_, fun q => ?_, fun q => ?_, fun q => hQ, fun q => ?_, fun q => ?_⟩) (fun Q hQ => S_X12_many _ ⟨fun q => ?_, fun q => ?_, fun q => ?_, fun q => ?_, fun q => ?_, fun q => by rw [c5]; exact hQ, fun q => ?_, fun q => ?_⟩)
    all_goals exact absurd q (by decide +kernel)
  by_cases q6 : x1 = nI 6
  · subst q6
    refine Pair.pure hI (I 11 1) (fun Q hQ => S_X11_many _ ⟨fun q => ?_, fun q => ?_, fun q => ?_, fun q => ?_, fun q => ?_, fun q => ?_, fun q => hQ, fun q => ?_⟩) (fun Q hQ => S_X12_many _ ⟨fun q => ?_, fun q => ?_, fun q => ?_, fun q => ?_, fun q => ?_, fun q => ?_, fun q => by rw [c6]; exact hQ, fun q => ?_⟩)
    all_goals exact absurd q (by decide +kernel)
  exact Pair.pure hI (-1) (fun Q hQ => S_X11_many _ ⟨fun q => absurd q q0, fun q => absurd q q1, fun q => absurd q q2, fun q => absurd q q3, fun q => absurd q q4, fun q => absurd q q5, fun q => absurd q q6, fun _ => hQ⟩) (fun Q hQ => S_X12_many _ ⟨fun q => absurd q q0, fun q => absurd q q1, fun q => absurd q q2, fun q => absurd q q3, fun q => absurd q q4, fun q => absurd q q5, fun q => absurd q q6, fun _ => hQ⟩)
/-! a sheet taken for a sort -/
/-- why a sheet can't be taken for a sort -/
noncomputable def why (I : IH) (s : Nat) (x : Int32) : Int32 := if I 14 s = (-1) then (-11) else if I 14 s = x then nI 0 else (-13)
theorem why_z {s : Nat} (h : ¬ why I s x1 = nI 0) : ¬ 0 ≤ why I s x1 ∧ ¬ why I s x1 = 0 := by
  unfold why at h ⊢
  by_cases a : I 14 s = (-1)
  · rw [if_pos a]; decide +kernel
  · rw [if_neg a] at h ⊢
    by_cases b : I 14 s = x1
    · rw [if_pos b] at h; exact absurd rfl h
    · rw [if_neg b]; decide +kernel
theorem d_refusalAs {s : Nat} (hx : x1 = nI s) (hs : s < 4) (hQ : Q (some (.int (why I s x2))) I) : Mt E d mX11_refusalAs [.ref (eb E + 0), .int x1, .int x2] I Q := by
  subst hx
  refine S_X11_refusalAs _ _ ⟨s, rfl, hs, fun q => ⟨s, rfl, hs, fun z => ?_, fun z => ?_⟩, fun q => ?_⟩
  · unfold why at hQ; rw [if_neg q, if_neg z] at hQ; exact hQ
  · unfold why at hQ; rw [if_neg q, if_pos z] at hQ; exact hQ
  · unfold why at hQ; rw [if_pos q] at hQ; exact hQ
theorem m_lacks {s : Nat} (o4 : SheetR I) (hx : x1 = nI s) (hs : s < 4) (hQ : Q (some (.int (why I s x2))) I) : Mt E d mX12_lacks [.ref (eb E + 115), .int x1, .int x2] I Q := by
  subst hx
  obtain ⟨m1, m2, hc⟩ := o4.1 s hs
  refine S_X12_lacks _ _ ?_
  refine ⟨s, rfl, hs, fun q => ⟨s, rfl, hs, fun z => ?_, fun z => ?_⟩, fun q => ?_⟩
  all_goals
    rw [m1] at q
    unfold why at hQ
  · rw [m1] at z
    rw [if_neg (fun w => by rw [w] at q; exact absurd q (by decide +kernel)), if_pos z] at hQ; exact hQ
  · rw [m1] at z
    rw [if_neg (fun w => by rw [w] at q; exact absurd q (by decide +kernel)), if_neg z] at hQ; exact hQ
  · rcases hc with ⟨c1, c2⟩ | ⟨so, sz, hso, hsz, c1, c2⟩
    · rw [if_pos c1] at hQ; exact hQ
    · rw [c1] at q; exact absurd (neg1_lt 0 so hso).2.1 q
theorem p_item (hI : Inv I) : Pair E (d + 40) mX11_item mX12_item [.int x1, .int x2, .int x3] [.int x1, .int x2, .int x3] I := by
  obtain ⟨T, h⟩ := id hI
  obtain ⟨o1, o2, o3, o4, o5, o6⟩ := id h.2.2.2.2.2
  by_cases ok : inr x1 0 3 ∧ inr x2 0 4
  · obtain ⟨s, hs, -, hs2⟩ := inr_n ok.1
    obtain ⟨m1, m2, hc⟩ := o4.1 s (by omega)
    by_cases w : why I s x2 = nI 0
    · have hsz : ∃ sz : Nat, sz ≤ 40 ∧ I 15 s = nI sz := by
        rcases hc with ⟨c1, c2⟩ | ⟨so, sz, hso, hsz, c1, c2⟩
        · exact ⟨0, by omega, c2⟩
        · exact ⟨sz, hsz, c2⟩
      obtain ⟨sz, hsz, c2⟩ := hsz
      by_cases hx : 0 ≤ x3.toInt ∧ x3.toInt < sz
      · obtain ⟨i, hi, hi2⟩ : ∃ i : Nat, x3 = nI i ∧ i < sz := ⟨x3.toInt.toNat, x_n hx.1, by have := hx; omega⟩
        obtain ⟨f1, f2, f3⟩ := sheet_ix (s := s) (i := i) (by omega) (by omega)
        refine Pair.pure hI (I 16 (40 * s + i)) (fun Q hQ => S_X11_item _ _ _ (d_isSheet ⟨_, rfl, bk (fun _ => d_isWithin (by omega) ⟨_, rfl, bk2 (fun _ => d_refusalAs hs (by omega) ⟨_, rfl, fun _ => ?_, fun q => ?_⟩) (fun q => absurd ok.2 q)⟩) (fun q => absurd ok.1 q)⟩)) (fun Q hQ => S_X12_item _ _ _ (m_isSheet ⟨_, rfl, bk (fun _ => m_in1 (by omega) (by omega) ⟨_, rfl, bk2 (fun _ => m_lacks o4 hs (by omega) ⟨_, rfl, fun _ => ⟨s, hs, by omega, ?_⟩, fun q => ?_⟩) (fun q => absurd ok.2 q)⟩) (fun q => absurd ok.1 q)⟩))
        · rw [x_lt0]
          refine ⟨fun q => by omega, fun _ => ⟨s, hs, by omega, fun _ => ⟨40 * s + i, by rw [hs, hi]; exact f1, f3, hQ⟩, fun q => ?_⟩⟩
          rw [c2, lt_x (by omega)] at q; omega
        · rw [w] at q; exact absurd (by decide +kernel) q
        · rw [m2, c2]
          refine m_in1s (by omega) ⟨_, rfl, bk (fun _ => ⟨40 * s + i, by rw [hs, hi]; exact f2, f3, ?_⟩) (fun q => absurd hx q)⟩
          rw [o4.2.1 _ f3]; exact hQ
        · rw [w] at q; exact absurd (by decide +kernel) q
      · refine Pair.pure hI (-12) (fun Q hQ => S_X11_item _ _ _ (d_isSheet ⟨_, rfl, bk (fun _ => d_isWithin (by omega) ⟨_, rfl, bk2 (fun _ => d_refusalAs hs (by omega) ⟨_, rfl, fun _ => ?_, fun q => ?_⟩) (fun q => absurd ok.2 q)⟩) (fun q => absurd ok.1 q)⟩)) (fun Q hQ => S_X12_item _ _ _ (m_isSheet ⟨_, rfl, bk (fun _ => m_in1 (by omega) (by omega) ⟨_, rfl, bk2 (fun _ => m_lacks o4 hs (by omega) ⟨_, rfl, fun _ => ⟨s, hs, by omega, ?_⟩, fun q => ?_⟩) (fun q => absurd ok.2 q)⟩) (fun q => absurd ok.1 q)⟩))
        · rw [x_lt0]
          refine ⟨fun _ => hQ, fun q0 => ⟨s, hs, by omega, fun q => ?_, fun _ => hQ⟩⟩
          rw [c2, lt_x (by omega)] at q; exact absurd ⟨by omega, q⟩ hx
        · rw [w] at q; exact absurd (by decide +kernel) q
        · rw [m2, c2]
          exact m_in1s (by omega) ⟨_, rfl, bk (fun p => absurd p hx) (fun _ => hQ)⟩
        · rw [w] at q; exact absurd (by decide +kernel) q
    · obtain ⟨z1, z2⟩ := why_z w
      exact Pair.pure hI (why I s x2) (fun Q hQ => S_X11_item _ _ _ (d_isSheet ⟨_, rfl, bk (fun _ => d_isWithin (by omega) ⟨_, rfl, bk2 (fun _ => d_refusalAs hs (by omega) ⟨_, rfl, fun q => absurd q z1, fun _ => hQ⟩) (fun q => absurd ok.2 q)⟩) (fun q => absurd ok.1 q)⟩)) (fun Q hQ => S_X12_item _ _ _ (m_isSheet ⟨_, rfl, bk (fun _ => m_in1 (by omega) (by omega) ⟨_, rfl, bk2 (fun _ => m_lacks o4 hs (by omega) ⟨_, rfl, fun q => absurd q z2, fun _ => hQ⟩) (fun q => absurd ok.2 q)⟩) (fun q => absurd ok.1 q)⟩))
  · exact Pair.pure hI (-1) (fun Q hQ => S_X11_item _ _ _ (d_isSheet ⟨_, rfl, bk (fun p1 => d_isWithin (by omega) ⟨_, rfl, bk2 (fun p2 => absurd ⟨p1, p2⟩ ok) (fun _ => hQ)⟩) (fun _ => hQ)⟩)) (fun Q hQ => S_X12_item _ _ _ (m_isSheet ⟨_, rfl, bk (fun p1 => m_in1 (by omega) (by omega) ⟨_, rfl, bk2 (fun p2 => absurd ⟨p1, p2⟩ ok) (fun _ => hQ)⟩) (fun _ => hQ)⟩))
/-! shelves -/
theorem d_isShelf (hQ : Q (some (.int (nI (bn (inr x1 0 3))))) I) : Mt E d mX11_isShelf [.int x1] I Q := by
  refine S_X11_isShelf _ ?_
  rw [x_lt0, x_le (by omega)]
  refine ⟨fun q => ?_, fun q => ⟨fun z => ?_, fun z => ?_⟩⟩
  · rw [bn_f (fun w => by have := w.1; omega)] at hQ; exact hQ
  · rw [bn_f (fun w => by have := w.2; omega)] at hQ; exact hQ
  · rw [bn_t ⟨by omega, by omega⟩] at hQ; exact hQ
def shI (I : IH) (s : Nat) (h1 n1 z1 : Int32) : IH := stI (stI (stI I 17 s h1) 18 s n1) 19 s z1
def shM (I : IH) (s : Nat) (h2 n2 : Int32) : IH := stI (stI I 132 s h2) 133 s n2
theorem d_hold {s : Nat} (hx : x1 = nI s) (hs : s < 4) (hQ : Q (some (.int (nI 1))) (shI I s x2 x3 x4)) : Mt E d mX11_hold [.ref (eb E + 0), .int x1, .int x2, .int x3, .int x4] I Q := by
  subst hx
  refine S_X11_hold _ _ _ _ ⟨s, rfl, hs, fun I1 e1 => ⟨s, rfl, hs, fun I2 e2 => ⟨s, rfl, hs, fun I3 e3 => ?_⟩⟩⟩
  rw [e3, e2, e1]; exact hQ
theorem shelf_inv {s : Nat} {h1 n1 z1 h2 n2 : Int32} (h : InvT I T) (hs : s < 4) (hok : (h1 = nI 0 ∧ h2 = (-1)) ∨ (h1 = nI 1 ∧ h2 = nI 0 ∧ ∃ n : Nat, n < 6 ∧ n1 = nI n ∧ n2 = nI n) ∨ (h1 = nI 2 ∧ ∃ so sz : Nat, so ≤ 4 ∧ sz ≤ 40 ∧ n1 = nI so ∧ z1 = nI sz ∧ h2 = nI (10 + so) ∧ n2 = nI sz)) : Inv (shM (shI I s h1 n1 z1) s h2 n2) := by
  have q : ∀ a, a ≠ 17 → a ≠ 18 → a ≠ 19 → a ≠ 132 → a ≠ 133 → shM (shI I s h1 n1 z1) s h2 n2 a = I a := fun a q1 q2 q3 q4 q5 => by unfold shM shI; rw [st_ne q5, st_ne q4, st_ne q3, st_ne q2, st_ne q1]
  obtain ⟨o1, o2, o3, o4, o5, o6⟩ := h.2.2.2.2.2
  refine ⟨T, h.oth (fun a ha => ?_) ⟨o1.eqs (by rw [q 0 (by omega) (by omega) (by omega) (by omega) (by omega)]) (by rw [q 115 (by omega) (by omega) (by omega) (by omega) (by omega)]) (fun a ha => q a (by omega) (by omega) (by omega) (by omega) (by omega)), o2.eqs (by rw [q 1 (by omega) (by omega) (by omega) (by omega) (by omega)]) (by rw [q 115 (by omega) (by omega) (by omega) (by omega) (by omega)]) (q _ (by omega) (by omega) (by omega) (by omega) (by omega)) (q _ (by omega) (by omega) (by omega) (by omega) (by omega)), o3.eqs (by rw [q 0 (by omega) (by omega) (by omega) (by omega) (by omega)]) (by rw [q 115 (by omega) (by omega) (by omega) (by omega) (by omega)]) (q _ (by omega) (by omega) (by omega) (by omega) (by omega)) (q _ (by omega) (by omega) (by omega) (by omega) (by omega)), o4.eqs (fun a ha => q a (by omega) (by omega) (by omega) (by omega) (by omega)), ?_, o6.eqs (by rw [q 11 (by omega) (by omega) (by omega) (by omega) (by omega)]) (by rw [q 115 (by omega) (by omega) (by omega) (by omega) (by omega)]) (q _ (by omega) (by omega) (by omega) (by omega) (by omega)) (q _ (by omega) (by omega) (by omega) (by omega) (by omega))⟩⟩
  · rcases ha with rfl | ha
    · exact q _ (by omega) (by omega) (by omega) (by omega) (by omega)
    · have : a ≠ 17 ∧ a ≠ 18 ∧ a ≠ 19 ∧ a ≠ 132 ∧ a ≠ 133 := by revert a; decide
      exact q a this.1 this.2.1 this.2.2.1 this.2.2.2.1 this.2.2.2.2
  · intro t ht
    have e17 : ∀ i, shM (shI I s h1 n1 z1) s h2 n2 17 i = upd (I 17) s h1 i := fun i => by unfold shM shI; rw [st_ne (by omega), st_ne (by omega), st_ne (by omega), st_ne (by omega), st_eq]
    have e18 : ∀ i, shM (shI I s h1 n1 z1) s h2 n2 18 i = upd (I 18) s n1 i := fun i => by unfold shM shI; rw [st_ne (by omega), st_ne (by omega), st_ne (by omega), st_eq, st_ne (by omega)]
    have e19 : ∀ i, shM (shI I s h1 n1 z1) s h2 n2 19 i = upd (I 19) s z1 i := fun i => by unfold shM shI; rw [st_ne (by omega), st_ne (by omega), st_eq, st_ne (by omega), st_ne (by omega)]
    have e132 : ∀ i, shM (shI I s h1 n1 z1) s h2 n2 132 i = upd (I 132) s h2 i := fun i => by unfold shM shI; rw [st_ne (by omega), st_eq, st_ne (by omega), st_ne (by omega), st_ne (by omega)]
    have e133 : ∀ i, shM (shI I s h1 n1 z1) s h2 n2 133 i = upd (I 133) s n2 i := fun i => by unfold shM shI; rw [st_eq, st_ne (by omega), st_ne (by omega), st_ne (by omega), st_ne (by omega)]
    rw [e17, e18, e19, e132, e133]
    unfold upd
    by_cases et : t = s
    · simp only [if_pos et]; exact hok
    · simp only [if_neg et]; exact o5 t ht
theorem p_shelf (hI : Inv I) : Pair E (d + 40) mX11_shelf mX12_shelf [.int x1, .int x2, .int x3] [.int x1, .int x2, .int x3] I := by
  obtain ⟨T, h⟩ := id hI
  obtain ⟨a1, a2, a3, a4, a5, a6⟩ := id h
  obtain ⟨o1, o2, o3, o4, o5, o6⟩ := id a6
  have c7 : I 33 7 = nI (T 6) := a3.1.2.2.2.2.1
  have h6 : T 6 ≤ 6 := a2.1.1
  by_cases ok : inr x1 0 3 ∧ inr x2 0 2 ∧ (x2 = nI 0 → isP T x3) ∧ (x2 = nI 1 → inr x3 0 3)
  · obtain ⟨s, hs, -, hs2⟩ := inr_n ok.1
    obtain ⟨w, hw, -, hw2⟩ := inr_n ok.2.1
    subst hs; subst hw
    rcases (show w = 0 ∨ w = 1 ∨ w = 2 by omega) with rfl | rfl | rfl
    · have hp := ok.2.2.1 rfl
      obtain ⟨n, hn, hn2⟩ := isP_n hp
      subst hn
      refine ⟨nI 1, fun I1 => I1 = shI I s (nI 1) (nI n) (nI 0), fun Q hQ => S_X11_shelf _ _ _ (d_isShelf ⟨_, rfl, bk2 (fun _ => ⟨fun _ => d_isPane c7 h6 ⟨_, rfl, bk (fun _ => d_hold rfl (by omega) ⟨_, rfl, hQ _ rfl⟩) (fun q => absurd hp q)⟩, fun q => absurd q (by decide +kernel), fun q => absurd q (by decide +kernel), fun q => absurd q (by decide +kernel)⟩) (fun q => absurd ok.1 q)⟩), fun I1 e1 Q hQ => ?_⟩
      subst e1
      have r1 : RM (shI I s (nI 1) (nI n) (nI 0)) T := fun j j1 j2 j3 => by unfold shI; rw [st_ne (by omega), st_ne (by omega), st_ne (by omega)]; exact a1 j j1 j2 j3
      refine S_X12_shelf _ _ _ (m_isSheet ⟨_, rfl, bk (fun _ => m_in1 (by omega) (by omega) ⟨_, rfl, bk (fun _ => ⟨fun q => absurd (by decide +kernel) q, fun _ => m_isPane r1 h6 ⟨_, rfl, bk (fun _ => ?_) (fun q => absurd hp q)⟩⟩) (fun q => absurd ok.2.1 q)⟩) (fun q => absurd ok.1 q)⟩)
      refine S_X12_shelf_28 _ _ _ ⟨fun _ => S_X12_shelf_42 _ _ _ ⟨fun q => absurd (by decide +kernel) q, fun _ => S_X12_shelf_82 _ _ _ _ _ ⟨s, rfl, by omega, fun I1 e1 => ⟨fun q => absurd (by decide +kernel) q, fun _ => ⟨s, rfl, by omega, fun I2 e2 => ?_⟩⟩⟩⟩, fun q => absurd q (by decide +kernel)⟩
      rw [e2, e1]
      exact hQ _ (shelf_inv h (by omega) (Or.inr (Or.inl ⟨rfl, rfl, n, by omega, rfl, rfl⟩)))
    · have hp := ok.2.2.2 rfl
      obtain ⟨n, hn, -, hn2⟩ := inr_n hp
      subst hn
      obtain ⟨m1, m2, hc⟩ := o4.1 n (by omega)
      rcases hc with ⟨c1, c2⟩ | ⟨so, sz, hso, hsz, c1, c2⟩
      · refine ⟨nI 1, fun I1 => I1 = shI I s (nI 0) (nI 0) (nI 0), fun Q hQ => S_X11_shelf _ _ _ (d_isShelf ⟨_, rfl, bk2 (fun _ => ⟨fun q => absurd q (by decide +kernel), fun _ => d_isSheet ⟨_, rfl, bk (fun _ => S_X11_holdSheet _ _ ⟨n, rfl, by omega, fun q => absurd c1 q, fun _ => d_hold rfl (by omega) ⟨_, rfl, ⟨_, rfl, hQ _ rfl⟩⟩⟩) (fun q => absurd hp q)⟩, fun q => absurd q (by decide +kernel), fun q => absurd q (by decide +kernel)⟩) (fun q => absurd ok.1 q)⟩), fun I1 e1 Q hQ => ?_⟩
        subst e1
        have u : ∀ a, a ≠ 17 → a ≠ 18 → a ≠ 19 → shI I s (nI 0) (nI 0) (nI 0) a = I a := fun a z1 z2 z3 => by unfold shI; rw [st_ne z3, st_ne z2, st_ne z1]
        refine S_X12_shelf _ _ _ (m_isSheet ⟨_, rfl, bk (fun _ => m_in1 (by omega) (by omega) ⟨_, rfl, bk (fun _ => ⟨fun _ => ?_, fun q => absurd q (by decide +kernel)⟩) (fun q => absurd ok.2.1 q)⟩) (fun q => absurd ok.1 q)⟩)
        refine S_X12_shelf_28 _ _ _ ⟨fun q => absurd rfl q, fun _ => m_isSheet ⟨_, rfl, bk2 (fun _ => S_X12_shelf_42 _ _ _ ⟨fun _ => ⟨fun q => absurd rfl q, fun _ => ⟨n, rfl, by omega, fun _ => S_X12_shelf_81 _ _ _ _ (S_X12_shelf_82 _ _ _ _ _ ⟨s, rfl, by omega, fun I1 e1 => ⟨fun _ => ⟨fun q => absurd rfl q, fun _ => ⟨n, rfl, by omega, s, rfl, by omega, fun I2 e2 => ?_⟩⟩, fun q => absurd q (by decide +kernel)⟩⟩), fun q => ?_⟩⟩, fun q => absurd q (by decide +kernel)⟩) (fun q => absurd hp q)⟩⟩
        · rw [e2, e1]
          exact hQ _ (shelf_inv h (by omega) (Or.inl ⟨rfl, rfl⟩))
        · rw [u 129 (by omega) (by omega) (by omega), m1, c1] at q; exact absurd (by decide +kernel) q
      · obtain ⟨g1, g2, g3⟩ := neg1_lt 0 so hso
        have u : ∀ a, a ≠ 17 → a ≠ 18 → a ≠ 19 → shI I s (nI 2) (nI so) (nI sz) a = I a := fun a z1 z2 z3 => by unfold shI; rw [st_ne z3, st_ne z2, st_ne z1]
        refine ⟨nI 1, fun I1 => I1 = shI I s (nI 2) (nI so) (nI sz), fun Q hQ => S_X11_shelf _ _ _ (d_isShelf ⟨_, rfl, bk2 (fun _ => ⟨fun q => absurd q (by decide +kernel), fun _ => d_isSheet ⟨_, rfl, bk (fun _ => S_X11_holdSheet _ _ ⟨n, rfl, by omega, fun _ => ⟨n, rfl, by omega, n, rfl, by omega, ?_⟩, fun q => absurd (c1.symm.trans q) g1⟩) (fun q => absurd hp q)⟩, fun q => absurd q (by decide +kernel), fun q => absurd q (by decide +kernel)⟩) (fun q => absurd ok.1 q)⟩), fun I1 e1 Q hQ => ?_⟩
        · rw [c1, c2]
          exact d_hold rfl (by omega) ⟨_, rfl, ⟨_, rfl, hQ _ rfl⟩⟩
        · subst e1
          refine S_X12_shelf _ _ _ (m_isSheet ⟨_, rfl, bk (fun _ => m_in1 (by omega) (by omega) ⟨_, rfl, bk (fun _ => ⟨fun _ => ?_, fun q => absurd q (by decide +kernel)⟩) (fun q => absurd ok.2.1 q)⟩) (fun q => absurd ok.1 q)⟩)
          refine S_X12_shelf_28 _ _ _ ⟨fun q => absurd rfl q, fun _ => m_isSheet ⟨_, rfl, bk2 (fun _ => S_X12_shelf_42 _ _ _ ⟨fun _ => ⟨fun q => absurd rfl q, fun _ => ⟨n, rfl, by omega, fun q => ?_, fun _ => ⟨n, rfl, by omega, S_X12_shelf_82 _ _ _ _ _ ⟨s, rfl, by omega, fun I1 e1 => ⟨fun _ => ⟨fun q => absurd rfl q, fun _ => ⟨n, rfl, by omega, s, rfl, by omega, fun I2 e2 => ?_⟩⟩, fun q => absurd q (by decide +kernel)⟩⟩⟩⟩⟩, fun q => absurd q (by decide +kernel)⟩) (fun q => absurd hp q)⟩⟩
          · rw [u 129 (by omega) (by omega) (by omega), m1, c1] at q; exact absurd q (nI_pos (by omega))
          · rw [e2, e1, st_ne (by omega), u 129 (by omega) (by omega) (by omega), u 130 (by omega) (by omega) (by omega), m1, m2, c1, c2, nI_add]
            exact hQ _ (shelf_inv h (by omega) (Or.inr (Or.inr ⟨rfl, so, sz, hso, hsz, rfl, rfl, rfl, rfl⟩)))
    · refine ⟨nI 1, fun I1 => I1 = shI I s (nI 0) (nI 0) (nI 0), fun Q hQ => S_X11_shelf _ _ _ (d_isShelf ⟨_, rfl, bk2 (fun _ => ⟨fun q => absurd q (by decide +kernel), fun q => absurd q (by decide +kernel), fun _ => d_hold rfl (by omega) ⟨_, rfl, hQ _ rfl⟩, fun q => absurd rfl q.2.2⟩) (fun q => absurd ok.1 q)⟩), fun I1 e1 Q hQ => ?_⟩
      subst e1
      refine S_X12_shelf _ _ _ (m_isSheet ⟨_, rfl, bk (fun _ => m_in1 (by omega) (by omega) ⟨_, rfl, bk (fun _ => ⟨fun _ => ?_, fun q => absurd q (by decide +kernel)⟩) (fun q => absurd ok.2.1 q)⟩) (fun q => absurd ok.1 q)⟩)
      refine S_X12_shelf_28 _ _ _ ⟨fun _ => S_X12_shelf_42 _ _ _ ⟨fun _ => ⟨fun _ => S_X12_shelf_81 _ _ _ _ (S_X12_shelf_82 _ _ _ _ _ ⟨s, rfl, by omega, fun I1 e1 => ⟨fun _ => ⟨fun _ => ⟨s, rfl, by omega, fun I2 e2 => ?_⟩, fun q => absurd q (by decide +kernel)⟩, fun q => absurd q (by decide +kernel)⟩⟩), fun q => absurd q (by decide +kernel)⟩, fun q => absurd q (by decide +kernel)⟩, fun q => absurd q (by decide +kernel)⟩
      rw [e2, e1]
      exact hQ _ (shelf_inv h (by omega) (Or.inl ⟨rfl, rfl⟩))
  · refine Pair.pure hI (-1) (fun Q hQ => S_X11_shelf _ _ _ (d_isShelf ⟨_, rfl, bk2 (fun p1 => ⟨fun w => ?_, fun w => ?_, fun w => ?_, fun _ => hQ⟩) (fun _ => hQ)⟩)) (fun Q hQ => S_X12_shelf _ _ _ (m_isSheet ⟨_, rfl, bk (fun p1 => m_in1 (by omega) (by omega) ⟨_, rfl, bk (fun p2 => ⟨fun w0 => ?_, fun w0 => ?_⟩) (fun _ => hQ)⟩) (fun _ => hQ)⟩))
    · refine d_isPane c7 h6 ⟨_, rfl, bk (fun p => absurd ⟨p1, by rw [w]; exact (inr_i (by omega)).mpr (by omega), fun _ => p, fun q => absurd (w.symm.trans q) (by decide +kernel)⟩ ok) (fun _ => hQ)⟩
    · refine d_isSheet ⟨_, rfl, bk (fun p => absurd ⟨p1, by rw [w]; exact (inr_i (by omega)).mpr (by omega), fun q => absurd (w.symm.trans q) (by decide +kernel), fun _ => p⟩ ok) (fun _ => hQ)⟩
    · exact absurd ⟨p1, by rw [w]; exact (inr_i (by omega)).mpr (by omega), fun q => absurd (w.symm.trans q) (by decide +kernel), fun q => absurd (w.symm.trans q) (by decide +kernel)⟩ ok
    · refine S_X12_shelf_28 _ _ _ ⟨fun w1 => absurd ⟨p1, p2, fun q => absurd q w0, fun q => absurd q w1⟩ ok, fun w1 => m_isSheet ⟨_, rfl, bk2 (fun p => absurd ⟨p1, p2, fun q => absurd q w0, fun _ => p⟩ ok) (fun _ => hQ)⟩⟩
    · refine m_isPane a1 h6 ⟨_, rfl, bk (fun p => absurd ⟨p1, p2, fun _ => p, fun q => ?_⟩ ok) (fun _ => hQ)⟩
      rw [w0] at q; exact absurd q (by decide +kernel)
/-- a shelf holds a pane that there is -/
def hasP (I : IH) (T : Nat → Nat) (s : Nat) : Prop := I 17 s = nI 1 ∧ isP T (I 18 s)
theorem d_holdsPane {s : Nat} (c7 : I 33 7 = nI (T 6)) (h6 : T 6 ≤ 6) (hx : x1 = nI s) (hs : s < 4) (hQ : Q (some (.int (nI (bn (hasP I T s))))) I) : Mt E (d + 1) mX11_holdsPane [.ref (eb E + 0), .int x1] I Q := by
  subst hx
  refine S_X11_holdsPane _ ⟨s, rfl, hs, fun q => ?_, fun q => ⟨s, rfl, hs, d_isPane c7 h6 ⟨_, rfl, bk (fun p => ?_) (fun p => ?_)⟩⟩⟩
  · rw [bn_f (fun w => q w.1)] at hQ; exact hQ
  · rw [bn_t ⟨q, p⟩] at hQ; exact hQ
  · rw [bn_f (fun w => p w.2)] at hQ; exact hQ
noncomputable def hvl (I : IH) (T : Nat → Nat) (s : Nat) : Int32 := if dc (I 132 s = 0 ∧ ¬ isP T (I 133 s)) = true then (-1) else I 132 s
theorem m_heldOn {s : Nat} (r1 : RM I T) (h6 : T 6 ≤ 6) (hx : x1 = nI s) (hs : s < 4) (hQ : Q (some (.int (hvl I T s))) I) : Mt E (d + 2) mX12_heldOn [.ref (eb E + 115), .int x1] I Q := by
  subst hx
  refine S_X12_heldOn _ ⟨s, rfl, hs, fun q => ⟨s, rfl, hs, ?_⟩, fun q => ⟨s, rfl, hs, m_isPane r1 h6 ⟨_, rfl, bk2 (fun p => ⟨s, rfl, hs, ?_⟩) (fun p => ?_)⟩⟩⟩
  · unfold hvl at hQ; rw [dc_f (fun w => q w.1)] at hQ; exact hQ
  · unfold hvl at hQ; rw [dc_f (fun w => w.2 p)] at hQ; exact hQ
  · unfold hvl at hQ; rw [dc_t ⟨q, p⟩] at hQ; exact hQ
/-- what a shelf holds, on both sides -/
theorem shelf_is {s : Nat} (o5 : ShelfR I) (hs : s < 4) : (¬ hasP I T s ∧ ¬ I 17 s = nI 2 ∧ hvl I T s = (-1)) ∨ (hasP I T s ∧ hvl I T s = nI 0 ∧ ∃ n : Nat, n < T 6 ∧ I 18 s = nI n ∧ I 133 s = nI n) ∨ (¬ hasP I T s ∧ I 17 s = nI 2 ∧ ∃ so sz : Nat, so ≤ 4 ∧ sz ≤ 40 ∧ I 18 s = nI so ∧ I 19 s = nI sz ∧ hvl I T s = nI (10 + so) ∧ I 133 s = nI sz) := by
  rcases o5 s hs with ⟨a, b⟩ | ⟨a, b, n, hn, c, c2⟩ | ⟨a, so, sz, h1, h2, c, c2, b, b2⟩
  · refine Or.inl ⟨fun w => ?_, ?_, ?_⟩
    · have := w.1; rw [a] at this; exact absurd this (by decide +kernel)
    · rw [a]; decide +kernel
    · unfold hvl; rw [dc_f (fun w => by have := w.1; rw [b] at this; exact absurd this (by decide +kernel))]; exact b
  · by_cases p : isP T (nI n)
    · obtain ⟨n2, e2, l2⟩ := isP_n p
      have : n2 < T 6 := l2
      refine Or.inr (Or.inl ⟨⟨a, by rw [c]; exact p⟩, ?_, n, ?_, c, c2⟩)
      · unfold hvl; rw [dc_f (fun w => w.2 (by rw [c2]; exact p))]; exact b
      · have := p.2; rw [nI_toInt (by omega)] at this; omega
    · refine Or.inl ⟨fun w => p (by have := w.2; rw [c] at this; exact this), by rw [a]; decide +kernel, ?_⟩
      unfold hvl; rw [dc_t ⟨by rw [b]; decide +kernel, by rw [c2]; exact p⟩]; rfl
  · refine Or.inr (Or.inr ⟨fun w => ?_, a, so, sz, h1, h2, c, c2, ?_, b2⟩)
    · have := w.1; rw [a] at this; exact absurd this (by decide +kernel)
    · unfold hvl; rw [dc_f (fun w => ?_)]; · exact b
      have := w.1; rw [b, n0, nI_eq (by omega) (by omega)] at this; omega
theorem as10 : inr (x2 - nI 10) 0 4 ↔ inr x2 10 14 := by
  constructor
  · intro h
    obtain ⟨v, hv, -, hv2⟩ := inr_n h
    have e : x2 = nI (v + 10) := by rw [← nI_add, ← hv, Int32.sub_add_cancel]
    rw [e]; exact (inr_i (by omega)).mpr (by omega)
  · intro h
    obtain ⟨v, hv, h1, h2⟩ := inr_n h
    have e : x2 - nI 10 = nI (v - 10) := by
      rw [hv, nI_z, nI_z, zI_sub, nI_z]; congr 1; omega
    rw [e]; exact (inr_i (by omega)).mpr (by omega)
theorem p_taken (hI : Inv I) : Pair E (d + 40) mX11_taken mX12_taken [.int x1, .int x2] [.int x1, .int x2] I := by
  obtain ⟨T, h⟩ := id hI
  obtain ⟨a1, a2, a3, a4, a5, a6⟩ := id h
  obtain ⟨o1, o2, o3, o4, o5, o6⟩ := id a6
  have c7 : I 33 7 = nI (T 6) := a3.1.2.2.2.2.1
  have h6 : T 6 ≤ 6 := a2.1.1
  have kd : ∀ k, k < T 6 → I 37 k = nI (T (38 + 6 * k)) := a3.1.2.2.2.2.2.2.2.2.2.2.1
  by_cases ok : inr x1 0 3 ∧ (inr x2 0 5 ∨ inr x2 10 14)
  · obtain ⟨s, hs, -, hs2⟩ := inr_n ok.1
    have key : ∀ v : Int32, (∀ Q : QT, Q (some (.int v)) I → J E (d + 40) mX11_taken 30 [(0, .ref (eb E + 0)), (1, .int x1), (2, .int x2), (3, .int (nI (bn (inr x2 0 5))))] [] I Q) → (∀ Q : QT, Q (some (.int v)) I → J E (d + 40) mX12_taken 29 [(0, .ref (eb E + 115)), (1, .int x1), (2, .int x2)] [] I Q) → Pair E (d + 40) mX11_taken mX12_taken [.int x1, .int x2] [.int x1, .int x2] I := by
      intro v k1 k2
      refine Pair.pure hI v (fun Q hQ => S_X11_taken _ _ (d_isWithin (by omega) ⟨_, rfl, d_isShelf ⟨_, rfl, bk (fun _ => ⟨fun _ => k1 Q hQ, fun z => d_isWithin (by omega) ⟨_, rfl, bk2 (fun _ => k1 Q hQ) (fun q => ?_)⟩⟩) (fun q => absurd ok.1 q)⟩⟩)) (fun Q hQ => S_X12_taken _ _ (m_isSheet ⟨_, rfl, bk (fun _ => m_in1 (by omega) (by omega) ⟨_, rfl, bk2 (fun _ => k2 Q hQ) (fun z => m_in1 (by omega) (by omega) ⟨_, rfl, bk2 (fun _ => k2 Q hQ) (fun q => ?_)⟩)⟩) (fun q => absurd ok.1 q)⟩))
      · rw [as10] at q
        rcases ok.2 with w | w
        · rw [bn_t w] at z; exact absurd z (by decide +kernel)
        · exact absurd w q
      · rcases ok.2 with w | w
        · exact absurd w z
        · exact absurd w q
    rcases shelf_is (T := T) o5 (show s < 4 by omega) with ⟨p1, p2, p3⟩ | ⟨p1, p2, n, hn, p3, p4⟩ | ⟨p1, p2, so, sz, h1, h2, p3, p4, p5, p6⟩
    · refine key (-11) (fun Q hQ => S_X11_taken_30 _ _ _ (d_holdsPane c7 h6 hs (by omega) ⟨_, rfl, bk (fun p => absurd p p1) (fun _ => ⟨s, hs, by omega, fun _ => hQ, fun q => absurd q p2⟩)⟩)) (fun Q hQ => S_X12_taken_29 _ _ (m_heldOn a1 h6 hs (by omega) ⟨_, rfl, ?_⟩))
      rw [p3]; exact ⟨fun q => absurd q (by decide +kernel), fun _ => hQ⟩
    · obtain ⟨k6, q1, q2, -⟩ := a2.1.p hn
      by_cases as5 : inr x2 0 5
      · obtain ⟨b, hb, -, hb2⟩ := inr_n as5
        have m5 : ¬ nI 10 ≤ x2 := by rw [hb, nI_leI (by omega) (by omega)]; omega
        have e1 : bn (inr x2 0 5) = 1 := bn_t as5
        have xk : ∀ (v : Int32) (Q : QT), Q (some (.int v)) I → (under (T (38 + 6 * n)) b → v = nI n) → (¬ under (T (38 + 6 * n)) b → v = (-13)) → J E (d + 40) mX11_taken 30 [(0, .ref (eb E + 0)), (1, .int x1), (2, .int x2), (3, .int (nI (bn (inr x2 0 5))))] [] I Q := by
          intro v Q hQ u1 u2
          refine S_X11_taken_30 _ _ _ (d_holdsPane c7 h6 hs (by omega) ⟨_, rfl, bk (fun _ => ⟨s, hs, by omega, fun q => ?_, fun _ => ⟨n, p3, by omega, ?_⟩⟩) (fun p => absurd p1 p)⟩)
          · rw [e1] at q; exact absurd q (by decide +kernel)
          · rw [kd n hn]
            refine c_isOrUnder _ _ rfl hb (by omega) (by omega) ⟨_, rfl, bk (fun p => ?_) (fun p => ?_)⟩
            · rw [p3, ← u1 p]; exact hQ
            · rw [← u2 p]; exact hQ
        have mk : ∀ (v : Int32) (Q : QT), Q (some (.int v)) I → (under (T (38 + 6 * n)) b → v = nI n) → (¬ under (T (38 + 6 * n)) b → v = (-13)) → J E (d + 40) mX12_taken 29 [(0, .ref (eb E + 115)), (1, .int x1), (2, .int x2)] [] I Q := by
          intro v Q hQ u1 u2
          refine S_X12_taken_29 _ _ (m_heldOn a1 h6 hs (by omega) ⟨_, rfl, ?_⟩)
          rw [p2]
          refine ⟨fun _ => ⟨fun q => absurd (by decide +kernel) q, fun _ => ⟨fun q => absurd q m5, fun _ => ⟨s, hs, by omega, c_get n 0 p4 rfl (by omega) ⟨_, rfl, c_isUnder _ _ (a1.kd (by omega)) hb (by omega) (by omega) ⟨_, rfl, bk (fun p => ⟨fun q => absurd q (by decide +kernel), fun _ => ⟨s, hs, by omega, ?_⟩⟩) (fun p => ⟨fun _ => ?_, fun q => absurd (by decide +kernel) q⟩)⟩⟩⟩⟩⟩, fun q => absurd (by decide +kernel) q⟩
          · rw [p4, ← u1 p]; exact hQ
          · rw [← u2 p]; exact hQ
        by_cases u : under (T (38 + 6 * n)) b
        · exact key (nI n) (fun Q hQ => xk _ Q hQ (fun _ => rfl) (fun w => absurd u w)) (fun Q hQ => mk _ Q hQ (fun _ => rfl) (fun w => absurd u w))
        · exact key (-13) (fun Q hQ => xk _ Q hQ (fun w => absurd w u) (fun _ => rfl)) (fun Q hQ => mk _ Q hQ (fun w => absurd w u) (fun _ => rfl))
      · have as10 : inr x2 10 14 := by rcases ok.2 with w | w; · exact absurd w as5
                                       exact w
        obtain ⟨b, hb, hb1, hb2⟩ := inr_n as10
        refine key (-13) (fun Q hQ => S_X11_taken_30 _ _ _ (d_holdsPane c7 h6 hs (by omega) ⟨_, rfl, bk (fun _ => ⟨s, hs, by omega, fun _ => hQ, fun q => ?_⟩) (fun p => absurd p1 p)⟩)) (fun Q hQ => S_X12_taken_29 _ _ (m_heldOn a1 h6 hs (by omega) ⟨_, rfl, ?_⟩))
        · rw [bn_f as5] at q; exact absurd (by decide +kernel) q
        · rw [p2]
          refine ⟨fun _ => ⟨fun q => absurd (by decide +kernel) q, fun _ => ⟨fun _ => ⟨fun _ => hQ, fun q => absurd (by decide +kernel) q⟩, fun q => ?_⟩⟩, fun q => absurd (by decide +kernel) q⟩
          rw [hb, nI_leI (by omega) (by omega)] at q; omega
    · have m0 : ¬ nI (10 + so) = 0 := by rw [n0, nI_eq (by omega) (by omega)]; omega
      have m1 : 0 ≤ nI (10 + so) := nI_pos' (by omega)
      by_cases es : x2 = nI (10 + so)
      · refine key (nI sz) (fun Q hQ => S_X11_taken_30 _ _ _ (d_holdsPane c7 h6 hs (by omega) ⟨_, rfl, bk (fun p => absurd p p1) (fun _ => ⟨s, hs, by omega, fun q => absurd p2 q, fun _ => ⟨fun q => ?_, fun _ => ⟨s, hs, by omega, fun q => ?_, fun _ => ⟨s, hs, by omega, ?_⟩⟩⟩⟩)⟩)) (fun Q hQ => S_X12_taken_29 _ _ (m_heldOn a1 h6 hs (by omega) ⟨_, rfl, ?_⟩))
        · rw [bn_f (fun w => by rw [es] at w; have := (inr_i (by omega)).mp w; omega)] at q; exact absurd (by decide +kernel) q
        · refine absurd ?_ q
          rw [p3, es, ← nI_add, nI_z, nI_z, zI_add, zI_sub]; congr 1; omega
        · rw [p4]; exact hQ
        · rw [p5]
          refine ⟨fun _ => ⟨fun _ => ⟨fun q => absurd es.symm q, fun _ => ⟨fun q => absurd q (by decide +kernel), fun _ => ⟨s, hs, by omega, ?_⟩⟩⟩, fun q => absurd q m0⟩, fun q => absurd m1 q⟩
          rw [p6]; exact hQ
      · refine key (-13) (fun Q hQ => S_X11_taken_30 _ _ _ (d_holdsPane c7 h6 hs (by omega) ⟨_, rfl, bk (fun p => absurd p p1) (fun _ => ⟨s, hs, by omega, fun q => absurd p2 q, fun _ => ⟨fun _ => hQ, fun _ => ⟨s, hs, by omega, fun _ => hQ, fun q => ?_⟩⟩⟩)⟩)) (fun Q hQ => S_X12_taken_29 _ _ (m_heldOn a1 h6 hs (by omega) ⟨_, rfl, ?_⟩))
        · refine absurd ?_ es
          rw [p3] at q
          rw [Nat.add_comm, ← nI_add, q, Int32.sub_add_cancel]
        · rw [p5]
          exact ⟨fun _ => ⟨fun _ => ⟨fun _ => ⟨fun _ => hQ, fun q => absurd (by decide +kernel) q⟩, fun q => absurd q.symm es⟩, fun q => absurd q m0⟩, fun q => absurd m1 q⟩
  · refine Pair.pure hI (-1) (fun Q hQ => S_X11_taken _ _ (d_isWithin (by omega) ⟨_, rfl, d_isShelf ⟨_, rfl, bk (fun p1 => ⟨fun z => ?_, fun z => d_isWithin (by omega) ⟨_, rfl, bk2 (fun q => ?_) (fun _ => hQ)⟩⟩) (fun _ => hQ)⟩⟩)) (fun Q hQ => S_X12_taken _ _ (m_isSheet ⟨_, rfl, bk (fun p1 => m_in1 (by omega) (by omega) ⟨_, rfl, bk2 (fun p => absurd ⟨p1, Or.inl p⟩ ok) (fun _ => m_in1 (by omega) (by omega) ⟨_, rfl, bk2 (fun p => absurd ⟨p1, Or.inr p⟩ ok) (fun _ => hQ)⟩)⟩) (fun _ => hQ)⟩))
    · refine absurd ?_ z
      rw [bn_f (fun w => ok ⟨p1, Or.inl w⟩)]; decide +kernel
    · exact absurd ⟨p1, Or.inr (as10.mp q)⟩ ok
end P8
