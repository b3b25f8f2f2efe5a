section P1
variable {E : EE} {d : Nat} {I : IH} {Q : QT} {T : Nat → Nat} {k e g r : Nat} {x1 x2 x3 x4 : Int32}
theorem Wf.put {j v : Nat} (h : Wf T) (c : may T j v) (hj : 1 < j ∧ j < 74) : Wf (up T j v) := by
  obtain ⟨h1, h2, h3, h4, h5⟩ := h
  have n := may_n6 h1.1 c
  have n8 : j ≠ 8 := by
    unfold may at c
    have := h1.1
    rcases c with c | c | c | c | c | c | ⟨k, hk, c⟩ | c <;> omega
  refine ⟨h1.put c, h2.c (up_ne (by omega)) (fun q hq => up_ne (by omega)), ?_, ?_, ?_⟩
  · obtain ⟨a, b⟩ := h3
    refine ⟨by rw [up_ne (by omega)]; exact a, fun i hi => ?_⟩
    rw [up_ne (by omega)] at hi
    rw [up_ne (by omega), up_ne (by omega), up_ne (by omega), up_ne (by omega)]
    exact b i hi
  · rw [up_ne (by omega), up_ne (by omega)]; exact h4
  · rw [up_ne (by omega)]; exact h5
theorem set_inv {a s j v : Nat} (h : InvT I T) (ha : 33 ≤ a ∧ a ≤ 41) (hs : a = 33 → s ≠ 6 ∧ s ≠ 9) (hE : EvR (stI I a s (nI v)) 33 34 (up T j v)) (hw : Wf (up T j v)) (hj : j < 98) (h7 : j ≠ 7) (h2 : j ≠ 2) (h5 : j ≠ 5) : InvT (stI (stI I a s (nI v)) 116 j (nI v)) (up T j v) := by
  obtain ⟨a1, a2, a3, a4, a5, a6⟩ := id h
  have e116 : stI I a s (nI v) 116 = I 116 := st_ne (by omega)
  have f : ∀ q, (q = 6 ∨ q = 9) → stI I a s (nI v) 33 q = I 33 q := by
    intro q hq
    by_cases e : a = 33
    · subst e; rw [st_nj (by have := hs rfl; omega)]
    · rw [st_ne (Ne.symm e)]
  refine h.step (Same.st (by simp; omega)) hE (Same.st (by simp)) ?_ hw (up_ne (by omega)) (fun q hq => up_ne (by omega)) ?_ ?_
  · exact RM.st (a1.same (Same.st (L := [a]) (by simp)) (by simp; omega))
  · rw [f 6 (Or.inl rfl), st_nj (Ne.symm h2), e116]; exact a4
  · rw [f 9 (Or.inr rfl), st_nj (Ne.symm h5), e116]; exact a5
theorem Pair.set {Mx Mm : MD} {ax am : List Value} {a s j v : Nat} (h : InvT I T) (ha : 33 ≤ a ∧ a ≤ 41) (hs : a = 33 → s ≠ 6 ∧ s ≠ 9) (hE : EvR (stI I a s (nI v)) 33 34 (up T j v)) (hw : Wf (up T j v)) (hj : j < 98) (h7 : j ≠ 7) (h2 : j ≠ 2) (h5 : j ≠ 5)
    (hx : ∀ Q : QT, Q (some (.int (nI (T j)))) (stI I a s (nI v)) → Mt E d Mx (.ref (eb E + 0) :: ax) I Q) (hm : ∀ I1, RM I1 T → ∀ Q : QT, Q (some (.int (nI (T j)))) (stI I1 116 j (nI v)) → Mt E d Mm (.ref (eb E + 115) :: am) I1 Q) : Pair E d Mx Mm ax am I := by
  refine ⟨nI (T j), fun I1 => I1 = stI I a s (nI v), fun Q hQ => hx Q (hQ _ rfl), fun I1 e Q hQ => ?_⟩
  subst e
  exact hm _ (h.1.same (Same.st (L := [a]) (by simp)) (by simp; omega)) Q (hQ _ ⟨_, set_inv h ha hs hE hw hj h7 h2 h5⟩)
theorem gn_ev : ∀ i, i < 8 → 34 + i ≠ 33 := fun i _ => by omega
theorem p_news (hI : Inv I) : Pair E (d + 40) mX11_news mX12_news [.int x1, .int x2] [.int x1, .int x2] I := by
  obtain ⟨T, h⟩ := id hI
  by_cases ok : (0 ≤ x1.toInt ∧ x1.toInt < 16) ∧ inr x2 0 15
  · obtain ⟨j, hj1, hj2⟩ : ∃ j : Nat, x1 = nI j ∧ j < 16 := ⟨x1.toInt.toNat, x_n ok.1.1, by have := ok.1; omega⟩
    obtain ⟨v, hv, -, hv2⟩ := inr_n ok.2
    subst hj1; subst hv
    have old : I 34 j = nI (T (10 + j)) := h.2.2.1.1.2.2.2.2.2.2.2.1 j hj2
    refine Pair.set (a := 34) (s := j) (j := 10 + j) (v := v) h (by omega) (by omega) (EvR.news h.2.2.1.1 gn_ev h.2.1.1 hj2) (h.2.1.put (by unfold may; omega) (by omega)) (by omega) (by omega) (by omega) (by omega) (fun Q hQ => ?_) (fun I1 r1 Q hQ => ?_)
    · refine S_X11_news _ _ (d_put sh34 (by omega) (by omega) (fun q => absurd ok q) (fun j2 e2 _ _ => ⟨_, rfl, ?_⟩))
      have : j2 = j := ((nI_eq (by omega) (by omega)).mp e2).symm
      subst this
      rw [old]; exact hQ
    · refine S_X12_news _ _ (m_in1 (by omega) (by omega) ⟨_, rfl, bk (fun _ => m_in1 (by omega) (by omega) ⟨_, rfl, bk (fun _ => ?_) (fun q => absurd ok.2 q)⟩) (fun q => absurd ((inr_i (by omega)).mpr (by omega)) q)⟩)
      refine c_becomes (10 + j) (by rw [nI_add]) (by omega) ⟨_, rfl, ?_⟩
      rw [r1 _ (by omega) (by omega) (by omega)]; exact hQ
  · refine Pair.pure hI (-1) (fun Q hQ => S_X11_news _ _ (d_put sh34 (by omega) (by omega) (fun _ => ⟨_, rfl, hQ⟩) (fun j e1 e2 e3 => ?_))) (fun Q hQ => ?_)
    · exact absurd ⟨by rw [e1, nI_toInt (by omega)]; omega, e3⟩ ok
    · refine S_X12_news _ _ (m_in1 (by omega) (by omega) ⟨_, rfl, bk (fun p => m_in1 (by omega) (by omega) ⟨_, rfl, bk (fun p2 => absurd ⟨by unfold inr at p; omega, p2⟩ ok) (fun _ => hQ)⟩) (fun _ => hQ)⟩)
theorem p_ward (hI : Inv I) : Pair E (d + 40) mX11_ward mX12_ward [.int x1, .int x2, .int x3] [.int x1, .int x2, .int x3] I := by
  obtain ⟨T, h⟩ := id hI
  by_cases ok : inr x1 0 5 ∧ inr x2 0 1 ∧ inr x3 0 9
  · obtain ⟨w, hw, -, hw2⟩ := inr_n ok.1
    obtain ⟨u, hu, -, hu2⟩ := inr_n ok.2.1
    obtain ⟨v, hv, -, hv2⟩ := inr_n ok.2.2
    subst hw; subst hu; subst hv
    have mod : ∀ (a : Nat), (a = 26 ∨ a = 32) → (a = 26 ↔ u = 0) → ∀ I1, RM I1 T → ∀ Q : QT, Q (some (.int (nI (T (a + w))))) (stI I1 116 (a + w) (nI v)) → Mt E (d + 40) mX12_ward [.ref (eb E + 115), .int (nI w), .int (nI u), .int (nI v)] I1 Q := by
      intro a ha hau I1 r1 Q hQ
      refine S_X12_ward _ _ _ (m_isWard ⟨_, rfl, bk (fun _ => m_in1 (by omega) (by omega) ⟨_, rfl, bk (fun _ => m_isDigit ⟨_, rfl, bk (fun _ => ?_) (fun q => absurd ok.2.2 q)⟩) (fun q => absurd ok.2.1 q)⟩) (fun q => absurd ok.1 q)⟩)
      have t : ∀ b : Nat, b = a → J E (d + 40) mX12_ward 35 [(1, .int (nI w)), (3, .int (nI v))] [.int (nI b), .ref (eb E + 115)] I1 Q := by
        intro b hb
        subst hb
        refine S_X12_ward_35 _ _ _ (c_becomes (b + w) (by rw [nI_add]) (by omega) ⟨_, rfl, ?_⟩)
        rw [r1 _ (by omega) (by omega) (by omega)]; exact hQ
      rw [n0, nI_eq (by omega) (by omega)]
      exact ⟨fun q => t 32 (by omega), fun q => t 26 (by omega)⟩
    have e35 : shape[35]? = some (.inr (0, 6, [])) := sh35
    by_cases hu0 : u = 0
    · subst hu0
      have old : I 35 w = nI (T (26 + w)) := h.2.2.1.1.2.2.2.2.2.2.2.2.1 w (by omega)
      refine Pair.set (a := 35) (s := w) (j := 26 + w) (v := v) h (by omega) (by omega) (EvR.rag h.2.2.1.1 gn_ev h.2.1.1 (by omega)) (h.2.1.put (by unfold may; omega) (by omega)) (by omega) (by omega) (by omega) (by omega) (fun Q hQ => ?_) (mod 26 (by omega) (by omega))
      refine S_X11_ward _ _ _ ⟨fun _ => d_put sh35 (by omega) (by omega) (fun q => absurd ⟨by rw [nI_toInt (by omega)]; omega, ok.2.2⟩ q) (fun j2 e2 _ _ => ⟨_, rfl, ?_⟩), fun q => absurd q (by decide +kernel), fun q => absurd rfl q.1⟩
      have : j2 = w := ((nI_eq (by omega) (by omega)).mp e2).symm
      subst this
      rw [old]; exact hQ
    · have hu1 : u = 1 := by omega
      subst hu1
      have old : I 36 w = nI (T (32 + w)) := h.2.2.1.1.2.2.2.2.2.2.2.2.2.1 w (by omega)
      refine Pair.set (a := 36) (s := w) (j := 32 + w) (v := v) h (by omega) (by omega) (EvR.bear h.2.2.1.1 gn_ev h.2.1.1 (by omega)) (h.2.1.put (by unfold may; omega) (by omega)) (by omega) (by omega) (by omega) (by omega) (fun Q hQ => ?_) (mod 32 (by omega) (by omega))
      refine S_X11_ward _ _ _ ⟨fun q => absurd q (by decide +kernel), fun _ => d_put sh36 (by omega) (by omega) (fun q => absurd ⟨by rw [nI_toInt (by omega)]; omega, ok.2.2⟩ q) (fun j2 e2 _ _ => ⟨_, rfl, ?_⟩), fun q => absurd rfl q.2⟩
      have : j2 = w := ((nI_eq (by omega) (by omega)).mp e2).symm
      subst this
      rw [old]; exact hQ
  · refine Pair.pure hI (-1) (fun Q hQ => ?_) (fun Q hQ => ?_)
    · refine S_X11_ward _ _ _ ⟨fun q => d_put sh35 (by omega) (by omega) (fun _ => ⟨_, rfl, hQ⟩) (fun j e1 e2 e3 => absurd ⟨by rw [e1]; exact (inr_i (by omega)).mpr (by omega), by rw [q]; exact (inr_i (by omega)).mpr (by omega), e3⟩ ok), fun q => d_put sh36 (by omega) (by omega) (fun _ => ⟨_, rfl, hQ⟩) (fun j e1 e2 e3 => absurd ⟨by rw [e1]; exact (inr_i (by omega)).mpr (by omega), by rw [q]; exact (inr_i (by omega)).mpr (by omega), e3⟩ ok), fun _ => hQ⟩
    · exact S_X12_ward _ _ _ (m_isWard ⟨_, rfl, bk (fun p1 => m_in1 (by omega) (by omega) ⟨_, rfl, bk (fun p2 => m_isDigit ⟨_, rfl, bk (fun p3 => absurd ⟨p1, p2, p3⟩ ok) (fun _ => hQ)⟩) (fun _ => hQ)⟩) (fun _ => hQ)⟩)
theorem p_wardOf (hI : Inv I) : Pair E (d + 40) mX11_wardOf mX12_wardOf [.int x1, .int x2] [.int x1, .int x2] I := by
  obtain ⟨T, h⟩ := id hI
  by_cases ok : inr x1 0 5 ∧ inr x2 0 1
  · obtain ⟨w, hw, -, hw2⟩ := inr_n ok.1
    obtain ⟨u, hu, -, hu2⟩ := inr_n ok.2
    subst hw; subst hu
    have old1 : I 35 w = nI (T (26 + w)) := h.2.2.1.1.2.2.2.2.2.2.2.2.1 w (by omega)
    have old2 : I 36 w = nI (T (32 + w)) := h.2.2.1.1.2.2.2.2.2.2.2.2.2.1 w (by omega)
    have u01 : u = 0 ∨ u = 1 := by omega
    refine Pair.pure hI (if u = 0 then nI (T (26 + w)) else nI (T (32 + w))) (fun Q hQ => ?_) (fun Q hQ => ?_)
    · refine S_X11_wardOf _ _ (d_isWard ⟨_, rfl, bk2 (fun _ => ?_) (fun q => absurd ok.1 q)⟩)
      rw [nI_eq (by omega) (by omega), nI_eq (by omega) (by omega)]
      refine ⟨fun q => ⟨w, rfl, by omega, ?_⟩, fun q => ⟨w, rfl, by omega, ?_⟩, fun q => by omega⟩
      · rw [if_pos q] at hQ; rw [old1]; exact hQ
      · rw [if_neg (by omega)] at hQ; rw [old2]; exact hQ
    · refine S_X12_wardOf _ _ (m_isWard ⟨_, rfl, bk (fun _ => m_in1 (by omega) (by omega) ⟨_, rfl, bk (fun _ => ?_) (fun q => absurd ok.2 q)⟩) (fun q => absurd ok.1 q)⟩)
      rw [n0, nI_eq (by omega) (by omega)]
      refine ⟨fun q => ⟨32 + w, by rw [nI_add], by omega, ?_⟩, fun q => ⟨26 + w, by rw [nI_add], by omega, ?_⟩⟩
      · rw [if_neg q] at hQ; rw [h.1 _ (by omega) (by omega) (by omega)]; exact hQ
      · rw [if_pos q] at hQ; rw [h.1 _ (by omega) (by omega) (by omega)]; exact hQ
  · refine Pair.pure hI (-1) (fun Q hQ => ?_) (fun Q hQ => ?_)
    · refine S_X11_wardOf _ _ (d_isWard ⟨_, rfl, bk2 (fun p => ⟨fun q => absurd ⟨p, by rw [q]; exact (inr_i (by omega)).mpr (by omega)⟩ ok, fun q => absurd ⟨p, by rw [q]; exact (inr_i (by omega)).mpr (by omega)⟩ ok, fun _ => hQ⟩) (fun _ => hQ)⟩)
    · exact S_X12_wardOf _ _ (m_isWard ⟨_, rfl, bk (fun p1 => m_in1 (by omega) (by omega) ⟨_, rfl, bk (fun p2 => absurd ⟨p1, p2⟩ ok) (fun _ => hQ)⟩) (fun _ => hQ)⟩)
theorem p_seed (hI : Inv I) : Pair E (d + 40) mX11_seed mX12_seed [.int x1] [.int x1] I := by
  obtain ⟨T, h⟩ := id hI
  obtain ⟨a1, a2, a3, a4, a5, a6⟩ := id h
  refine ⟨I 33 9, fun I1 => I1 = stI I 33 9 x1, fun Q hQ => S_X11_seed _ (fun I1 e1 => hQ _ e1), fun I1 e Q hQ => ?_⟩
  subst e
  refine S_X12_seed _ (c_becomes 5 rfl (by omega) ⟨_, rfl, ?_⟩)
  rw [st_ne (by omega), ← a5]
  refine hQ _ ⟨T, h.step (I1 := stI I 33 9 x1) (Same.st (by simp)) (EvR.zz a3.1 gn_ev) (Same.st (by simp)) ?_ a2 rfl (fun _ _ => rfl) ?_ ?_⟩
  · exact RM.st2 (a1.same (Same.st (L := [33]) (by simp)) (by simp)) (Or.inr rfl)
  · rw [st_nj (by omega), st_nj (by omega), st_ne (by omega)]; exact a4
  · rw [st_at, st_at]
theorem p_ends (hI : Inv I) : Pair E (d + 40) mX11_ends mX12_ends [.int x1] [.int x1] I := by
  obtain ⟨T, h⟩ := id hI
  obtain ⟨a1, a2, a3, a4, a5, a6⟩ := id h
  have h0 : T 0 ≤ 16 := a2.1.2.1
  have c0 : I 33 3 = nI (T 0) := a3.1.2.1
  have c1 : I 33 2 = nI (T 1) := a3.1.1
  have m0 : I 116 0 = nI (T 0) := a1 0 (by omega) (by omega) (by omega)
  by_cases ok : inr x1 1 16
  · obtain ⟨v, hv, hv1, hv2⟩ := inr_n ok
    subst hv
    by_cases hs : T 0 ≤ v
    · have hw : Wf (up T 1 v) := by
        obtain ⟨w1, w2, w3, w4, w5⟩ := a2
        refine ⟨w1.put (by unfold may; omega), w2.c (up_ne (by omega)) (fun q hq => up_ne (by omega)), ?_, ?_, ?_⟩
        · obtain ⟨q1, q2⟩ := w3
          refine ⟨by rw [up_ne (by omega)]; exact q1, fun i hi => ?_⟩
          rw [up_ne (by omega)] at hi
          rw [up_ne (by omega), up_ne (by omega), up_ne (by omega), up_ne (by omega)]
          exact q2 i hi
        · rw [up_eq, up_ne (by omega)]; exact hs
        · rw [up_eq]; exact hv1
      refine Pair.set (a := 33) (s := 2) (j := 1) (v := v) h (by omega) (by omega) (EvR.endp a3.1 gn_ev) hw (by omega) (by omega) (by omega) (by omega) (fun Q hQ => ?_) (fun I1 r1 Q hQ => ?_)
      · refine S_X11_ends _ ?_
        rw [c0, c1, nI_ltI (by omega) (by omega), nI_leI (by omega) (by omega), nI_leI (by omega) (by omega)]
        exact ⟨fun q => by omega, fun _ => ⟨fun _ => ⟨fun _ I1 e1 => by rw [e1]; exact hQ, fun q => absurd hs q⟩, fun q => by omega⟩⟩
      · refine S_X12_ends _ (m_in1 (by omega) (by omega) ⟨_, rfl, bk2 (fun _ => ?_) (fun q => absurd ok q)⟩)
        rw [r1 0 (by omega) (by omega) (by omega), nI_leI (by omega) (by omega)]
        refine ⟨fun _ => c_becomes 1 rfl (by omega) ⟨_, rfl, ?_⟩, fun q => absurd hs q⟩
        rw [r1 1 (by omega) (by omega) (by omega)]; exact hQ
    · refine Pair.pure hI (-4) (fun Q hQ => ?_) (fun Q hQ => ?_)
      · refine S_X11_ends _ ?_
        rw [c0, nI_ltI (by omega) (by omega), nI_leI (by omega) (by omega), nI_leI (by omega) (by omega)]
        exact ⟨fun q => by omega, fun _ => ⟨fun _ => ⟨fun q => absurd q hs, fun _ => hQ⟩, fun q => by omega⟩⟩
      · refine S_X12_ends _ (m_in1 (by omega) (by omega) ⟨_, rfl, bk2 (fun _ => ?_) (fun q => absurd ok q)⟩)
        rw [m0, nI_leI (by omega) (by omega)]
        exact ⟨fun q => absurd q hs, fun _ => hQ⟩
  · refine Pair.pure hI (-1) (fun Q hQ => ?_) (fun Q hQ => ?_)
    · refine S_X11_ends _ ?_
      rw [lt_x (by omega), le_x (by omega)]
      exact ⟨fun _ => hQ, fun q => ⟨fun q2 => absurd ⟨by omega, q2⟩ ok, fun _ => hQ⟩⟩
    · exact S_X12_ends _ (m_in1 (by omega) (by omega) ⟨_, rfl, bk2 (fun p => absurd p ok) (fun _ => hQ)⟩)
end P1
