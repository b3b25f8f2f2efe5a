section P10
variable {E : EE} {d : Nat} {I : IH} {Q : QT} {T : Nat → Nat} {k e g r : Nat} {x1 x2 x3 x4 : Int32}
/-- the tape of the class behind k bytes more -/
def fdX (I : IH) (x : Int64) (n k : Nat) : IH := stA (stI I 1 0 (nI (n + k))) 2 (fun j => if n ≤ j ∧ j < n + k then (nI (btN x (j - n))).toInt8.toInt32 else I 2 j)
def fdM (I : IH) (x : Int64) (n k : Nat) : IH := stA (stI I 115 6 (nI (n + k))) 120 (fun j => if n ≤ j ∧ j < n + k then nI (btN x (j - n)) else I 120 j)
theorem st_self {a j : Nat} {v : Int32} (h : I a j = v) : stI I a j v = I := by
  funext b
  by_cases hb : b = a
  · subst hb; rw [st_eq]; funext i; unfold upd; split
    · rename_i hi; rw [hi]; exact h.symm
    · rfl
  · rw [st_ne hb]
theorem d_feed_loop {x : Int64} {n m : Nat} (hm : m ≤ 8) (hn : n + m ≤ 200) (hQ : Q (some (.int (nI (n + m)))) (fdX I x n m)) : ∀ (c k : Nat) (I2 : IH), k + c = m → I2 = fdX I x n k → J E (d + 1) mX11_feed 34 [(0, .ref (eb E + 0)), (1, .long x), (3, .int (nI m)), (4, .int (nI k))] [] I2 Q := by
  intro c
  induction c with
  | zero =>
    intro k I2 hk e2
    refine S_X11_feed_34 _ _ _ ?_
    rw [nI_leI (by omega) (by omega)]
    refine ⟨fun _ => ?_, fun q => by omega⟩
    have : k = m := by omega
    subst this
    rw [e2]
    have e : fdX I x n k 1 0 = nI (n + k) := by unfold fdX; rw [sA_ne (by omega), st_at]
    rw [e]; exact hQ
  | succ c ih =>
    intro k I2 hk e2
    have e10 : I2 1 0 = nI (n + k) := by rw [e2]; unfold fdX; rw [sA_ne (by omega), st_at]
    refine S_X11_feed_34 _ _ _ ?_
    rw [nI_leI (by omega) (by omega), bt_x x (by omega)]
    refine ⟨fun q => by omega, fun _ => S_X9_take _ ?_⟩
    rw [e10, nI_leI (by omega) (by omega), bt_n]
    refine ⟨fun q => by omega, fun _ => ⟨n + k, rfl, by omega, fun I1 e1 I6 e6 => ⟨rfl, ?_⟩⟩⟩
    rw [nI_add]
    refine ih (k + 1) I6 (by omega) ?_
    rw [e6, e1, st_ne (show (1 : Nat) ≠ 2 by omega), e10, nI_add, e2]
    funext a
    by_cases h1 : a = 1
    · subst h1
      unfold fdX
      rw [st_eq, st_ne (by omega), sA_ne (by omega), st_eq, sA_ne (by omega), st_eq]
      funext j; unfold upd; split <;> rfl
    · by_cases h2 : a = 2
      · subst h2
        unfold fdX
        rw [st_ne (by omega), st_eq, sA_eq, sA_eq]
        funext j; unfold upd
        by_cases h3 : j = n + k
        · rw [if_pos h3, if_pos (by omega), h3, show n + k - n = k by omega]
        · rw [if_neg h3]
          dsimp only
          by_cases h4 : n ≤ j ∧ j < n + k
          · rw [if_pos h4, if_pos (by omega)]
          · rw [if_neg h4, if_neg (by omega)]
      · unfold fdX
        rw [st_ne h1, st_ne h2, sA_ne h2, st_ne h1, sA_ne h2, st_ne h1]
theorem m_feed_loop {x : Int64} {n m : Nat} (hm : m ≤ 8) (hn : n + m ≤ 200) (hQ : Q (some (.int (nI (n + m)))) (fdM I x n m)) : ∀ (c k : Nat) (I2 : IH), k + c = m → I2 = fdM I x n k → J E (d + 1) mX12_feed 30 [(0, .ref (eb E + 115)), (1, .long x), (3, .int (nI m)), (4, .int (nI k))] [] I2 Q := by
  intro c
  induction c with
  | zero =>
    intro k I2 hk e2
    refine S_X12_feed_30 _ _ _ ?_
    rw [nI_leI (by omega) (by omega)]
    refine ⟨fun _ => ?_, fun q => by omega⟩
    have : k = m := by omega
    subst this
    rw [e2]
    have e : fdM I x n k 115 6 = nI (n + k) := by unfold fdM; rw [sA_ne (by omega), st_at]
    rw [e]; exact hQ
  | succ c ih =>
    intro k I2 hk e2
    have e10 : I2 115 6 = nI (n + k) := by rw [e2]; unfold fdM; rw [sA_ne (by omega), st_at]
    refine S_X12_feed_30 _ _ _ ?_
    rw [nI_leI (by omega) (by omega), bt_m x (by omega), e10]
    refine ⟨fun q => by omega, fun _ => ⟨n + k, rfl, by omega, fun I1 e1 I6 e6 => ?_⟩⟩
    rw [nI_add]
    refine ih (k + 1) I6 (by omega) ?_
    rw [e6, e1, st_ne (show (115 : Nat) ≠ 120 by omega), e10, nI_add, e2]
    funext a
    by_cases h1 : a = 115
    · subst h1
      unfold fdM
      rw [st_eq, st_ne (by omega), sA_ne (by omega), st_eq, sA_ne (by omega), st_eq]
      funext j; unfold upd; split <;> rfl
    · by_cases h2 : a = 120
      · subst h2
        unfold fdM
        rw [st_ne (by omega), st_eq, sA_eq, sA_eq]
        funext j; unfold upd
        by_cases h3 : j = n + k
        · rw [if_pos h3, if_pos (by omega), h3, show n + k - n = k by omega]
        · rw [if_neg h3]
          dsimp only
          by_cases h4 : n ≤ j ∧ j < n + k
          · rw [if_pos h4, if_pos (by omega)]
          · rw [if_neg h4, if_neg (by omega)]
      · unfold fdM
        rw [st_ne h1, st_ne h2, sA_ne h2, st_ne h1, sA_ne h2, st_ne h1]
theorem fdX_0 {x : Int64} {n : Nat} (h : I 1 0 = nI n) : fdX I x n 0 = I := by
  unfold fdX
  have e : (fun j => if n ≤ j ∧ j < n + 0 then (nI (btN x (j - n))).toInt8.toInt32 else I 2 j) = I 2 := by
    funext j; rw [if_neg (by omega)]
  rw [e, st_self (by exact h), sA_self]
theorem fdM_0 {x : Int64} {n : Nat} (h : I 115 6 = nI n) : fdM I x n 0 = I := by
  unfold fdM
  have e : (fun j => if n ≤ j ∧ j < n + 0 then nI (btN x (j - n)) else I 120 j) = I 120 := by
    funext j; rw [if_neg (by omega)]
  rw [e, st_self (by exact h), sA_self]
theorem p_feed {x : Int64} (hI : Inv I) : Pair E (d + 40) mX11_feed mX12_feed [.long x, .int x1] [.long x, .int x1] I := by
  obtain ⟨T, h⟩ := id hI
  obtain ⟨o1, o2, o3, o4, o5, o6⟩ := id h.2.2.2.2.2
  obtain ⟨n, hn, c1, c2, c3⟩ := o2
  by_cases ok : inr x1 1 8
  · obtain ⟨m, hm, hm1, hm2⟩ := inr_n ok
    subst hm
    by_cases hf : n + m ≤ 200
    · refine ⟨nI (n + m), fun I1 => I1 = fdX I x n m, fun Q hQ => S_X11_feed _ _ ?_, fun I1 q1 Q hQ => S_X12_feed _ _ (m_in1 (by omega) (by omega) ⟨_, rfl, bk2 (fun _ => ?_) (fun q => absurd ok q)⟩)⟩
      · rw [nI_ltI (by omega) (by omega), nI_leI (by omega) (by omega), c1, nI_add, nI_leI (by omega) (by omega)]
        exact ⟨fun q => by omega, fun _ => ⟨fun _ => ⟨fun _ => d_feed_loop hm2 hf (hQ _ rfl) m 0 I (by omega) (fdX_0 c1).symm, fun q => by omega⟩, fun q => by omega⟩⟩
      · have e6 : I1 115 6 = nI n := by rw [q1]; unfold fdX; rw [sA_ne (by omega), st_ne (by omega)]; exact c2
        rw [e6, nI_add, nI_leI (by omega) (by omega)]
        refine ⟨fun _ => m_feed_loop hm2 hf (hQ _ ?_) m 0 I1 (by omega) (fdM_0 e6).symm, fun q => by omega⟩
        have q : ∀ a, a ≠ 1 ∧ a ≠ 2 ∧ a ≠ 115 ∧ a ≠ 120 → fdM I1 x n m a = I a := by
          intro a ha
          unfold fdM; rw [sA_ne (by omega), st_ne (by omega), q1]; unfold fdX; rw [sA_ne (by omega), st_ne (by omega)]
        have q115 : ∀ j, j ≠ 6 → fdM I1 x n m 115 j = I 115 j := by
          intro j hj
          unfold fdM; rw [sA_ne (by omega), st_nj hj, q1]; unfold fdX; rw [sA_ne (by omega), st_ne (by omega)]
        refine ⟨T, h.oth (fun a ha => ?_) ⟨o1.eqs (by rw [q 0 (by omega)]) (q115 _ (by omega)) (fun a ha => q a (by omega)), ⟨n + m, hf, ?_, ?_, fun i hi => ?_⟩, o3.eqs (by rw [q 0 (by omega)]) (q115 _ (by omega)) (q _ (by omega)) (q _ (by omega)), o4.eqs (fun a ha => q a (by omega)), o5.eqs (fun a ha => q a (by omega)), o6.eqs (by rw [q 11 (by omega)]) (q115 _ (by omega)) (q _ (by omega)) (q _ (by omega))⟩⟩
        · rcases ha with rfl | ha
          · exact q _ (by omega)
          · exact q a (by revert a; decide)
        · unfold fdM; rw [sA_ne (by omega), st_ne (by omega), q1]; unfold fdX; rw [sA_ne (by omega), st_at]
        · unfold fdM; rw [sA_ne (by omega), st_at]
        · have e2 : fdM I1 x n m 2 i = if n ≤ i ∧ i < n + m then (nI (btN x (i - n))).toInt8.toInt32 else I 2 i := by
            unfold fdM; rw [sA_ne (by omega), st_ne (by omega), q1]; unfold fdX; rw [sA_eq]
          have e120 : fdM I1 x n m 120 i = if n ≤ i ∧ i < n + m then nI (btN x (i - n)) else I 120 i := by
            have e9 : I1 120 = I 120 := by rw [q1]; unfold fdX; rw [sA_ne (by omega), st_ne (by omega)]
            unfold fdM; rw [sA_eq, e9]
          rw [e2, e120]
          by_cases hc : n ≤ i
          · rw [if_pos ⟨hc, hi⟩, if_pos ⟨hc, hi⟩]
            exact ⟨_, btN_lt x _, rfl, rfl⟩
          · rw [if_neg (by omega), if_neg (by omega)]
            exact c3 i (by omega)
    · refine Pair.pure hI (-2) (fun Q hQ => S_X11_feed _ _ ?_) (fun Q hQ => S_X12_feed _ _ (m_in1 (by omega) (by omega) ⟨_, rfl, bk2 (fun _ => ?_) (fun q => absurd ok q)⟩))
      · rw [nI_ltI (by omega) (by omega), nI_leI (by omega) (by omega), c1, nI_add, nI_leI (by omega) (by omega)]
        exact ⟨fun q => by omega, fun _ => ⟨fun _ => ⟨fun q => by omega, fun _ => hQ⟩, fun q => by omega⟩⟩
      · rw [c2, nI_add, nI_leI (by omega) (by omega)]
        exact ⟨fun q => by omega, fun _ => hQ⟩
  · refine Pair.pure hI (-1) (fun Q hQ => S_X11_feed _ _ ?_) (fun Q hQ => S_X12_feed _ _ (m_in1 (by omega) (by omega) ⟨_, rfl, bk2 (fun p => absurd p ok) (fun _ => hQ)⟩))
    rw [lt_x (by omega), le_x (by omega)]
    exact ⟨fun _ => hQ, fun q => ⟨fun z => absurd ⟨by omega, by omega⟩ ok, fun _ => hQ⟩⟩
end P10
