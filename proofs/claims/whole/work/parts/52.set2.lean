section P2
variable {E : EE} {d : Nat} {I : IH} {Q : QT} {T : Nat → Nat} {k e g r : Nat} {x1 x2 x3 x4 : Int32}
theorem mayP {j v : Nat} (hk : k < T 6) (c : (j = 38 + 6 * k ∧ 1 ≤ v ∧ v ≤ 5) ∨ (j = 39 + 6 * k ∧ v < 256) ∨ (j = 40 + 6 * k ∧ v ≤ 9) ∨ (j = 41 + 6 * k ∧ v < 6) ∨ (j = 42 + 6 * k ∧ v ≤ 1)) : may T j v := Or.inr (Or.inr (Or.inr (Or.inr (Or.inr (Or.inr (Or.inl ⟨k, hk, c⟩))))))
theorem p_remake (hI : Inv I) : Pair E (d + 40) mX11_remake mX12_remake [.int x1, .int x2] [.int x1, .int x2] I := by
  obtain ⟨T, h⟩ := id hI
  obtain ⟨a1, a2, a3, a4, a5, a6⟩ := id h
  have h6 : T 6 ≤ 6 := a2.1.1
  have c7 : I 33 7 = nI (T 6) := a3.1.2.2.2.2.1
  by_cases ok : isP T x1 ∧ inr x2 1 5
  · obtain ⟨k, hk, hk2⟩ := isP_n ok.1
    obtain ⟨v, hv, hv1, hv2⟩ := inr_n ok.2
    subst hk; subst hv
    refine Pair.set (a := 37) (s := k) (j := 38 + 6 * k) (v := v) h (by omega) (by omega) (EvR.kd a3.1 gn_ev a2.1 hk2) (a2.put (mayP hk2 (by omega)) (by omega)) (by omega) (by omega) (by omega) (by omega) (fun Q hQ => ?_) (fun I1 r1 Q hQ => ?_)
    · refine S_X11_remake _ _ (d_isPane c7 h6 ⟨_, rfl, bk (fun _ => d_isPaneKind ⟨_, rfl, bk2 (fun _ => ⟨k, rfl, by omega, k, rfl, by omega, fun I8 e8 => ?_⟩) (fun q => absurd ok.2 q)⟩) (fun q => absurd ok.1 q)⟩)
      have old : I 37 k = nI (T (38 + 6 * k)) := a3.1.2.2.2.2.2.2.2.2.2.2.1 k hk2
      rw [e8, old]; exact hQ
    · refine S_X12_remake _ _ (m_isPane r1 h6 ⟨_, rfl, bk (fun _ => m_in1 (by omega) (by omega) ⟨_, rfl, bk (fun _ => c_becomes (38 + 6 * k) (by rw [nI_mul, nI_add]) (by omega) ⟨_, rfl, ?_⟩) (fun q => absurd ok.2 q)⟩) (fun q => absurd ok.1 q)⟩)
      rw [r1 _ (by omega) (by omega) (by omega)]; exact hQ
  · refine Pair.pure hI (-1) (fun Q hQ => ?_) (fun Q hQ => ?_)
    · exact S_X11_remake _ _ (d_isPane c7 h6 ⟨_, rfl, bk (fun p1 => d_isPaneKind ⟨_, rfl, bk2 (fun p2 => absurd ⟨p1, p2⟩ ok) (fun _ => hQ)⟩) (fun _ => hQ)⟩)
    · exact S_X12_remake _ _ (m_isPane a1 h6 ⟨_, rfl, bk (fun p1 => m_in1 (by omega) (by omega) ⟨_, rfl, bk (fun p2 => absurd ⟨p1, p2⟩ ok) (fun _ => hQ)⟩) (fun _ => hQ)⟩)
theorem chg_bit : ∀ w, w < 64 → ∀ k, k < 6 → ((nI w &&& ((nI 1 <<< (nI k &&& 31)) ^^^ (-1))) ||| (nI 0 <<< (nI k &&& 31))) = nI (w - w / 2 ^ k % 2 * 2 ^ k) ∧ ((nI w &&& ((nI 1 <<< (nI k &&& 31)) ^^^ (-1))) ||| (nI 1 <<< (nI k &&& 31))) = nI (w - w / 2 ^ k % 2 * 2 ^ k + 2 ^ k) := by decide +kernel
/-- what change() may be told: the most, by what -/
def chM (w : Nat) : Nat := if w = 1 then 255 else if w = 3 then 5 else if w = 4 then 1 else 9
theorem p_change (hI : Inv I) : Pair E (d + 40) mX11_change mX12_change [.int x1, .int x2, .int x3] [.int x1, .int x2, .int x3] I := by
  obtain ⟨T, h⟩ := id hI
  obtain ⟨a1, a2, a3, a4, a5, a6⟩ := id h
  have h6 : T 6 ≤ 6 := a2.1.1
  have c7 : I 33 7 = nI (T 6) := a3.1.2.2.2.2.1
  -- the reference, from 31 on
  have m31 : ∀ (I1 : IH) (Q : QT), RM I1 T → (∀ t : Nat, (x2 = nI 1 → t = 255) → (x2 = nI 3 → t = 5) → (x2 = nI 4 → t = 1) → (¬ x2 = nI 1 → ¬ x2 = nI 3 → ¬ x2 = nI 4 → t = 9) → J E (d + 40) mX12_change 31 [(0, .ref (eb E + 115)), (1, .int x1), (2, .int x2), (3, .int x3)] [.int (nI t)] I1 Q) → Mt E (d + 40) mX12_change [.ref (eb E + 115), .int x1, .int x2, .int x3] I1 Q := by
    intro I1 Q _ hj
    refine S_X12_change _ _ _ ⟨fun q1 => ⟨fun q3 => ⟨fun q4 => hj 9 (fun z => absurd z q1) (fun z => absurd z q3) (fun z => absurd z q4) (fun _ _ _ => rfl), fun q4 => hj 1 (fun z => absurd z q1) (fun z => absurd z q3) (fun _ => rfl) (fun _ _ z => absurd q4 z)⟩, fun q3 => hj 5 (fun z => absurd z q1) (fun _ => rfl) (fun z => by rw [q3] at z; exact absurd z (by decide +kernel)) (fun _ z _ => absurd q3 z)⟩, fun q1 => hj 255 (fun _ => rfl) (fun z => by rw [q1] at z; exact absurd z (by decide +kernel)) (fun z => by rw [q1] at z; exact absurd z (by decide +kernel)) (fun z _ _ => absurd q1 z)⟩
  by_cases ok : isP T x1 ∧ inr x2 1 4 ∧ inr x3 0 (chM x2.toInt.toNat)
  · obtain ⟨k, hk, hk2⟩ := isP_n ok.1
    obtain ⟨w, hw, hw1, hw2⟩ := inr_n ok.2.1
    subst hw
    rw [show (nI w).toInt.toNat = w by rw [nI_toInt (by omega)]; omega] at ok
    obtain ⟨v, hv, -, hv2⟩ := inr_n ok.2.2
    subst hk; subst hv
    have mm : ∀ I1, RM I1 T → ∀ Q : QT, Q (some (.int (nI (T (38 + 6 * k + w))))) (stI I1 116 (38 + 6 * k + w) (nI v)) → Mt E (d + 40) mX12_change [.ref (eb E + 115), .int (nI k), .int (nI w), .int (nI v)] I1 Q := by
      intro I1 r1 Q hQ
      refine m31 I1 Q r1 (fun t t1 t3 t4 t9 => ?_)
      rw [nI_eq (by omega) (by omega)] at t1 t3 t4 t9
      rw [nI_eq (by omega) (by omega), nI_eq (by omega) (by omega)] at t9
      have ht : t = chM w := by
        unfold chM
        split
        · rename_i q; exact t1 q
        · split
          · rename_i q; exact t3 q
          · split
            · rename_i q; exact t4 q
            · rename_i q1 q3 q4; exact t9 q1 q3 q4
      subst ht
      have hch : chM w ≤ 255 := by unfold chM; repeat' split
                                   all_goals omega
      refine S_X12_change_31 _ _ _ _ (m_isPane r1 h6 ⟨_, rfl, bk (fun _ => m_in1 (by omega) (by omega) ⟨_, rfl, bk (fun _ => m_in1 (by omega) (by omega) ⟨_, rfl, bk (fun _ => c_becomes (38 + 6 * k + w) (e3 38 6 k w) (by omega) ⟨_, rfl, ?_⟩) (fun q => absurd ok.2.2 q)⟩) (fun q => absurd ok.2.1 q)⟩) (fun q => absurd ok.1 q)⟩)
      rw [r1 _ (by omega) (by omega) (by omega)]; exact hQ
    have cx : ∀ Q : QT, ((w = 1 → Mt E (d + 39) mX11_put [.ref (eb E + 38), .int (nI k), .int (nI v), .int (nI 255)] I (fun rv I3 => ∃ v4 : Int32, rv = some (.int v4) ∧ Q (some (.int v4)) I3)) ∧ (w = 2 → Mt E (d + 39) mX11_put [.ref (eb E + 40), .int (nI k), .int (nI v), .int (nI 9)] I (fun rv I3 => ∃ v4 : Int32, rv = some (.int v4) ∧ Q (some (.int v4)) I3)) ∧ (w = 3 → Mt E (d + 39) mX11_put [.ref (eb E + 39), .int (nI k), .int (nI v), .int (nI 5)] I (fun rv I3 => ∃ v4 : Int32, rv = some (.int v4) ∧ Q (some (.int v4)) I3)) ∧ (w = 4 → Mt E (d + 39) mX11_changeShown [.ref (eb E + 0), .int (nI k), .int (nI v)] I (fun rv I3 => ∃ v4 : Int32, rv = some (.int v4) ∧ Q (some (.int v4)) I3))) → Mt E (d + 40) mX11_change [.ref (eb E + 0), .int (nI k), .int (nI w), .int (nI v)] I Q := by
      intro Q hh
      refine S_X11_change _ _ _ (d_isPane c7 h6 ⟨_, rfl, bk2 (fun _ => ?_) (fun q => absurd ok.1 q)⟩)
      rw [nI_eq (by omega) (by omega), nI_eq (by omega) (by omega), nI_eq (by omega) (by omega), nI_eq (by omega) (by omega)]
      exact ⟨hh.1, hh.2.1, hh.2.2.1, hh.2.2.2, fun q => by omega⟩
    have pt : ∀ (o c : Nat) (Q : QT), shape[o]? = some (.inr (0, 6, [])) → inr (nI v) 0 c → c < 1000 → Q (some (.int (I o k))) (stI I o k (nI v)) → Mt E (d + 39) mX11_put [.ref (eb E + o), .int (nI k), .int (nI v), .int (nI c)] I (fun rv I3 => ∃ v4 : Int32, rv = some (.int v4) ∧ Q (some (.int v4)) I3) := by
      intro o c Q hs hc hc2 hQ
      refine d_put hs (by omega) (by omega) (fun q => absurd ⟨by rw [nI_toInt (by omega)]; omega, hc⟩ q) (fun j2 e2 _ _ => ⟨_, rfl, ?_⟩)
      have : j2 = k := ((nI_eq (by omega) (by omega)).mp e2).symm
      subst this; exact hQ
    rcases (show w = 1 ∨ w = 2 ∨ w = 3 ∨ w = 4 by omega) with rfl | rfl | rfl | rfl
    · have e : 38 + 6 * k + 1 = 39 + 6 * k := by omega
      rw [e] at mm
      refine Pair.set (a := 38) (s := k) (j := 39 + 6 * k) (v := v) h (by omega) (by omega) (EvR.sc a3.1 gn_ev a2.1 hk2) (a2.put (mayP hk2 (by simp [chM] at hv2; omega)) (by omega)) (by omega) (by omega) (by omega) (by omega) (fun Q hQ => ?_) mm
      have old : I 38 k = nI (T (39 + 6 * k)) := a3.1.2.2.2.2.2.2.2.2.2.2.2.1 k hk2
      exact cx Q ⟨fun _ => pt 38 255 Q sh38 (by simpa [chM] using ok.2.2) (by omega) (by rw [old]; exact hQ), fun q => by omega, fun q => by omega, fun q => by omega⟩
    · have e : 38 + 6 * k + 2 = 40 + 6 * k := by omega
      rw [e] at mm
      refine Pair.set (a := 40) (s := k) (j := 40 + 6 * k) (v := v) h (by omega) (by omega) (EvR.lk a3.1 gn_ev a2.1 hk2) (a2.put (mayP hk2 (by simp [chM] at hv2; omega)) (by omega)) (by omega) (by omega) (by omega) (by omega) (fun Q hQ => ?_) mm
      have old : I 40 k = nI (T (40 + 6 * k)) := a3.1.2.2.2.2.2.2.2.2.2.2.2.2.2.1 k hk2
      exact cx Q ⟨fun q => by omega, fun _ => pt 40 9 Q sh40 (by simpa [chM] using ok.2.2) (by omega) (by rw [old]; exact hQ), fun q => by omega, fun q => by omega⟩
    · have e : 38 + 6 * k + 3 = 41 + 6 * k := by omega
      rw [e] at mm
      refine Pair.set (a := 39) (s := k) (j := 41 + 6 * k) (v := v) h (by omega) (by omega) (EvR.wr a3.1 gn_ev a2.1 hk2) (a2.put (mayP hk2 (by simp [chM] at hv2; omega)) (by omega)) (by omega) (by omega) (by omega) (by omega) (fun Q hQ => ?_) mm
      have old : I 39 k = nI (T (41 + 6 * k)) := a3.1.2.2.2.2.2.2.2.2.2.2.2.2.1 k hk2
      exact cx Q ⟨fun q => by omega, fun q => by omega, fun _ => pt 39 5 Q sh39 (by simpa [chM] using ok.2.2) (by omega) (by rw [old]; exact hQ), fun q => by omega⟩
    · have e : 38 + 6 * k + 4 = 42 + 6 * k := by omega
      rw [e] at mm
      have hv1 : v ≤ 1 := by simp [chM] at hv2; omega
      have old : I 33 8 = nI (swn T) := a3.1.2.2.2.2.2.1
      have sb := swn_bit a2.1 hk2
      have su := swF_up (T := T) (k := k) v (T 6) hk2
      have hle : T (42 + 6 * k) * 2 ^ k ≤ swF T (T 6) := by
        have q1 : swn T / 2 ^ k % 2 * 2 ^ k ≤ swn T / 2 ^ k * 2 ^ k := Nat.mul_le_mul_right _ (Nat.mod_le _ _)
        have q2 := Nat.div_mul_le_self (swn T) (2 ^ k)
        rw [sb] at q1
        exact Nat.le_trans q1 q2
      have es : swn (up T (42 + 6 * k) v) = swn T - swn T / 2 ^ k % 2 * 2 ^ k + v * 2 ^ k := by
        rw [sb]
        show swF (up T (42 + 6 * k) v) ((up T (42 + 6 * k) v) 6) = _
        rw [up_ne (by omega)]
        show _ = swF T (T 6) - _ + _
        omega
      obtain ⟨g0, g1⟩ := chg_bit (swn T) (swn_lt a2.1) k (by omega)
      have ev : ((nI (swn T) &&& ((nI 1 <<< (nI k &&& 31)) ^^^ (-1))) ||| (nI v <<< (nI k &&& 31))) = nI (swn (up T (42 + 6 * k) v)) := by
        rw [es]
        rcases (show v = 0 ∨ v = 1 by omega) with rfl | rfl
        · rw [g0]; congr 1; omega
        · rw [g1]; congr 1; omega
      -- the class's cell holds the set, the row's the one
      refine ⟨nI (T (42 + 6 * k)), fun I1 => I1 = stI I 33 8 (nI (swn (up T (42 + 6 * k) v))), fun Q hQ => cx Q ⟨fun q => by omega, fun q => by omega, fun q => by omega, fun _ => ?_⟩, fun I1 e1 Q hQ => ?_⟩
      · refine S_X11_changeShown _ _ (d_isWithin (by omega) ⟨_, rfl, bk2 (fun _ => fun I3 e3 => ⟨_, rfl, ?_⟩) (fun q => absurd (by simpa [chM] using ok.2.2) q)⟩)
        rw [old] at e3 ⊢
        rw [ev] at e3
        rw [bit_sw a2.1 hk2]
        exact hQ I3 e3
      · subst e1
        refine mm _ (a1.same (Same.st (L := [33]) (by simp)) (by simp)) Q (hQ _ ⟨up T (42 + 6 * k) v, h.step (I1 := stI I 33 8 (nI (swn (up T (42 + 6 * k) v)))) (Same.st (by simp)) (EvR.shw a3.1 gn_ev a2.1 hk2 rfl) (Same.st (by simp)) ?_ (a2.put (mayP hk2 (by omega)) (by omega)) (up_ne (by omega)) (fun q hq => up_ne (by omega)) ?_ ?_⟩)
        · exact RM.st (a1.same (Same.st (L := [33]) (by simp)) (by simp))
        · rw [st_nj (by omega), st_nj (by omega), st_ne (by omega)]; exact a4
        · rw [st_nj (by omega), st_nj (by omega), st_ne (by omega)]; exact a5
  · refine Pair.pure hI (-1) (fun Q hQ => ?_) (fun Q hQ => ?_)
    · refine S_X11_change _ _ _ (d_isPane c7 h6 ⟨_, rfl, bk2 (fun p1 => ?_) (fun _ => hQ)⟩)
      have bad : ∀ w : Nat, 1 ≤ w → w ≤ 4 → x2 = nI w → ¬ inr x3 0 (chM w) := by
        intro w w1 w2 ew hx
        refine ok ⟨p1, by rw [ew]; exact (inr_i (by omega)).mpr (by omega), ?_⟩
        rw [ew, show (nI w).toInt.toNat = w by rw [nI_toInt (by omega)]; omega]
        exact hx
      refine ⟨fun q => d_put sh38 (by omega) (by omega) (fun _ => ⟨_, rfl, hQ⟩) (fun j e1 e2 e3 => absurd (by simpa [chM] using e3) (bad 1 (by omega) (by omega) q)), fun q => d_put sh40 (by omega) (by omega) (fun _ => ⟨_, rfl, hQ⟩) (fun j e1 e2 e3 => absurd (by simpa [chM] using e3) (bad 2 (by omega) (by omega) q)), fun q => d_put sh39 (by omega) (by omega) (fun _ => ⟨_, rfl, hQ⟩) (fun j e1 e2 e3 => absurd (by simpa [chM] using e3) (bad 3 (by omega) (by omega) q)), fun q => S_X11_changeShown _ _ (d_isWithin (by omega) ⟨_, rfl, bk2 (fun p => absurd (by simpa [chM] using p) (bad 4 (by omega) (by omega) q)) (fun _ => ⟨_, rfl, hQ⟩)⟩), fun _ => hQ⟩
    · refine m31 I Q a1 (fun t t1 t3 t4 t9 => ?_)
      have ht : t ≤ 255 := by
        by_cases q1 : x2 = nI 1
        · have := t1 q1; omega
        · by_cases q3 : x2 = nI 3
          · have := t3 q3; omega
          · by_cases q4 : x2 = nI 4
            · have := t4 q4; omega
            · have := t9 q1 q3 q4; omega
      refine S_X12_change_31 _ _ _ _ (m_isPane a1 h6 ⟨_, rfl, bk (fun p1 => m_in1 (by omega) (by omega) ⟨_, rfl, bk (fun p2 => m_in1 (by omega) (by omega) ⟨_, rfl, bk (fun p3 => ?_) (fun _ => hQ)⟩) (fun _ => hQ)⟩) (fun _ => hQ)⟩)
      exfalso
      refine ok ⟨p1, p2, ?_⟩
      obtain ⟨w, hw, hw1, hw2⟩ := inr_n p2
      subst hw
      rw [show (nI w).toInt.toNat = w by rw [nI_toInt (by omega)]; omega]
      rw [nI_eq (by omega) (by omega)] at t1 t3 t4 t9
      rw [nI_eq (by omega) (by omega), nI_eq (by omega) (by omega)] at t9
      have e : chM w = t := by
        unfold chM
        split
        · rename_i q; exact (t1 q).symm
        · split
          · rename_i q; exact (t3 q).symm
          · split
            · rename_i q; exact (t4 q).symm
            · rename_i q1 q3 q4; exact (t9 q1 q3 q4).symm
      rw [e]; exact p3
theorem p_lord (hI : Inv I) : Pair E (d + 40) mX11_lord mX12_lord [.int x1, .int x2] [.int x1, .int x2] I := by
  obtain ⟨T, h⟩ := id hI
  obtain ⟨a1, a2, a3, a4, a5, a6⟩ := id h
  have c4 : I 33 4 = nI (T 3) := a3.1.2.2.1
  have c5 : I 33 5 = nI (T 4) := a3.1.2.2.2.1
  have m23 : ∀ (I1 : IH) (Q : QT), (x1 = 0 ∧ inr x2 0 9 → Mt E (d + 39) mX12_becomes [.ref (eb E + 115), .int (nI 3 + x1), .int x2] I1 (fun rv I3 => ∃ v4 : Int32, rv = some (.int v4) ∧ Q (some (.int v4)) I3)) → (x1 = nI 1 ∧ inr x2 0 999 → Mt E (d + 39) mX12_becomes [.ref (eb E + 115), .int (nI 3 + x1), .int x2] I1 (fun rv I3 => ∃ v4 : Int32, rv = some (.int v4) ∧ Q (some (.int v4)) I3)) → (¬ (x1 = 0 ∧ inr x2 0 9) → ¬ (x1 = nI 1 ∧ inr x2 0 999) → Q (some (.int (-1))) I1) → Mt E (d + 40) mX12_lord [.ref (eb E + 115), .int x1, .int x2] I1 Q := by
    intro I1 Q h1 h2 h3
    have n01 : ∀ z : Int32, z = 0 → ¬ z = nI 1 := fun z hz => by rw [hz]; decide +kernel
    refine S_X12_lord _ _ (m_in1 (by omega) (by omega) ⟨_, rfl, bk (fun p => ⟨fun q => ?_, fun q => ?_⟩) (fun p => h3 (fun z => p ?_) (fun z => p ?_))⟩)
    · have q1 : x1 = nI 1 := by
        obtain ⟨w, hw, -, hw2⟩ := inr_n p
        subst hw
        rw [n0, nI_eq (by omega) (by omega)] at q
        rw [show w = 1 by omega]
      exact S_X12_lord_23 _ _ _ _ _ (m_in1 (by omega) (by omega) ⟨_, rfl, bk (fun p2 => h2 ⟨q1, p2⟩) (fun p2 => h3 (fun z => q z.1) (fun z => p2 z.2))⟩)
    · exact S_X12_lord_23 _ _ _ _ _ (m_in1 (by omega) (by omega) ⟨_, rfl, bk (fun p2 => h1 ⟨q, p2⟩) (fun p2 => h3 (fun z => p2 z.2) (fun z => n01 _ q z.1))⟩)
    · rw [z.1, n0]; exact (inr_i (by omega)).mpr (by omega)
    · rw [z.1]; exact (inr_i (by omega)).mpr (by omega)
  have x31 : ∀ (Q : QT), (x1 = nI 1 ∧ inr x2 0 999 → Q (some (.int (I 33 5))) (stI I 33 5 x2)) → (¬ (x1 = nI 1 ∧ inr x2 0 999) → Q (some (.int (-1))) I) → J E (d + 40) mX11_lord 31 [(0, .ref (eb E + 0)), (1, .int x1), (2, .int x2)] [] I Q := by
    intro Q h1 h2
    exact S_X11_lord_31 _ _ ⟨fun q => h2 (fun z => q z.1), fun q => d_isWithin (by omega) ⟨_, rfl, bk (fun p I3 e3 => by rw [e3]; exact h1 ⟨q, p⟩) (fun p => h2 (fun z => p z.2))⟩⟩
  by_cases k0 : x1 = 0 ∧ inr x2 0 9
  · obtain ⟨v, hv, -, hv2⟩ := inr_n k0.2
    subst hv
    obtain ⟨z0, z1⟩ := id k0
    subst z0
    refine Pair.set (a := 33) (s := 4) (j := 3) (v := v) h (by omega) (by omega) (EvR.fogp a3.1 gn_ev) (a2.put (by unfold may; omega) (by omega)) (by omega) (by omega) (by omega) (by omega) (fun Q hQ => ?_) (fun I1 r1 Q hQ => ?_)
    · exact S_X11_lord _ _ ⟨fun q => absurd rfl q, fun _ => d_isWithin (by omega) ⟨_, rfl, bk (fun _ I3 e3 => by rw [e3, c4]; exact hQ) (fun q => absurd z1 q)⟩⟩
    · refine m23 I1 Q (fun _ => c_becomes 3 (by decide +kernel) (by omega) ⟨_, rfl, ?_⟩) (fun q => absurd q.1 (by decide +kernel)) (fun q => absurd k0 q)
      rw [r1 _ (by omega) (by omega) (by omega)]; exact hQ
  · by_cases k1 : x1 = nI 1 ∧ inr x2 0 999
    · obtain ⟨v, hv, -, hv2⟩ := inr_n k1.2
      subst hv
      obtain ⟨z0, z1⟩ := id k1
      subst z0
      refine Pair.set (a := 33) (s := 5) (j := 4) (v := v) h (by omega) (by omega) (EvR.prs a3.1 gn_ev) (a2.put (by unfold may; omega) (by omega)) (by omega) (by omega) (by omega) (by omega) (fun Q hQ => ?_) (fun I1 r1 Q hQ => ?_)
      · exact S_X11_lord _ _ ⟨fun _ => x31 Q (fun _ => by rw [c5]; exact hQ) (fun q => absurd k1 q), fun q => absurd q (by decide +kernel)⟩
      · refine m23 I1 Q (fun q => absurd q k0) (fun _ => c_becomes 4 (by rw [nI_add]) (by omega) ⟨_, rfl, ?_⟩) (fun _ q => absurd k1 q)
        rw [r1 _ (by omega) (by omega) (by omega)]; exact hQ
    · refine Pair.pure hI (-1) (fun Q hQ => ?_) (fun Q hQ => ?_)
      · exact S_X11_lord _ _ ⟨fun q => x31 Q (fun z => absurd z k1) (fun _ => hQ), fun q => d_isWithin (by omega) ⟨_, rfl, bk (fun p => absurd ⟨q, p⟩ k0) (fun _ => x31 Q (fun z => absurd z k1) (fun _ => hQ))⟩⟩
      · exact m23 I Q (fun q => absurd q k0) (fun q => absurd q k1) (fun _ _ => hQ)
theorem or_0 : ∀ w, w < 64 → nI w ||| nI 0 = nI w := by decide +kernel
theorem c_those_loop (h : RM I T) (hW : WfE T) : ∀ (n k : Nat), k + n = T 6 → Q (some (.int (nI (swn T)))) I → J E (d + 1) mX12_those 4 [(0, .ref (eb E + 115)), (1, .int (nI 4)), (2, .int (nI (swF T k))), (3, .int (nI k))] [] I Q := by
  intro n
  have h6 : T 6 ≤ 6 := hW.1
  induction n with
  | zero =>
    intro k hk hQ
    have : k = T 6 := by omega
    subst this
    refine S_X12_those_4 _ _ _ ?_
    rw [h.at 6 (by omega), nI_leI (by omega) (by omega)]
    exact ⟨fun _ => hQ, fun q => by omega⟩
  | succ n ih =>
    intro k hk hQ
    obtain ⟨k6, p1, p2, p3, p4, p5, p6⟩ := hW.p (k := k) (by omega)
    have hl := swF_lt hW.2.2.2.2.2.2.2 k (by omega)
    have h64 : 2 ^ k ≤ 2 ^ 5 := Nat.pow_le_pow_right (by omega) (by omega)
    refine S_X12_those_4 _ _ _ ?_
    rw [h.at 6 (by omega), nI_leI (by omega) (by omega)]
    refine ⟨fun q => by omega, fun _ => c_get k 4 rfl rfl (by omega) ⟨_, rfl, ?_⟩⟩
    rw [h.sw k6, n0, nI_leI (by omega) (by omega), or_0 _ (by omega), bit_or _ (by omega) k k6 (by rw [Nat.div_eq_of_lt hl]), nI_add]
    have es : swF T (k + 1) = swF T k + T (42 + 6 * k) * 2 ^ k := rfl
    refine ⟨fun q => ?_, fun q => ?_⟩
    · have := ih (k + 1) (by omega) hQ
      rw [es, show T (42 + 6 * k) = 0 by omega, Nat.zero_mul, Nat.add_zero] at this
      exact this
    · have := ih (k + 1) (by omega) hQ
      rw [es, show T (42 + 6 * k) = 1 by omega, Nat.one_mul] at this
      exact this
theorem c_those {x : Int32} (h : RM I T) (hW : WfE T) (hx : x = nI 4) (hQ : Q (some (.int (nI (swn T)))) I) : Mt E (d + 1) mX12_those [.ref (eb E + 115), .int x] I Q := by
  subst hx
  exact S_X12_those _ (c_those_loop h hW (T 6) 0 (by omega) hQ)
theorem p_state (hI : Inv I) : Pair E (d + 40) mX11_state mX12_state [.int x1] [.int x1] I := by
  obtain ⟨T, h⟩ := id hI
  obtain ⟨a1, a2, a3, a4, a5, a6⟩ := id h
  obtain ⟨v1, v2, v3, v4, v5, v6, v7, v8, v9, v10, v11, v12, v13, v14, v15⟩ := id a3.1
  have h0 : T 0 ≤ 16 := a2.1.2.1
  have h1 : T 1 ≤ 16 := a2.1.2.2.1
  have key : ∀ v : Int32, ((x1 = nI 0 → v = nI (T 0)) ∧ (x1 = nI 1 → v = nI (T 1)) ∧ (x1 = nI 2 → v = I 116 2) ∧ (x1 = nI 3 → v = nI (if T 1 ≤ T 0 then 1 else 0)) ∧ (x1 = nI 4 → v = nI (swn T)) ∧ (x1 = nI 5 → v = nI (nnw T)) ∧ (x1 = nI 6 → v = nI (T 3)) ∧ (x1 = nI 7 → v = nI (T 4)) ∧ (¬ x1 = (nI 0) ∧ ¬ x1 = (nI 1) ∧ ¬ x1 = (nI 2) ∧ ¬ x1 = (nI 3) ∧ ¬ x1 = (nI 4) ∧ ¬ x1 = (nI 5) ∧ ¬ x1 = (nI 6) ∧ ¬ x1 = (nI 7) → v = (-1))) → Pair E (d + 40) mX11_state mX12_state [.int x1] [.int x1] I := by
    intro v ⟨w0, w1, w2, w3, w4, w5, w6, w7, w8⟩
    have bb : ∀ (Q : QT) (I1 : IH), Q (some (.int (nI (if T 1 ≤ T 0 then 1 else 0)))) I1 → ((nI (if T 1 ≤ T 0 then 1 else 0) = 0 → Q (some (.int (nI 0))) I1) ∧ (¬ nI (if T 1 ≤ T 0 then 1 else 0) = 0 → Q (some (.int (nI 1))) I1)) := by
      intro Q I1 hq
      split at hq
      · rename_i q; rw [if_pos q]; exact ⟨fun z => absurd z (by decide +kernel), fun _ => hq⟩
      · rename_i q; rw [if_neg q]; exact ⟨fun _ => hq, fun z => absurd rfl z⟩
    refine Pair.pure hI v (fun Q hQ => ?_) (fun Q hQ => ?_)
    · refine S_X11_state _ ⟨fun q => ?_, fun q => ?_, fun q => ?_, fun q => ?_, fun q => ?_, fun q => ?_, fun q => ?_, fun q => ?_, fun q => ?_⟩
      · rw [v2, ← w0 q]; exact hQ
      · rw [v1, ← w1 q]; exact hQ
      · rw [a4, ← w2 q]; exact hQ
      · rw [w3 q] at hQ
        exact c_kisOver isEv_ev a3.1 a2.1 ⟨_, rfl, bb Q I hQ⟩
      · rw [v6, ← w4 q]; exact hQ
      · rw [w5 q] at hQ
        exact c_newsNow isEv_ev a3.1 a2.1 ⟨_, rfl, hQ⟩
      · rw [v3, ← w6 q]; exact hQ
      · rw [v4, ← w7 q]; exact hQ
      · rw [← w8 q]; exact hQ
    · refine S_X12_state _ ⟨fun q => ?_, fun q => ?_, fun q => ?_, fun q => ?_, fun q => ?_, fun q => ?_, fun q => ?_, fun q => ?_, fun q => ?_⟩
      · rw [a1 _ (by omega) (by omega) (by omega), ← w0 q]; exact hQ
      · rw [a1 _ (by omega) (by omega) (by omega), ← w1 q]; exact hQ
      · rw [← w2 q]; exact hQ
      · rw [w3 q] at hQ
        exact c_isOver a1 (by omega) (by omega) ⟨_, rfl, bb Q I hQ⟩
      · rw [w4 q] at hQ
        exact c_those a1 a2.1 rfl ⟨_, rfl, hQ⟩
      · rw [w5 q] at hQ
        rw [a1 0 (by omega) (by omega) (by omega), nI_leI (by omega) (by omega)]
        refine ⟨fun z => ?_, fun z => ⟨10 + T 0, by rw [nI_add], by omega, ?_⟩⟩
        · have e : nnw T = 0 := by unfold nnw; rw [if_neg (by omega)]
          rw [e] at hQ; exact hQ
        · have e : nnw T = T (10 + T 0) := by unfold nnw; rw [if_pos (by omega)]
          rw [e] at hQ; rw [a1 _ (by omega) (by omega) (by omega)]; exact hQ
      · rw [a1 _ (by omega) (by omega) (by omega), ← w6 q]; exact hQ
      · rw [a1 _ (by omega) (by omega) (by omega), ← w7 q]; exact hQ
      · rw [← w8 q]; exact hQ
  have ne : ∀ a b : Nat, a < 100 → b < 100 → a ≠ b → ¬ nI a = nI b := fun a b ha hb hab q => hab ((nI_eq (by omega) (by omega)).mp q)
  by_cases q0 : x1 = nI 0
  · subst q0; exact key (nI (T 0)) ⟨fun _ => rfl, fun q => absurd q (ne _ _ (by omega) (by omega) (by omega)), fun q => absurd q (ne _ _ (by omega) (by omega) (by omega)), fun q => absurd q (ne _ _ (by omega) (by omega) (by omega)), fun q => absurd q (ne _ _ (by omega) (by omega) (by omega)), fun q => absurd q (ne _ _ (by omega) (by omega) (by omega)), fun q => absurd q (ne _ _ (by omega) (by omega) (by omega)), fun q => absurd q (ne _ _ (by omega) (by omega) (by omega)), fun q => absurd rfl q.1⟩
  by_cases q1 : x1 = nI 1
  · exact key (nI (T 1)) ⟨fun q => absurd q q0, fun _ => rfl, fun q => absurd (q1.symm.trans q) (ne _ _ (by omega) (by omega) (by omega)), fun q => absurd (q1.symm.trans q) (ne _ _ (by omega) (by omega) (by omega)), fun q => absurd (q1.symm.trans q) (ne _ _ (by omega) (by omega) (by omega)), fun q => absurd (q1.symm.trans q) (ne _ _ (by omega) (by omega) (by omega)), fun q => absurd (q1.symm.trans q) (ne _ _ (by omega) (by omega) (by omega)), fun q => absurd (q1.symm.trans q) (ne _ _ (by omega) (by omega) (by omega)), fun q => absurd q1 q.2.1⟩
  by_cases q2 : x1 = nI 2
  · exact key (I 116 2) ⟨fun q => absurd q q0, fun q => absurd q q1, fun _ => rfl, fun q => absurd (q2.symm.trans q) (ne _ _ (by omega) (by omega) (by omega)), fun q => absurd (q2.symm.trans q) (ne _ _ (by omega) (by omega) (by omega)), fun q => absurd (q2.symm.trans q) (ne _ _ (by omega) (by omega) (by omega)), fun q => absurd (q2.symm.trans q) (ne _ _ (by omega) (by omega) (by omega)), fun q => absurd (q2.symm.trans q) (ne _ _ (by omega) (by omega) (by omega)), fun q => absurd q2 q.2.2.1⟩
  by_cases q3 : x1 = nI 3
  · exact key (nI (if T 1 ≤ T 0 then 1 else 0)) ⟨fun q => absurd q q0, fun q => absurd q q1, fun q => absurd q q2, fun _ => rfl, fun q => absurd (q3.symm.trans q) (ne _ _ (by omega) (by omega) (by omega)), fun q => absurd (q3.symm.trans q) (ne _ _ (by omega) (by omega) (by omega)), fun q => absurd (q3.symm.trans q) (ne _ _ (by omega) (by omega) (by omega)), fun q => absurd (q3.symm.trans q) (ne _ _ (by omega) (by omega) (by omega)), fun q => absurd q3 q.2.2.2.1⟩
  by_cases q4 : x1 = nI 4
  · exact key (nI (swn T)) ⟨fun q => absurd q q0, fun q => absurd q q1, fun q => absurd q q2, fun q => absurd q q3, fun _ => rfl, fun q => absurd (q4.symm.trans q) (ne _ _ (by omega) (by omega) (by omega)), fun q => absurd (q4.symm.trans q) (ne _ _ (by omega) (by omega) (by omega)), fun q => absurd (q4.symm.trans q) (ne _ _ (by omega) (by omega) (by omega)), fun q => absurd q4 q.2.2.2.2.1⟩
  by_cases q5 : x1 = nI 5
  · exact key (nI (nnw T)) ⟨fun q => absurd q q0, fun q => absurd q q1, fun q => absurd q q2, fun q => absurd q q3, fun q => absurd q q4, fun _ => rfl, fun q => absurd (q5.symm.trans q) (ne _ _ (by omega) (by omega) (by omega)), fun q => absurd (q5.symm.trans q) (ne _ _ (by omega) (by omega) (by omega)), fun q => absurd q5 q.2.2.2.2.2.1⟩
  by_cases q6 : x1 = nI 6
  · exact key (nI (T 3)) ⟨fun q => absurd q q0, fun q => absurd q q1, fun q => absurd q q2, fun q => absurd q q3, fun q => absurd q q4, fun q => absurd q q5, fun _ => rfl, fun q => absurd (q6.symm.trans q) (ne _ _ (by omega) (by omega) (by omega)), fun q => absurd q6 q.2.2.2.2.2.2.1⟩
  by_cases q7 : x1 = nI 7
  · exact key (nI (T 4)) ⟨fun q => absurd q q0, fun q => absurd q q1, fun q => absurd q q2, fun q => absurd q q3, fun q => absurd q q4, fun q => absurd q q5, fun q => absurd q q6, fun _ => rfl, fun q => absurd q7 q.2.2.2.2.2.2.2⟩
  · exact key (-1) ⟨fun q => absurd q q0, fun q => absurd q q1, fun q => absurd q q2, fun q => absurd q q3, fun q => absurd q q4, fun q => absurd q q5, fun q => absurd q q6, fun q => absurd q q7, fun _ => rfl⟩
end P2
