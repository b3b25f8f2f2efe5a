section L10
variable {E : EE} {d : Nat} {I : IH} {Q : QT} {B : Nat → Nat} {T T2 : Nat → Nat} {t : Nat → Nat} {n K i j k c o r : Nat} {x y : Int32} {st : Nat → Int32} {g e : Nat}
theorem nI_ex (x : Int32) : ∃ o, x = nI o := ⟨x.toBitVec.toNat, Int32.toBitVec_inj.mp (by show x.toBitVec = BitVec.ofNat 32 x.toBitVec.toNat; simp)⟩
theorem stop_uni {a b : Nat} (h1 : Stop t a) (h2 : Stop t b) : a = b := by
  have key : ∀ a b, Stop t a → Stop t b → ¬ a < b := by
    intro a b ha hb hlt
    obtain ⟨g1, q, g2⟩ := hb.2.1 a hlt
    rcases ha.2.2 with h | ⟨-, j, h⟩
    · exact g1 h
    · rw [h] at g2; cases g2
  have := key a b h1 h2
  have := key b a h2 h1
  omega
theorem lx_ex (B : Nat → Nat) (n : Nat) : ∃ K, LX B n K := by
  have go : ∀ m i, pl B n i + m = n → (∀ j, j < i → pl B n j < n) → i ≤ pl B n i → ∃ K, LX B n K := by
    intro m
    induction m using Nat.strongRecOn with
    | ind m ih =>
      intro i hm hj hi
      by_cases h : pl B n i < n
      · have e : pl B n (i + 1) = skp B n (ten B n (pl B n i)) := by
          show (if pl B n i < n then skp B n (ten B n (pl B n i)) else pl B n i) = _
          rw [if_pos h]
        have g1 : pl B n i < ten B n (pl B n i) := ten_gt
        have g2 : ten B n (pl B n i) ≤ skp B n (ten B n (pl B n i)) := runB_le _ _
        have g3 : skp B n (ten B n (pl B n i)) ≤ n := runB_n _ _ (ten_le h)
        refine ih (n - pl B n (i + 1)) (by omega) (i + 1) (by omega) (fun j hj2 => ?_) (by omega)
        by_cases e2 : j = i
        · rw [e2]; exact h
        · exact hj j (by omega)
      · exact ⟨i, by omega, by omega, hj⟩
  have h0 : pl B n 0 ≤ n := runB_n _ _ (Nat.zero_le _)
  exact go (n - pl B n 0) 0 (by omega) (fun j hj => by omega) (Nat.zero_le _)
/-! numbers that words are -/
theorem spS_nat : ∀ (ops : List Op3) (i z : Nat), spS st i z ops → wfo ops → ∀ p, i ≤ p → p < z → ∃ v, st p = nI v ∧ v < 100000 := by
  intro ops
  induction ops with
  | nil => intro i z h _ p h1 h2; have h : i = z := h; omega
  | cons q ops ih =>
    intro i z h hw p h1 h2
    have hq := hw q (List.mem_cons_self)
    have hw2 : wfo ops := fun q hq => hw q (List.mem_cons_of_mem _ hq)
    unfold spS at h
    split at h
    · rename_i g
      obtain ⟨a1, a2, a3, a4, a5, a6⟩ := h
      unfold okv at a4 a5
      rcases (show p = i ∨ p = i + 1 ∨ p = i + 2 ∨ i + 3 ≤ p by omega) with e | e | e | e
      · exact ⟨_, by rw [e]; exact a1, by omega⟩
      · exact ⟨_, by rw [e]; exact a2, by omega⟩
      · exact ⟨_, by rw [e]; exact a3, by omega⟩
      · exact ih _ _ a6 hw2 p e h2
    · obtain ⟨a1, a2, a3⟩ := h
      rcases (show p = i ∨ i + 1 ≤ p by omega) with e | e
      · refine ⟨_, by rw [e]; exact a1, ?_⟩
        split <;> omega
      · exact ih _ _ a3 hw2 p e h2
theorem spS_M : ∀ (ops : List Op3) (i z : Nat), spS st i z ops → (∀ p, i ≤ p → p < z → st p = nI (T (122 + p)) ∧ T (122 + p) < 100000) → spM T i z ops := by
  intro ops
  induction ops with
  | nil => intro i z h _; exact h
  | cons q ops ih =>
    intro i z h hT
    unfold spS at h
    unfold spM
    split
    · rename_i g
      rw [if_pos g] at h
      obtain ⟨a1, a2, a3, a4, a5, a6⟩ := h
      have hz := spS_le _ _ _ a6
      unfold okv at a4 a5
      obtain ⟨b1, c1⟩ := hT i (by omega) (by omega)
      obtain ⟨b2, c2⟩ := hT (i + 1) (by omega) (by omega)
      obtain ⟨b3, c3⟩ := hT (i + 2) (by omega) (by omega)
      rw [b1, nI_eq (by omega) (by omega)] at a1
      rw [b2, nI_eq (by omega) (by omega)] at a2
      rw [b3, nI_eq (by omega) (by omega)] at a3
      refine ⟨a1, ?_, ?_, a4, a5, ih _ _ a6 (fun p h1 h2 => hT p (by omega) h2)⟩
      · rw [show 123 + i = 122 + (i + 1) by omega]; exact a2
      · rw [show 124 + i = 122 + (i + 2) by omega]; exact a3
    · rename_i g
      rw [if_neg g] at h
      obtain ⟨a1, a2, a3⟩ := h
      have hz := spS_le _ _ _ a3
      obtain ⟨b1, c1⟩ := hT i (by omega) (by omega)
      have : (if q.1 = 3 then 10015 else 10009 + q.1) < 100000 := by split <;> omega
      rw [b1, nI_eq (by omega) (by omega)] at a1
      exact ⟨a1, a2, ih _ _ a3 (fun p h1 h2 => hT p (by omega) h2)⟩
theorem tvs_spM (z : Nat) : ∀ (ops : List Op3) (i m m2 : Nat), spM T i z ops → dpt ops m = some m2 → tvs T i (z - i) (List.replicate m true) = some (List.replicate m2 true) := by
  intro ops
  induction ops with
  | nil =>
    intro i m m2 h hd
    have h : i = z := h
    subst h
    cases hd
    rw [Nat.sub_self]; rfl
  | cons q ops ih =>
    intro i m m2 h hd
    obtain ⟨m3, hd1, hd2⟩ := Option.bind_eq_some_iff.mp hd
    obtain ⟨u, a, b⟩ := q
    unfold spM at h
    by_cases ho : u ≤ 2
    · rw [if_pos ho] at h
      obtain ⟨a1, a2, a3, a4, a5, a6⟩ := h
      simp only at a1 a2 a3 a4 a5
      unfold okv at a4 a5
      have hz := spM_le _ _ _ a6
      have e3 : m3 = m + 1 := by
        unfold dp1 at hd1
        rw [if_pos ho] at hd1
        split at hd1
        · exact (Option.some.inj hd1).symm
        · cases hd1
      subst e3
      rw [show z - i = (z - (i + 3)) + 1 + 1 + 1 by omega]
      show (tst (T (122 + i)) (List.replicate m true)).bind (fun w => (tst (T (122 + (i + 1))) w).bind (fun w => (tst (T (122 + (i + 1 + 1))) w).bind (tvs T (i + 1 + 1 + 1) (z - (i + 3))))) = _
      have t1 : tst (T (122 + i)) (List.replicate m true) = some (false :: List.replicate m true) := by unfold tst; rw [a1, if_pos (by omega)]
      have t2 : tst (T (122 + (i + 1))) (false :: List.replicate m true) = some (false :: false :: List.replicate m true) := by
        rw [show 122 + (i + 1) = 123 + i by omega]; unfold tst; rw [a2, if_pos (by omega)]
      have t3 : tst (T (122 + (i + 1 + 1))) (false :: false :: List.replicate m true) = some (true :: List.replicate m true) := by
        rw [show 122 + (i + 1 + 1) = 124 + i by omega]; unfold tst; rw [a3, if_neg (by omega), if_neg (by omega), if_neg (by omega), if_pos (by omega)]
      rw [t1, Option.bind_some, t2, Option.bind_some, t3, Option.bind_some]
      exact ih (i + 3) (m + 1) m2 a6 hd2
    · rw [if_neg ho] at h
      obtain ⟨a1, a2, a3⟩ := h
      simp only at a1 a2
      have hz := spM_le _ _ _ a3
      rw [show z - i = (z - (i + 1)) + 1 by omega]
      show (tst (T (122 + i)) (List.replicate m true)).bind (tvs T (i + 1) (z - (i + 1))) = _
      unfold dp1 at hd1
      rw [if_neg ho] at hd1
      by_cases q3 : u = 3
      · rw [if_pos q3] at hd1
        split at hd1
        · rename_i hm
          cases hd1
          have t1 : tst (T (122 + i)) (List.replicate m true) = some (List.replicate m true) := by
            rw [a1, if_pos q3]
            unfold tst
            rw [if_neg (by omega), if_neg (by omega), if_pos rfl]
            cases m with
            | zero => omega
            | succ m => rfl
          rw [t1, Option.bind_some]
          exact ih (i + 1) m m2 a3 hd2
        · cases hd1
      · rw [if_neg q3, if_pos (by omega)] at hd1
        split at hd1
        · rename_i hm
          cases hd1
          have t1 : tst (T (122 + i)) (List.replicate m true) = some (List.replicate (m - 1) true) := by
            rw [a1, if_neg q3]
            unfold tst
            rw [if_neg (by omega), if_neg (by omega), if_neg (by omega), if_neg (by omega), if_pos (by omega)]
            match m, hm with
            | m + 2, _ => rfl
          rw [t1, Option.bind_some]
          exact ih (i + 1) (m - 1) m2 a3 hd2
        · cases hd1
theorem seg_ex (ok : OKr t c) : ∀ r, r ≤ c → ∀ p, p < (rix t r).2.2 → ∃ j, j < r ∧ (rix t j).2.2 ≤ p ∧ p < (rix t (j + 1)).2.2 := by
  intro r
  induction r with
  | zero => intro _ p hp; exact absurd hp (Nat.not_lt_zero _)
  | succ r ih =>
    intro hr p hp
    by_cases h : p < (rix t r).2.2
    · obtain ⟨j, a, b⟩ := ih (by omega) p h
      exact ⟨j, by omega, b⟩
    · exact ⟨r, by omega, by omega, hp⟩
theorem EvR.cT (h : EvR I e g T) (hT : ∀ j, j < 98 → j ≠ 7 → T2 j = T j) (h6 : T 6 ≤ 6) (h8 : T 8 ≤ 6) : EvR I e g T2 := by
  have e6 : T2 6 = T 6 := hT 6 (by omega) (by omega)
  have es : swn T2 = swn T := by unfold swn; rw [e6]; exact swF_c _ (fun k hk => hT _ (by omega) (by omega))
  obtain ⟨v1, v2, v3, v4, v5, v6, v7, v8, v9, v10, v11, v12, v13, v14, v15⟩ := h
  unfold EvR
  rw [es, e6, hT 1 (by omega) (by omega), hT 0 (by omega) (by omega), hT 3 (by omega) (by omega), hT 4 (by omega) (by omega), hT 8 (by omega) (by omega)]
  refine ⟨v1, v2, v3, v4, v5, v6, v7, fun j hj => ?_, fun j hj => ?_, fun j hj => ?_, fun j hj => ?_, fun j hj => ?_, fun j hj => ?_, fun j hj => ?_, fun j hj => ?_⟩
  · rw [hT _ (by omega) (by omega)]; exact v8 j hj
  · rw [hT _ (by omega) (by omega)]; exact v9 j hj
  · rw [hT _ (by omega) (by omega)]; exact v10 j hj
  · rw [hT _ (by omega) (by omega)]; exact v11 j hj
  · rw [hT _ (by omega) (by omega)]; exact v12 j hj
  · rw [hT _ (by omega) (by omega)]; exact v13 j hj
  · rw [hT _ (by omega) (by omega)]; exact v14 j hj
  · rw [hT _ (by omega) (by omega)]; exact v15 j hj
theorem WfE.cT (h : WfE T) (ha : ∀ j, j < 98 → j ≠ 7 → T2 j = T j) : WfE T2 := by
  obtain ⟨h6, h0, h1, h3, h4, hn, hw, hp⟩ := h
  have e6 : T2 6 = T 6 := ha 6 (by omega) (by omega)
  refine ⟨by rw [e6]; exact h6, by rw [ha 0 (by omega) (by omega)]; exact h0, by rw [ha 1 (by omega) (by omega)]; exact h1, by rw [ha 3 (by omega) (by omega)]; exact h3, by rw [ha 4 (by omega) (by omega)]; exact h4, fun j hj => by rw [ha _ (by omega) (by omega)]; exact hn j hj, fun w hh => by rw [ha _ (by omega) (by omega), ha _ (by omega) (by omega)]; exact hw w hh, fun k hk => ?_⟩
  rw [e6] at hk
  unfold WfP
  rw [ha _ (by omega) (by omega), ha _ (by omega) (by omega), ha _ (by omega) (by omega), ha _ (by omega) (by omega), ha _ (by omega) (by omega)]
  exact hp k hk
/-- behind the telling of rules class and reference hold the same -/
theorem rules_inv {I2 : IH} {S : Nat} (h : InvT I T) (hend : t K = 301) (hK : K ≤ 200) (hs : Stop t c) (hS : S = (rix t c).2.2)
    (q : ∀ a, a ∉ [1, 3, 4, 5, 6, 7, 8, 9, 27, 28, 29, 30, 31, 115, 116, 122, 123] → I2 a = I a) (k1 : I2 1 0 = nI 0) (k6 : I2 115 6 = nI 0) (k115 : ∀ j, (j < 8 ∧ j ≠ 6) ∨ 13 < j → I2 115 j = I 115 j)
    (k7 : I2 116 7 = nI c) (k116 : ∀ j, j ≠ 7 → ¬ (98 ≤ j ∧ j < 98 + 3 * c) → ¬ (122 ≤ j ∧ j < 122 + S) → I2 116 j = I 116 j)
    (k27 : I2 27 0 = nI c) (hx : ∀ j, j < c → ∀ q, pRule t j (rix t j).1 = .inr q → I2 28 j = nI q.2.1 ∧ I2 29 j = nI q.2.2.1 ∧ I2 30 j = nI (rix t (j + 1)).2.1 ∧ spC (I2 31) (rix t j).2.1 (rix t (j + 1)).2.1 q.2.2.2.1)
    (hm : ∀ j, j < c → ∀ q, pRule t j (rix t j).1 = .inr q → I2 116 (98 + 3 * j) = nI q.2.1 ∧ I2 116 (98 + (3 * j + 1)) = nI q.2.2.1 ∧ I2 116 (98 + (3 * j + 2)) = nI (rix t (j + 1)).2.2 ∧ spS (fun p => I2 116 (122 + p)) (rix t j).2.2 (rix t (j + 1)).2.2 q.2.2.2.2) : Inv I2 := by
  obtain ⟨a1, a2, a3, a4, a5, a6⟩ := h
  obtain ⟨w1, w2, w3, w4, w5⟩ := a2
  obtain ⟨o1, o2, o3, o4, o5, o6⟩ := a6
  obtain ⟨hc8, ok, -⟩ := hs
  have h6 : T 6 ≤ 6 := w1.1
  have h8 : T 8 ≤ 6 := w3.1
  have rl := rix_le (t := t) hend
  have hS2 : S ≤ 200 := by have := rl c; omega
  have rg : ∀ j, j < c → ∃ q, pRule t j (rix t j).1 = .inr q ∧ RG K (rix t j).1 (.inr q) := fun j hj => by
    obtain ⟨-, q, hq⟩ := ok j hj
    have g := pRule_g (r := j) hend (rl j).1
    rw [hq] at g
    exact ⟨q, hq, g⟩
  -- what the words are
  have wS : ∀ p, p < S → ∃ v, I2 116 (122 + p) = nI v ∧ v < 100000 := by
    intro p hp
    obtain ⟨j, hj, b1, b2⟩ := seg_ex ok c (Nat.le_refl c) p (by omega)
    obtain ⟨qq, hq, g⟩ := rg j hj
    obtain ⟨-, -, -, z4⟩ := hm j hj qq hq
    refine spS_nat (st := fun p => I2 116 (122 + p)) _ _ _ z4 ?_ p b1 b2
    rcases g.2.2.2.2.2.2 with ⟨-, e⟩ | g
    · rw [e]; intro q hq; cases hq
    · exact g.2.2.2.1
  have wR : ∀ p, p < 3 * c → ∃ v, I2 116 (98 + p) = nI v ∧ v < 100000 := by
    intro p hp
    obtain ⟨qq, hq, g⟩ := rg (p / 3) (by omega)
    obtain ⟨z1, z2, z3, z4⟩ := hm (p / 3) (by omega) qq hq
    have g3 := g.2.2.1
    have g4 := g.2.2.2.1
    have r1 := rl (p / 3 + 1)
    rcases (show p = 3 * (p / 3) ∨ p = 3 * (p / 3) + 1 ∨ p = 3 * (p / 3) + 2 by omega) with e | e | e
    · exact ⟨_, by rw [e]; exact z1, by omega⟩
    · exact ⟨_, by rw [e]; exact z2, by omega⟩
    · exact ⟨_, by rw [e]; exact z3, by omega⟩
  have bk0 : ∀ v, v < 100000 → (nI v).toInt.toNat = v := fun v hv => by rw [nI_toInt (by omega)]; rfl
  let T2 : Nat → Nat := fun j => if j = 7 then c else if (98 ≤ j ∧ j < 98 + 3 * c) ∨ (122 ≤ j ∧ j < 122 + S) then (I2 116 j).toInt.toNat else T j
  have t7 : T2 7 = c := by show (if 7 = 7 then c else _) = c; rw [if_pos rfl]
  have tlo : ∀ j, j < 98 → j ≠ 7 → T2 j = T j := fun j hj h7 => by
    show (if j = 7 then c else if (98 ≤ j ∧ j < 98 + 3 * c) ∨ (122 ≤ j ∧ j < 122 + S) then (I2 116 j).toInt.toNat else T j) = _
    rw [if_neg h7, if_neg (by omega)]
  have thi : ∀ j, (98 ≤ j ∧ j < 98 + 3 * c) ∨ (122 ≤ j ∧ j < 122 + S) → T2 j = (I2 116 j).toInt.toNat := fun j hj => by
    show (if j = 7 then c else if (98 ≤ j ∧ j < 98 + 3 * c) ∨ (122 ≤ j ∧ j < 122 + S) then (I2 116 j).toInt.toNat else T j) = _
    rw [if_neg (by omega), if_pos hj]
  have tR : ∀ p, p < 3 * c → I2 116 (98 + p) = nI (T2 (98 + p)) := fun p hp => by
    obtain ⟨v, hv, hb⟩ := wR p hp
    rw [thi _ (by omega), hv, bk0 v hb]
  have tS : ∀ p, p < S → I2 116 (122 + p) = nI (T2 (122 + p)) ∧ T2 (122 + p) < 100000 := fun p hp => by
    obtain ⟨v, hv, hb⟩ := wS p hp
    rw [thi _ (by omega), hv, bk0 v hb]; exact ⟨rfl, hb⟩
  have rm : RM I2 T2 := by
    intro j hj j2 j5
    by_cases e7 : j = 7
    · rw [e7, t7]; exact k7
    · by_cases eR : 98 ≤ j ∧ j < 98 + 3 * c
      · have := tR (j - 98) (by omega)
        rw [show 98 + (j - 98) = j by omega] at this; exact this
      · by_cases eS : 122 ≤ j ∧ j < 122 + S
        · have := (tS (j - 122) (by omega)).1
          rw [show 122 + (j - 122) = j by omega] at this; exact this
        · rw [k116 j e7 eR eS, a1 j hj j2 j5]
          congr 1
          show T j = (if j = 7 then c else if (98 ≤ j ∧ j < 98 + 3 * c) ∨ (122 ≤ j ∧ j < 122 + S) then (I2 116 j).toInt.toNat else T j)
          rw [if_neg e7, if_neg (by omega)]
  have val : ∀ j, j < c → ∀ q, pRule t j (rix t j).1 = .inr q → RG K (rix t j).1 (.inr q) → T2 (98 + 3 * j) = q.2.1 ∧ T2 (99 + 3 * j) = q.2.2.1 ∧ T2 (100 + 3 * j) = (rix t (j + 1)).2.2 := by
    intro j hj q hq g
    obtain ⟨z1, z2, z3, -⟩ := hm j hj q hq
    have g3 := g.2.2.1
    have g4 := g.2.2.2.1
    have r1 := rl (j + 1)
    refine ⟨?_, ?_, ?_⟩
    · rw [thi _ (by omega), z1, bk0 _ (by omega)]
    · rw [thi _ (by omega), show 99 + 3 * j = 98 + (3 * j + 1) by omega, z2, bk0 _ (by omega)]
    · rw [thi _ (by omega), show 100 + 3 * j = 98 + (3 * j + 2) by omega, z3, bk0 _ (by omega)]
  have vto : ∀ j, j < c → rto T2 j = (rix t (j + 1)).2.2 := fun j hj => by
    obtain ⟨qq, hq, g⟩ := rg j hj
    exact (val j hj qq hq g).2.2
  have vfr : ∀ j, j < c → rfr T2 j = (rix t j).2.2 := fun j hj => by
    unfold rfr
    split
    · rename_i e; rw [e]; rfl
    · rename_i e
      have := vto (j - 1) (by omega)
      unfold rto at this
      rw [show 97 + 3 * j = 100 + 3 * (j - 1) by omega, this, show j - 1 + 1 = j by omega]
  have spm : ∀ j, j < c → ∀ q, pRule t j (rix t j).1 = .inr q → spM T2 (rfr T2 j) (rto T2 j) q.2.2.2.2 := fun j hj q hq => by
    rw [vto j hj, vfr j hj]
    refine spS_M (st := fun p => I2 116 (122 + p)) _ _ _ (hm j hj q hq).2.2.2 (fun p _ h2 => ?_)
    have := rix_monoM ok c (Nat.le_refl c) (j + 1) (by omega)
    exact tS p (by omega)
  have hWR : WfR T2 := by
    refine ⟨by rw [t7]; exact hc8, fun j hj => ?_⟩
    rw [t7] at hj
    obtain ⟨qq, hq, g⟩ := rg j hj
    obtain ⟨v1, v2, v3⟩ := val j hj qq hq g
    have m1 := rix_monoM ok (j + 1) (by omega) j (by omega)
    have m2 := rl (j + 1)
    refine ⟨by rw [v1]; exact g.2.2.1, by rw [v2]; exact g.2.2.2.1, by rw [vfr j hj, vto j hj]; exact m1, by rw [vto j hj]; omega, ?_⟩
    rcases g.2.2.2.2.2.2 with ⟨-, e⟩ | g
    · left
      have := spm j hj qq hq
      rw [e] at this
      exact this
    · right
      exact tvs_spM (rto T2 j) _ _ 0 1 (spm j hj qq hq) (g.2.2.2.2.2 0 (by omega)).2
  have hru : RuR I2 27 T2 := by
    refine ⟨by rw [t7]; exact k27, fun j => (rix t j).2.1, rfl, fun j hj => ?_⟩
    rw [t7] at hj
    obtain ⟨qq, hq, g⟩ := rg j hj
    obtain ⟨v1, v2, v3⟩ := val j hj qq hq g
    obtain ⟨x1, x2, x3, x4⟩ := hx j hj qq hq
    have m2 := rl (j + 1)
    refine ⟨by rw [v1]; exact x1, by rw [v2]; exact x2, x3, by show (rix t (j + 1)).2.1 ≤ 200; omega, qq.2.2.2.1, qq.2.2.2.2, x4, spm j hj qq hq, ?_⟩
    rcases g.2.2.2.2.2.2 with ⟨e1, e2⟩ | g
    · rw [e1, e2]
      exact ⟨Or.inl rfl, Or.inl rfl, ⟨fun _ => rfl, fun _ => rfl⟩, fun f _ => rfl⟩
    · obtain ⟨-, -, -, -, ⟨V, g5⟩, g6⟩ := g
      refine ⟨Or.inr (g6 0 (by omega)).1, Or.inr (g6 0 (by omega)).2, ⟨fun e => ?_, fun e => ?_⟩, fun f _ => by rw [(g5 f []).1, (g5 f []).2]⟩
      · have := (g5 (fun _ => 0) []).1
        rw [e] at this; cases this
      · have := (g5 (fun _ => 0) []).2
        rw [e] at this; cases this
  have hev : EvR I2 33 34 T2 := by
    have e0 : EvR I2 33 34 T := a3.1.same (L := [1, 3, 4, 5, 6, 7, 8, 9, 27, 28, 29, 30, 31, 115, 116, 122, 123]) q (by decide) (fun i hi => by simp; omega)
    exact e0.cT tlo h6 h8
  have hwq : WfQ T2 := by
    obtain ⟨b1, b2⟩ := w3
    have e8 : T2 8 = T 8 := tlo 8 (by omega) (by omega)
    refine ⟨by rw [e8]; exact b1, fun j hj => ?_⟩
    rw [e8] at hj
    rw [tlo _ (by omega) (by omega), tlo _ (by omega) (by omega), tlo _ (by omega) (by omega), tlo _ (by omega) (by omega)]
    exact b2 j hj
  refine ⟨T2, rm, ⟨w1.cT tlo, hWR, hwq, by rw [tlo 0 (by omega) (by omega), tlo 1 (by omega) (by omega)]; exact w4, by rw [tlo 1 (by omega) (by omega)]; exact w5⟩, ⟨hev, hru⟩, ?_, ?_, ?_⟩
  · rw [q 33 (by decide), k116 2 (by omega) (by omega) (by omega)]; exact a4
  · rw [q 33 (by decide), k116 5 (by omega) (by omega) (by omega)]; exact a5
  · refine ⟨o1.eqs (by rw [q 0 (by decide)]) (k115 3 (by omega)) (fun a ha => q a (by simp; omega)), ⟨0, by omega, k1, k6, fun i hi => by omega⟩, o3.eqs (by rw [q 0 (by decide)]) (k115 28 (by omega)) (q _ (by decide)) (q _ (by decide)), o4.eqs (fun a ha => q a (by simp; omega)), o5.eqs (fun a ha => q a (by simp; omega)), o6.eqs (by rw [q 11 (by decide)]) (k115 35 (by omega)) (q _ (by decide)) (q _ (by decide))⟩
end L10
