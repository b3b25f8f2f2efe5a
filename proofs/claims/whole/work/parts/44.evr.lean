section K5
variable {I : IH} {T : Nat → Nat} {k e g r : Nat}
theorem EvR.rag {v : Nat} (h : EvR I e g T) (hn : ∀ i, i < 8 → g + i ≠ e) (hW : WfE T) (hk : k < 6) : EvR (stI I (g + 1) k (nI v)) e g (up T (26 + k) v) := by
  have h6 : T 6 ≤ 6 := hW.1
  obtain ⟨v1, v2, v3, v4, v5, v6, v7, v8, v9, v10, v11, v12, v13, v14, v15⟩ := h
  have he : stI I (g + 1) k (nI v) e = I e := st_ne (Ne.symm (hn 1 (by omega)))
  have hg : ∀ q, q ≠ 1 → stI I (g + 1) k (nI v) (g + q) = I (g + q) := fun q hq => st_ne (by omega)
  have hg0 : stI I (g + 1) k (nI v) g = I g := hg 0 (by omega)
  have s : swn (up T (26 + k) v) = swn T := by
    unfold swn
    rw [up_ne (by omega)]
    exact swF_c _ (fun q hq => up_ne (by omega))
  unfold EvR
  rw [s, he, hg0, hg 2 (by omega), hg 3 (by omega), hg 4 (by omega), hg 5 (by omega), hg 6 (by omega), hg 7 (by omega), up_ne (by omega), up_ne (by omega), up_ne (by omega), up_ne (by omega), up_ne (by omega), up_ne (by omega)]
  refine ⟨v1, v2, v3, v4, v5, v6, v7, ?_, ?_, ?_, ?_, ?_, ?_, ?_, ?_⟩
  · intro j hj; rw [up_ne (by omega)]; exact v8 j hj
  · intro j hj
    by_cases e1 : j = k
    · subst e1; rw [st_at, up_eq]
    · rw [st_nj e1, up_ne (by omega)]; exact v9 j hj
  · intro j hj; rw [up_ne (by omega)]; exact v10 j hj
  · intro j hj; rw [up_ne (by omega)]; exact v11 j hj
  · intro j hj; rw [up_ne (by omega)]; exact v12 j hj
  · intro j hj; rw [up_ne (by omega)]; exact v13 j hj
  · intro j hj; rw [up_ne (by omega)]; exact v14 j hj
  · intro j hj; rw [up_ne (by omega)]; exact v15 j hj
theorem EvR.sc {v : Nat} (h : EvR I e g T) (hn : ∀ i, i < 8 → g + i ≠ e) (hW : WfE T) (hk : k < T 6) : EvR (stI I (g + 4) k (nI v)) e g (up T (39 + 6 * k) v) := by
  have h6 : T 6 ≤ 6 := hW.1
  obtain ⟨v1, v2, v3, v4, v5, v6, v7, v8, v9, v10, v11, v12, v13, v14, v15⟩ := h
  have he : stI I (g + 4) k (nI v) e = I e := st_ne (Ne.symm (hn 4 (by omega)))
  have hg : ∀ q, q ≠ 4 → stI I (g + 4) k (nI v) (g + q) = I (g + q) := fun q hq => st_ne (by omega)
  have hg0 : stI I (g + 4) k (nI v) g = I g := hg 0 (by omega)
  have s : swn (up T (39 + 6 * k) v) = swn T := by
    unfold swn
    rw [up_ne (by omega)]
    exact swF_c _ (fun q hq => up_ne (by omega))
  unfold EvR
  rw [s, he, hg0, hg 1 (by omega), hg 2 (by omega), hg 3 (by omega), hg 5 (by omega), hg 6 (by omega), hg 7 (by omega), up_ne (by omega), up_ne (by omega), up_ne (by omega), up_ne (by omega), up_ne (by omega), up_ne (by omega)]
  refine ⟨v1, v2, v3, v4, v5, v6, v7, ?_, ?_, ?_, ?_, ?_, ?_, ?_, ?_⟩
  · intro j hj; rw [up_ne (by omega)]; exact v8 j hj
  · intro j hj; rw [up_ne (by omega)]; exact v9 j hj
  · intro j hj; rw [up_ne (by omega)]; exact v10 j hj
  · intro j hj; rw [up_ne (by omega)]; exact v11 j hj
  · intro j hj
    by_cases e1 : j = k
    · subst e1; rw [st_at, up_eq]
    · rw [st_nj e1, up_ne (by omega)]; exact v12 j hj
  · intro j hj; rw [up_ne (by omega)]; exact v13 j hj
  · intro j hj; rw [up_ne (by omega)]; exact v14 j hj
  · intro j hj; rw [up_ne (by omega)]; exact v15 j hj
theorem EvR.lk {v : Nat} (h : EvR I e g T) (hn : ∀ i, i < 8 → g + i ≠ e) (hW : WfE T) (hk : k < T 6) : EvR (stI I (g + 6) k (nI v)) e g (up T (40 + 6 * k) v) := by
  have h6 : T 6 ≤ 6 := hW.1
  obtain ⟨v1, v2, v3, v4, v5, v6, v7, v8, v9, v10, v11, v12, v13, v14, v15⟩ := h
  have he : stI I (g + 6) k (nI v) e = I e := st_ne (Ne.symm (hn 6 (by omega)))
  have hg : ∀ q, q ≠ 6 → stI I (g + 6) k (nI v) (g + q) = I (g + q) := fun q hq => st_ne (by omega)
  have hg0 : stI I (g + 6) k (nI v) g = I g := hg 0 (by omega)
  have s : swn (up T (40 + 6 * k) v) = swn T := by
    unfold swn
    rw [up_ne (by omega)]
    exact swF_c _ (fun q hq => up_ne (by omega))
  unfold EvR
  rw [s, he, hg0, hg 1 (by omega), hg 2 (by omega), hg 3 (by omega), hg 4 (by omega), hg 5 (by omega), hg 7 (by omega), up_ne (by omega), up_ne (by omega), up_ne (by omega), up_ne (by omega), up_ne (by omega), up_ne (by omega)]
  refine ⟨v1, v2, v3, v4, v5, v6, v7, ?_, ?_, ?_, ?_, ?_, ?_, ?_, ?_⟩
  · intro j hj; rw [up_ne (by omega)]; exact v8 j hj
  · intro j hj; rw [up_ne (by omega)]; exact v9 j hj
  · intro j hj; rw [up_ne (by omega)]; exact v10 j hj
  · intro j hj; rw [up_ne (by omega)]; exact v11 j hj
  · intro j hj; rw [up_ne (by omega)]; exact v12 j hj
  · intro j hj; rw [up_ne (by omega)]; exact v13 j hj
  · intro j hj
    by_cases e1 : j = k
    · subst e1; rw [st_at, up_eq]
    · rw [st_nj e1, up_ne (by omega)]; exact v14 j hj
  · intro j hj; rw [up_ne (by omega)]; exact v15 j hj
theorem EvR.bear {v : Nat} (h : EvR I e g T) (hn : ∀ i, i < 8 → g + i ≠ e) (hW : WfE T) (hk : k < 6) : EvR (stI I (g + 2) k (nI v)) e g (up T (32 + k) v) := by
  have h6 : T 6 ≤ 6 := hW.1
  obtain ⟨v1, v2, v3, v4, v5, v6, v7, v8, v9, v10, v11, v12, v13, v14, v15⟩ := h
  have he : stI I (g + 2) k (nI v) e = I e := st_ne (Ne.symm (hn 2 (by omega)))
  have hg : ∀ q, q ≠ 2 → stI I (g + 2) k (nI v) (g + q) = I (g + q) := fun q hq => st_ne (by omega)
  have hg0 : stI I (g + 2) k (nI v) g = I g := hg 0 (by omega)
  have s : swn (up T (32 + k) v) = swn T := by
    unfold swn
    rw [up_ne (by omega)]
    exact swF_c _ (fun q hq => up_ne (by omega))
  unfold EvR
  rw [s, he, hg0, hg 1 (by omega), hg 3 (by omega), hg 4 (by omega), hg 5 (by omega), hg 6 (by omega), hg 7 (by omega), up_ne (by omega), up_ne (by omega), up_ne (by omega), up_ne (by omega), up_ne (by omega), up_ne (by omega)]
  refine ⟨v1, v2, v3, v4, v5, v6, v7, ?_, ?_, ?_, ?_, ?_, ?_, ?_, ?_⟩
  · intro j hj; rw [up_ne (by omega)]; exact v8 j hj
  · intro j hj; rw [up_ne (by omega)]; exact v9 j hj
  · intro j hj
    by_cases e1 : j = k
    · subst e1; rw [st_at, up_eq]
    · rw [st_nj e1, up_ne (by omega)]; exact v10 j hj
  · intro j hj; rw [up_ne (by omega)]; exact v11 j hj
  · intro j hj; rw [up_ne (by omega)]; exact v12 j hj
  · intro j hj; rw [up_ne (by omega)]; exact v13 j hj
  · intro j hj; rw [up_ne (by omega)]; exact v14 j hj
  · intro j hj; rw [up_ne (by omega)]; exact v15 j hj
theorem EvR.news {v : Nat} (h : EvR I e g T) (hn : ∀ i, i < 8 → g + i ≠ e) (hW : WfE T) (hk : k < 16) : EvR (stI I g k (nI v)) e g (up T (10 + k) v) := by
  have h6 : T 6 ≤ 6 := hW.1
  obtain ⟨v1, v2, v3, v4, v5, v6, v7, v8, v9, v10, v11, v12, v13, v14, v15⟩ := h
  have he : stI I g k (nI v) e = I e := st_ne (Ne.symm (hn 0 (by omega)))
  have hg : ∀ q, q ≠ 0 → stI I g k (nI v) (g + q) = I (g + q) := fun q hq => st_ne (by omega)
  have s : swn (up T (10 + k) v) = swn T := by
    unfold swn
    rw [up_ne (by omega)]
    exact swF_c _ (fun q hq => up_ne (by omega))
  unfold EvR
  rw [s, he, hg 1 (by omega), hg 2 (by omega), hg 3 (by omega), hg 4 (by omega), hg 5 (by omega), hg 6 (by omega), hg 7 (by omega), up_ne (by omega), up_ne (by omega), up_ne (by omega), up_ne (by omega), up_ne (by omega), up_ne (by omega)]
  refine ⟨v1, v2, v3, v4, v5, v6, v7, ?_, ?_, ?_, ?_, ?_, ?_, ?_, ?_⟩
  · intro j hj
    by_cases e1 : j = k
    · subst e1; rw [st_at, up_eq]
    · rw [st_nj e1, up_ne (by omega)]; exact v8 j hj
  · intro j hj; rw [up_ne (by omega)]; exact v9 j hj
  · intro j hj; rw [up_ne (by omega)]; exact v10 j hj
  · intro j hj; rw [up_ne (by omega)]; exact v11 j hj
  · intro j hj; rw [up_ne (by omega)]; exact v12 j hj
  · intro j hj; rw [up_ne (by omega)]; exact v13 j hj
  · intro j hj; rw [up_ne (by omega)]; exact v14 j hj
  · intro j hj; rw [up_ne (by omega)]; exact v15 j hj
theorem EvR.kd {v : Nat} (h : EvR I e g T) (hn : ∀ i, i < 8 → g + i ≠ e) (hW : WfE T) (hk : k < T 6) : EvR (stI I (g + 3) k (nI v)) e g (up T (38 + 6 * k) v) := by
  have h6 : T 6 ≤ 6 := hW.1
  obtain ⟨v1, v2, v3, v4, v5, v6, v7, v8, v9, v10, v11, v12, v13, v14, v15⟩ := h
  have he : stI I (g + 3) k (nI v) e = I e := st_ne (Ne.symm (hn 3 (by omega)))
  have hg : ∀ q, q ≠ 3 → stI I (g + 3) k (nI v) (g + q) = I (g + q) := fun q hq => st_ne (by omega)
  have hg0 : stI I (g + 3) k (nI v) g = I g := hg 0 (by omega)
  have s : swn (up T (38 + 6 * k) v) = swn T := by
    unfold swn
    rw [up_ne (by omega)]
    exact swF_c _ (fun q hq => up_ne (by omega))
  unfold EvR
  rw [s, he, hg0, hg 1 (by omega), hg 2 (by omega), hg 4 (by omega), hg 5 (by omega), hg 6 (by omega), hg 7 (by omega), up_ne (by omega), up_ne (by omega), up_ne (by omega), up_ne (by omega), up_ne (by omega), up_ne (by omega)]
  refine ⟨v1, v2, v3, v4, v5, v6, v7, ?_, ?_, ?_, ?_, ?_, ?_, ?_, ?_⟩
  · intro j hj; rw [up_ne (by omega)]; exact v8 j hj
  · intro j hj; rw [up_ne (by omega)]; exact v9 j hj
  · intro j hj; rw [up_ne (by omega)]; exact v10 j hj
  · intro j hj
    by_cases e1 : j = k
    · subst e1; rw [st_at, up_eq]
    · rw [st_nj e1, up_ne (by omega)]; exact v11 j hj
  · intro j hj; rw [up_ne (by omega)]; exact v12 j hj
  · intro j hj; rw [up_ne (by omega)]; exact v13 j hj
  · intro j hj; rw [up_ne (by omega)]; exact v14 j hj
  · intro j hj; rw [up_ne (by omega)]; exact v15 j hj
theorem EvR.wr {v : Nat} (h : EvR I e g T) (hn : ∀ i, i < 8 → g + i ≠ e) (hW : WfE T) (hk : k < T 6) : EvR (stI I (g + 5) k (nI v)) e g (up T (41 + 6 * k) v) := by
  have h6 : T 6 ≤ 6 := hW.1
  obtain ⟨v1, v2, v3, v4, v5, v6, v7, v8, v9, v10, v11, v12, v13, v14, v15⟩ := h
  have he : stI I (g + 5) k (nI v) e = I e := st_ne (Ne.symm (hn 5 (by omega)))
  have hg : ∀ q, q ≠ 5 → stI I (g + 5) k (nI v) (g + q) = I (g + q) := fun q hq => st_ne (by omega)
  have hg0 : stI I (g + 5) k (nI v) g = I g := hg 0 (by omega)
  have s : swn (up T (41 + 6 * k) v) = swn T := by
    unfold swn
    rw [up_ne (by omega)]
    exact swF_c _ (fun q hq => up_ne (by omega))
  unfold EvR
  rw [s, he, hg0, hg 1 (by omega), hg 2 (by omega), hg 3 (by omega), hg 4 (by omega), hg 6 (by omega), hg 7 (by omega), up_ne (by omega), up_ne (by omega), up_ne (by omega), up_ne (by omega), up_ne (by omega), up_ne (by omega)]
  refine ⟨v1, v2, v3, v4, v5, v6, v7, ?_, ?_, ?_, ?_, ?_, ?_, ?_, ?_⟩
  · intro j hj; rw [up_ne (by omega)]; exact v8 j hj
  · intro j hj; rw [up_ne (by omega)]; exact v9 j hj
  · intro j hj; rw [up_ne (by omega)]; exact v10 j hj
  · intro j hj; rw [up_ne (by omega)]; exact v11 j hj
  · intro j hj; rw [up_ne (by omega)]; exact v12 j hj
  · intro j hj
    by_cases e1 : j = k
    · subst e1; rw [st_at, up_eq]
    · rw [st_nj e1, up_ne (by omega)]; exact v13 j hj
  · intro j hj; rw [up_ne (by omega)]; exact v14 j hj
  · intro j hj; rw [up_ne (by omega)]; exact v15 j hj
theorem EvR.prs {v : Nat} (h : EvR I e g T) (hn : ∀ i, i < 8 → g + i ≠ e) : EvR (stI I e 5 (nI v)) e g (up T 4 v) := by
  obtain ⟨v1, v2, v3, v4, v5, v6, v7, v8, v9, v10, v11, v12, v13, v14, v15⟩ := h
  have hg : ∀ q, q < 8 → stI I e 5 (nI v) (g + q) = I (g + q) := fun q hq => st_ne (hn q hq)
  have hg0 : stI I e 5 (nI v) g = I g := hg 0 (by omega)
  have s : swn (up T 4 v) = swn T := by
    unfold swn
    rw [up_ne (by omega)]
    exact swF_c _ (fun q hq => up_ne (by omega))
  unfold EvR
  rw [s, hg0, hg 1 (by omega), hg 2 (by omega), hg 3 (by omega), hg 4 (by omega), hg 5 (by omega), hg 6 (by omega), hg 7 (by omega)]
  refine ⟨?_, ?_, ?_, ?_, ?_, ?_, ?_, ?_, ?_, ?_, ?_, ?_, ?_, ?_, ?_⟩
  · rw [st_nj (by omega), up_ne (by omega)]; exact v1
  · rw [st_nj (by omega), up_ne (by omega)]; exact v2
  · rw [st_nj (by omega), up_ne (by omega)]; exact v3
  · rw [st_at, up_eq]
  · rw [st_nj (by omega), up_ne (by omega)]; exact v5
  · rw [st_nj (by omega)]; exact v6
  · rw [st_nj (by omega), up_ne (by omega)]; exact v7
  · intro j hj
    rw [up_ne (by omega)]
    exact v8 j (by first | exact hj | (rw [up_ne (by omega)] at hj; exact hj))
  · intro j hj
    rw [up_ne (by omega)]
    exact v9 j (by first | exact hj | (rw [up_ne (by omega)] at hj; exact hj))
  · intro j hj
    rw [up_ne (by omega)]
    exact v10 j (by first | exact hj | (rw [up_ne (by omega)] at hj; exact hj))
  · intro j hj
    rw [up_ne (by omega)]
    exact v11 j (by first | exact hj | (rw [up_ne (by omega)] at hj; exact hj))
  · intro j hj
    rw [up_ne (by omega)]
    exact v12 j (by first | exact hj | (rw [up_ne (by omega)] at hj; exact hj))
  · intro j hj
    rw [up_ne (by omega)]
    exact v13 j (by first | exact hj | (rw [up_ne (by omega)] at hj; exact hj))
  · intro j hj
    rw [up_ne (by omega)]
    exact v14 j (by first | exact hj | (rw [up_ne (by omega)] at hj; exact hj))
  · intro j hj
    rw [up_ne (by omega)]
    exact v15 j (by first | exact hj | (rw [up_ne (by omega)] at hj; exact hj))
theorem EvR.mnt {v : Nat} (h : EvR I e g T) (hn : ∀ i, i < 8 → g + i ≠ e) : EvR (stI I e 3 (nI v)) e g (up T 0 v) := by
  obtain ⟨v1, v2, v3, v4, v5, v6, v7, v8, v9, v10, v11, v12, v13, v14, v15⟩ := h
  have hg : ∀ q, q < 8 → stI I e 3 (nI v) (g + q) = I (g + q) := fun q hq => st_ne (hn q hq)
  have hg0 : stI I e 3 (nI v) g = I g := hg 0 (by omega)
  have s : swn (up T 0 v) = swn T := by
    unfold swn
    rw [up_ne (by omega)]
    exact swF_c _ (fun q hq => up_ne (by omega))
  unfold EvR
  rw [s, hg0, hg 1 (by omega), hg 2 (by omega), hg 3 (by omega), hg 4 (by omega), hg 5 (by omega), hg 6 (by omega), hg 7 (by omega)]
  refine ⟨?_, ?_, ?_, ?_, ?_, ?_, ?_, ?_, ?_, ?_, ?_, ?_, ?_, ?_, ?_⟩
  · rw [st_nj (by omega), up_ne (by omega)]; exact v1
  · rw [st_at, up_eq]
  · rw [st_nj (by omega), up_ne (by omega)]; exact v3
  · rw [st_nj (by omega), up_ne (by omega)]; exact v4
  · rw [st_nj (by omega), up_ne (by omega)]; exact v5
  · rw [st_nj (by omega)]; exact v6
  · rw [st_nj (by omega), up_ne (by omega)]; exact v7
  · intro j hj
    rw [up_ne (by omega)]
    exact v8 j (by first | exact hj | (rw [up_ne (by omega)] at hj; exact hj))
  · intro j hj
    rw [up_ne (by omega)]
    exact v9 j (by first | exact hj | (rw [up_ne (by omega)] at hj; exact hj))
  · intro j hj
    rw [up_ne (by omega)]
    exact v10 j (by first | exact hj | (rw [up_ne (by omega)] at hj; exact hj))
  · intro j hj
    rw [up_ne (by omega)]
    exact v11 j (by first | exact hj | (rw [up_ne (by omega)] at hj; exact hj))
  · intro j hj
    rw [up_ne (by omega)]
    exact v12 j (by first | exact hj | (rw [up_ne (by omega)] at hj; exact hj))
  · intro j hj
    rw [up_ne (by omega)]
    exact v13 j (by first | exact hj | (rw [up_ne (by omega)] at hj; exact hj))
  · intro j hj
    rw [up_ne (by omega)]
    exact v14 j (by first | exact hj | (rw [up_ne (by omega)] at hj; exact hj))
  · intro j hj
    rw [up_ne (by omega)]
    exact v15 j (by first | exact hj | (rw [up_ne (by omega)] at hj; exact hj))
theorem EvR.endp {v : Nat} (h : EvR I e g T) (hn : ∀ i, i < 8 → g + i ≠ e) : EvR (stI I e 2 (nI v)) e g (up T 1 v) := by
  obtain ⟨v1, v2, v3, v4, v5, v6, v7, v8, v9, v10, v11, v12, v13, v14, v15⟩ := h
  have hg : ∀ q, q < 8 → stI I e 2 (nI v) (g + q) = I (g + q) := fun q hq => st_ne (hn q hq)
  have hg0 : stI I e 2 (nI v) g = I g := hg 0 (by omega)
  have s : swn (up T 1 v) = swn T := by
    unfold swn
    rw [up_ne (by omega)]
    exact swF_c _ (fun q hq => up_ne (by omega))
  unfold EvR
  rw [s, hg0, hg 1 (by omega), hg 2 (by omega), hg 3 (by omega), hg 4 (by omega), hg 5 (by omega), hg 6 (by omega), hg 7 (by omega)]
  refine ⟨?_, ?_, ?_, ?_, ?_, ?_, ?_, ?_, ?_, ?_, ?_, ?_, ?_, ?_, ?_⟩
  · rw [st_at, up_eq]
  · rw [st_nj (by omega), up_ne (by omega)]; exact v2
  · rw [st_nj (by omega), up_ne (by omega)]; exact v3
  · rw [st_nj (by omega), up_ne (by omega)]; exact v4
  · rw [st_nj (by omega), up_ne (by omega)]; exact v5
  · rw [st_nj (by omega)]; exact v6
  · rw [st_nj (by omega), up_ne (by omega)]; exact v7
  · intro j hj
    rw [up_ne (by omega)]
    exact v8 j (by first | exact hj | (rw [up_ne (by omega)] at hj; exact hj))
  · intro j hj
    rw [up_ne (by omega)]
    exact v9 j (by first | exact hj | (rw [up_ne (by omega)] at hj; exact hj))
  · intro j hj
    rw [up_ne (by omega)]
    exact v10 j (by first | exact hj | (rw [up_ne (by omega)] at hj; exact hj))
  · intro j hj
    rw [up_ne (by omega)]
    exact v11 j (by first | exact hj | (rw [up_ne (by omega)] at hj; exact hj))
  · intro j hj
    rw [up_ne (by omega)]
    exact v12 j (by first | exact hj | (rw [up_ne (by omega)] at hj; exact hj))
  · intro j hj
    rw [up_ne (by omega)]
    exact v13 j (by first | exact hj | (rw [up_ne (by omega)] at hj; exact hj))
  · intro j hj
    rw [up_ne (by omega)]
    exact v14 j (by first | exact hj | (rw [up_ne (by omega)] at hj; exact hj))
  · intro j hj
    rw [up_ne (by omega)]
    exact v15 j (by first | exact hj | (rw [up_ne (by omega)] at hj; exact hj))
theorem EvR.fogp {v : Nat} (h : EvR I e g T) (hn : ∀ i, i < 8 → g + i ≠ e) : EvR (stI I e 4 (nI v)) e g (up T 3 v) := by
  obtain ⟨v1, v2, v3, v4, v5, v6, v7, v8, v9, v10, v11, v12, v13, v14, v15⟩ := h
  have hg : ∀ q, q < 8 → stI I e 4 (nI v) (g + q) = I (g + q) := fun q hq => st_ne (hn q hq)
  have hg0 : stI I e 4 (nI v) g = I g := hg 0 (by omega)
  have s : swn (up T 3 v) = swn T := by
    unfold swn
    rw [up_ne (by omega)]
    exact swF_c _ (fun q hq => up_ne (by omega))
  unfold EvR
  rw [s, hg0, hg 1 (by omega), hg 2 (by omega), hg 3 (by omega), hg 4 (by omega), hg 5 (by omega), hg 6 (by omega), hg 7 (by omega)]
  refine ⟨?_, ?_, ?_, ?_, ?_, ?_, ?_, ?_, ?_, ?_, ?_, ?_, ?_, ?_, ?_⟩
  · rw [st_nj (by omega), up_ne (by omega)]; exact v1
  · rw [st_nj (by omega), up_ne (by omega)]; exact v2
  · rw [st_at, up_eq]
  · rw [st_nj (by omega), up_ne (by omega)]; exact v4
  · rw [st_nj (by omega), up_ne (by omega)]; exact v5
  · rw [st_nj (by omega)]; exact v6
  · rw [st_nj (by omega), up_ne (by omega)]; exact v7
  · intro j hj
    rw [up_ne (by omega)]
    exact v8 j (by first | exact hj | (rw [up_ne (by omega)] at hj; exact hj))
  · intro j hj
    rw [up_ne (by omega)]
    exact v9 j (by first | exact hj | (rw [up_ne (by omega)] at hj; exact hj))
  · intro j hj
    rw [up_ne (by omega)]
    exact v10 j (by first | exact hj | (rw [up_ne (by omega)] at hj; exact hj))
  · intro j hj
    rw [up_ne (by omega)]
    exact v11 j (by first | exact hj | (rw [up_ne (by omega)] at hj; exact hj))
  · intro j hj
    rw [up_ne (by omega)]
    exact v12 j (by first | exact hj | (rw [up_ne (by omega)] at hj; exact hj))
  · intro j hj
    rw [up_ne (by omega)]
    exact v13 j (by first | exact hj | (rw [up_ne (by omega)] at hj; exact hj))
  · intro j hj
    rw [up_ne (by omega)]
    exact v14 j (by first | exact hj | (rw [up_ne (by omega)] at hj; exact hj))
  · intro j hj
    rw [up_ne (by omega)]
    exact v15 j (by first | exact hj | (rw [up_ne (by omega)] at hj; exact hj))
theorem EvR.scr {v : Int32} (h : EvR I e g T) (hn : ∀ i, i < 8 → g + i ≠ e) : EvR (stI I e 6 v) e g T := by
  have hg : ∀ q, q < 8 → stI I e 6 v (g + q) = I (g + q) := fun q hq => st_ne (hn q hq)
  have hg0 : stI I e 6 v g = I g := hg 0 (by omega)
  unfold EvR
  rw [hg0, hg 1 (by omega), hg 2 (by omega), hg 3 (by omega), hg 4 (by omega), hg 5 (by omega), hg 6 (by omega), hg 7 (by omega), st_nj (by omega), st_nj (by omega), st_nj (by omega), st_nj (by omega), st_nj (by omega), st_nj (by omega), st_nj (by omega)]
  exact h
theorem EvR.zz {v : Int32} (h : EvR I e g T) (hn : ∀ i, i < 8 → g + i ≠ e) : EvR (stI I e 9 v) e g T := by
  have hg : ∀ q, q < 8 → stI I e 9 v (g + q) = I (g + q) := fun q hq => st_ne (hn q hq)
  have hg0 : stI I e 9 v g = I g := hg 0 (by omega)
  unfold EvR
  rw [hg0, hg 1 (by omega), hg 2 (by omega), hg 3 (by omega), hg 4 (by omega), hg 5 (by omega), hg 6 (by omega), hg 7 (by omega), st_nj (by omega), st_nj (by omega), st_nj (by omega), st_nj (by omega), st_nj (by omega), st_nj (by omega), st_nj (by omega)]
  exact h
theorem swn_set (hk : k < T 6) (h0 : T (42 + 6 * k) = 0) : swn (up T (42 + 6 * k) 1) = swn T + 2 ^ k := by
  have := swF_up (T := T) (k := k) 1 (T 6) hk
  unfold swn
  rw [up_ne (by omega)]
  rw [h0] at this
  omega
theorem EvR.shw {w : Nat} (h : EvR I e g T) (hn : ∀ i, i < 8 → g + i ≠ e) (hW : WfE T) (hk : k < T 6) {v : Nat} (hw : w = swn (up T (42 + 6 * k) v)) : EvR (stI I e 8 (nI w)) e g (up T (42 + 6 * k) v) := by
  have h6 : T 6 ≤ 6 := hW.1
  obtain ⟨v1, v2, v3, v4, v5, v6, v7, v8, v9, v10, v11, v12, v13, v14, v15⟩ := h
  have hg : ∀ q, q < 8 → stI I e 8 (nI w) (g + q) = I (g + q) := fun q hq => st_ne (hn q hq)
  have hg0 : stI I e 8 (nI w) g = I g := hg 0 (by omega)
  subst hw
  unfold EvR
  rw [hg0, hg 1 (by omega), hg 2 (by omega), hg 3 (by omega), hg 4 (by omega), hg 5 (by omega), hg 6 (by omega), hg 7 (by omega), st_at, st_nj (by omega), st_nj (by omega), st_nj (by omega), st_nj (by omega), st_nj (by omega), st_nj (by omega), up_ne (by omega), up_ne (by omega), up_ne (by omega), up_ne (by omega), up_ne (by omega), up_ne (by omega)]
  refine ⟨v1, v2, v3, v4, v5, rfl, v7, ?_, ?_, ?_, ?_, ?_, ?_, ?_, ?_⟩
  · intro j hj; rw [up_ne (by omega)]; exact v8 j hj
  · intro j hj; rw [up_ne (by omega)]; exact v9 j hj
  · intro j hj; rw [up_ne (by omega)]; exact v10 j hj
  · intro j hj; rw [up_ne (by omega)]; exact v11 j hj
  · intro j hj; rw [up_ne (by omega)]; exact v12 j hj
  · intro j hj; rw [up_ne (by omega)]; exact v13 j hj
  · intro j hj; rw [up_ne (by omega)]; exact v14 j hj
  · intro j hj; rw [up_ne (by omega)]; exact v15 j hj
end K5
