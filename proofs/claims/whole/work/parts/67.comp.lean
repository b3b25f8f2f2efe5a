section P17
variable {E : EE} {d : Nat} {I : IH} {Q : QT} {T : Nat → Nat} {k e g r e1 g1 r1 : Nat} {x1 x2 x3 x4 : Int32}
/-! sets of panes -/
abbrev mem (s k : Nat) : Prop := s / 2 ^ k % 2 = 1
def add (s k : Nat) : Nat := if s / 2 ^ k % 2 = 1 then s else s + 2 ^ k
theorem or_add : ∀ s, s < 64 → ∀ k, k < 6 → nI s ||| (nI 1 <<< (nI k &&& 31)) = nI (add s k) ∧ add s k < 64 := by decide +kernel
theorem mem_add : ∀ s, s < 64 → ∀ k, k < 6 → ∀ j, j < 6 → (add s k / 2 ^ j % 2 = 1 ↔ s / 2 ^ j % 2 = 1 ∨ j = k) := by decide +kernel
theorem one_sh : ∀ k, k < 6 → nI 1 <<< (nI k &&& 31) = nI (2 ^ k) ∧ 2 ^ k < 64 ∧ 0 < 2 ^ k := by decide +kernel
theorem mem_one : ∀ k, k < 6 → ∀ j, j < 6 → (2 ^ k / 2 ^ j % 2 = 1 ↔ j = k) := by decide +kernel
theorem set_ext {s t : Nat} (hs : s < 64) (ht : t < 64) (h : ∀ j, j < 6 → (mem s j ↔ mem t j)) : s = t := by
  have h0 := h 0 (by omega)
  have h1 := h 1 (by omega)
  have h2 := h 2 (by omega)
  have h3 := h 3 (by omega)
  have h4 := h 4 (by omega)
  have h5 := h 5 (by omega)
  simp only [mem] at h0 h1 h2 h3 h4 h5
  omega
end P17
