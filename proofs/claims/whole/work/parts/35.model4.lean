section M4
variable {E : EE} {d : Nat} {I : IH} {Q : QT} {T : Nat → Nat} {k : Nat}
/-- a place of the row and a value that may stand there -/
def may (T : Nat → Nat) (j v : Nat) : Prop := (j = 0 ∧ v ≤ 16) ∨ (j = 1 ∧ v ≤ 16) ∨ (j = 3 ∧ v ≤ 9) ∨ (j = 4 ∧ v ≤ 999) ∨ (10 ≤ j ∧ j < 26 ∧ v ≤ 15) ∨ (26 ≤ j ∧ j < 38 ∧ v ≤ 9) ∨ (∃ k, k < T 6 ∧ ((j = 38 + 6 * k ∧ 1 ≤ v ∧ v ≤ 5) ∨ (j = 39 + 6 * k ∧ v < 256) ∨ (j = 40 + 6 * k ∧ v ≤ 9) ∨ (j = 41 + 6 * k ∧ v < 6) ∨ (j = 42 + 6 * k ∧ v ≤ 1))) ∨ 74 ≤ j
theorem may_n6 {j v : Nat} (h6 : T 6 ≤ 6) (c : may T j v) : j ≠ 6 ∧ j ≠ 2 ∧ j ≠ 5 ∧ j ≠ 7 := by
  unfold may at c
  rcases c with c | c | c | c | c | c | ⟨k, hk, c⟩ | c <;> omega
theorem WfE.put {j v : Nat} (h : WfE T) (c : may T j v) : WfE (up T j v) := by
  obtain ⟨h6, h0, h1, h3, h4, hn, hw, hp⟩ := h
  have e6 : up T j v 6 = T 6 := up_ne (Ne.symm (may_n6 h6 c).1)
  unfold may at c
  refine ⟨by rw [e6]; exact h6, ?_, ?_, ?_, ?_, ?_, ?_, ?_⟩
  · unfold up; split
    · rcases c with c | c | c | c | c | c | ⟨k, hk, c⟩ | c <;> omega
    · exact h0
  · unfold up; split
    · rcases c with c | c | c | c | c | c | ⟨k, hk, c⟩ | c <;> omega
    · exact h1
  · unfold up; split
    · rcases c with c | c | c | c | c | c | ⟨k, hk, c⟩ | c <;> omega
    · exact h3
  · unfold up; split
    · rcases c with c | c | c | c | c | c | ⟨k, hk, c⟩ | c <;> omega
    · exact h4
  · intro i hi
    unfold up; split
    · rcases c with c | c | c | c | c | c | ⟨k, hk, c⟩ | c <;> omega
    · exact hn i hi
  · intro w hw2
    obtain ⟨a, b⟩ := hw w hw2
    refine ⟨?_, ?_⟩
    · unfold up; split
      · rcases c with c | c | c | c | c | c | ⟨k, hk, c⟩ | c <;> omega
      · exact a
    · unfold up; split
      · rcases c with c | c | c | c | c | c | ⟨k, hk, c⟩ | c <;> omega
      · exact b
  · intro q hq
    rw [e6] at hq
    obtain ⟨p1, p2, p3, p4, p5, p6⟩ := hp q hq
    refine ⟨?_, ?_, ?_, ?_, ?_, ?_⟩
    · unfold up; split
      · rcases c with c | c | c | c | c | c | ⟨k, hk, c⟩ | c <;> omega
      · exact p1
    · unfold up; split
      · rcases c with c | c | c | c | c | c | ⟨k, hk, c⟩ | c <;> omega
      · exact p2
    · unfold up; split
      · rcases c with c | c | c | c | c | c | ⟨k, hk, c⟩ | c <;> omega
      · exact p3
    · unfold up; split
      · rcases c with c | c | c | c | c | c | ⟨k, hk, c⟩ | c <;> omega
      · exact p4
    · unfold up; split
      · rcases c with c | c | c | c | c | c | ⟨k, hk, c⟩ | c <;> omega
      · exact p5
    · unfold up; split
      · rcases c with c | c | c | c | c | c | ⟨k, hk, c⟩ | c <;> omega
      · exact p6
/-- what minutes leave as it is -/
def Ag (T T2 : Nat → Nat) : Prop := ∀ j, (j = 1 ∨ j = 6 ∨ j = 7 ∨ j = 8 ∨ (10 ≤ j ∧ j < 26) ∨ (32 ≤ j ∧ j < 38) ∨ 74 ≤ j ∨ (∃ k, k < 6 ∧ (j = 38 + 6 * k ∨ j = 41 + 6 * k))) → T2 j = T j
theorem Ag.rf (T : Nat → Nat) : Ag T T := fun _ _ => rfl
theorem Ag.tr {T2 T3 : Nat → Nat} (h : Ag T T2) (h2 : Ag T2 T3) : Ag T T3 := fun j hj => (h2 j hj).trans (h j hj)
theorem Ag.put {j v : Nat} (c : j = 0 ∨ j = 3 ∨ j = 4 ∨ (26 ≤ j ∧ j < 32) ∨ ∃ k, k < 6 ∧ (j = 39 + 6 * k ∨ j = 40 + 6 * k ∨ j = 42 + 6 * k)) : Ag T (up T j v) := by
  intro i hi
  refine up_ne ?_
  rcases c with c | c | c | c | ⟨q, hq, c⟩ <;> rcases hi with hi | hi | hi | hi | hi | hi | hi | ⟨w, hw, hi⟩ <;> omega
theorem tvs_c {T2 : Nat → Nat} (h : ∀ j, 122 ≤ j → T2 j = T j) : ∀ (n i : Nat) (ts : List Bool), tvs T2 i n ts = tvs T i n ts := by
  intro n
  induction n with
  | zero => intro i ts; rfl
  | succ n ih =>
    intro i ts
    show (tst (T2 (122 + i)) ts).bind _ = (tst (T (122 + i)) ts).bind _
    rw [h (122 + i) (by omega)]
    congr 1
    funext z
    exact ih (i + 1) z
theorem WfR.c {T2 : Nat → Nat} (h : WfR T) (h7 : T2 7 = T 7) (ha : ∀ j, 74 ≤ j → T2 j = T j) : WfR T2 := by
  obtain ⟨h1, h2⟩ := h
  refine ⟨by rw [h7]; exact h1, fun r hr => ?_⟩
  rw [h7] at hr
  obtain ⟨a, b, c⟩ := h2 r hr
  refine ⟨by rw [ha _ (by omega)]; exact a, by rw [ha _ (by omega)]; exact b, ?_⟩
  have e1 : rfr T2 r = rfr T r := by
    unfold rfr; split
    · rfl
    · rw [ha _ (by omega)]
  have e2 : rto T2 r = rto T r := by unfold rto; rw [ha _ (by omega)]
  unfold wfr
  rw [e1, e2, tvs_c (T := T) (T2 := T2) (fun j hj => ha j (by omega))]
  exact c
theorem Ag.R {T2 : Nat → Nat} (h : Ag T T2) (hR : WfR T) : WfR T2 := hR.c (h 7 (by omega)) (fun j hj => h j (by omega))
theorem wf_fgo (h : WfE T) : WfE (fgo T) ∧ Ag T (fgo T) := by
  unfold fgo
  split
  · rename_i h16
    have := fogT_le (T 3) (by have := h.2.2.2.1; omega) (T (10 + T 0)) (by have := h.2.2.2.2.2.1 (T 0) h16; omega)
    exact ⟨h.put (by unfold may; omega), Ag.put (by omega)⟩
  · exact ⟨h, Ag.rf T⟩
theorem wf_sgo (h : WfE T) : ∀ n, n ≤ T 6 → WfE (sgo T n) ∧ Ag T (sgo T n) := by
  intro n
  induction n with
  | zero => intro _; exact ⟨h, Ag.rf T⟩
  | succ n ih =>
    intro hn
    obtain ⟨h1, h2⟩ := ih (by omega)
    obtain ⟨k6, p1, p2, p3, p4, p5, p6⟩ := h.p (k := n) (by omega)
    have h6 : sgo T n 6 = T 6 := h2 6 (by omega)
    exact ⟨h1.put (by unfold may; exact Or.inr (Or.inr (Or.inr (Or.inr (Or.inr (Or.inr (Or.inl ⟨n, by omega, Or.inr (Or.inl ⟨rfl, nxt_lt _ p3⟩)⟩))))))), h2.tr (Ag.put (by right; right; right; right; exact ⟨n, by omega, Or.inl rfl⟩))⟩
theorem sgo_0 (n : Nat) : sgo T n 0 = T 0 := sgo_ne T n 0 (by intro q _; omega)
theorem wf_fin (h : WfE T) (h0 : T 0 < 16) : WfE (fin_ T) ∧ Ag T (fin_ T) := by
  obtain ⟨h1, h2⟩ := wf_sgo h (T 6) (by omega)
  exact ⟨h1.put (by unfold may; omega), h2.tr (Ag.put (by omega))⟩
theorem lks_le (hW : WfE T) (hk : k < T 6) (ho : opn T k) : WfE (lks T k) ∧ Ag T (lks T k) ∧ lks T k 0 = T 0 := by
  obtain ⟨k6, p1, p2, p3, p4, p5, p6⟩ := hW.p hk
  obtain ⟨w1, w2⟩ := hW.w hk
  obtain ⟨o1, o2⟩ := ho
  have h4 : T 4 ≤ 999 := hW.2.2.2.2.1
  have ha : (T (39 + 6 * k) &&& (T (39 + 6 * k) - 1)) ≤ T (39 + 6 * k) := Nat.and_le_left
  have m : ∀ (S : Nat → Nat) (j v : Nat), S 6 = T 6 → ((j = 39 + 6 * k ∧ v < 256) ∨ (j = 40 + 6 * k ∧ v ≤ 9) ∨ (j = 42 + 6 * k ∧ v ≤ 1)) → may S j v := by
    intro S j v hS c
    unfold may
    exact Or.inr (Or.inr (Or.inr (Or.inr (Or.inr (Or.inr (Or.inl ⟨k, by omega, by omega⟩))))))
  have s6 : ∀ (S : Nat → Nat) (j v : Nat), S 6 = T 6 → (j = 4 ∨ j = 39 + 6 * k ∨ j = 40 + 6 * k ∨ j = 42 + 6 * k) → up S j v 6 = T 6 := by
    intro S j v hS c
    rw [up_ne (by omega)]; exact hS
  unfold lks
  refine ⟨?_, ?_, ?_⟩
  · refine WfE.put (WfE.put (WfE.put (WfE.put hW (by unfold may; omega)) (m _ _ _ (s6 _ _ _ rfl (by omega)) (by omega))) (m _ _ _ (s6 _ _ _ (s6 _ _ _ rfl (by omega)) (by omega)) (by omega))) (m _ _ _ (s6 _ _ _ (s6 _ _ _ (s6 _ _ _ rfl (by omega)) (by omega)) (by omega)) ?_)
    split <;> omega
  · exact (((Ag.put (by omega)).tr (Ag.put (by right; right; right; right; exact ⟨k, k6, by omega⟩))).tr (Ag.put (by right; right; right; right; exact ⟨k, k6, by omega⟩))).tr (Ag.put (by right; right; right; right; exact ⟨k, k6, by omega⟩))
  · rw [up_ne (by omega), up_ne (by omega), up_ne (by omega), up_ne (by omega)]
theorem wf_mee (hW : WfE T) (hk : k < T 6) : WfE (mee T k).1 ∧ Ag T (mee T k).1 ∧ (mee T k).1 0 = T 0 := by
  obtain ⟨k6, p1, p2, p3, p4, p5, p6⟩ := hW.p hk
  unfold mee
  split
  · split
    · rename_i h
      exact lks_le hW hk (dc_i.mp h)
    · exact ⟨hW, Ag.rf T, rfl⟩
  · split
    · exact ⟨hW.put (by unfold may; omega), Ag.put (by omega), up_ne (by omega)⟩
    · exact ⟨hW, Ag.rf T, rfl⟩
theorem rsF_lt : ∀ (n k q : Nat), rsF T k n = some q → k ≤ q ∧ q < k + n := by
  intro n
  induction n with
  | zero => intro k q h; cases h
  | succ n ih =>
    intro k q h
    unfold rsF at h
    split at h
    · cases h; omega
    · have := ih (k + 1) q h; omega
theorem wf_met (hW : WfE T) {ko : Option Nat} (hk : ∀ q, ko = some q → q < T 6) : WfE (met T ko).1 ∧ Ag T (met T ko).1 ∧ (met T ko).1 0 = T 0 := by
  cases ko with
  | none => exact ⟨hW, Ag.rf T, rfl⟩
  | some q => exact wf_mee hW (hk q rfl)
theorem fgo_0 : fgo T 0 = T 0 := by
  unfold fgo
  split
  · exact up_ne (by omega)
  · rfl
/-- one that is told: in a minute it is a pane -/
def kod (T : Nat → Nat) (ko : Option Nat) : Prop := ∀ q, ko = some q → q < T 6
theorem kod_act {a : Nat} (h : a ≤ T 6) : kod (fgo T) (if a = 0 then none else some (a - 1)) := by
  intro q hq
  have e : fgo T 6 = T 6 := by
    unfold fgo
    split
    · exact up_ne (by omega)
    · rfl
  rw [e]
  split at hq
  · cases hq
  · cases hq; omega
theorem kod_rst : kod T (rst T) := fun q hq => by have := rsF_lt _ _ _ hq; omega
theorem wf_go (hW : WfE T) (h0 : T 0 < 16) {ko : Option Nat} (hk : kod (fgo T) ko) : WfE (fin_ (met (fgo T) ko).1) ∧ Ag T (fin_ (met (fgo T) ko).1) ∧ fin_ (met (fgo T) ko).1 0 = T 0 + 1 := by
  obtain ⟨a1, a2⟩ := wf_fgo hW
  obtain ⟨b1, b2, b3⟩ := wf_met a1 hk
  have e0 : (met (fgo T) ko).1 0 = T 0 := by rw [b3]; exact fgo_0
  obtain ⟨c1, c2⟩ := wf_fin b1 (by rw [e0]; exact h0)
  refine ⟨c1, (a2.tr b2).tr c2, ?_⟩
  show up _ 0 _ 0 = _
  rw [up_eq, e0]
theorem wf_goA (hW : WfE T) (h0 : T 0 < 16) {a : Nat} (ha : a ≤ T 6) : WfE (goA T a).1 ∧ Ag T (goA T a).1 ∧ (goA T a).1 0 = T 0 + 1 := wf_go hW h0 (kod_act ha)
theorem wf_goR (hW : WfE T) (h0 : T 0 < 16) : WfE (goR T).1 ∧ Ag T (goR T).1 ∧ (goR T).1 0 = T 0 + 1 := wf_go hW h0 kod_rst
end M4
