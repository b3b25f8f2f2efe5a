section L5
variable {E : EE} {d : Nat} {I : IH} {Q : QT} {t : Nat → Nat} {K i j k c r n p : Nat} {x y : Int32} {B : Nat → Nat}
theorem wsr_le (B : Nat → Nat) (p e : Nat) : ∀ F k, F + k ≤ 18 → wsr B p e F k ≤ 10999 := by
  intro F
  induction F with
  | zero => intro k _; unfold wsr; omega
  | succ F ih =>
    intro k h
    unfold wsr
    split
    · split <;> omega
    · exact ih (k + 1) (by omega)
theorem tok_le (hp : p < n) : tok B n p ≤ 10999 := by
  unfold tok
  split
  · exact wsr_le _ _ _ 18 0 (by omega)
  · rename_i q
    split
    · rename_i w
      split
      · rename_i h4
        have g1 : p < ten B n p := ten_gt
        have := nmv_lt (B := B) (ten B n p - p) p 0 (fun i a c => by
          by_cases hi : i = p
          · rw [hi]; simp [dB] at w; exact w
          · have : dB (B i) = true := by
              refine runB_all (n := n) (n - (p + 1)) (p + 1) i (by omega) ?_
              have e : ten B n p = runB dB B n (n - (p + 1)) (p + 1) := by unfold ten; rw [if_neg q, if_pos w]
              rw [e] at c
              rw [e] at g1
              omega
            simp [dB] at this; exact this)
        have h10 : 10 ^ (ten B n p - p) ≤ 10 ^ 4 := Nat.pow_le_pow_right (by omega) h4
        omega
      · omega
    · split
      · rename_i z
        rcases z with z | z | z | z | z | z <;> omega
      · omega
theorem tk_le (i : Nat) : tk B n i ≤ 10999 := by
  unfold tk
  split
  · rename_i h; exact tok_le h
  · omega
theorem tk_end (h : LX B n K) : tk B n K = 301 := by
  unfold tk; rw [if_neg (by have := h.2.1; omega)]
/-! the row of rules: where the r-th begins, how many words there are then -/
noncomputable def rix (t : Nat → Nat) : Nat → Nat × Nat × Nat
  | 0 => (0, 0, 0)
  | r + 1 => match pRule t r (rix t r).1 with
    | .inl _ => rix t r
    | .inr q => (q.1, (rix t r).2.1 + sz q.2.2.2.1, (rix t r).2.2 + sz q.2.2.2.2)
theorem rix_s {q : RU} (h : pRule t r (rix t r).1 = .inr q) : rix t (r + 1) = (q.1, (rix t r).2.1 + sz q.2.2.2.1, (rix t r).2.2 + sz q.2.2.2.2) := by
  show (match pRule t r (rix t r).1 with
    | .inl _ => rix t r
    | .inr q => (q.1, (rix t r).2.1 + sz q.2.2.2.1, (rix t r).2.2 + sz q.2.2.2.2)) = _
  rw [h]
theorem rix_le (hend : t K = 301) : ∀ r, (rix t r).1 ≤ K ∧ (rix t r).2.1 ≤ (rix t r).1 ∧ (rix t r).2.2 ≤ (rix t r).1 := by
  intro r
  induction r with
  | zero => exact ⟨Nat.zero_le _, Nat.le_refl _, Nat.le_refl _⟩
  | succ r ih =>
    have g := pRule_g (r := r) hend ih.1
    cases h : pRule t r (rix t r).1 with
    | inl j =>
      have e : rix t (r + 1) = rix t r := by
        show (match pRule t r (rix t r).1 with
          | .inl _ => rix t r
          | .inr q => (q.1, (rix t r).2.1 + sz q.2.2.2.1, (rix t r).2.2 + sz q.2.2.2.2)) = _
        rw [h]
      rw [e]; exact ih
    | inr q =>
      rw [h] at g
      obtain ⟨g1, g2, g3, g4, g5, g6, g7⟩ := g
      rw [rix_s h]
      exact ⟨g2, by show (rix t r).2.1 + sz q.2.2.2.1 ≤ q.1; omega, by show (rix t r).2.2 + sz q.2.2.2.2 ≤ q.1; omega⟩
def OKr (t : Nat → Nat) (r : Nat) : Prop := ∀ j, j < r → t (rix t j).1 ≠ 301 ∧ ∃ q, pRule t j (rix t j).1 = .inr q
def Stop (t : Nat → Nat) (c : Nat) : Prop := c ≤ 8 ∧ OKr t c ∧ (t (rix t c).1 = 301 ∨ (t (rix t c).1 ≠ 301 ∧ ∃ j, pRule t c (rix t c).1 = .inl j))
theorem stop_ex (t : Nat → Nat) : ∃ c, Stop t c := by
  have go : ∀ m r, r + m = 8 → OKr t r → ∃ c, Stop t c := by
    intro m
    induction m with
    | zero =>
      intro r hr ok
      have : r = 8 := by omega
      subst this
      by_cases h : t (rix t 8).1 = 301
      · exact ⟨8, Nat.le_refl _, ok, Or.inl h⟩
      · exact ⟨8, Nat.le_refl _, ok, Or.inr ⟨h, (rix t 8).1, by unfold pRule; rw [if_pos rfl]⟩⟩
    | succ m ih =>
      intro r hr ok
      by_cases h : t (rix t r).1 = 301
      · exact ⟨r, by omega, ok, Or.inl h⟩
      · cases hp : pRule t r (rix t r).1 with
        | inl j => exact ⟨r, by omega, ok, Or.inr ⟨h, j, hp⟩⟩
        | inr q =>
          refine ih (r + 1) (by omega) (fun j hj => ?_)
          by_cases hj2 : j = r
          · subst hj2; exact ⟨h, q, hp⟩
          · exact ok j (by omega)
  exact go 8 0 (by omega) (fun j hj => by omega)
/-- the class has told the rules below r -/
def RC (t : Nat → Nat) (I : IH) (r : Nat) : Prop := I 5 0 = nI r ∧ ∀ j, j < r → ∀ q, pRule t j (rix t j).1 = .inr q → I 6 j = nI q.2.1 ∧ I 7 j = nI q.2.2.1 ∧ I 8 j = nI (rix t (j + 1)).2.1 ∧ spC (I 9) (rix t j).2.1 (rix t (j + 1)).2.1 q.2.2.2.1
theorem rix_mono (ok : OKr t c) : ∀ r, r ≤ c → ∀ j, j ≤ r → (rix t j).2.1 ≤ (rix t r).2.1 := by
  intro r
  induction r with
  | zero => intro _ j hj; rw [show j = 0 by omega]; exact Nat.le_refl _
  | succ r ih =>
    intro hr j hj
    by_cases e : j = r + 1
    · rw [e]; exact Nat.le_refl _
    · obtain ⟨-, q, hq⟩ := ok r (by omega)
      rw [rix_s hq]
      have := ih (by omega) j (by omega)
      show _ ≤ (rix t r).2.1 + _
      omega
theorem x_tell25 (hK : K ≤ 200) (ht : ∀ j, t j ≤ 10999) (hend : t K = 301) (hs : Stop t c) (hQ1 : t (rix t c).1 = 301 → ∀ I2, RC t I2 c → FrQ I I2 → Q (some (.int (-1))) I2) (hQ2 : ∀ j, pRule t c (rix t c).1 = .inl j → t (rix t c).1 ≠ 301 → j ≤ K → ∀ I2, FrQ I I2 → Q (some (.int (I 4 j))) I2) : ∀ (m r : Nat) (I1 : IH), r + m = c → CS t K I1 (rix t r).1 (rix t r).2.1 → RC t I1 r → FrQ I I1 → J E (d + 15) mX9_tell 25 [(0, .ref (eb E + 1)), (1, .ref (eb E + 5)), (2, .int (nI r))] [] I1 Q := by
  obtain ⟨hc8, ok, hst⟩ := hs
  intro m
  induction m with
  | zero =>
    intro r I1 hr s1 r1 f1
    have : r = c := by omega
    subst this
    obtain ⟨l1, l2, l3⟩ := rix_le hend r
    obtain ⟨a1, a2, a3, a4⟩ := id s1
    refine S_X9_tell_25 isRu5 _ ?_
    rw [nI_ltI (by omega) (by omega)]
    refine ⟨fun z => by omega, fun _ => ?_⟩
    rw [a3]
    refine ⟨fun z => absurd rfl z, fun _ => ⟨(rix t r).1, a2, by omega, ?_⟩⟩
    rw [a1 _ l1, nI_eq (by have := ht (rix t r).1; omega) (by omega)]
    refine ⟨fun z => ⟨fun _ => hQ1 z I1 r1 f1, fun w => absurd rfl w⟩, fun z => ?_⟩
    rcases hst with h | ⟨h, j, hj⟩
    · exact absurd h z
    · have g := pRule_g (r := r) hend l1
      rw [hj] at g
      refine x_rule hK ht hend s1 l1 l2 r1.1 hc8 (fun I2 o2 => ⟨rfl, ?_⟩)
      rw [hj] at o2
      obtain ⟨f2, b1, b2, b3, -⟩ := o2
      have e4 : I2 4 j = I 4 j := by rw [f2.1 4 (by decide), f1.1 4 (by decide)]
      have g2 := g.2
      have fin : ∃ j4 : Nat, (I2 1 4) = nI j4 ∧ j4 < 201 ∧ Q (some (.int (I2 4 j4))) I2 := ⟨j, b2, by omega, by rw [e4]; exact hQ2 j hj h g.2 I2 (f1.tr f2)⟩
      refine S_X9_tell_25 isRu5 _ ?_
      rw [b3]
      exact ⟨fun _ => ⟨fun w => absurd w one_ne, fun _ => fin⟩, fun _ => ⟨fun _ => ⟨fun w => absurd w one_ne, fun _ => fin⟩, fun w => absurd w one_ne⟩⟩
  | succ m ih =>
    intro r I1 hr s1 r1 f1
    obtain ⟨l1, l2, l3⟩ := rix_le hend r
    obtain ⟨a1, a2, a3, a4⟩ := id s1
    obtain ⟨hne, q, hq⟩ := ok r (by omega)
    refine S_X9_tell_25 isRu5 _ ?_
    rw [nI_ltI (by omega) (by omega)]
    refine ⟨fun z => by omega, fun _ => ?_⟩
    rw [a3]
    refine ⟨fun z => absurd rfl z, fun _ => ⟨(rix t r).1, a2, by omega, ?_⟩⟩
    rw [a1 _ l1, nI_eq (by have := ht (rix t r).1; omega) (by omega)]
    refine ⟨fun z => absurd z hne, fun z => ?_⟩
    refine x_rule hK ht hend s1 l1 l2 r1.1 (by omega) (fun I2 o2 => ⟨rfl, ?_⟩)
    rw [hq] at o2
    obtain ⟨f2, b1, b2, b3, b4, b5, b6, b7, b8⟩ := o2
    have es := rix_s hq
    rw [nI_add]
    refine ih (r + 1) I2 (by omega) ?_ ⟨b4, fun j hj q2 hq2 => ?_⟩ (f1.tr f2)
    · rw [es]; exact b1
    · by_cases hj2 : j = r
      · subst hj2
        rw [hq] at hq2
        cases hq2
        refine ⟨b6, b7, ?_, ?_⟩
        · rw [es]; exact b8
        · rw [es]; exact b3
      · obtain ⟨w1, w2, w3, w4⟩ := r1.2 j (by omega) q2 hq2
        obtain ⟨y1, y2, y3⟩ := b5 j hj2
        refine ⟨by rw [y1]; exact w1, by rw [y2]; exact w2, by rw [y3]; exact w3, spC_eq _ _ _ (fun i _ hi => b2 i ?_) w4⟩
        have := rix_mono ok r (by omega) (j + 1) (by omega)
        omega
/-- the class tells its tape -/
theorem x_tell (hT : TP I B n) (hQ1 : ∀ (K c : Nat), LX B n K → Stop (tk B n) c → tk B n (rix (tk B n) c).1 = 301 → ∀ I2, RC (tk B n) I2 c → Same [1, 3, 4, 5, 6, 7, 8, 9] I I2 → I2 1 0 = nI 0 → Q (some (.int (-1))) I2) (hQ2 : ∀ (K c j : Nat), LX B n K → Stop (tk B n) c → pRule (tk B n) c (rix (tk B n) c).1 = .inl j → tk B n (rix (tk B n) c).1 ≠ 301 → ∀ I2, Same [1, 3, 4, 5, 6, 7, 8, 9] I I2 → I2 1 0 = nI 0 → Q (some (.int (nI (pl B n j)))) I2) : Mt E (d + 15) mX9_tell [.ref (eb E + 1), .ref (eb E + 5)] I Q := by
  have h2 := hT.2.1
  obtain ⟨c, hs⟩ := stop_ex (tk B n)
  refine S_X9_tell isRu5 (t_part (d := d + 7) hT (fun K I1 lx tkr f1 => ⟨rfl, fun I2 e2 I4 e4 I6 e6 => S_X6_clear isRu5 (fun I7 e7 I8 e8 => ⟨rfl, ?_⟩)⟩))
  have hK : K ≤ 200 := by have := lx.1; omega
  have q8 : ∀ a, a ≠ 1 → a ≠ 5 → I8 a = I1 a := fun a a1 a5 => by rw [e8, st_ne a5, e7, st_ne a5, e6, st_ne a1, e4, st_ne a1, e2, st_ne a1]
  have k1 : I8 1 = I6 1 := by rw [e8, st_ne (by omega), e7, st_ne (by omega)]
  have s8 : CS (tk B n) K I8 (rix (tk B n) 0).1 (rix (tk B n) 0).2.1 := by
    refine ⟨fun j hj => by rw [q8 3 (by omega) (by omega)]; exact (tkr j hj).1, ?_, ?_, ?_⟩
    · rw [k1, e6, st_nj (by omega), e4, st_at]; rfl
    · rw [k1, e6, st_at]
    · rw [e8, st_at]; rfl
  have f8 : Same [1, 3, 4, 5, 6, 7, 8, 9] I I8 := fun a ha => by
    have : a ≠ 1 ∧ a ≠ 5 ∧ a ∉ [3, 4] := by simp at ha ⊢; omega
    rw [q8 a this.1 this.2.1, f1 a this.2.2]
  have k0 : I8 1 0 = nI 0 := by rw [k1, e6, st_nj (by omega), e4, st_nj (by omega), e2, st_at]
  refine x_tell25 (I := I8) hK tk_le (tk_end lx) hs (fun h3 I9 r9 f9 => hQ1 K c lx hs h3 I9 r9 (f8.tr (f9.1.mono (by decide))) (by rw [f9.2 0 (by omega) (by omega)]; exact k0)) (fun j hj h3 hjK I9 f9 => ?_) c 0 I8 (by omega) s8 ⟨?_, fun j hj => by omega⟩ ⟨Same.rf _ _, fun _ _ _ => rfl⟩
  · have : I8 4 j = nI (pl B n j) := by rw [q8 4 (by omega) (by omega)]; exact (tkr j hjK).2
    rw [this]
    exact hQ2 K c j lx hs hj h3 I9 (f8.tr (f9.1.mono (by decide))) (by rw [f9.2 0 (by omega) (by omega)]; exact k0)
  · rw [e8, st_nj (by omega), e7, st_at]
end L5
