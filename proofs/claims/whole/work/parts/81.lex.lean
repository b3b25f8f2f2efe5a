section L1
variable {E : EE} {d : Nat} {I : IH} {Q : QT} {B : Nat → Nat} {n p e k b c : Nat} {P : Nat → Bool} {x y : Int32}
/-! the bytes of a text, and its tokens -/
abbrev isL (c : Nat) : Prop := 97 ≤ c ∧ c ≤ 122
abbrev isD (c : Nat) : Prop := 48 ≤ c ∧ c ≤ 57
abbrev isSg (c : Nat) : Prop := c = 40 ∨ c = 41 ∨ c = 59 ∨ c = 60 ∨ c = 61 ∨ c = 62
def lB (c : Nat) : Bool := decide (isL c)
def dB (c : Nat) : Bool := decide (isD c)
def sB (c : Nat) : Bool := decide (c = 32)
/-- on from p over bytes of a sort -/
def runB (P : Nat → Bool) (B : Nat → Nat) (n : Nat) : Nat → Nat → Nat
  | 0, p => p
  | F + 1, p => if p < n ∧ P (B p) = true then runB P B n F (p + 1) else p
theorem runB_le : ∀ F p, p ≤ runB P B n F p := by
  intro F
  induction F with
  | zero => intro p; exact Nat.le_refl p
  | succ F ih =>
    intro p
    unfold runB
    split
    · have := ih (p + 1); omega
    · exact Nat.le_refl p
theorem runB_n : ∀ F p, p ≤ n → runB P B n F p ≤ n := by
  intro F
  induction F with
  | zero => intro p h; exact h
  | succ F ih =>
    intro p h
    unfold runB
    split
    · rename_i q; exact ih (p + 1) q.1
    · exact h
theorem runB_all : ∀ F p i, p ≤ i → i < runB P B n F p → P (B i) = true := by
  intro F
  induction F with
  | zero => intro p i h1 h2; unfold runB at h2; omega
  | succ F ih =>
    intro p i h1 h2
    unfold runB at h2
    split at h2
    · rename_i q
      by_cases hi : i = p
      · rw [hi]; exact q.2
      · exact ih (p + 1) i (by omega) h2
    · omega
theorem runB_end : ∀ F p, n - p ≤ F → ¬ (runB P B n F p < n ∧ P (B (runB P B n F p)) = true) := by
  intro F
  induction F with
  | zero => intro p h q; unfold runB at q; have := q.1; omega
  | succ F ih =>
    intro p h
    unfold runB
    split
    · exact ih (p + 1) (by omega)
    · assumption
theorem runB_s (h : p < n) (hp : P (B p) = true) : runB P B n (n - p) p = runB P B n (n - (p + 1)) (p + 1) := by
  rw [show n - p = (n - (p + 1)) + 1 by omega]
  show (if p < n ∧ P (B p) = true then runB P B n (n - (p + 1)) (p + 1) else p) = _
  rw [if_pos ⟨h, hp⟩]
theorem runB_0 {F : Nat} (h : ¬ (p < n ∧ P (B p) = true)) : runB P B n F p = p := by
  cases F with
  | zero => rfl
  | succ F => unfold runB; rw [if_neg h]
/-- where the token at p ends -/
def ten (B : Nat → Nat) (n p : Nat) : Nat := if lB (B p) = true then runB lB B n (n - (p + 1)) (p + 1) else if dB (B p) = true then runB dB B n (n - (p + 1)) (p + 1) else p + 1
theorem ten_gt : p < ten B n p := by
  unfold ten
  split
  · exact runB_le _ _
  · split
    · exact runB_le _ _
    · omega
theorem ten_le (h : p < n) : ten B n p ≤ n := by
  unfold ten
  split
  · exact runB_n _ _ h
  · split
    · exact runB_n _ _ h
    · exact h
def skp (B : Nat → Nat) (n p : Nat) : Nat := runB sB B n (n - p) p
/-- the number that k digits from p on spell behind a -/
def nmv (B : Nat → Nat) : Nat → Nat → Nat → Nat
  | 0, _, a => a
  | k + 1, p, a => nmv B k (p + 1) (a * 10 + B p - 48)
theorem nmv_lt : ∀ (k p a : Nat), (∀ i, p ≤ i → i < p + k → isD (B i)) → nmv B k p a < (a + 1) * 10 ^ k := by
  intro k
  induction k with
  | zero => intro p a _; simp [nmv]
  | succ k ih =>
    intro p a h
    have h1 := h p (by omega) (by omega)
    have h2 := ih (p + 1) (a * 10 + B p - 48) (fun i a b => h i (by omega) (by omega))
    show nmv B k (p + 1) (a * 10 + B p - 48) < _
    refine Nat.lt_of_lt_of_le h2 ?_
    rw [Nat.pow_succ, Nat.mul_comm (10 ^ k) 10, ← Nat.mul_assoc]
    exact Nat.mul_le_mul_right _ (by omega)
/-! words -/
def WS : List Nat := [0, 5, 11, 17, 23, 27, 31, 36, 41, 45, 48, 51, 55, 59, 66, 73, 80, 84]
def stW (k : Nat) : Nat := WS.getD k 91
def lnW (k : Nat) : Nat := stW (k + 1) - stW k - 1
theorem w_tab : ∀ k, k < 18 → stW (k + 1) = stW k + lnW k + 1 ∧ stW (k + 1) ≤ 91 ∧ WB.getD (stW k + lnW k) 0 = 32 ∧ lnW k ≤ 6 := by decide +kernel
theorem w_tab2 : ∀ k, k < 18 → ∀ i, i < lnW k → isL (WB.getD (stW k + i) 0) := by decide +kernel
theorem w_128 : ∀ j, j < 91 → WB.getD j 0 < 128 := by decide +kernel
def wordAt (B : Nat → Nat) (p e k : Nat) : Prop := e - p = lnW k ∧ ∀ j, p ≤ j → j < e → B j = WB.getD (stW k + (j - p)) 0
noncomputable def wsr (B : Nat → Nat) (p e : Nat) : Nat → Nat → Nat
  | 0, _ => 300
  | F + 1, k => if dc (wordAt B p e k) = true then (if k < 13 then k else 982 + k) else wsr B p e F (k + 1)
noncomputable def tok (B : Nat → Nat) (n p : Nat) : Nat := if lB (B p) = true then wsr B p (ten B n p) 18 0 else if dB (B p) = true then (if ten B n p - p ≤ 4 then 1000 + nmv B (ten B n p - p) p 0 else 300) else if isSg (B p) then B p else 300
/-! the class's bytes -/
def sgb (b : Nat) : Int32 := (nI b).toInt8.toInt32
theorem sgb_lo : ∀ b, b < 128 → sgb b = nI b := by decide +kernel
theorem sgb_hi : ∀ b, b < 256 → 128 ≤ b → sgb b < nI 0 := by decide +kernel
theorem sgb_eq (hb : b < 256) (hc : c < 128) : sgb b = nI c ↔ b = c := by
  by_cases h : b < 128
  · rw [sgb_lo b h, nI_eq (by omega) (by omega)]
  · have := sgb_hi b hb (by omega)
    constructor
    · intro z; rw [z, nI_ltI (by omega) (by omega)] at this; omega
    · intro z; omega
theorem sgb_lt (hb : b < 256) (hc : c < 128) : sgb b < nI c ↔ b < c ∨ 128 ≤ b := by
  by_cases h : b < 128
  · rw [sgb_lo b h, nI_ltI (by omega) (by omega)]; omega
  · have h1 := sgb_hi b hb (by omega)
    have : sgb b < nI c := by
      rw [lt_x (by omega)] at h1 ⊢
      omega
    exact ⟨fun _ => Or.inr (by omega), fun _ => this⟩
theorem lt_sgb (hb : b < 256) (hc : c < 128) : nI c < sgb b ↔ c < b ∧ b < 128 := by
  by_cases h : b < 128
  · rw [sgb_lo b h, nI_ltI (by omega) (by omega)]; omega
  · have h1 := sgb_hi b hb (by omega)
    constructor
    · intro z
      rw [lt_x (by omega)] at h1
      rw [x_lt (by omega)] at z
      omega
    · intro z; omega
/-- the tape -/
def TP (I : IH) (B : Nat → Nat) (n : Nat) : Prop := I 1 0 = nI n ∧ n ≤ 200 ∧ ∀ i, i < n → B i < 256 ∧ I 2 i = sgb (B i)
theorem TP.eqs {I2 : IH} (h : TP I B n) (h1 : I2 1 0 = I 1 0) (h2 : I2 2 = I 2) : TP I2 B n := by
  unfold TP at h ⊢; rw [h1, h2]; exact h
theorem t_isL (hx : x = sgb b) (hb : b < 256) (hQ : Q (some (.int (nI (bn (lB b = true))))) I) : Mt E d mX9_isLetter [.int x] I Q := by
  subst hx
  refine S_X9_isLetter _ ?_
  rw [sgb_lt hb (by omega), lt_sgb hb (by omega)]
  refine ⟨fun z => ?_, fun z => ⟨fun w => ?_, fun w => ?_⟩⟩
  · rw [bn_f (by simp [lB]; omega)] at hQ; exact hQ
  · rw [bn_f (by simp [lB]; omega)] at hQ; exact hQ
  · rw [bn_t (by simp [lB]; omega)] at hQ; exact hQ
theorem t_isD (hx : x = sgb b) (hb : b < 256) (hQ : Q (some (.int (nI (bn (dB b = true))))) I) : Mt E d mX9_isDigit [.int x] I Q := by
  subst hx
  refine S_X9_isDigit _ ?_
  rw [sgb_lt hb (by omega), lt_sgb hb (by omega)]
  refine ⟨fun z => ?_, fun z => ⟨fun w => ?_, fun w => ?_⟩⟩
  · rw [bn_f (by simp [dB]; omega)] at hQ; exact hQ
  · rw [bn_f (by simp [dB]; omega)] at hQ; exact hQ
  · rw [bn_t (by simp [dB]; omega)] at hQ; exact hQ
theorem t_run16 (hT : TP I B n) : ∀ F p, n - p ≤ F → p ≤ 200 → Q (some (.int (nI (runB lB B n F p)))) I → J E (d + 1) mX9_rowEnd 16 [(0, .ref (eb E + 1)), (2, .int (nI p))] [] I Q := by
  obtain ⟨h1, h2, h3⟩ := hT
  intro F
  induction F with
  | zero =>
    intro p hF hp hQ
    refine S_X9_rowEnd_16 _ ?_
    rw [h1, nI_leI (by omega) (by omega)]
    exact ⟨fun _ => hQ, fun z => by omega⟩
  | succ F ih =>
    intro p hF hp hQ
    refine S_X9_rowEnd_16 _ ?_
    rw [h1, nI_leI (by omega) (by omega)]
    refine ⟨fun z => ?_, fun z => ⟨p, rfl, by omega, t_isL (h3 p (by omega)).2 (h3 p (by omega)).1 ⟨_, rfl, bk (fun q => ?_) (fun q => ?_)⟩⟩⟩
    · rw [runB_0 (by omega)] at hQ; exact hQ
    · rw [nI_add]
      refine ih (p + 1) (by omega) (by omega) ?_
      unfold runB at hQ
      rw [if_pos ⟨by omega, q⟩] at hQ; exact hQ
    · rw [runB_0 (fun w => q w.2)] at hQ; exact hQ
theorem t_run54 (hT : TP I B n) : ∀ F p, n - p ≤ F → p ≤ 200 → Q (some (.int (nI (runB dB B n F p)))) I → J E (d + 1) mX9_rowEnd 54 [(0, .ref (eb E + 1)), (2, .int (nI p))] [] I Q := by
  obtain ⟨h1, h2, h3⟩ := hT
  intro F
  induction F with
  | zero =>
    intro p hF hp hQ
    refine S_X9_rowEnd_54 _ ?_
    rw [h1, nI_leI (by omega) (by omega)]
    exact ⟨fun _ => hQ, fun z => by omega⟩
  | succ F ih =>
    intro p hF hp hQ
    refine S_X9_rowEnd_54 _ ?_
    rw [h1, nI_leI (by omega) (by omega)]
    refine ⟨fun z => ?_, fun z => ⟨p, rfl, by omega, t_isD (h3 p (by omega)).2 (h3 p (by omega)).1 ⟨_, rfl, bk (fun q => ?_) (fun q => ?_)⟩⟩⟩
    · rw [runB_0 (by omega)] at hQ; exact hQ
    · rw [nI_add]
      refine ih (p + 1) (by omega) (by omega) ?_
      unfold runB at hQ
      rw [if_pos ⟨by omega, q⟩] at hQ; exact hQ
    · rw [runB_0 (fun w => q w.2)] at hQ; exact hQ
theorem t_rowEnd (hT : TP I B n) (hp : p < n) (hQ : Q (some (.int (nI (ten B n p)))) I) : Mt E (d + 1) mX9_rowEnd [.ref (eb E + 1), .int (nI p)] I Q := by
  have h2 := hT.2.1
  obtain ⟨b1, b2⟩ := hT.2.2 p hp
  refine S_X9_rowEnd _ ⟨p, rfl, by omega, t_isL b2 b1 ⟨_, rfl, bk (fun q => ?_) (fun q => ⟨p, rfl, by omega, t_isD b2 b1 ⟨_, rfl, bk (fun w => ?_) (fun w => ?_)⟩⟩)⟩⟩
  · rw [nI_add]
    refine t_run16 hT (n - (p + 1)) (p + 1) (Nat.le_refl _) (by omega) ?_
    unfold ten at hQ; rw [if_pos q] at hQ; exact hQ
  · rw [nI_add]
    refine t_run54 hT (n - (p + 1)) (p + 1) (Nat.le_refl _) (by omega) ?_
    unfold ten at hQ; rw [if_neg q, if_pos w] at hQ; exact hQ
  · rw [nI_add]
    unfold ten at hQ; rw [if_neg q, if_neg w] at hQ; exact hQ
theorem nI_subB {a c : Nat} (h : c ≤ a) : nI a - nI c = nI (a - c) := by
  rw [nI_z, nI_z, nI_z, zI_sub]; congr 1; omega
theorem t_number5 (hT : TP I B n) (he : e ≤ n) : ∀ (k p a : Nat), p + k = e → (∀ i, p ≤ i → i < e → isD (B i)) → Q (some (.int (nI (nmv B k p a)))) I → J E d mX9_number 5 [(0, .ref (eb E + 1)), (2, .int (nI e)), (3, .int (nI a)), (4, .int (nI p))] [] I Q := by
  have h2 := hT.2.1
  intro k
  induction k with
  | zero =>
    intro p a hp hd hQ
    refine S_X9_number_5 _ _ _ ?_
    rw [nI_leI (by omega) (by omega)]
    exact ⟨fun _ => hQ, fun z => by omega⟩
  | succ k ih =>
    intro p a hp hd hQ
    obtain ⟨b1, b2⟩ := hT.2.2 p (by omega)
    have b3 := hd p (by omega) (by omega)
    refine S_X9_number_5 _ _ _ ?_
    rw [nI_leI (by omega) (by omega)]
    refine ⟨fun z => by omega, fun _ => ⟨p, rfl, by omega, ?_⟩⟩
    rw [b2, sgb_lo _ (by omega), nI_mul, nI_add, nI_subB (by omega), nI_add]
    exact ih (p + 1) (a * 10 + B p - 48) (by omega) (fun i a b => hd i (by omega) b) hQ
theorem t_isWord3 {s : Nat} (hT : TP I B n) (he : e ≤ n) (hpe : p ≤ e) (hs : s + (e - p) ≤ 91) : ∀ (m i : Nat), i + m = e → p ≤ i → Q (some (.int (nI (bn (∀ j, i ≤ j → j < e → B j = WB.getD (s + (j - p)) 0))))) I → J E (d + 4) mX9_isWordAt 3 [(0, .ref (eb E + 1)), (1, .int (nI s)), (2, .int (nI p)), (3, .int (nI e)), (4, .int (nI i))] [] I Q := by
  have h2 := hT.2.1
  intro m
  induction m with
  | zero =>
    intro i hi hp hQ
    refine S_X9_isWordAt_3 _ _ _ _ ?_
    rw [nI_leI (by omega) (by omega)]
    refine ⟨fun _ => ?_, fun z => by omega⟩
    rw [bn_t (fun j a b => by omega)] at hQ; exact hQ
  | succ m ih =>
    intro i hi hp hQ
    obtain ⟨b1, b2⟩ := hT.2.2 i (by omega)
    refine S_X9_isWordAt_3 _ _ _ _ ?_
    rw [nI_leI (by omega) (by omega)]
    refine ⟨fun z => by omega, fun _ => ⟨i, rfl, by omega, s + (i - p), by rw [nI_add, nI_subB (by omega)]; congr 1; omega, by omega, ?_⟩⟩
    rw [b2, sgb_eq b1 (w_128 _ (by omega)), nI_add]
    refine ⟨fun z => ih (i + 1) (by omega) (by omega) ?_, fun z => ?_⟩
    · have e : (∀ j, i ≤ j → j < e → B j = WB.getD (s + (j - p)) 0) ↔ ∀ j, i + 1 ≤ j → j < e → B j = WB.getD (s + (j - p)) 0 := by
        constructor
        · intro w j a b; exact w j (by omega) b
        · intro w j a b
          by_cases hj : j = i
          · rw [hj]; exact z
          · exact w j (by omega) b
      rw [bn_c e] at hQ; exact hQ
    · rw [bn_f (fun w => z (w i (by omega) (by omega)))] at hQ; exact hQ
theorem t_word8 (hT : TP I B n) (he : e ≤ n) (hpe : p ≤ e) : ∀ (m i k : Nat), i + m = 91 → k ≤ 18 → stW k ≤ i → (k < 18 → i ≤ stW k + lnW k) → Q (some (.int (nI (wsr B p e (18 - k) k)))) I → J E (d + 5) mX9_word 8 [(0, .ref (eb E + 1)), (1, .int (nI p)), (2, .int (nI e)), (3, .int (nI k)), (4, .int (nI (stW k))), (5, .int (nI i))] [] I Q := by
  have h2 := hT.2.1
  intro m
  induction m with
  | zero =>
    intro i k hi hk h1 h3 hQ
    have h18 : k = 18 := by
      rcases Nat.lt_or_ge k 18 with z | z
      · have := w_tab k z; have := h3 z; omega
      · omega
    subst h18
    refine S_X9_word_8 _ _ _ _ _ ?_
    rw [nI_leI (by omega) (by omega)]
    exact ⟨fun _ => hQ, fun z => by omega⟩
  | succ m ih =>
    intro i k hi hk h1 h3 hQ
    have h18 : k < 18 := by
      rcases Nat.lt_or_ge k 18 with z | z
      · exact z
      · have : k = 18 := by omega
        subst this
        have : stW 18 = 91 := by decide +kernel
        omega
    obtain ⟨w1, w2, w3, w4⟩ := w_tab k h18
    have h3 := h3 h18
    refine S_X9_word_8 _ _ _ _ _ ?_
    rw [nI_leI (by omega) (by omega)]
    refine ⟨fun z => by omega, fun _ => ⟨i, rfl, by omega, ?_⟩⟩
    rw [nI_eq (by have := w_128 i (by omega); omega) (by omega)]
    refine ⟨fun z => ?_, fun z => ?_⟩
    · rw [nI_add]
      refine ih (i + 1) k (by omega) hk (by omega) (fun _ => ?_) hQ
      rcases Nat.lt_or_ge i (stW k + lnW k) with y | y
      · exact y
      · have : i = stW k + lnW k := by omega
        rw [this] at z; exact absurd w3 z
    · have hi2 : i = stW k + lnW k := by
        rcases Nat.lt_or_ge i (stW k + lnW k) with y | y
        · have := w_tab2 k h18 (i - stW k) (by omega)
          rw [show stW k + (i - stW k) = i by omega, z] at this
          omega
        · omega
      have nxt : ¬ wordAt B p e k → J E (d + 5) mX9_word 8 [(0, .ref (eb E + 1)), (1, .int (nI p)), (2, .int (nI e)), (3, .int (nI k + nI 1)), (4, .int (nI i + nI 1)), (5, .int (nI i + nI 1))] [] I Q := by
        intro hw
        rw [nI_add, nI_add]
        have e1 : i + 1 = stW (k + 1) := by omega
        have := ih (i + 1) (k + 1) (by omega) (by omega) (by omega) (fun q => by have := w_tab (k + 1) q; omega) (by
          have e2 : wsr B p e (18 - k) k = wsr B p e (18 - (k + 1)) (k + 1) := by
            rw [show 18 - k = (18 - (k + 1)) + 1 by omega]
            show (if dc (wordAt B p e k) = true then (if k < 13 then k else 982 + k) else wsr B p e (18 - (k + 1)) (k + 1)) = _
            rw [if_neg (by rw [dc_i]; exact hw)]
          rw [e2] at hQ; exact hQ)
        rw [← e1] at this
        exact this
      rw [nI_subB h1, nI_subB hpe, nI_eq (by omega) (by omega)]
      refine ⟨fun y => nxt (fun w => y (by have := w.1; omega)), fun y => ?_⟩
      refine S_X9_isWordAt _ _ _ (t_isWord3 (d := d) hT he hpe (by omega) (e - p) p (by omega) (Nat.le_refl p) ⟨_, rfl, bk (fun q => ?_) (fun q => ?_)⟩)
      · have hw : wordAt B p e k := ⟨by omega, q⟩
        have e2 : wsr B p e (18 - k) k = if k < 13 then k else 982 + k := by
          rw [show 18 - k = (18 - (k + 1)) + 1 by omega]
          show (if dc (wordAt B p e k) = true then (if k < 13 then k else 982 + k) else wsr B p e (18 - (k + 1)) (k + 1)) = _
          rw [if_pos (dc_t hw)]
        rw [e2] at hQ
        rw [nI_leI (by omega) (by omega)]
        refine ⟨fun g => ?_, fun g => ?_⟩
        · rw [if_neg (by omega)] at hQ
          rw [nI_add, nI_subB (by omega), show 995 + k - 13 = 982 + k by omega]; exact hQ
        · rw [if_pos (by omega)] at hQ; exact hQ
      · exact nxt (fun w => q w.2)
theorem t_token (hT : TP I B n) (hp : p < n) (hQ : Q (some (.int (nI (tok B n p)))) I) : Mt E (d + 6) mX9_token [.ref (eb E + 1), .int (nI p), .int (nI (ten B n p))] I Q := by
  have h2 := hT.2.1
  obtain ⟨b1, b2⟩ := hT.2.2 p hp
  have g1 : p < ten B n p := ten_gt
  have g2 : ten B n p ≤ n := ten_le hp
  refine S_X9_token _ _ ⟨p, rfl, by omega, t_isL b2 b1 ⟨_, rfl, bk (fun q => ?_) (fun q => ⟨p, rfl, by omega, t_isD b2 b1 ⟨_, rfl, bk (fun w => ?_) (fun w => ?_)⟩⟩)⟩⟩
  · have e : tok B n p = wsr B p (ten B n p) 18 0 := by unfold tok; rw [if_pos q]
    rw [e] at hQ
    refine S_X9_word _ _ ?_
    have := t_word8 (E := E) (d := d) (Q := fun rv I34 => ∃ v35 : Int32, rv = some (.int v35) ∧ Q (some (.int v35)) I34) hT g2 (by omega) 91 0 0 (by omega) (by omega) (by decide) (fun _ => by omega) ⟨_, rfl, hQ⟩
    exact this
  · rw [nI_subB (by omega), nI_ltI (by omega) (by omega)]
    refine ⟨fun z => ?_, fun z => S_X9_number _ _ ?_⟩
    · have e : tok B n p = 300 := by unfold tok; rw [if_neg q, if_pos w, if_neg (by omega)]
      rw [e] at hQ; exact hQ
    · refine t_number5 hT g2 (ten B n p - p) p 0 (by omega) (fun i a c => ?_) ⟨_, rfl, ?_⟩
      · by_cases hi : i = p
        · rw [hi]; simp [dB] at w; exact w
        · have : dB (B i) = true := by
            refine runB_all (n := n) (n - (p + 1)) (p + 1) i (by omega) ?_
            have e : ten B n p = runB dB B n (n - (p + 1)) (p + 1) := by unfold ten; rw [if_neg q, if_pos w]
            rw [e] at c; exact c
          simp [dB] at this; exact this
      · have e : tok B n p = 1000 + nmv B (ten B n p - p) p 0 := by unfold tok; rw [if_neg q, if_pos w, if_pos (by omega)]
        rw [e] at hQ
        rw [nI_add]; exact hQ
  · refine ⟨p, rfl, by omega, ?_⟩
    rw [b2, sgb_eq b1 (by omega), sgb_eq b1 (by omega), sgb_eq b1 (by omega), sgb_eq b1 (by omega), sgb_eq b1 (by omega), sgb_eq b1 (by omega)]
    have sg : isSg (B p) → (∃ j14 : Nat, nI p = nI j14 ∧ j14 < 200 ∧ Q (some (.int (I 2 j14))) I) := by
      intro z
      have e : tok B n p = B p := by unfold tok; rw [if_neg q, if_neg w, if_pos z]
      rw [e] at hQ
      refine ⟨p, rfl, by omega, ?_⟩
      rw [b2, sgb_lo _ (by rcases z with z | z | z | z | z | z <;> omega)]
      exact hQ
    refine ⟨fun z => sg (by omega), fun z => sg (by omega), fun z => sg (by omega), fun z => sg (by omega), fun z => sg (by omega), fun z => sg (by omega), fun z => ?_⟩
    have e : tok B n p = 300 := by unfold tok; rw [if_neg q, if_neg w, if_neg (by omega)]
    rw [e] at hQ; exact hQ
/-! the row of tokens: pl i the place of the i-th, tk i its number; 301 at the end -/
def pl (B : Nat → Nat) (n : Nat) : Nat → Nat
  | 0 => skp B n 0
  | i + 1 => if pl B n i < n then skp B n (ten B n (pl B n i)) else pl B n i
noncomputable def tk (B : Nat → Nat) (n i : Nat) : Nat := if pl B n i < n then tok B n (pl B n i) else 301
/-- there are K tokens ahead of the end -/
def LX (B : Nat → Nat) (n K : Nat) : Prop := K ≤ n ∧ pl B n K = n ∧ ∀ i, i < K → pl B n i < n
/-- the class's rows of tokens -/
def TKR (I : IH) (B : Nat → Nat) (n K : Nat) : Prop := ∀ i, i ≤ K → I 3 i = nI (tk B n i) ∧ I 4 i = nI (pl B n i)
theorem t_part6 (hT : TP I B n) (hQ : ∀ (K : Nat) (I2 : IH), LX B n K → TKR I2 B n K → Same [3, 4] I I2 → Q none I2) : ∀ (m p t j : Nat) (I1 : IH), p + m = n → t ≤ p → j ≤ p → pl B n j = skp B n p → (∀ i, i < j → pl B n i < n ∧ I1 3 i = nI (tk B n i) ∧ I1 4 i = nI (pl B n i)) → Same [3, 4] I I1 → J E (d + 7) mX9_part 6 [(0, .ref (eb E + 1)), (1, .int (nI j)), (2, .int (nI p)), (3, .int (nI t))] [] I1 Q := by
  have h2 := hT.2.1
  intro m
  induction m using Nat.strongRecOn with
  | ind m ih =>
    intro p t j I1 hp ht hj hpl hI hs
    have hT1 : TP I1 B n := hT.eqs (by rw [hs 1 (by decide)]) (hs 2 (by decide))
    by_cases hm : p < n
    · obtain ⟨b1, b2⟩ := hT1.2.2 p hm
      have g1 : p < ten B n p := ten_gt
      have g2 : ten B n p ≤ n := ten_le hm
      refine S_X9_part_6 _ _ _ ?_
      rw [hT1.1, nI_leI (by omega) (by omega), nI_leI (by omega) (by omega)]
      refine ⟨fun z => by omega, fun _ => ⟨fun z => by omega, fun _ => t_rowEnd (d := d + 5) hT1 hm ⟨_, rfl, p, rfl, by omega, ?_⟩⟩⟩
      rw [b2, sgb_eq b1 (by omega)]
      refine ⟨fun z => ?_, fun z => t_token hT1 hm ⟨_, rfl, j, rfl, by omega, fun I28 e28 => ⟨j, rfl, by omega, fun I33 e33 => ?_⟩⟩⟩
      · have et : ten B n p = p + 1 := by unfold ten; rw [if_neg (by simp [lB]; omega), if_neg (by simp [dB]; omega)]
        rw [et, nI_add]
        refine ih (n - (p + 1)) (by omega) (p + 1) (t + 1) j I1 (by omega) (by omega) (by omega) ?_ hI hs
        rw [hpl]; unfold skp; exact runB_s hm (by simp [sB]; exact z)
      · have ep : pl B n j = p := by rw [hpl]; unfold skp; exact runB_0 (fun w => z (by have := w.2; simp [sB] at this; exact this))
        rw [nI_add, nI_add]
        refine ih (n - ten B n p) (by omega) (ten B n p) (t + 1) (j + 1) I33 (by omega) (by omega) (by omega) ?_ (fun i hi => ?_) (hs.tr ?_)
        · show (if pl B n j < n then skp B n (ten B n (pl B n j)) else pl B n j) = _
          rw [ep, if_pos hm]
        · by_cases hij : i = j
          · subst hij
            have e : tk B n i = tok B n p := by unfold tk; rw [ep, if_pos hm]
            refine ⟨by rw [ep]; exact hm, ?_, ?_⟩
            · rw [e33, st_ne (by omega), e28, st_at, e]
            · rw [e33, st_at, ep]
          · obtain ⟨q1, q2, q3⟩ := hI i (by omega)
            refine ⟨q1, ?_, ?_⟩
            · rw [e33, st_ne (by omega), e28, st_nj hij]; exact q2
            · rw [e33, st_nj hij, e28, st_ne (by omega)]; exact q3
        · intro a ha
          have : a ≠ 3 ∧ a ≠ 4 := by simp at ha; omega
          rw [e33, st_ne this.2, e28, st_ne this.1]
    · have ep : pl B n j = n := by rw [hpl]; unfold skp; rw [runB_0 (by omega)]; omega
      have fin : ∀ I16 : IH, I16 = stI (stI I1 3 j (nI 301)) 4 j (stI I1 3 j (nI 301) 1 0) → Q none I16 := by
        intro I16 e16
        refine hQ j I16 ⟨by omega, ep, fun i hi => (hI i hi).1⟩ (fun i hi => ?_) (hs.tr (fun a ha => ?_))
        · by_cases hij : i = j
          · subst hij
            have e : tk B n i = 301 := by unfold tk; rw [if_neg (by omega)]
            refine ⟨?_, ?_⟩
            · rw [e16, st_ne (by omega), st_at, e]
            · rw [e16, st_at, st_ne (by omega), hT1.1, ep]
          · obtain ⟨q1, q2, q3⟩ := hI i (by omega)
            refine ⟨?_, ?_⟩
            · rw [e16, st_ne (by omega), st_nj hij]; exact q2
            · rw [e16, st_nj hij, st_ne (by omega)]; exact q3
        · have : a ≠ 3 ∧ a ≠ 4 := by simp at ha; omega
          rw [e16, st_ne this.2, st_ne this.1]
      refine S_X9_part_6 _ _ _ ?_
      refine ⟨fun z => ⟨j, rfl, by omega, fun I2 e2 => ⟨j, rfl, by omega, fun I6 e6 => fin I6 (by rw [e6, e2])⟩⟩, fun z => ⟨fun _ => ⟨j, rfl, by omega, fun I2 e2 => ⟨j, rfl, by omega, fun I6 e6 => fin I6 (by rw [e6, e2])⟩⟩, fun w => ?_⟩⟩
      rw [hT1.1, nI_leI (by omega) (by omega)] at w; omega
theorem t_part (hT : TP I B n) (hQ : ∀ (K : Nat) (I2 : IH), LX B n K → TKR I2 B n K → Same [3, 4] I I2 → Q none I2) : Mt E (d + 7) mX9_part [.ref (eb E + 1)] I Q :=
  S_X9_part (t_part6 hT hQ n 0 0 0 I (by omega) (by omega) (by omega) rfl (fun i hi => by omega) (Same.rf _ _))
end L1
