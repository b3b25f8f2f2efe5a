section P18
variable {E : EE} {d : Nat} {I : IH} {Q : QT} {T : Nat → Nat} {k e g r e1 g1 r1 s o : Nat} {x1 x2 x3 x4 : Int32}
/-! a tour by lights that change -/
def mnF (m : Nat → Nat) (left : Nat) : Nat → Nat → Nat → Nat
  | 0, _, a => a
  | n + 1, k, a => mnF m left n (k + 1) (if left / 2 ^ k % 2 = 1 then min a (m k) else a)
def fl (T : Nat → Nat) : Nat → Nat → Nat → Nat
  | 0, _, _ => 0
  | n + 1, left, sc => if left = 0 then 0 else mnF (fun k => pc8 (sc ^^^ T (39 + 6 * k)) + fl T n (left - 2 ^ k) (T (39 + 6 * k))) left (T 6) 0 2147483647
theorem mnF_le (m : Nat → Nat) (left : Nat) : ∀ (n k a : Nat), mnF m left n k a ≤ a ∧ ∀ j, k ≤ j → j < k + n → mem left j → mnF m left n k a ≤ m j := by
  intro n
  induction n with
  | zero => intro k a; exact ⟨Nat.le_refl _, fun j h1 h2 => by omega⟩
  | succ n ih =>
    intro k a
    obtain ⟨i1, i2⟩ := ih (k + 1) (if left / 2 ^ k % 2 = 1 then min a (m k) else a)
    show mnF m left n (k + 1) (if left / 2 ^ k % 2 = 1 then min a (m k) else a) ≤ a ∧ ∀ j, k ≤ j → j < k + (n + 1) → mem left j → mnF m left n (k + 1) (if left / 2 ^ k % 2 = 1 then min a (m k) else a) ≤ m j
    refine ⟨?_, fun j h1 h2 h3 => ?_⟩
    · refine Nat.le_trans i1 ?_
      split <;> omega
    · by_cases ej : j = k
      · subst ej
        refine Nat.le_trans i1 ?_
        rw [if_pos h3]; omega
      · exact i2 j (by omega) (by omega) h3
theorem mnF_0 (m : Nat → Nat) : ∀ (n k a : Nat), mnF m 0 n k a = a := by
  intro n
  induction n with
  | zero => intro k a; rfl
  | succ n ih =>
    intro k a
    show mnF m 0 n (k + 1) (if 0 / 2 ^ k % 2 = 1 then min a (m k) else a) = a
    rw [if_neg (by rw [Nat.zero_div]; omega), ih]
def Vs (T : Nat → Nat) (left : Nat) : Prop := left < 64 ∧ ∀ j, j < 6 → mem left j → j < T 6
theorem ex_mem {w : Nat} (h : w < 64) (h0 : w ≠ 0) : ∃ j, j < 6 ∧ mem w j := by
  refine Classical.byContradiction (fun q => h0 (set_ext h (by omega) (fun j hj => ⟨fun z => absurd ⟨j, hj, z⟩ q, fun z => ?_⟩)))
  unfold mem at z
  rw [Nat.zero_div] at z
  omega
theorem clr_mem : ∀ w, w < 64 → ∀ k, k < 6 → w / 2 ^ k % 2 = 1 → (nI w &&& ((nI 1 <<< (nI k &&& 31)) ^^^ (-1)) = nI (w - 2 ^ k) ∧ w - 2 ^ k < 64 ∧ pc8 (w - 2 ^ k) + 1 = pc8 w ∧ ∀ j, j < 6 → (w - 2 ^ k) / 2 ^ j % 2 = 1 → w / 2 ^ j % 2 = 1) := by decide +kernel
theorem pc_0 : ∀ w, w < 64 → pc8 w = 0 → w = 0 := by decide +kernel
theorem Vs.sub {left : Nat} (h : Vs T left) (hk : k < 6) (hm : mem left k) : Vs T (left - 2 ^ k) := by
  obtain ⟨c1, c2, c3, c4⟩ := clr_mem left h.1 k hk hm
  exact ⟨c2, fun j hj hj2 => h.2 j hj (c4 j hj hj2)⟩
theorem fl_le : ∀ (n left sc : Nat), Vs T left → pc8 left ≤ n → fl T n left sc ≤ 8 * n := by
  intro n
  induction n with
  | zero => intro left sc hV hp; exact Nat.le_refl _
  | succ n ih =>
    intro left sc hV hp
    unfold fl
    split
    · omega
    · rename_i h0
      obtain ⟨j, j1, j2⟩ := ex_mem hV.1 h0
      have h1 := (mnF_le (fun k => pc8 (sc ^^^ T (39 + 6 * k)) + fl T n (left - 2 ^ k) (T (39 + 6 * k))) left (T 6) 0 2147483647).2 j (by omega) (by have := hV.2 j j1 j2; omega) j2
      obtain ⟨c1, c2, c3, c4⟩ := clr_mem left hV.1 j j1 j2
      have h2 := ih (left - 2 ^ j) (T (39 + 6 * j)) (hV.sub j1 j2) (by omega)
      have h3 := pc8_le (sc ^^^ T (39 + 6 * j))
      have h4 : (fun k => pc8 (sc ^^^ T (39 + 6 * k)) + fl T n (left - 2 ^ k) (T (39 + 6 * k))) j = pc8 (sc ^^^ T (39 + 6 * j)) + fl T n (left - 2 ^ j) (T (39 + 6 * j)) := rfl
      omega
/-- where one of them is low enough, it doesn't matter how high the least begins -/
theorem mnF_top (m : Nat → Nat) (left : Nat) : ∀ (n k a b : Nat), b ≤ a → (∃ j, k ≤ j ∧ j < k + n ∧ mem left j ∧ m j ≤ b) → mnF m left n k a = mnF m left n k b := by
  intro n
  induction n with
  | zero => intro k a b hab hj; obtain ⟨j, j1, j2, _⟩ := hj; omega
  | succ n ih =>
    intro k a b hab hj
    obtain ⟨j, j1, j2, j3, j4⟩ := hj
    show mnF m left n (k + 1) (if left / 2 ^ k % 2 = 1 then min a (m k) else a) = mnF m left n (k + 1) (if left / 2 ^ k % 2 = 1 then min b (m k) else b)
    by_cases q : left / 2 ^ k % 2 = 1
    · rw [if_pos q, if_pos q]
      by_cases c : m k ≤ b
      · rw [show min a (m k) = m k by omega, show min b (m k) = m k by omega]
      · have ne : j ≠ k := fun z => by subst z; omega
        rw [show min b (m k) = b by omega]
        exact ih (k + 1) _ _ (by omega) ⟨j, by omega, by omega, j3, j4⟩
    · have ne : j ≠ k := fun z => by subst z; exact q j3
      rw [if_neg q, if_neg q]
      exact ih (k + 1) _ _ hab ⟨j, by omega, by omega, j3, j4⟩
/-! the class -/
theorem x_few_loop {D left sc : Nat} {f : Nat → Nat} (h7 : I 33 7 = nI (T 6)) (h6 : T 6 ≤ 6) (hl : left < 64) (hf : ∀ k, k < T 6 → mem left k → f k < 1000) (rec : ∀ k, k < T 6 → mem left k → ∀ Q : QT, Q (some (.int (nI (f k)))) I → Mt E D mX11_lightsBy [.ref (eb E + 0), .int (nI k), .int (nI sc), .int (nI left)] I Q) : ∀ (m k a : Nat), k + m = T 6 → a < 2147483648 → Q (some (.int (nI (mnF f left m k a)))) I → J E (D + 1) mX11_fewestLights 14 [(0, .ref (eb E + 0)), (1, .int (nI sc)), (2, .int (nI left)), (3, .int (nI a)), (4, .int (nI k))] [] I Q := by
  intro m
  induction m with
  | zero =>
    intro k a hk ha hQ
    refine S_X11_fewestLights_14 _ _ _ _ ?_
    rw [h7, nI_leI (by omega) (by omega)]
    exact ⟨fun _ => hQ, fun q => by omega⟩
  | succ m ih =>
    intro k a hk ha hQ
    refine S_X11_fewestLights_14 _ _ _ _ ?_
    have hm := Nat.mod_lt (left / 2 ^ k) (show 0 < 2 by omega)
    rw [h7, nI_leI (by omega) (by omega), bit_eq left hl k (by omega), nI_eq (by omega) (by omega), nI_add]
    unfold mnF at hQ
    refine ⟨fun q => by omega, fun _ => ⟨fun q => ?_, fun q => rec k (by omega) q _ ⟨_, rfl, ?_⟩⟩⟩
    · rw [if_neg q] at hQ; exact ih (k + 1) a (by omega) ha hQ
    · have := hf k (by omega) q
      rw [if_pos q] at hQ
      rw [nI_minB (by omega) (by omega)]
      exact ih (k + 1) _ (by omega) (by omega) hQ
theorem x_few (h : EvR I 33 34 T) (hW : WfE T) : ∀ (n left sc : Nat) (Q : QT), Vs T left → pc8 left ≤ n → n ≤ 6 → sc < 256 → Q (some (.int (nI (fl T n left sc)))) I → Mt E (d + 2 * n + 1) mX11_fewestLights [.ref (eb E + 0), .int (nI sc), .int (nI left)] I Q := by
  have h7 : I 33 7 = nI (T 6) := h.2.2.2.2.1
  have h6 : T 6 ≤ 6 := hW.1
  intro n
  induction n with
  | zero =>
    intro left sc Q hV hp hn hs hQ
    have e0 : left = 0 := pc_0 left hV.1 (by omega)
    subst e0
    refine S_X11_fewestLights _ _ ⟨fun q => absurd (by decide +kernel) q, fun _ => ?_⟩
    exact x_few_loop (D := d + 2 * 0) (f := fun _ => 0) h7 h6 (by omega) (fun _ _ _ => by omega) (fun k hk hm => by unfold mem at hm; rw [Nat.zero_div] at hm; omega) (T 6) 0 0 (by omega) (by omega) (by rw [mnF_0]; exact hQ)
  | succ n ih =>
    intro left sc Q hV hp hn hs hQ
    rw [show d + 2 * (n + 1) + 1 = (d + 2 * n + 2) + 1 by omega]
    have lp : ∀ a, a < 2147483648 → Q (some (.int (nI (mnF (fun k => pc8 (sc ^^^ T (39 + 6 * k)) + fl T n (left - 2 ^ k) (T (39 + 6 * k))) left (T 6) 0 a)))) I → J E ((d + 2 * n + 2) + 1) mX11_fewestLights 14 [(0, .ref (eb E + 0)), (1, .int (nI sc)), (2, .int (nI left)), (3, .int (nI a)), (4, .int (nI 0))] [] I Q := by
      intro a ha hQ
      refine x_few_loop (D := d + 2 * n + 2) (f := fun k => pc8 (sc ^^^ T (39 + 6 * k)) + fl T n (left - 2 ^ k) (T (39 + 6 * k))) h7 h6 hV.1 (fun k hk hm => ?_) (fun k hk hm Q2 hQ2 => ?_) (T 6) 0 a (by omega) ha hQ
      · obtain ⟨c1, c2, c3, c4⟩ := clr_mem left hV.1 k (by omega) hm
        have h2 := fl_le n (left - 2 ^ k) (T (39 + 6 * k)) (hV.sub (by omega) hm) (by omega)
        have h3 := pc8_le (sc ^^^ T (39 + 6 * k))
        show pc8 (sc ^^^ T (39 + 6 * k)) + fl T n (left - 2 ^ k) (T (39 + 6 * k)) < 1000
        omega
      · obtain ⟨c1, c2, c3, c4⟩ := clr_mem left hV.1 k (by omega) hm
        obtain ⟨k6, p1, p2, p3, p4, p5, p6⟩ := hW.p hk
        refine S_X11_lightsBy _ _ _ ⟨k, rfl, k6, ?_⟩
        rw [show I 38 k = nI (T (39 + 6 * k)) from h.2.2.2.2.2.2.2.2.2.2.2.1 k hk, xI_xor, c1]
        exact c_bitCount _ rfl (xor_256 hs p3) ⟨_, rfl, ih _ _ _ (hV.sub (by omega) hm) (by omega) (by omega) p3 ⟨_, rfl, by rw [nI_add]; exact hQ2⟩⟩
    unfold fl at hQ
    refine S_X11_fewestLights _ _ ?_
    have := hV.1
    rw [n0, nI_eq (by omega) (by omega)]
    refine ⟨fun q => ?_, fun q => ?_⟩
    · rw [if_neg q] at hQ
      obtain ⟨j, j1, j2⟩ := ex_mem hV.1 q
      obtain ⟨c1, c2, c3, c4⟩ := clr_mem left hV.1 j j1 j2
      have t2 := fl_le n (left - 2 ^ j) (T (39 + 6 * j)) (hV.sub j1 j2) (by omega)
      have t3 := pc8_le (sc ^^^ T (39 + 6 * j))
      have t4 : (fun k => pc8 (sc ^^^ T (39 + 6 * k)) + fl T n (left - 2 ^ k) (T (39 + 6 * k))) j ≤ 49 := by
        show pc8 (sc ^^^ T (39 + 6 * j)) + fl T n (left - 2 ^ j) (T (39 + 6 * j)) ≤ 49
        omega
      have t5 := mnF_top (fun k => pc8 (sc ^^^ T (39 + 6 * k)) + fl T n (left - 2 ^ k) (T (39 + 6 * k))) left (T 6) 0 2147483647 49 (by omega) ⟨j, by omega, by have := hV.2 j j1 j2; omega, j2, t4⟩
      rw [t5] at hQ
      exact lp 49 (by omega) hQ
    · rw [if_pos q] at hQ; subst q; exact lp 0 (by omega) (by rw [mnF_0]; exact hQ)
def flK (T : Nat → Nat) (n left sc k : Nat) : Nat := pc8 (sc ^^^ T (39 + 6 * k)) + fl T n (left - 2 ^ k) (T (39 + 6 * k))
theorem flK_lt {n left sc : Nat} (hV : Vs T left) (hp : pc8 left ≤ n + 1) (hn : n ≤ 6) (hk : k < 6) (hm : mem left k) : flK T n left sc k ≤ 56 := by
  obtain ⟨c1, c2, c3, c4⟩ := clr_mem left hV.1 k hk hm
  have h2 := fl_le n (left - 2 ^ k) (T (39 + 6 * k)) (hV.sub (by omega) hm) (by omega)
  have h3 := pc8_le (sc ^^^ T (39 + 6 * k))
  unfold flK
  omega
theorem x_lights {n left sc : Nat} (h : EvR I 33 34 T) (hW : WfE T) (hV : Vs T left) (hp : pc8 left ≤ n + 1) (hn : n ≤ 6) (hs : sc < 256) (hk : k < T 6) (hm : mem left k) (hQ : Q (some (.int (nI (flK T n left sc k)))) I) : Mt E (d + 2 * n + 2) mX11_lightsBy [.ref (eb E + 0), .int (nI k), .int (nI sc), .int (nI left)] I Q := by
  obtain ⟨k6, p1, p2, p3, p4, p5, p6⟩ := hW.p hk
  obtain ⟨c1, c2, c3, c4⟩ := clr_mem left hV.1 k (by omega) hm
  refine S_X11_lightsBy _ _ _ ⟨k, rfl, k6, ?_⟩
  rw [show I 38 k = nI (T (39 + 6 * k)) from h.2.2.2.2.2.2.2.2.2.2.2.1 k hk, xI_xor, c1]
  exact c_bitCount _ rfl (xor_256 hs p3) ⟨_, rfl, x_few h hW n _ _ _ (hV.sub (by omega) hm) (by omega) (by omega) p3 ⟨_, rfl, by rw [nI_add]; exact hQ⟩⟩
/-- the first that comes to it -/
def fsF (f : Nat → Nat) (left fw : Nat) : Nat → Nat → Int32
  | 0, _ => (-3)
  | n + 1, k => if left / 2 ^ k % 2 = 1 ∧ f k = fw then nI k else fsF f left fw n (k + 1)
theorem x_tour60 {n left sc fw : Nat} (h : EvR I 33 34 T) (hW : WfE T) (hV : Vs T left) (hp : pc8 left ≤ n + 1) (hn : n ≤ 6) (hs : sc < 256) (hf : fw < 2147483648) : ∀ (m k : Nat), k + m = T 6 → Q (some (.int (fsF (flK T n left sc) left fw m k))) I → J E (d + 2 * n + 3) mX11_tour 60 [(0, .ref (eb E + 0)), (1, .int (nI sc)), (3, .int (nI left)), (4, .int (nI fw)), (5, .int (nI k))] [] I Q := by
  have h7 : I 33 7 = nI (T 6) := h.2.2.2.2.1
  have h6 : T 6 ≤ 6 := hW.1
  intro m
  induction m with
  | zero =>
    intro k hk hQ
    refine S_X11_tour_60 _ _ _ _ ?_
    rw [h7, nI_leI (by omega) (by omega)]
    exact ⟨fun _ => hQ, fun q => by omega⟩
  | succ m ih =>
    intro k hk hQ
    refine S_X11_tour_60 _ _ _ _ ?_
    have hm := Nat.mod_lt (left / 2 ^ k) (show 0 < 2 by omega)
    rw [h7, nI_leI (by omega) (by omega), bit_eq left hV.1 k (by omega), nI_eq (by omega) (by omega), nI_add]
    unfold fsF at hQ
    refine ⟨fun q => by omega, fun _ => ⟨fun q => ?_, fun q => x_lights h hW hV hp hn hs (by omega) q ⟨_, rfl, ?_⟩⟩⟩
    · rw [if_neg (fun w => q w.1)] at hQ; exact ih (k + 1) (by omega) hQ
    · have := flK_lt (sc := sc) hV hp hn (show k < 6 by omega) q
      rw [nI_eq (by omega) (by omega)]
      refine ⟨fun z => ?_, fun z => ?_⟩
      · rw [if_neg (fun w => z w.2)] at hQ; exact ih (k + 1) (by omega) hQ
      · rw [if_pos ⟨q, z⟩] at hQ; exact hQ
/-! the reference -/
def updL (p : Int × Int32) (m : Nat) (c : Int32) : Int × Int32 := if p.1 < 0 ∨ (m : Int) < p.1 then ((m : Int), c) else p
def glF (f : Nat → Nat) (left L : Nat) (c : Nat → Int32) : Nat → Nat → Int × Int32 → Int × Int32
  | 0, _, p => p
  | n + 1, k, p => glF f left L c n (k + 1) (if left / 2 ^ k % 2 = 1 then updL p (L + f k) (c k) else p)
theorem updL2 (p : Int × Int32) (a b : Nat) (c : Int32) : updL (updL p a c) b c = updL p (min a b) c := by
  unfold updL
  by_cases h1 : p.1 < 0 ∨ (a : Int) < p.1
  · rw [if_pos h1]
    by_cases h2 : (b : Int) < (a : Int)
    · rw [if_pos (Or.inr h2), if_pos (by omega)]
      congr 1; omega
    · rw [if_neg (by show ¬ ((a : Int) < 0 ∨ (b : Int) < (a : Int)); omega), if_pos (by omega)]
      congr 1; omega
  · rw [if_neg h1]
    by_cases h2 : p.1 < 0 ∨ (b : Int) < p.1
    · rw [if_pos h2, if_pos (by omega)]
      congr 1; omega
    · rw [if_neg h2, if_neg (by omega)]
theorem glF_A (f : Nat → Nat) (left L : Nat) (c : Int32) (p : Int × Int32) : ∀ (n k a : Nat), glF f left L (fun _ => c) n k (updL p (L + a) c) = updL p (L + mnF f left n k a) c := by
  intro n
  induction n with
  | zero => intro k a; rfl
  | succ n ih =>
    intro k a
    unfold glF mnF
    by_cases q : left / 2 ^ k % 2 = 1
    · rw [if_pos q, if_pos q, updL2, ← ih]
      congr 2; omega
    · rw [if_neg q, if_neg q, ih]
theorem glF_B (f : Nat → Nat) (left L : Nat) (c : Int32) (p : Int × Int32) : ∀ (n k : Nat), (∃ j, k ≤ j ∧ j < k + n ∧ mem left j) → (∀ j, k ≤ j → j < k + n → mem left j → f j < 2147483647) → glF f left L (fun _ => c) n k p = updL p (L + mnF f left n k 2147483647) c := by
  intro n
  induction n with
  | zero => intro k ⟨j, j1, j2, _⟩; omega
  | succ n ih =>
    intro k ⟨j, j1, j2, j3⟩ hf
    unfold glF mnF
    by_cases q : left / 2 ^ k % 2 = 1
    · have := hf k (by omega) (by omega) q
      rw [if_pos q, if_pos q, glF_A, show min 2147483647 (f k) = f k by omega]
    · rw [if_neg q, if_neg q]
      refine ih (k + 1) ⟨j, ?_, by omega, j3⟩ (fun i h1 h2 => hf i (by omega) (by omega))
      by_cases ej : j = k
      · subst ej; exact absurd j3 q
      · omega
theorem glF_D (f : Nat → Nat) (left : Nat) : ∀ (n k a i : Nat), glF f left 0 (fun k => nI k) n k ((a : Int), nI i) = ((mnF f left n k a : Int), if mnF f left n k a = a then nI i else fsF f left (mnF f left n k a) n k) := by
  intro n
  induction n with
  | zero => intro k a i; show ((a : Int), nI i) = ((a : Int), if a = a then nI i else (-3)); rw [if_pos rfl]
  | succ n ih =>
    intro k a i
    unfold glF mnF fsF
    by_cases q : left / 2 ^ k % 2 = 1
    · rw [if_pos q, if_pos q, Nat.zero_add]
      unfold updL
      by_cases h2 : f k < a
      · rw [if_pos (by show (a : Int) < 0 ∨ (f k : Int) < (a : Int); omega), show min a (f k) = f k by omega, ih]
        have hle := (mnF_le f left n (k + 1) (f k)).1
        rw [if_neg (show ¬ mnF f left n (k + 1) (f k) = a by omega)]
        by_cases h3 : mnF f left n (k + 1) (f k) = f k
        · rw [if_pos h3, if_pos ⟨q, h3.symm⟩]
        · rw [if_neg h3, if_neg (fun w => h3 w.2.symm)]
      · rw [if_neg (by show ¬ ((a : Int) < 0 ∨ (f k : Int) < (a : Int)); omega), show min a (f k) = a by omega, ih]
        have hle := (mnF_le f left n (k + 1) a).1
        by_cases h3 : mnF f left n (k + 1) a = a
        · rw [if_pos h3, if_pos h3]
        · rw [if_neg h3, if_neg h3, if_neg (fun w => h3 (by have := w.2; omega))]
    · rw [if_neg q, if_neg q, ih, if_neg (show ¬ (left / 2 ^ k % 2 = 1 ∧ f k = mnF f left n (k + 1) a) from fun w => q w.1)]
theorem glF_E (f : Nat → Nat) (left : Nat) (c0 : Int32) : ∀ (n k : Nat), (∃ j, k ≤ j ∧ j < k + n ∧ mem left j) → (∀ j, k ≤ j → j < k + n → mem left j → f j < 2147483647) → glF f left 0 (fun k => nI k) n k ((-1), c0) = ((mnF f left n k 2147483647 : Int), fsF f left (mnF f left n k 2147483647) n k) := by
  intro n
  induction n with
  | zero => intro k ⟨j, j1, j2, _⟩; omega
  | succ n ih =>
    intro k ⟨j, j1, j2, j3⟩ hf
    unfold glF mnF fsF
    by_cases q : left / 2 ^ k % 2 = 1
    · have := hf k (by omega) (by omega) q
      rw [if_pos q, if_pos q, Nat.zero_add, show min 2147483647 (f k) = f k by omega]
      unfold updL
      rw [if_pos (Or.inl (by show (-1 : Int) < 0; omega)), glF_D]
      by_cases h3 : mnF f left n (k + 1) (f k) = f k
      · rw [if_pos h3, if_pos ⟨q, h3.symm⟩]
      · rw [if_neg h3, if_neg (fun w => h3 w.2.symm)]
    · rw [if_neg q, if_neg q, if_neg (fun w => q w.1)]
      refine ih (k + 1) ⟨j, ?_, by omega, j3⟩ (fun i h1 h2 => hf i (by omega) (by omega))
      by_cases ej : j = k
      · subst ej; exact absurd j3 q
      · omega
def RS (I I2 : IH) : Prop := Same [115] I I2 ∧ ∀ s, s ≠ 16 → s ≠ 17 → I2 115 s = I 115 s
theorem RS.rf (I : IH) : RS I I := ⟨Same.rf _ _, fun _ _ _ => rfl⟩
theorem RS.tr {I2 I3 : IH} (h : RS I I2) (h2 : RS I2 I3) : RS I I3 := ⟨h.1.tr h2.1, fun s a b => (h2.2 s a b).trans (h.2 s a b)⟩
def LsP (I : IH) (p : Int × Int32) : Prop := I 115 16 = zI p.1 ∧ I 115 17 = p.2 ∧ -1 ≤ p.1 ∧ p.1 ≤ 1000
theorem LsP.up {p : Int × Int32} {m : Nat} {c : Int32} (h : LsP I p) (hm : m ≤ 1000) : -1 ≤ (updL p m c).1 ∧ (updL p m c).1 ≤ 1000 := by
  obtain ⟨-, -, h3, h4⟩ := h
  unfold updL
  split
  · exact ⟨by show (-1 : Int) ≤ (m : Int); omega, by show (m : Int) ≤ 1000; omega⟩
  · exact ⟨h3, h4⟩
theorem m_round0 {m : Nat} {p : Int × Int32} {c sc : Int32} (h : LsP I p) (hm : m ≤ 1000) (hQ : ∀ I2, LsP I2 (updL p m c) → RS I I2 → Q none I2) : Mt E (d + 1) mX12_goesRound [.ref (eb E + 115), .int (nI 0), .int sc, .int (nI m), .int c] I Q := by
  have hb := h.up (c := c) hm
  obtain ⟨h1, h2, h3, h4⟩ := id h
  have st : (p.1 < 0 ∨ (m : Int) < p.1) → Q none (stI (stI I 115 16 (nI m)) 115 17 c) := by
    intro q
    have e : updL p m c = ((m : Int), c) := by unfold updL; rw [if_pos q]
    refine hQ _ ⟨?_, ?_, hb.1, hb.2⟩ ⟨Same.tr (Same.st (by simp)) (Same.st (by simp)), fun s s1 s2 => by rw [st_nj s2, st_nj s1]⟩
    · rw [st_nj (by omega), st_at, e]; exact nI_z m
    · rw [st_at, e]
  refine S_X12_goesRound _ _ _ _ ⟨fun q => absurd (by decide +kernel) q, fun _ => ?_⟩
  rw [h1, zI_0, zI_lt (by omega) (by omega) (by omega) (by omega), nI_z, zI_le (by omega) (by omega) (by omega) (by omega)]
  refine ⟨fun q I1 e1 I3 e3 => ?_, fun q => ⟨fun q2 => ?_, fun q2 I1 e1 I3 e3 => ?_⟩⟩
  · rw [e3, e1, zI_m]; exact st (Or.inl q)
  · have e : updL p m c = p := by unfold updL; rw [if_neg (by omega)]
    rw [e] at hQ
    exact hQ I h (RS.rf I)
  · rw [e3, e1, zI_m]; exact st (Or.inr (by omega))
theorem m_round_loop {D left sc L : Nat} {f : Nat → Nat} {c : Nat → Int32} (h6 : T 6 ≤ 6) (hW : WfE T) (hs : sc < 256) (hl : left < 64) (hf : ∀ k, k < T 6 → mem left k → L + f k ≤ 1000) (hc : (0 ≤ x4 ∧ ∀ k, c k = x4) ∨ (¬ 0 ≤ x4 ∧ ∀ k, c k = nI k))
    (rec : ∀ (k : Nat) (I : IH) (p : Int × Int32) (Q : QT), k < T 6 → mem left k → RM I T → LsP I p → (∀ I2, LsP I2 (updL p (L + f k) (c k)) → RS I I2 → Q none I2) → Mt E D mX12_goesRound [.ref (eb E + 115), .int (nI (left - 2 ^ k)), .int (nI (T (39 + 6 * k))), .int (nI (L + pc8 (sc ^^^ T (39 + 6 * k)))), .int (c k)] I Q) : ∀ (m k : Nat) (p : Int × Int32) (I : IH), k + m = T 6 → RM I T → LsP I p → (∀ I2, LsP I2 (glF f left L c m k p) → RS I I2 → Q none I2) → J E (D + 1) mX12_goesRound 34 [(0, .ref (eb E + 115)), (1, .int (nI left)), (2, .int (nI sc)), (3, .int (nI L)), (4, .int x4), (5, .int (nI k))] [] I Q := by
  intro m
  induction m with
  | zero =>
    intro k p I hk h hp hQ
    refine S_X12_goesRound_34 _ _ _ _ _ ?_
    rw [h 6 (by omega) (by omega) (by omega), nI_leI (by omega) (by omega)]
    exact ⟨fun _ => hQ I hp (RS.rf I), fun q => by omega⟩
  | succ m ih =>
    intro k p I hk h hp hQ
    obtain ⟨k6, p1, p2, p3, p4, p5, p6⟩ := hW.p (show k < T 6 by omega)
    refine S_X12_goesRound_34 _ _ _ _ _ ?_
    have hm := Nat.mod_lt (left / 2 ^ k) (show 0 < 2 by omega)
    rw [h 6 (by omega) (by omega) (by omega), nI_leI (by omega) (by omega), bit_eq left hl k (by omega), nI_eq (by omega) (by omega), nI_add k]
    unfold glF at hQ
    refine ⟨fun q => by omega, fun _ => ⟨fun q => ?_, fun q => ?_⟩⟩
    · rw [if_neg q] at hQ; exact ih (k + 1) p I (by omega) h hp hQ
    · rw [if_pos q] at hQ
      obtain ⟨c1, c2, c3, c4⟩ := clr_mem left hl k (by omega) q
      have go : ∀ t0 : Int32, t0 = c k → J E (D + 1) mX12_goesRound 102 [(0, .ref (eb E + 115)), (1, .int (nI left)), (2, .int (nI sc)), (3, .int (nI L)), (4, .int x4), (5, .int (nI k))] [.int t0, .int (nI (L + pc8 (sc ^^^ T (39 + 6 * k)))), .int (nI (T (39 + 6 * k))), .int (nI (left - 2 ^ k)), .ref (eb E + 115)] I Q := by
        intro t0 ht
        subst ht
        refine S_X12_goesRound_102 _ _ _ _ _ _ _ _ _ (rec k I p _ (by omega) q h hp (fun I2 l2 s2 => ⟨rfl, ?_⟩))
        rw [nI_add]
        exact ih (k + 1) _ I2 (by omega) (h.same s2.1 (by simp)) l2 (fun I3 l3 s3 => hQ I3 l3 (s2.tr s3))
      refine c_get k 1 rfl rfl (by omega) ⟨_, rfl, c_ones (sc ^^^ T (39 + 6 * k)) (by rw [h.sc k6, xI_xor, Nat.xor_comm]) (xor_256 hs p3) ⟨_, rfl, c_get k 1 rfl rfl (by omega) ⟨_, rfl, ?_⟩⟩⟩
      rw [h.sc k6, c1, nI_add L]
      rcases hc with ⟨w1, w2⟩ | ⟨w1, w2⟩
      · exact ⟨fun _ => go _ (w2 k).symm, fun z => absurd w1 z⟩
      · exact ⟨fun z => absurd z w1, fun _ => go _ (w2 k).symm⟩
theorem m_round (hW : WfE T) : ∀ (n left sc L c : Nat) (p : Int × Int32) (I : IH) (Q : QT), Vs T left → pc8 left ≤ n → n ≤ 6 → sc < 256 → L + 8 * n ≤ 1000 → c < 6 → RM I T → LsP I p → (∀ I2, LsP I2 (updL p (L + fl T n left sc) (nI c)) → RS I I2 → Q none I2) → Mt E (d + n + 1) mX12_goesRound [.ref (eb E + 115), .int (nI left), .int (nI sc), .int (nI L), .int (nI c)] I Q := by
  have h6 : T 6 ≤ 6 := hW.1
  intro n
  induction n with
  | zero =>
    intro left sc L c p I Q hV hp hn hs hL hc h hl hQ
    have e0 : left = 0 := pc_0 left hV.1 (by omega)
    subst e0
    exact m_round0 hl (by omega) hQ
  | succ n ih =>
    intro left sc L c p I Q hV hp hn hs hL hc h hl hQ
    unfold fl at hQ
    by_cases e0 : left = 0
    · subst e0
      rw [if_pos rfl] at hQ
      exact m_round0 hl (by omega) hQ
    · rw [if_neg e0] at hQ
      have hle := fun k (hk : k < 6) (hm : mem left k) => flK_lt (T := T) (sc := sc) hV hp (by omega) hk hm
      obtain ⟨j, j1, j2⟩ := ex_mem hV.1 e0
      refine S_X12_goesRound _ _ _ _ ⟨fun _ => ?_, fun q => ?_⟩
      · refine m_round_loop (D := d + (n + 1)) (f := flK T n left sc) (c := fun _ => nI c) h6 hW hs hV.1 (fun k hk hm => ?_) (Or.inl ⟨nI_pos' (by omega), fun _ => rfl⟩) (fun k I2 p2 Q2 hk hm h2 hl2 hQ2 => ?_) (T 6) 0 p I (by omega) h hl (fun I2 l2 s2 => hQ I2 ?_ s2)
        · obtain ⟨c1, c2, c3, c4⟩ := clr_mem left hV.1 k (by omega) hm
          have h2 := fl_le n (left - 2 ^ k) (T (39 + 6 * k)) (hV.sub (by omega) hm) (by omega)
          have h3 := pc8_le (sc ^^^ T (39 + 6 * k))
          unfold flK
          omega
        · obtain ⟨c1, c2, c3, c4⟩ := clr_mem left hV.1 k (by omega) hm
          have h3 := pc8_le (sc ^^^ T (39 + 6 * k))
          refine ih _ _ _ c p2 I2 Q2 (hV.sub (by omega) hm) (by omega) (by omega) (hW.p hk).2.2.2.1 (by omega) hc h2 hl2 (fun I3 l3 s3 => hQ2 I3 ?_ s3)
          rw [Nat.add_assoc] at l3
          exact l3
        · rw [glF_B (flK T n left sc) left L (nI c) p (T 6) 0 ⟨j, by omega, by have := hV.2 j j1 j2; omega, j2⟩ (fun i h1 h2 h3 => by have := hle i (by omega) h3; omega)] at l2
          exact l2
      · have := hV.1
        rw [n0, nI_eq (by omega) (by omega)] at q
        exact absurd q e0
def lf (w t : Nat) : Nat := (63 - w) &&& (2 ^ t - 1)
theorem lf_eq : ∀ w, w < 64 → ∀ t, t < 7 → ((nI w ^^^ (-1)) &&& ((nI 1 <<< (nI t &&& 31)) - nI 1)) = nI (lf w t) ∧ (((nI 1 <<< (nI t &&& 31)) - nI 1) &&& (nI w ^^^ (-1))) = nI (lf w t) ∧ lf w t < 64 ∧ pc8 (lf w t) ≤ 6 ∧ ∀ j, j < 6 → lf w t / 2 ^ j % 2 = 1 → j < t := by decide +kernel
theorem p_tour (hI : Inv I) : Pair E (d + 40) mX11_tour mX12_tour [.int x1, .int x2] [.int x1, .int x2] I := by
  obtain ⟨T, h⟩ := id hI
  obtain ⟨a1, a2, a3, a4, a5, a6⟩ := id h
  obtain ⟨o1, o2, o3, o4, o5, o6⟩ := id a6
  have v5 : I 33 7 = nI (T 6) := a3.1.2.2.2.2.1
  have v6 : I 33 8 = nI (swn T) := a3.1.2.2.2.2.2.1
  have h6 : T 6 ≤ 6 := a2.1.1
  by_cases ok : inr x1 0 255 ∧ inr x2 0 1
  · obtain ⟨sc, hsc, -, hsc2⟩ := inr_n ok.1
    obtain ⟨u, hu, -, hu2⟩ := inr_n ok.2
    subst hsc; subst hu
    obtain ⟨l1, l2, l3, l4, l5⟩ := lf_eq (swn T) (swn_lt a2.1) (T 6) (by omega)
    generalize lf (swn T) (T 6) = left at l1 l2 l3 l4 l5
    have hV : Vs T left := ⟨l3, l5⟩
    have hfl := fl_le 6 left sc hV l4
    refine ⟨if u = 0 then nI (fl T 6 left sc) else fsF (flK T 5 left sc) left (fl T 6 left sc) (T 6) 0, fun I1 => I1 = I, fun Q hQ => S_X11_tour _ _ (d_isWithin (by omega) ⟨_, rfl, bk (fun _ => d_isWithin (by omega) ⟨_, rfl, bk2 (fun _ => ?_) (fun q => absurd ok.2 q)⟩) (fun q => absurd ok.1 q)⟩), fun I1 e1 Q hQ => ?_⟩
    · rw [v6, v5, l1]
      refine x_few a3.1 a2.1 6 left sc _ hV l4 (by omega) (by omega) ⟨_, rfl, ?_⟩
      rw [n0, nI_eq (by omega) (by omega)]
      refine ⟨fun q => ?_, fun q => ?_⟩
      · have hQ := hQ I rfl
        rw [if_neg q] at hQ
        exact x_tour60 a3.1 a2.1 hV l4 (by omega) (by omega) (by omega) (T 6) 0 (by omega) hQ
      · have hQ := hQ I rfl
        rw [if_pos q] at hQ; exact hQ
    · subst e1
      have fin : ∀ I2, RS I1 I2 → Inv I2 := by
        intro I2 s2
        have q : ∀ a, a ≠ 115 → I2 a = I1 a := fun a ha => s2.1 a (by simp; exact ha)
        refine ⟨T, a1.same s2.1 (by simp), a2, a3.eqs (fun a ha => q a (by revert a; decide)), ?_, ?_, o1.eqs (by rw [q 0 (by omega)]) (s2.2 3 (by omega) (by omega)) (fun a ha => q a (by omega)), o2.eqs (by rw [q 1 (by omega)]) (s2.2 6 (by omega) (by omega)) (q 120 (by omega)) (q 2 (by omega)), o3.eqs (by rw [q 0 (by omega)]) (s2.2 28 (by omega) (by omega)) (q 13 (by omega)) (q 128 (by omega)), o4.eqs (fun a ha => q a (by omega)), o5.eqs (fun a ha => q a (by omega)), o6.eqs (by rw [q 11 (by omega)]) (s2.2 35 (by omega) (by omega)) (q 12 (by omega)) (q 134 (by omega))⟩
        · rw [q 33 (by omega), q 116 (by omega)]; exact a4
        · rw [q 33 (by omega), q 116 (by omega)]; exact a5
      refine S_X12_tour _ _ (m_isScene ⟨_, rfl, bk (fun _ => m_in1 (by omega) (by omega) ⟨_, rfl, bk2 (fun _ => c_those a1 a2.1 rfl ⟨_, rfl, fun I7 e7 => ?_⟩) (fun q => absurd ok.2 q)⟩) (fun q => absurd ok.1 q)⟩)
      rw [a1 6 (by omega) (by omega) (by omega), l2]
      have s7 : RS I1 I7 := by
        rw [e7]; exact ⟨Same.st (by simp), fun s h1 h2 => by rw [st_nj h1]⟩
      have r7 : RM I7 T := a1.same s7.1 (by simp)
      have l7 : LsP I7 ((-1), I1 115 17) := ⟨by rw [e7, st_at]; exact zI_neg1, by rw [e7, st_nj (by omega)], by show (-1 : Int) ≤ -1; omega, by show (-1 : Int) ≤ 1000; omega⟩
      by_cases e0 : left = 0
      · subst e0
        refine m_round0 l7 (by omega) (fun I9 l9 s9 => ⟨rfl, ?_⟩)
        have hQ := hQ I9 (fin I9 (s7.tr s9))
        rw [n0, nI_eq (by omega) (by omega), nI_eq (by omega) (by omega)]
        have u1 : updL ((-1), I1 115 17) 0 (-1) = (((0 : Nat) : Int), (-1)) := by unfold updL; rw [if_pos (Or.inl (by show (-1 : Int) < 0; omega))]
        rw [u1] at l9
        have f0 : fl T 6 0 sc = 0 := by unfold fl; rw [if_pos rfl]
        refine ⟨fun q => ⟨fun q2 => absurd rfl q2, fun _ => ?_⟩, fun q => ?_⟩
        · rw [if_neg q] at hQ
          have : ∀ n k, fsF (flK T 5 0 sc) 0 (fl T 6 0 sc) n k = (-3) := by
            intro n
            induction n with
            | zero => intro k; rfl
            | succ n ih => intro k; unfold fsF; rw [if_neg (fun w => by have w1 := w.1; rw [Nat.zero_div] at w1; omega)]; exact ih (k + 1)
          rw [this] at hQ; exact hQ
        · rw [if_pos q, f0] at hQ
          rw [l9.1]; exact hQ
      · obtain ⟨j, j1, j2⟩ := ex_mem hV.1 e0
        have hle := fun k (hk : k < 6) (hm : mem left k) => flK_lt (T := T) (n := 5) (sc := sc) hV l4 (by omega) hk hm
        refine S_X12_goesRound _ _ _ _ ⟨fun _ => ?_, fun q => ?_⟩
        · refine m_round_loop (D := d + 38) (L := 0) (f := flK T 5 left sc) (c := fun k => nI k) h6 a2.1 (by omega) hV.1 (fun k hk hm => by have := hle k (by omega) hm; omega) (Or.inr ⟨by decide +kernel, fun _ => rfl⟩) (fun k I2 p2 Q2 hk hm h2 hl2 hQ2 => ?_) (T 6) 0 ((-1), I1 115 17) I7 (by omega) r7 l7 (fun I9 l9 s9 => ⟨rfl, ?_⟩)
          · obtain ⟨c1, c2, c3, c4⟩ := clr_mem left hV.1 k (by omega) hm
            have h3 := pc8_le (sc ^^^ T (39 + 6 * k))
            refine m_round (d := d + 32) a2.1 5 _ _ _ k p2 I2 Q2 (hV.sub (by omega) hm) (by omega) (by omega) (a2.1.p hk).2.2.2.1 (by omega) (by omega) h2 hl2 (fun I3 l3 s3 => hQ2 I3 ?_ s3)
            rw [Nat.add_assoc] at l3
            exact l3
          · have hQ := hQ I9 (fin I9 (s7.tr s9))
            rw [glF_E (flK T 5 left sc) left _ (T 6) 0 ⟨j, by omega, by have := hV.2 j j1 j2; omega, j2⟩ (fun i h1 h2 h3 => by have := hle i (by omega) h3; omega)] at l9
            have f0 : fl T 6 left sc = mnF (flK T 5 left sc) left (T 6) 0 2147483647 := by
              have : fl T 6 left sc = if left = 0 then 0 else mnF (flK T 5 left sc) left (T 6) 0 2147483647 := rfl
              rw [this, if_neg e0]
            rw [← f0] at l9
            rw [n0, nI_eq (by omega) (by omega), nI_eq (by omega) (by omega)]
            refine ⟨fun q => ⟨fun q2 => ?_, fun q2 => absurd q2 e0⟩, fun q => ?_⟩
            · rw [if_neg q] at hQ
              rw [l9.2.1]; exact hQ
            · rw [if_pos q] at hQ
              rw [l9.1]
              show Q (some (.int (zI ((fl T 6 left sc : Nat) : Int)))) I9
              rw [zI_m]; exact hQ
        · rw [n0, nI_eq (by omega) (by omega)] at q
          exact absurd q e0
  · refine Pair.pure hI (-1) (fun Q hQ => S_X11_tour _ _ (d_isWithin (by omega) ⟨_, rfl, bk (fun p1 => d_isWithin (by omega) ⟨_, rfl, bk2 (fun p2 => absurd ⟨p1, p2⟩ ok) (fun _ => hQ)⟩) (fun _ => hQ)⟩)) (fun Q hQ => S_X12_tour _ _ (m_isScene ⟨_, rfl, bk (fun p1 => m_in1 (by omega) (by omega) ⟨_, rfl, bk2 (fun p2 => absurd ⟨p1, p2⟩ ok) (fun _ => hQ)⟩) (fun _ => hQ)⟩))
end P18
