section P17
variable {E : EE} {d : Nat} {I : IH} {Q : QT} {T : Nat → Nat} {k e g r e1 g1 r1 s o : Nat} {x1 x2 x3 x4 : Int32}
/-! sets of panes -/
abbrev mem (s k : Nat) : Prop := s / 2 ^ k % 2 = 1
def add (s k : Nat) : Nat := if s / 2 ^ k % 2 = 1 then s else s + 2 ^ k
theorem or_add : ∀ s, s < 64 → ∀ k, k < 6 → nI s ||| (nI 1 <<< (nI k &&& 31)) = nI (add s k) ∧ add s k < 64 := by decide +kernel
theorem mem_add : ∀ s, s < 64 → ∀ k, k < 6 → ∀ j, j < 6 → (add s k / 2 ^ j % 2 = 1 ↔ s / 2 ^ j % 2 = 1 ∨ j = k) := by decide +kernel
theorem one_sh : ∀ k, k < 6 → nI 1 <<< (nI k &&& 31) = nI (2 ^ k) ∧ 2 ^ k < 64 ∧ 0 < 2 ^ k := by decide +kernel
theorem mem_one : ∀ k, k < 6 → ∀ j, j < 6 → (2 ^ k / 2 ^ j % 2 = 1 ↔ j = k) := by decide +kernel
theorem bits6 : ∀ s, s < 64 → s = s / 2 ^ 0 % 2 + 2 * (s / 2 ^ 1 % 2) + 4 * (s / 2 ^ 2 % 2) + 8 * (s / 2 ^ 3 % 2) + 16 * (s / 2 ^ 4 % 2) + 32 * (s / 2 ^ 5 % 2) := by decide +kernel
theorem set_ext {s t : Nat} (hs : s < 64) (ht : t < 64) (h : ∀ j, j < 6 → (mem s j ↔ mem t j)) : s = t := by
  have q : ∀ j, j < 6 → s / 2 ^ j % 2 = t / 2 ^ j % 2 := by
    intro j hj
    have h1 := h j hj
    have m1 := Nat.mod_lt (s / 2 ^ j) (show 0 < 2 by omega)
    have m2 := Nat.mod_lt (t / 2 ^ j) (show 0 < 2 by omega)
    unfold mem at h1
    generalize s / 2 ^ j % 2 = a at h1 m1 ⊢
    generalize t / 2 ^ j % 2 = b at h1 m2 ⊢
    omega
  have h1 := bits6 s hs
  have h2 := bits6 t ht
  rw [q 0 (by omega), q 1 (by omega), q 2 (by omega), q 3 (by omega), q 4 (by omega), q 5 (by omega)] at h1
  exact h1.trans h2.symm
theorem gro_add : ∀ s, s < 64 → ∀ k, k < 6 → (s / 2 ^ k % 2 = 1 ∧ add s k = s) ∨ (¬ s / 2 ^ k % 2 = 1 ∧ pc8 (add s k) = pc8 s + 1) := by decide +kernel
theorem pc_le : ∀ s, s < 64 → ∀ n, n < 7 → (∀ j, j < 6 → s / 2 ^ j % 2 = 1 → j < n) → pc8 s ≤ n := by decide +kernel
theorem pc_one : ∀ k, k < 6 → pc8 (2 ^ k) = 1 := by decide +kernel
theorem low_bit : ∀ s, s < 64 → ∀ k, k < 6 → ((nI s &&& (-nI s)) = (nI 1 <<< (nI k &&& 31)) ↔ (s / 2 ^ k % 2 = 1 ∧ s % 2 ^ k = 0)) := by decide +kernel
theorem xI_xor (a b : Nat) : nI a ^^^ nI b = nI (a ^^^ b) := by
  apply Int32.toBitVec_inj.1
  show BitVec.ofNat 32 a ^^^ BitVec.ofNat 32 b = BitVec.ofNat 32 (a ^^^ b)
  apply BitVec.eq_of_getLsbD_eq
  intro i hi
  simp [hi]
theorem xor_256 {a b : Nat} (ha : a < 256) (hb : b < 256) : a ^^^ b < 256 := Nat.xor_lt_two_pow (n := 8) ha hb
/-! who belongs together -/
def cl (T : Nat → Nat) (a b : Nat) : Prop := T (41 + 6 * a) = T (41 + 6 * b) ∨ pc8 (T (39 + 6 * a) ^^^ T (39 + 6 * b)) ≤ 2
def adj (T : Nat → Nat) (a b : Nat) : Prop := T (42 + 6 * a) = 0 ∧ T (42 + 6 * b) = 0 ∧ cl T a b
def hng (T : Nat → Nat) (s o : Nat) : Prop := T (42 + 6 * o) = 0 ∧ ∃ a, a < T 6 ∧ mem s a ∧ cl T a o
noncomputable def pX (T : Nat → Nat) : Nat → Nat → Nat → Nat
  | 0, _, s => s
  | n + 1, o, s => pX T n (o + 1) (if dc (hng T s o) = true then add s o else s)
noncomputable def pB (T : Nat → Nat) (a : Nat) : Nat → Nat → Nat → Nat
  | 0, _, s => s
  | n + 1, b, s => pB T a n (b + 1) (if dc (mem s a ∧ adj T a b) = true then add s b else s)
noncomputable def pA (T : Nat → Nat) : Nat → Nat → Nat → Nat
  | 0, _, s => s
  | n + 1, a, s => pA T n (a + 1) (pB T a (T 6) 0 s)
def itr (p : Nat → Nat) : Nat → Nat → Nat
  | 0, s => s
  | n + 1, s => itr p n (p s)
def gro (s t : Nat) : Prop := t = s ∨ pc8 s < pc8 t
theorem gro_tr {s t u : Nat} (h : gro s t) (h2 : gro t u) : gro s u := by
  rcases h with rfl | h
  · exact h2
  · rcases h2 with rfl | h2
    · exact Or.inr h
    · exact Or.inr (by omega)
/-- what a set keeps that grows from k -/
def gs (T : Nat → Nat) (C : Nat → Prop) (k s : Nat) : Prop := s < 64 ∧ mem s k ∧ ∀ j, j < 6 → mem s j → j < T 6 ∧ T (42 + 6 * j) = 0 ∧ C j
def cc (T : Nat → Nat) (C : Nat → Prop) : Prop := ∀ a b, a < T 6 → b < T 6 → C a → adj T a b → C b
theorem gs_add {C : Nat → Prop} (h6 : T 6 ≤ 6) (hk : k < 6) (h : gs T C k s) (ho : o < T 6) (hz : T (42 + 6 * o) = 0) (hc : C o) : gs T C k (add s o) := by
  obtain ⟨a, c, b⟩ := h
  refine ⟨(or_add s a o (by omega)).2, (mem_add s a o (by omega) k hk).mpr (Or.inl c), fun j hj hm => ?_⟩
  rcases (mem_add s a o (by omega) j hj).mp hm with q | q
  · exact b j hj q
  · subst q; exact ⟨ho, hz, hc⟩
theorem pX_p {C : Nat → Prop} (h6 : T 6 ≤ 6) (hk : k < 6) (hC : cc T C) : ∀ (n o s : Nat), o + n = T 6 → gs T C k s → gs T C k (pX T n o s) ∧ gro s (pX T n o s) ∧ (pX T n o s = s → ∀ i, o ≤ i → i < T 6 → hng T s i → mem s i) := by
  intro n
  induction n with
  | zero => intro o s ho h; exact ⟨h, Or.inl rfl, fun _ i h1 h2 => by omega⟩
  | succ n ih =>
    intro o s ho h
    unfold pX
    by_cases q : hng T s o
    · rw [dc_t q, if_pos rfl]
      obtain ⟨q1, a, qa, qm, qc⟩ := q
      have ha := h.2.2 a (by omega) qm
      have h1 := gs_add h6 hk h (show o < T 6 by omega) q1 (hC a o qa (by omega) ha.2.2 ⟨ha.2.1, q1, qc⟩)
      obtain ⟨i1, i2, i3⟩ := ih (o + 1) _ (by omega) h1
      rcases gro_add s h.1 o (by omega) with ⟨z1, z2⟩ | ⟨z1, z2⟩
      · rw [z2] at i1 i2 i3 ⊢
        refine ⟨i1, i2, fun e i j1 j2 j3 => ?_⟩
        by_cases ei : i = o
        · subst ei; exact z1
        · exact i3 e i (by omega) j2 j3
      · refine ⟨i1, gro_tr (Or.inr (by omega)) i2, fun e => ?_⟩
        exfalso
        rcases i2 with w | w
        · rw [w] at e; rw [e] at z2; omega
        · rw [e] at w; omega
    · rw [dc_f q, if_neg Bool.false_ne_true]
      obtain ⟨i1, i2, i3⟩ := ih (o + 1) s (by omega) h
      refine ⟨i1, i2, fun e i j1 j2 j3 => ?_⟩
      by_cases ei : i = o
      · subst ei; exact absurd j3 q
      · exact i3 e i (by omega) j2 j3
theorem pB_p {C : Nat → Prop} {a : Nat} (h6 : T 6 ≤ 6) (hk : k < 6) (hC : cc T C) (ha : a < T 6) : ∀ (n b s : Nat), b + n = T 6 → gs T C k s → gs T C k (pB T a n b s) ∧ gro s (pB T a n b s) ∧ (pB T a n b s = s → ∀ i, b ≤ i → i < T 6 → mem s a → adj T a i → mem s i) := by
  intro n
  induction n with
  | zero => intro o s ho h; exact ⟨h, Or.inl rfl, fun _ i h1 h2 => by omega⟩
  | succ n ih =>
    intro o s ho h
    unfold pB
    by_cases q : mem s a ∧ adj T a o
    · rw [dc_t q, if_pos rfl]
      have ha2 := h.2.2 a (by omega) q.1
      have h1 := gs_add h6 hk h (show o < T 6 by omega) q.2.2.1 (hC a o ha (by omega) ha2.2.2 q.2)
      obtain ⟨i1, i2, i3⟩ := ih (o + 1) _ (by omega) h1
      rcases gro_add s h.1 o (by omega) with ⟨z1, z2⟩ | ⟨z1, z2⟩
      · rw [z2] at i1 i2 i3 ⊢
        refine ⟨i1, i2, fun e i j1 j2 j3 j4 => ?_⟩
        by_cases ei : i = o
        · subst ei; exact z1
        · exact i3 e i (by omega) j2 j3 j4
      · refine ⟨i1, gro_tr (Or.inr (by omega)) i2, fun e => ?_⟩
        exfalso
        rcases i2 with w | w
        · rw [w] at e; rw [e] at z2; omega
        · rw [e] at w; omega
    · rw [dc_f q, if_neg Bool.false_ne_true]
      obtain ⟨i1, i2, i3⟩ := ih (o + 1) s (by omega) h
      refine ⟨i1, i2, fun e i j1 j2 j3 j4 => ?_⟩
      by_cases ei : i = o
      · subst ei; exact absurd ⟨j3, j4⟩ q
      · exact i3 e i (by omega) j2 j3 j4
theorem pA_p {C : Nat → Prop} (h6 : T 6 ≤ 6) (hk : k < 6) (hC : cc T C) : ∀ (n a s : Nat), a + n = T 6 → gs T C k s → gs T C k (pA T n a s) ∧ gro s (pA T n a s) ∧ (pA T n a s = s → ∀ i j, a ≤ i → i < T 6 → j < T 6 → mem s i → adj T i j → mem s j) := by
  intro n
  induction n with
  | zero => intro o s ho h; exact ⟨h, Or.inl rfl, fun _ i j h1 h2 => by omega⟩
  | succ n ih =>
    intro a s ho h
    obtain ⟨b1, b2, b3⟩ := pB_p h6 hk hC (show a < T 6 by omega) (T 6) 0 s (by omega) h
    obtain ⟨i1, i2, i3⟩ := ih (a + 1) _ (by omega) b1
    unfold pA
    refine ⟨i1, gro_tr b2 i2, fun e i j h1 h2 h3 h4 h5 => ?_⟩
    have es : pB T a (T 6) 0 s = s := by
      rcases b2 with w | w
      · exact w
      · exfalso
        rcases i2 with u | u
        · rw [e] at u; rw [← u] at w; omega
        · rw [e] at u; omega
    rw [es] at i3 e
    by_cases ei : i = a
    · subst ei; exact b3 es j (by omega) h3 h4 h5
    · exact i3 e i j (by omega) h2 h3 h4 h5
theorem itr_fix {p : Nat → Nat} (h : p s = s) : ∀ n, itr p n s = s := by
  intro n
  induction n with
  | zero => rfl
  | succ n ih => show itr p n (p s) = s; rw [h]; exact ih
theorem itr_p {p : Nat → Nat} {Cl G : Nat → Prop} (hp : ∀ s, G s → G (p s) ∧ gro s (p s) ∧ (p s = s → Cl s)) : ∀ (n s : Nat), G s → G (itr p n s) ∧ (Cl (itr p n s) ∨ pc8 s + n ≤ pc8 (itr p n s)) := by
  intro n
  induction n with
  | zero => intro s h; exact ⟨h, Or.inr (Nat.le_refl _)⟩
  | succ n ih =>
    intro s h
    obtain ⟨g1, g2, g3⟩ := hp s h
    show G (itr p n (p s)) ∧ (Cl (itr p n (p s)) ∨ pc8 s + (n + 1) ≤ pc8 (itr p n (p s)))
    rcases g2 with w | w
    · have g3 := g3 w
      rw [w, itr_fix w]; exact ⟨h, Or.inl g3⟩
    · obtain ⟨j1, j2⟩ := ih (p s) g1
      refine ⟨j1, ?_⟩
      rcases j2 with j | j
      · exact Or.inl j
      · exact Or.inr (by omega)
def cld (T : Nat → Nat) (s : Nat) : Prop := ∀ i j, i < T 6 → j < T 6 → mem s i → adj T i j → mem s j
noncomputable def coX (T : Nat → Nat) (k : Nat) : Nat := itr (pX T (T 6) 0) (T 6) (2 ^ k)
noncomputable def coA (T : Nat → Nat) (k : Nat) : Nat := itr (pA T (T 6) 0) (T 6) (2 ^ k)
theorem gs_one {C : Nat → Prop} (h6 : T 6 ≤ 6) (hk : k < T 6) (hz : T (42 + 6 * k) = 0) (hc : C k) : gs T C k (2 ^ k) :=
  ⟨(one_sh k (by omega)).2.1, (mem_one k (by omega) k (by omega)).mpr rfl, fun j hj hm => by have := (mem_one k (by omega) j hj).mp hm; subst this; exact ⟨hk, hz, hc⟩⟩
theorem co_end {C : Nat → Prop} {n : Nat} (h6 : T 6 ≤ 6) (hk : k < T 6) (g1 : gs T C k n) (g2 : cld T n ∨ pc8 (2 ^ k) + T 6 ≤ pc8 n) : gs T C k n ∧ cld T n := by
  refine ⟨g1, ?_⟩
  rcases g2 with q | q
  · exact q
  · exfalso
    have h1 := pc_le n g1.1 (T 6) (by omega) (fun j hj hm => (g1.2.2 j hj hm).1)
    have h2 := pc_one k (by omega)
    omega
theorem coX_p {C : Nat → Prop} (h6 : T 6 ≤ 6) (hk : k < T 6) (hz : T (42 + 6 * k) = 0) (hC : cc T C) (hc : C k) : gs T C k (coX T k) ∧ cld T (coX T k) := by
  have hp : ∀ s, gs T C k s → gs T C k (pX T (T 6) 0 s) ∧ gro s (pX T (T 6) 0 s) ∧ (pX T (T 6) 0 s = s → cld T s) := by
    intro s h
    obtain ⟨i1, i2, i3⟩ := pX_p h6 (by omega) hC (T 6) 0 s (by omega) h
    exact ⟨i1, i2, fun e i j q1 q2 q3 q4 => i3 e j (by omega) q2 ⟨q4.2.1, i, q1, q3, q4.2.2⟩⟩
  obtain ⟨g1, g2⟩ := itr_p hp (T 6) (2 ^ k) (gs_one h6 hk hz hc)
  exact co_end h6 hk g1 g2
theorem coA_p {C : Nat → Prop} (h6 : T 6 ≤ 6) (hk : k < T 6) (hz : T (42 + 6 * k) = 0) (hC : cc T C) (hc : C k) : gs T C k (coA T k) ∧ cld T (coA T k) := by
  have hp : ∀ s, gs T C k s → gs T C k (pA T (T 6) 0 s) ∧ gro s (pA T (T 6) 0 s) ∧ (pA T (T 6) 0 s = s → cld T s) := by
    intro s h
    obtain ⟨i1, i2, i3⟩ := pA_p h6 (by omega) hC (T 6) 0 s (by omega) h
    exact ⟨i1, i2, fun e i j q1 q2 q3 q4 => i3 e i j (by omega) q1 q2 q3 q4⟩
  obtain ⟨g1, g2⟩ := itr_p hp (T 6) (2 ^ k) (gs_one h6 hk hz hc)
  exact co_end h6 hk g1 g2
theorem co_eq (h6 : T 6 ≤ 6) (hk : k < T 6) (hz : T (42 + 6 * k) = 0) : coX T k = coA T k ∧ coX T k < 64 ∧ mem (coX T k) k := by
  have a1 := coX_p h6 hk hz (C := fun _ => True) (fun _ _ _ _ _ _ => trivial) trivial
  have a2 := coA_p h6 hk hz (C := fun _ => True) (fun _ _ _ _ _ _ => trivial) trivial
  have b1 := coX_p h6 hk hz (C := fun j => mem (coA T k) j) (fun a b qa qb q1 q2 => a2.2 a b qa qb q1 q2) a2.1.2.1
  have b2 := coA_p h6 hk hz (C := fun j => mem (coX T k) j) (fun a b qa qb q1 q2 => a1.2 a b qa qb q1 q2) a1.1.2.1
  exact ⟨set_ext a1.1.1 a2.1.1 (fun j hj => ⟨fun q => (b1.1.2.2 j hj q).2.2, fun q => (b2.1.2.2 j hj q).2.2⟩), a1.1.1, a1.1.2.1⟩
theorem pX_lt : ∀ (n o s : Nat), o + n ≤ 6 → s < 64 → pX T n o s < 64 := by
  intro n
  induction n with
  | zero => intro o s ho h; exact h
  | succ n ih =>
    intro o s ho h
    unfold pX
    refine ih (o + 1) _ (by omega) ?_
    split
    · exact (or_add s h o (by omega)).2
    · exact h
theorem pB_lt {a : Nat} : ∀ (n o s : Nat), o + n ≤ 6 → s < 64 → pB T a n o s < 64 := by
  intro n
  induction n with
  | zero => intro o s ho h; exact h
  | succ n ih =>
    intro o s ho h
    unfold pB
    refine ih (o + 1) _ (by omega) ?_
    split
    · exact (or_add s h o (by omega)).2
    · exact h
theorem pA_lt (h6 : T 6 ≤ 6) : ∀ (n o s : Nat), s < 64 → pA T n o s < 64 := by
  intro n
  induction n with
  | zero => intro o s h; exact h
  | succ n ih =>
    intro o s h
    unfold pA
    exact ih (o + 1) _ (pB_lt (T 6) 0 s (by omega) h)
/-! the class -/
theorem x_areClose {a b : Nat} (h : EvR I 33 34 T) (hW : WfE T) (ha : a < T 6) (hb : b < T 6) (hQ : Q (some (.int (nI (bn (cl T a b))))) I) : Mt E (d + 1) mX11_areClose [.ref (eb E + 0), .int (nI a), .int (nI b)] I Q := by
  obtain ⟨a6, pa1, pa2, pa3, pa4, pa5, pa6⟩ := hW.p ha
  obtain ⟨b6, pb1, pb2, pb3, pb4, pb5, pb6⟩ := hW.p hb
  obtain ⟨v1, v2, v3, v4, v5, v6, v7, v8, v9, v10, v11, v12, v13, v14, v15⟩ := id h
  refine S_X11_areClose _ _ ⟨a, rfl, a6, b, rfl, b6, ?_⟩
  rw [show I 39 a = nI (T (41 + 6 * a)) from v13 a ha, show I 39 b = nI (T (41 + 6 * b)) from v13 b hb, nI_eq (by omega) (by omega)]
  refine ⟨fun q => ?_, fun q => ⟨a, rfl, a6, b, rfl, b6, ?_⟩⟩
  · rw [bn_t (show cl T a b from Or.inl q)] at hQ; exact hQ
  · rw [show I 38 a = nI (T (39 + 6 * a)) from v12 a ha, show I 38 b = nI (T (39 + 6 * b)) from v12 b hb, xI_xor]
    refine c_bitCount _ rfl (xor_256 pa3 pb3) ⟨_, rfl, ?_⟩
    have hp := pc8_le (T (39 + 6 * a) ^^^ T (39 + 6 * b))
    rw [nI_ltI (by omega) (by omega)]
    refine ⟨fun z => ?_, fun z => ?_⟩
    · rw [bn_f (show ¬ cl T a b from fun w => by rcases w with w | w <;> omega)] at hQ; exact hQ
    · rw [bn_t (show cl T a b from Or.inr (by omega))] at hQ; exact hQ
theorem x_hangs_loop (h : EvR I 33 34 T) (hW : WfE T) (ho : o < T 6) (hs : s < 64) (hz : T (42 + 6 * o) = 0) : ∀ (n a : Nat), a + n = T 6 → (¬ ∃ i, i < a ∧ mem s i ∧ cl T i o) → Q (some (.int (nI (bn (hng T s o))))) I → J E (d + 2) mX11_hangsOn 19 [(0, .ref (eb E + 0)), (1, .int (nI o)), (2, .int (nI s)), (3, .int (nI a))] [] I Q := by
  have v5 : I 33 7 = nI (T 6) := h.2.2.2.2.1
  have h6 : T 6 ≤ 6 := hW.1
  intro n
  induction n with
  | zero =>
    intro a ha hn hQ
    refine S_X11_hangsOn_19 _ _ _ ?_
    rw [v5, nI_leI (by omega) (by omega)]
    refine ⟨fun _ => ?_, fun q => by omega⟩
    rw [bn_f (show ¬ hng T s o from fun w => by obtain ⟨_, i, i1, i2, i3⟩ := w; exact hn ⟨i, by omega, i2, i3⟩)] at hQ; exact hQ
  | succ n ih =>
    intro a ha hn hQ
    refine S_X11_hangsOn_19 _ _ _ ?_
    have hm := Nat.mod_lt (s / 2 ^ a) (show 0 < 2 by omega)
    rw [v5, nI_leI (by omega) (by omega), bit_eq s hs a (by omega), nI_eq (by omega) (by omega), nI_add]
    refine ⟨fun q => by omega, fun _ => ⟨fun q => ih (a + 1) (by omega) (fun ⟨i, i1, i2, i3⟩ => ?_) hQ, fun q => x_areClose h hW (by omega) ho ⟨_, rfl, bk (fun p => ?_) (fun p => ih (a + 1) (by omega) (fun ⟨i, i1, i2, i3⟩ => ?_) hQ)⟩⟩⟩
    · by_cases ei : i = a
      · subst ei; exact q i2
      · exact hn ⟨i, by omega, i2, i3⟩
    · rw [bn_t (show hng T s o from ⟨hz, a, by omega, q, p⟩)] at hQ; exact hQ
    · by_cases ei : i = a
      · subst ei; exact p i3
      · exact hn ⟨i, by omega, i2, i3⟩
theorem x_hangs (h : EvR I 33 34 T) (hW : WfE T) (ho : o < T 6) (hs : s < 64) (hQ : Q (some (.int (nI (bn (hng T s o))))) I) : Mt E (d + 2) mX11_hangsOn [.ref (eb E + 0), .int (nI o), .int (nI s)] I Q := by
  have v6 : I 33 8 = nI (swn T) := h.2.2.2.2.2.1
  have pw := (hW.p ho).2.2.2.2.2.2
  refine S_X11_hangsOn _ _ ?_
  rw [v6, bit_sw hW ho, nI_eq (by omega) (by omega)]
  refine ⟨fun q => x_hangs_loop h hW ho hs (by omega) (T 6) 0 (by omega) (fun ⟨i, i1, _⟩ => by omega) hQ, fun q => ?_⟩
  rw [bn_f (show ¬ hng T s o from fun w => by have := w.1; omega)] at hQ; exact hQ
theorem x_comp37 {rd : Nat} (h : EvR I 33 34 T) (hW : WfE T) : ∀ (n o s : Nat), o + n = T 6 → s < 64 → J E (d + 3) mX11_company 23 [(0, .ref (eb E + 0)), (2, .int (nI (pX T n o s))), (3, .int (nI (rd + 1)))] [] I Q → J E (d + 3) mX11_company 37 [(0, .ref (eb E + 0)), (2, .int (nI s)), (3, .int (nI rd)), (4, .int (nI o))] [] I Q := by
  have v5 : I 33 7 = nI (T 6) := h.2.2.2.2.1
  have h6 : T 6 ≤ 6 := hW.1
  intro n
  induction n with
  | zero =>
    intro o s ho hs hJ
    refine S_X11_company_37 _ _ _ ?_
    rw [v5, nI_leI (by omega) (by omega), nI_add rd]
    exact ⟨fun _ => hJ, fun q => by omega⟩
  | succ n ih =>
    intro o s ho hs hJ
    refine S_X11_company_37 _ _ _ ?_
    obtain ⟨o1, o2⟩ := or_add s hs o (by omega)
    rw [v5, nI_leI (by omega) (by omega), o1, nI_add o]
    unfold pX at hJ
    refine ⟨fun q => by omega, fun _ => x_hangs h hW (by omega) hs ⟨_, rfl, bk (fun p => ih (o + 1) _ (by omega) o2 ?_) (fun p => ih (o + 1) _ (by omega) hs ?_)⟩⟩
    · rw [dc_t p, if_pos rfl] at hJ; exact hJ
    · rw [dc_f p, if_neg Bool.false_ne_true] at hJ; exact hJ
theorem x_comp23 (h : EvR I 33 34 T) (hW : WfE T) : ∀ (n rd s : Nat), rd + n = T 6 → s < 64 → Q (some (.int (nI (itr (pX T (T 6) 0) n s)))) I → J E (d + 3) mX11_company 23 [(0, .ref (eb E + 0)), (2, .int (nI s)), (3, .int (nI rd))] [] I Q := by
  have v5 : I 33 7 = nI (T 6) := h.2.2.2.2.1
  have h6 : T 6 ≤ 6 := hW.1
  intro n
  induction n with
  | zero =>
    intro rd s hr hs hQ
    refine S_X11_company_23 _ _ ?_
    rw [v5, nI_leI (by omega) (by omega)]
    exact ⟨fun _ => hQ, fun q => by omega⟩
  | succ n ih =>
    intro rd s hr hs hQ
    refine S_X11_company_23 _ _ ?_
    rw [v5, nI_leI (by omega) (by omega)]
    exact ⟨fun q => by omega, fun _ => x_comp37 h hW (T 6) 0 s (by omega) hs (ih (rd + 1) _ (by omega) (pX_lt (T 6) 0 s (by omega) hs) hQ)⟩
noncomputable def coV (T : Nat → Nat) (k : Nat) : Nat := if T (42 + 6 * k) = 1 then 0 else coX T k
theorem x_company (h : EvR I 33 34 T) (hW : WfE T) (hk : k < T 6) (hQ : Q (some (.int (nI (coV T k)))) I) : Mt E (d + 3) mX11_company [.ref (eb E + 0), .int (nI k)] I Q := by
  have v6 : I 33 8 = nI (swn T) := h.2.2.2.2.2.1
  obtain ⟨k6, pw⟩ := hW.p hk
  have pw := pw.2.2.2.2.2
  refine S_X11_company _ ?_
  rw [v6, bit_sw hW hk, nI_eq (by omega) (by omega), (one_sh k k6).1]
  unfold coV at hQ
  refine ⟨fun q => ?_, fun q => ?_⟩
  · rw [if_neg q] at hQ
    exact x_comp23 h hW (T 6) 0 _ (by omega) (one_sh k k6).2.1 hQ
  · rw [if_pos q] at hQ; exact hQ
/-! the reference -/
theorem m_areClose {a b : Nat} (h : RM I T) (hW : WfE T) (ha : a < T 6) (hb : b < T 6) (hQ : Q (some (.int (nI (bn (adj T a b))))) I) : Mt E (d + 1) mX12_areClose [.ref (eb E + 115), .int (nI a), .int (nI b)] I Q := by
  obtain ⟨a6, pa1, pa2, pa3, pa4, pa5, pa6⟩ := hW.p ha
  obtain ⟨b6, pb1, pb2, pb3, pb4, pb5, pb6⟩ := hW.p hb
  have hp := pc8_le (T (39 + 6 * a) ^^^ T (39 + 6 * b))
  refine S_X12_areClose _ _ (c_get a 1 rfl rfl (by omega) ⟨_, rfl, c_get b 1 rfl rfl (by omega) ⟨_, rfl, c_ones (T (39 + 6 * a) ^^^ T (39 + 6 * b)) (by rw [h.sc a6, h.sc b6, xI_xor]) (xor_256 pa3 pb3) ⟨_, rfl, c_get a 4 rfl rfl (by omega) ⟨_, rfl, ?_⟩⟩⟩⟩)
  rw [h.sw a6, n0, nI_eq (by omega) (by omega)]
  refine ⟨fun q => ?_, fun q => c_get b 4 rfl rfl (by omega) ⟨_, rfl, ?_⟩⟩
  · rw [bn_f (show ¬ adj T a b from fun w => q w.1)] at hQ; exact hQ
  · rw [h.sw b6, nI_eq (by omega) (by omega)]
    refine ⟨fun q2 => ?_, fun q2 => c_get a 3 rfl rfl (by omega) ⟨_, rfl, c_get b 3 rfl rfl (by omega) ⟨_, rfl, ?_⟩⟩⟩
    · rw [bn_f (show ¬ adj T a b from fun w => q2 w.2.1)] at hQ; exact hQ
    · rw [h.wr a6, h.wr b6, nI_eq (by omega) (by omega), nI_ltI (by omega) (by omega)]
      refine ⟨fun q3 => ?_, fun q3 => ⟨fun q4 => ?_, fun q4 => ?_⟩⟩
      · rw [bn_t (show adj T a b from ⟨q, q2, Or.inl q3⟩)] at hQ; exact hQ
      · rw [bn_f (show ¬ adj T a b from fun w => by rcases w.2.2 with u | u <;> omega)] at hQ; exact hQ
      · rw [bn_t (show adj T a b from ⟨q, q2, Or.inr (by omega)⟩)] at hQ; exact hQ
theorem m_comp35 {tn a : Nat} (h : RM I T) (hW : WfE T) (ha : a < T 6) : ∀ (n b s : Nat), b + n = T 6 → s < 64 → J E (d + 2) mX12_companyOf 20 [(0, .ref (eb E + 115)), (1, .int x1), (2, .int (nI (pB T a n b s))), (3, .int (nI tn)), (4, .int (nI (a + 1)))] [] I Q → J E (d + 2) mX12_companyOf 35 [(0, .ref (eb E + 115)), (1, .int x1), (2, .int (nI s)), (3, .int (nI tn)), (4, .int (nI a)), (5, .int (nI b))] [] I Q := by
  have v5 : I 116 6 = nI (T 6) := h 6 (by omega) (by omega) (by omega)
  have h6 : T 6 ≤ 6 := hW.1
  intro n
  induction n with
  | zero =>
    intro b s ho hs hJ
    refine S_X12_companyOf_35 _ _ _ _ _ ?_
    rw [v5, nI_leI (by omega) (by omega), nI_add a]
    exact ⟨fun _ => hJ, fun q => by omega⟩
  | succ n ih =>
    intro b s ho hs hJ
    refine S_X12_companyOf_35 _ _ _ _ _ ?_
    obtain ⟨o1, o2⟩ := or_add s hs b (by omega)
    have hm := Nat.mod_lt (s / 2 ^ a) (show 0 < 2 by omega)
    rw [v5, nI_leI (by omega) (by omega), bit_eq s hs a (by omega), nI_eq (by omega) (by omega), o1, or_0 s hs, nI_add b]
    unfold pB at hJ
    refine ⟨fun q => by omega, fun _ => ⟨fun q => ih (b + 1) _ (by omega) hs ?_, fun q => m_areClose h hW ha (by omega) ⟨_, rfl, bk (fun p => ih (b + 1) _ (by omega) o2 ?_) (fun p => ih (b + 1) _ (by omega) hs ?_)⟩⟩⟩
    · rw [dc_f (fun w => q w.1), if_neg Bool.false_ne_true] at hJ; exact hJ
    · rw [dc_t ⟨q, p⟩, if_pos rfl] at hJ; exact hJ
    · rw [dc_f (fun w => p w.2), if_neg Bool.false_ne_true] at hJ; exact hJ
theorem m_comp20 {tn : Nat} (h : RM I T) (hW : WfE T) : ∀ (n a s : Nat), a + n = T 6 → s < 64 → J E (d + 2) mX12_companyOf 6 [(0, .ref (eb E + 115)), (1, .int x1), (2, .int (nI (pA T n a s))), (3, .int (nI (tn + 1)))] [] I Q → J E (d + 2) mX12_companyOf 20 [(0, .ref (eb E + 115)), (1, .int x1), (2, .int (nI s)), (3, .int (nI tn)), (4, .int (nI a))] [] I Q := by
  have v5 : I 116 6 = nI (T 6) := h 6 (by omega) (by omega) (by omega)
  have h6 : T 6 ≤ 6 := hW.1
  intro n
  induction n with
  | zero =>
    intro a s ho hs hJ
    refine S_X12_companyOf_20 _ _ _ _ ?_
    rw [v5, nI_leI (by omega) (by omega), nI_add]
    exact ⟨fun _ => hJ, fun q => by omega⟩
  | succ n ih =>
    intro a s ho hs hJ
    refine S_X12_companyOf_20 _ _ _ _ ?_
    rw [v5, nI_leI (by omega) (by omega)]
    unfold pA at hJ
    exact ⟨fun q => by omega, fun _ => m_comp35 h hW (by omega) (T 6) 0 s (by omega) hs (ih (a + 1) _ (by omega) (pB_lt (T 6) 0 s (by omega) hs) hJ)⟩
theorem m_comp6 (h : RM I T) (hW : WfE T) (hk : k < T 6) : ∀ (n tn s : Nat), tn + n = T 6 → s < 64 → (T (42 + 6 * k) = 1 → Q (some (.int (nI 0))) I) → (¬ T (42 + 6 * k) = 1 → Q (some (.int (nI (itr (pA T (T 6) 0) n s)))) I) → J E (d + 2) mX12_companyOf 6 [(0, .ref (eb E + 115)), (1, .int (nI k)), (2, .int (nI s)), (3, .int (nI tn))] [] I Q := by
  have v5 : I 116 6 = nI (T 6) := h 6 (by omega) (by omega) (by omega)
  have h6 : T 6 ≤ 6 := hW.1
  obtain ⟨k6, pw⟩ := hW.p hk
  have pw := pw.2.2.2.2.2
  intro n
  induction n with
  | zero =>
    intro tn s hr hs hQ1 hQ2
    refine S_X12_companyOf_6 _ _ _ ?_
    rw [v5, nI_leI (by omega) (by omega)]
    refine ⟨fun _ => c_get k 4 rfl rfl (by omega) ⟨_, rfl, ?_⟩, fun q => by omega⟩
    rw [h.sw k6, nI_eq (by omega) (by omega)]
    exact ⟨hQ2, hQ1⟩
  | succ n ih =>
    intro tn s hr hs hQ1 hQ2
    refine S_X12_companyOf_6 _ _ _ ?_
    rw [v5, nI_leI (by omega) (by omega)]
    exact ⟨fun q => by omega, fun _ => m_comp20 h hW (T 6) 0 s (by omega) hs (ih (tn + 1) _ (by omega) (pA_lt h6 (T 6) 0 s hs) hQ1 hQ2)⟩
theorem m_company (h : RM I T) (hW : WfE T) (hk : k < T 6) (hQ : Q (some (.int (nI (coV T k)))) I) : Mt E (d + 2) mX12_companyOf [.ref (eb E + 115), .int (nI k)] I Q := by
  obtain ⟨k6, pw⟩ := hW.p hk
  have pw := pw.2.2.2.2.2
  refine S_X12_companyOf _ ?_
  rw [(one_sh k k6).1]
  unfold coV at hQ
  refine m_comp6 h hW hk (T 6) 0 _ (by omega) (one_sh k k6).2.1 (fun q => ?_) (fun q => ?_)
  · rw [if_pos q] at hQ; exact hQ
  · rw [if_neg q, (co_eq hW.1 hk (by omega)).1] at hQ; exact hQ
theorem coV_p (hW : WfE T) (hk : k < T 6) : coV T k < 64 ∧ (coV T k = 0 ∨ mem (coV T k) k) := by
  have pw := (hW.p hk).2.2.2.2.2.2
  unfold coV
  split
  · exact ⟨by omega, Or.inl rfl⟩
  · obtain ⟨-, c1, c2⟩ := co_eq hW.1 hk (by omega)
    exact ⟨c1, Or.inr c2⟩
noncomputable def cnt (T : Nat → Nat) : Nat → Nat → Nat → Nat
  | 0, _, c => c
  | n + 1, k, c => cnt T n (k + 1) (if mem (coV T k) k ∧ coV T k % 2 ^ k = 0 then c + 1 else c)
theorem x_count (h : EvR I 33 34 T) (hW : WfE T) : ∀ (n k c : Nat), k + n = T 6 → Q (some (.int (nI (cnt T n k c)))) I → J E (d + 4) mX11_countCompanies 4 [(0, .ref (eb E + 0)), (1, .int (nI c)), (2, .int (nI k))] [] I Q := by
  have v5 : I 33 7 = nI (T 6) := h.2.2.2.2.1
  have h6 : T 6 ≤ 6 := hW.1
  intro n
  induction n with
  | zero =>
    intro k c hk hQ
    refine S_X11_countCompanies_4 _ _ ?_
    rw [v5, nI_leI (by omega) (by omega)]
    exact ⟨fun _ => hQ, fun q => by omega⟩
  | succ n ih =>
    intro k c hk hQ
    refine S_X11_countCompanies_4 _ _ ?_
    rw [v5, nI_leI (by omega) (by omega)]
    refine ⟨fun q => by omega, fun _ => x_company h hW (by omega) ⟨_, rfl, ?_⟩⟩
    obtain ⟨c1, c2⟩ := coV_p hW (show k < T 6 by omega)
    rw [low_bit _ c1 k (by omega), nI_add, nI_add]
    unfold cnt at hQ
    refine ⟨fun q => ?_, fun q => ?_⟩
    · rw [if_neg q] at hQ; exact ih (k + 1) c (by omega) hQ
    · rw [if_pos q] at hQ; exact ih (k + 1) (c + 1) (by omega) hQ
theorem m_count (h : RM I T) (hW : WfE T) : ∀ (n k c : Nat), k + n = T 6 → Q (some (.int (nI (cnt T n k c)))) I → J E (d + 3) mX12_companies 29 [(0, .ref (eb E + 115)), (2, .int (nI c)), (3, .int (nI k))] [] I Q := by
  have v5 : I 116 6 = nI (T 6) := h 6 (by omega) (by omega) (by omega)
  have h6 : T 6 ≤ 6 := hW.1
  intro n
  induction n with
  | zero =>
    intro k c hk hQ
    refine S_X12_companies_29 _ _ ?_
    rw [v5, nI_leI (by omega) (by omega)]
    exact ⟨fun _ => hQ, fun q => by omega⟩
  | succ n ih =>
    intro k c hk hQ
    refine S_X12_companies_29 _ _ ?_
    rw [v5, nI_leI (by omega) (by omega)]
    refine ⟨fun q => by omega, fun _ => m_company h hW (by omega) ⟨_, rfl, ?_⟩⟩
    obtain ⟨c1, c2⟩ := coV_p hW (show k < T 6 by omega)
    obtain ⟨s1, s2, s3⟩ := one_sh k (by omega)
    have m1 : coV T k % 2 ^ k < 64 := Nat.lt_of_le_of_lt (Nat.mod_le _ _) c1
    rw [s1, rem_eq (by omega) s3 (by omega), n0, nI_eq (by omega) (by omega), nI_eq (by omega) (by omega), nI_eq (by omega) (by omega), nI_add, nI_add, nI_add, Nat.add_zero]
    unfold cnt at hQ
    refine ⟨fun q => ?_, fun q => ⟨by omega, fun q2 => ?_, fun q2 => ?_⟩⟩
    · rw [if_neg (fun w => by have w1 := w.1; unfold mem at w1; rw [q, Nat.zero_div] at w1; omega)] at hQ; exact ih (k + 1) c (by omega) hQ
    · rw [if_neg (fun w => q2 w.2)] at hQ; exact ih (k + 1) c (by omega) hQ
    · rw [if_pos ⟨c2.resolve_left q, q2⟩] at hQ; exact ih (k + 1) (c + 1) (by omega) hQ
theorem p_companies (hI : Inv I) : Pair E (d + 40) mX11_companies mX12_companies [.int x1] [.int x1] I := by
  obtain ⟨T, h⟩ := id hI
  obtain ⟨a1, a2, a3, a4, a5, a6⟩ := id h
  have v5 : I 33 7 = nI (T 6) := a3.1.2.2.2.2.1
  have h6 : T 6 ≤ 6 := a2.1.1
  by_cases m1 : x1 = (-1)
  · refine Pair.pure hI (nI (cnt T (T 6) 0 0)) (fun Q hQ => S_X11_companies _ ⟨fun q => absurd m1 q, fun _ => S_X11_countCompanies (x_count a3.1 a2.1 (T 6) 0 0 (by omega) ⟨_, rfl, hQ⟩)⟩) (fun Q hQ => S_X12_companies _ ⟨fun _ => S_X12_companies_15 _ ⟨fun _ => m_count a1 a2.1 (T 6) 0 0 (by omega) hQ, fun q => ?_⟩, fun q => absurd m1 q⟩)
    exact absurd (by rw [m1]; decide +kernel) q
  · by_cases ok : isP T x1
    · obtain ⟨k, hk, hk2⟩ := isP_n ok
      subst hk
      have hp : ¬ nI k < 0 := nI_pos (by omega)
      exact Pair.pure hI (nI (coV T k)) (fun Q hQ => S_X11_companies _ ⟨fun _ => d_isPane v5 h6 ⟨_, rfl, bk2 (fun _ => x_company a3.1 a2.1 hk2 ⟨_, rfl, hQ⟩) (fun q => absurd ok q)⟩, fun q => absurd q m1⟩) (fun Q hQ => S_X12_companies _ ⟨fun q => absurd q m1, fun _ => m_isPane a1 h6 ⟨_, rfl, bk2 (fun _ => S_X12_companies_15 _ ⟨fun q => absurd q hp, fun _ => m_company a1 a2.1 hk2 ⟨_, rfl, hQ⟩⟩) (fun q => absurd ok q)⟩⟩)
    · exact Pair.pure hI (-1) (fun Q hQ => S_X11_companies _ ⟨fun _ => d_isPane v5 h6 ⟨_, rfl, bk2 (fun p => absurd p ok) (fun _ => hQ)⟩, fun q => absurd q m1⟩) (fun Q hQ => S_X12_companies _ ⟨fun q => absurd q m1, fun _ => m_isPane a1 h6 ⟨_, rfl, bk2 (fun p => absurd p ok) (fun _ => hQ)⟩⟩)
end P17
