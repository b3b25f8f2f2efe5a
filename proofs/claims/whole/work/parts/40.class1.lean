section K1
variable {E : EE} {d : Nat} {I : IH} {Q : QT} {T : Nat → Nat} {k e g r : Nat}
theorem ev_nums (h : isEv e g r) : (g = e + 1 ∧ r + 5 < e) ∨ (g = e + 7 ∧ r = e + 1) := by
  refine ev_cases h (P := fun e g r => (g = e + 1 ∧ r + 5 < e) ∨ (g = e + 7 ∧ r = e + 1)) ?_ ?_ ?_ ?_ ?_ ?_ ?_ ?_ <;> decide
theorem bitc : ∀ v, v < 256 → ∀ P : Int32 → Prop, P (nI (pc8 v)) → P ((((((((nI v - ((ushr (nI v) (nI 1)) &&& (nI 1431655765))) &&& (nI 858993459)) + ((ushr (nI v - ((ushr (nI v) (nI 1)) &&& (nI 1431655765))) (nI 2)) &&& (nI 858993459))) + (ushr (((nI v - ((ushr (nI v) (nI 1)) &&& (nI 1431655765))) &&& (nI 858993459)) + ((ushr (nI v - ((ushr (nI v) (nI 1)) &&& (nI 1431655765))) (nI 2)) &&& (nI 858993459))) (nI 4))) &&& (nI 252645135)) + (ushr (((((nI v - ((ushr (nI v) (nI 1)) &&& (nI 1431655765))) &&& (nI 858993459)) + ((ushr (nI v - ((ushr (nI v) (nI 1)) &&& (nI 1431655765))) (nI 2)) &&& (nI 858993459))) + (ushr (((nI v - ((ushr (nI v) (nI 1)) &&& (nI 1431655765))) &&& (nI 858993459)) + ((ushr (nI v - ((ushr (nI v) (nI 1)) &&& (nI 1431655765))) (nI 2)) &&& (nI 858993459))) (nI 4))) &&& (nI 252645135)) (nI 8))) + (ushr ((((((nI v - ((ushr (nI v) (nI 1)) &&& (nI 1431655765))) &&& (nI 858993459)) + ((ushr (nI v - ((ushr (nI v) (nI 1)) &&& (nI 1431655765))) (nI 2)) &&& (nI 858993459))) + (ushr (((nI v - ((ushr (nI v) (nI 1)) &&& (nI 1431655765))) &&& (nI 858993459)) + ((ushr (nI v - ((ushr (nI v) (nI 1)) &&& (nI 1431655765))) (nI 2)) &&& (nI 858993459))) (nI 4))) &&& (nI 252645135)) + (ushr (((((nI v - ((ushr (nI v) (nI 1)) &&& (nI 1431655765))) &&& (nI 858993459)) + ((ushr (nI v - ((ushr (nI v) (nI 1)) &&& (nI 1431655765))) (nI 2)) &&& (nI 858993459))) + (ushr (((nI v - ((ushr (nI v) (nI 1)) &&& (nI 1431655765))) &&& (nI 858993459)) + ((ushr (nI v - ((ushr (nI v) (nI 1)) &&& (nI 1431655765))) (nI 2)) &&& (nI 858993459))) (nI 4))) &&& (nI 252645135)) (nI 8))) (nI 16))) &&& (nI 63)) := by
  have key : ∀ v, v < 256 → ((((((((nI v - ((ushr (nI v) (nI 1)) &&& (nI 1431655765))) &&& (nI 858993459)) + ((ushr (nI v - ((ushr (nI v) (nI 1)) &&& (nI 1431655765))) (nI 2)) &&& (nI 858993459))) + (ushr (((nI v - ((ushr (nI v) (nI 1)) &&& (nI 1431655765))) &&& (nI 858993459)) + ((ushr (nI v - ((ushr (nI v) (nI 1)) &&& (nI 1431655765))) (nI 2)) &&& (nI 858993459))) (nI 4))) &&& (nI 252645135)) + (ushr (((((nI v - ((ushr (nI v) (nI 1)) &&& (nI 1431655765))) &&& (nI 858993459)) + ((ushr (nI v - ((ushr (nI v) (nI 1)) &&& (nI 1431655765))) (nI 2)) &&& (nI 858993459))) + (ushr (((nI v - ((ushr (nI v) (nI 1)) &&& (nI 1431655765))) &&& (nI 858993459)) + ((ushr (nI v - ((ushr (nI v) (nI 1)) &&& (nI 1431655765))) (nI 2)) &&& (nI 858993459))) (nI 4))) &&& (nI 252645135)) (nI 8))) + (ushr ((((((nI v - ((ushr (nI v) (nI 1)) &&& (nI 1431655765))) &&& (nI 858993459)) + ((ushr (nI v - ((ushr (nI v) (nI 1)) &&& (nI 1431655765))) (nI 2)) &&& (nI 858993459))) + (ushr (((nI v - ((ushr (nI v) (nI 1)) &&& (nI 1431655765))) &&& (nI 858993459)) + ((ushr (nI v - ((ushr (nI v) (nI 1)) &&& (nI 1431655765))) (nI 2)) &&& (nI 858993459))) (nI 4))) &&& (nI 252645135)) + (ushr (((((nI v - ((ushr (nI v) (nI 1)) &&& (nI 1431655765))) &&& (nI 858993459)) + ((ushr (nI v - ((ushr (nI v) (nI 1)) &&& (nI 1431655765))) (nI 2)) &&& (nI 858993459))) + (ushr (((nI v - ((ushr (nI v) (nI 1)) &&& (nI 1431655765))) &&& (nI 858993459)) + ((ushr (nI v - ((ushr (nI v) (nI 1)) &&& (nI 1431655765))) (nI 2)) &&& (nI 858993459))) (nI 4))) &&& (nI 252645135)) (nI 8))) (nI 16))) &&& (nI 63)) = nI (pc8 v) := by decide +kernel
  intro v hv P hP
  rw [key v hv]; exact hP
theorem c_bitCount {x : Int32} (v : Nat) (hx : x = nI v) (hv : v < 256) (hQ : Q (some (.int (nI (pc8 v)))) I) : Mt E d mJ6_bitCount_0f7a4 [.int x] I Q := by
  subst hx
  exact S_J6_bitCount_0f7a4 _ (bitc v hv (fun z => Q (some (.int z)) I) hQ)
/-! things by kind -/
theorem c_price {j : Nat} {x y : Int32} (l k : Nat) (hj : 1 ≤ j ∧ j ≤ 5) (hx : x = nI l) (hy : y = nI k) (hl : l ≤ 8) (hQ : Q (some (.int (nI (askBy j l k)))) I) : Mt E (d + 2) (sel_price j) [.ref (eb E + (21 + j)), .int x, .int y] I Q := by
  subst hx; subst hy
  rcases (show j = 1 ∨ j = 2 ∨ j = 3 ∨ j = 4 ∨ j = 5 by omega) with rfl | rfl | rfl | rfl | rfl
  · exact S_X3_price _ _ (S_X4_price_22 _ _ ⟨_, rfl, by rw [nI_mul]; exact hQ⟩)
  · exact S_X7_price_23 _ _ (S_X4_price_23 _ _ ⟨_, rfl, by rw [nI_add]; exact hQ⟩)
  · exact S_X10_price _ _ (S_X7_price_24 _ _ (S_X4_price_24 _ _ ⟨_, rfl, _, rfl, by rw [nI_add, nI_mul]; exact hQ⟩))
  · refine S_X2_price_25 _ _ (S_X4_price_25 _ _ ⟨_, rfl, ?_⟩)
    rw [nI_leI (by omega) (by omega)]
    refine ⟨fun q => ?_, fun q => ?_⟩
    · have e : askBy 4 l k = 3 := by simp [askBy]; omega
      rw [e] at hQ; exact hQ
    · have e : askBy 4 l k = l := by simp [askBy]; omega
      rw [e] at hQ; exact hQ
  · refine S_X0_price _ _ (S_X2_price_26 _ _ (S_X4_price_26 _ _ ⟨_, rfl, ?_⟩))
    rw [nI_leI (by omega) (by omega)]
    refine ⟨fun q => ⟨_, rfl, ?_⟩, fun q => ⟨_, rfl, ?_⟩⟩
    · have e : askBy 5 l k = 3 + 1 := by simp [askBy]; omega
      rw [e] at hQ; rw [nI_add]; exact hQ
    · have e : askBy 5 l k = l + 1 := by simp [askBy]; omega
      rw [e] at hQ; rw [nI_add]; exact hQ
theorem next_eq : ∀ s, s < 256 → (((nI s <<< ((nI 1) &&& 31)) ||| (nI s >>> ((nI 7) &&& 31))) &&& (nI 255)) = nI (rot s 1) ∧ (((nI s >>> ((nI 1) &&& 31)) ||| (nI s <<< ((nI 7) &&& 31))) &&& (nI 255)) = nI (rot s 7) ∧ (((nI s <<< ((nI 2) &&& 31)) ||| (nI s >>> ((nI 6) &&& 31))) &&& (nI 255)) = nI (rot s 2) := by decide +kernel
theorem c_next {j : Nat} {x y : Int32} (s m : Nat) (hj : 1 ≤ j ∧ j ≤ 5) (hx : x = nI s) (hy : y = nI m) (hs : s < 256) (hm : m < 2147483648) (hQ : Q (some (.int (nI (nxt j s m)))) I) : Mt E (d + 2) (sel_next j) [.ref (eb E + (21 + j)), .int x, .int y] I Q := by
  subst hx; subst hy
  obtain ⟨a1, a7, a2⟩ := next_eq s hs
  obtain ⟨g1, g2, g3⟩ := scene_eq s hs
  rcases (show j = 1 ∨ j = 2 ∨ j = 3 ∨ j = 4 ∨ j = 5 by omega) with rfl | rfl | rfl | rfl | rfl
  · exact S_X3_next _ _ (by rw [a7]; exact hQ)
  · exact S_X7_next_23 _ _ (S_X4_next_23 _ _ (by rw [a1]; exact ⟨_, rfl, by rw [g1]; exact hQ⟩))
  · refine S_X10_next _ _ (S_X7_next_24 _ _ (S_X4_next_24 _ _ (by rw [a1]; exact ⟨_, rfl, _, rfl, by
      rw [g1, rem_eq hm (by omega) (by omega), nI_eq (by omega) (by omega)]
      refine ⟨fun q => ?_, fun q => ?_⟩
      · have e : nxt 3 s m = sewn s := by simp [nxt, q]
        rw [e] at hQ; exact hQ
      · have e : nxt 3 s m = 255 - sewn s := by simp [nxt, q]
        rw [e] at hQ; rw [g2]; exact hQ⟩)))
  · exact S_X2_next_25 _ _ (by rw [a2]; exact hQ)
  · refine S_X0_next _ _ (S_X2_next_26 _ _ (by rw [a2]; exact ⟨_, rfl, by
      rw [rem_eq hm (by omega) (by omega), nI_eq (by omega) (by omega)]
      refine ⟨fun q => ?_, fun q => ?_⟩
      · have e : nxt 5 s m = rot s 2 := by simp [nxt, q]
        rw [e] at hQ; exact hQ
      · have e : nxt 5 s m = rot s 2 ^^^ 15 := by simp [nxt, q]
        rw [e] at hQ; rw [g3]; exact hQ⟩))
/-! an evening of the class, and the row T -/
def swF (T : Nat → Nat) : Nat → Nat
  | 0 => 0
  | n + 1 => swF T n + T (42 + 6 * n) * 2 ^ n
def swn (T : Nat → Nat) : Nat := swF T (T 6)
def EvR (I : IH) (e g : Nat) (T : Nat → Nat) : Prop := I e 2 = nI (T 1) ∧ I e 3 = nI (T 0) ∧ I e 4 = nI (T 3) ∧ I e 5 = nI (T 4) ∧ I e 7 = nI (T 6) ∧ I e 8 = nI (swn T) ∧ I e 10 = nI (T 8) ∧ (∀ j, j < 16 → I g j = nI (T (10 + j))) ∧ (∀ w, w < 6 → I (g + 1) w = nI (T (26 + w))) ∧ (∀ w, w < 6 → I (g + 2) w = nI (T (32 + w))) ∧ (∀ k, k < T 6 → I (g + 3) k = nI (T (38 + 6 * k))) ∧ (∀ k, k < T 6 → I (g + 4) k = nI (T (39 + 6 * k))) ∧ (∀ k, k < T 6 → I (g + 5) k = nI (T (41 + 6 * k))) ∧ (∀ k, k < T 6 → I (g + 6) k = nI (T (40 + 6 * k))) ∧ (∀ i, i < 4 * T 8 → I (g + 7) i = nI (T (74 + i)))
theorem EvR.same {I2 : IH} {L : List Nat} (h : EvR I e g T) (hs : Same L I I2) (h0 : e ∉ L) (h1 : ∀ i, i < 8 → g + i ∉ L) : EvR I2 e g T := by
  have q0 := hs e h0
  have q1 : ∀ i, i < 8 → I2 (g + i) = I (g + i) := fun i hi => hs _ (h1 i hi)
  have q2 : I2 g = I g := q1 0 (by omega)
  unfold EvR
  rw [q0, q2, q1 1 (by omega), q1 2 (by omega), q1 3 (by omega), q1 4 (by omega), q1 5 (by omega), q1 6 (by omega), q1 7 (by omega)]
  exact h
theorem swF_lt (hp : ∀ k, k < T 6 → WfP T k) : ∀ n, n ≤ T 6 → swF T n < 2 ^ n := by
  intro n
  induction n with
  | zero => intro _; simp [swF]
  | succ n ih =>
    intro hn
    have h1 := ih (by omega)
    have h2 := (hp n (by omega)).2.2.2.2.2
    show swF T n + T (42 + 6 * n) * 2 ^ n < 2 ^ (n + 1)
    rw [Nat.pow_succ]
    have : T (42 + 6 * n) * 2 ^ n ≤ 1 * 2 ^ n := Nat.mul_le_mul_right _ h2
    omega
theorem swn_lt (h : WfE T) : swn T < 64 := by
  have h1 := swF_lt h.2.2.2.2.2.2.2 (T 6) (Nat.le_refl _)
  have h2 : 2 ^ T 6 ≤ 2 ^ 6 := Nat.pow_le_pow_right (by omega) h.1
  unfold swn; omega
theorem swF_bit (hp : ∀ k, k < T 6 → WfP T k) : ∀ n, n ≤ T 6 → ∀ k, k < n → swF T n / 2 ^ k % 2 = T (42 + 6 * k) := by
  intro n
  induction n with
  | zero => intro _ k hk; omega
  | succ n ih =>
    intro hn k hk
    have hl := swF_lt hp n (by omega)
    have hb := (hp n (by omega)).2.2.2.2.2
    show (swF T n + T (42 + 6 * n) * 2 ^ n) / 2 ^ k % 2 = _
    by_cases e : k = n
    · subst e
      rw [Nat.add_mul_div_right _ _ (Nat.two_pow_pos k), Nat.div_eq_of_lt hl]
      omega
    · have hkn : k < n := by omega
      have e2 : T (42 + 6 * n) * 2 ^ n = (T (42 + 6 * n) * 2 ^ (n - k)) * 2 ^ k := by
        rw [Nat.mul_assoc, ← Nat.pow_add]
        congr 2; omega
      rw [e2, Nat.add_mul_div_right _ _ (Nat.two_pow_pos k), ← ih (by omega) k hkn]
      have e3 : T (42 + 6 * n) * 2 ^ (n - k) = (T (42 + 6 * n) * 2 ^ (n - k - 1)) * 2 := by
        rw [Nat.mul_assoc, ← Nat.pow_succ]
        congr 2; omega
      rw [e3]; omega
theorem swn_bit (h : WfE T) (hk : k < T 6) : swn T / 2 ^ k % 2 = T (42 + 6 * k) := swF_bit h.2.2.2.2.2.2.2 (T 6) (Nat.le_refl _) k hk
theorem bit_eq : ∀ v, v < 64 → ∀ k, k < 6 → (nI v >>> (nI k &&& 31)) &&& nI 1 = nI (v / 2 ^ k % 2) := by decide +kernel
theorem bit_or : ∀ v, v < 64 → ∀ k, k < 6 → v / 2 ^ k % 2 = 0 → nI v ||| (nI 1 <<< (nI k &&& 31)) = nI (v + 2 ^ k) := by decide +kernel
theorem bit_sw (h : WfE T) (hk : k < T 6) : (nI (swn T) >>> (nI k &&& 31)) &&& nI 1 = nI (T (42 + 6 * k)) := by
  rw [bit_eq _ (swn_lt h) k (by have := h.1; omega), swn_bit h hk]
theorem swF_c {T2 : Nat → Nat} : ∀ n, (∀ k, k < n → T2 (42 + 6 * k) = T (42 + 6 * k)) → swF T2 n = swF T n := by
  intro n
  induction n with
  | zero => intro _; rfl
  | succ n ih =>
    intro h
    show swF T2 n + _ = swF T n + _
    rw [ih (fun k hk => h k (by omega)), h n (by omega)]
theorem swF_up (v : Nat) : ∀ n, k < n → swF (up T (42 + 6 * k) v) n + T (42 + 6 * k) * 2 ^ k = swF T n + v * 2 ^ k := by
  intro n
  induction n with
  | zero => intro hk; omega
  | succ n ih =>
    intro hk
    show swF (up T (42 + 6 * k) v) n + up T (42 + 6 * k) v (42 + 6 * n) * 2 ^ n + _ = swF T n + T (42 + 6 * n) * 2 ^ n + _
    by_cases e : k = n
    · subst e
      rw [up_eq, swF_c (T := T) k (fun q hq => up_ne (by omega))]
      omega
    · rw [up_ne (by omega)]
      have := ih (by omega)
      omega
end K1
