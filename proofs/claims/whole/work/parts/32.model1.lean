section M1
variable {E : EE} {d : Nat} {I : IH} {Q : QT}
/-- the row s holds T (but the score and z) -/
def RM (I : IH) (T : Nat → Nat) : Prop := ∀ j, j < 322 → j ≠ 2 → j ≠ 5 → I 116 j = nI (T j)
theorem RM.same {I2 : IH} {T : Nat → Nat} {L : List Nat} (h : RM I T) (hs : Same L I I2) (hL : 116 ∉ L) : RM I2 T := fun j h1 h2 h3 => by rw [hs 116 hL]; exact h j h1 h2 h3
theorem RM.st {T : Nat → Nat} {j v : Nat} (h : RM I T) : RM (stI I 116 j (nI v)) (up T j v) := by
  intro i h1 h2 h3
  by_cases e : i = j
  · subst e; rw [st_at, up_eq]
  · rw [st_nj e, up_ne e]; exact h i h1 h2 h3
theorem RM.st2 {T : Nat → Nat} {v : Int32} (h : RM I T) {j : Nat} (hj : j = 2 ∨ j = 5) : RM (stI I 116 j v) T := by
  intro i h1 h2 h3
  rw [st_nj (by omega)]; exact h i h1 h2 h3
theorem e3 (a b k f : Nat) : ((nI a) + ((nI b) * nI k)) + nI f = nI (a + b * k + f) := by simp only [nI_mul, nI_add]
theorem c_in1 {x0 x1 x2 : Int32} (a b c : Int) (h0 : x0 = zI a) (h1 : x1 = zI b) (h2 : x2 = zI c) (ha : -2147483648 ≤ a ∧ a < 2147483648) (hb : -2147483648 ≤ b ∧ b < 2147483648) (hc : -2147483648 ≤ c ∧ c < 2147483648) (hQ : Q (some (.int (nI (if b ≤ a ∧ a ≤ c then 1 else 0)))) I) : Mt E d mX12_in1 [.int x0, .int x1, .int x2] I Q := by
  subst h0; subst h1; subst h2
  refine S_X12_in1 _ _ _ ⟨fun q => ?_, fun q => ⟨fun q2 => ?_, fun q2 => ?_⟩⟩
  · rw [zI_lt ha.1 ha.2 hb.1 hb.2] at q; rw [if_neg (by omega)] at hQ; exact hQ
  · rw [zI_lt hc.1 hc.2 ha.1 ha.2] at q2; rw [if_neg (by omega)] at hQ; exact hQ
  · rw [zI_lt ha.1 ha.2 hb.1 hb.2] at q; rw [zI_lt hc.1 hc.2 ha.1 ha.2] at q2; rw [if_pos (by omega)] at hQ; exact hQ
/-- any int, between two small numbers -/
theorem c_in1x (x : Int32) (b c : Nat) (hb : b < 2147483648) (hc : c < 2147483648) (hQ : Q (some (.int (nI (if (b : Int) ≤ x.toInt ∧ x.toInt ≤ c then 1 else 0)))) I) : Mt E d mX12_in1 [.int x, .int (nI b), .int (nI c)] I Q := by
  refine c_in1 x.toInt b c (by unfold zI; simp) (nI_z b) (nI_z c) ?_ (by omega) (by omega) hQ
  have h1 := Int32.le_toInt x
  have h2 := Int32.toInt_lt x
  simp at h1 h2
  omega
theorem c_held {x0 x1 : Int32} (a : Int) (c : Nat) (h0 : x0 = zI a) (h1 : x1 = nI c) (ha : -2147483648 ≤ a ∧ a < 2147483648) (hc : c < 2147483648) (hQ : Q (some (.int (nI (min a.toNat c)))) I) : Mt E d mX12_held [.int x0, .int x1] I Q := by
  subst h0; subst h1
  refine S_X12_held _ _ ⟨fun q => ⟨fun q2 => ?_, fun q2 => ?_⟩, fun q => ?_⟩
  · rw [zI_0, zI_le (by omega) (by omega) ha.1 ha.2] at q
    rw [nI_z, zI_le ha.1 ha.2 (by omega) (by omega)] at q2
    rw [show min a.toNat c = a.toNat by omega, nI_z, show ((a.toNat : Nat) : Int) = a by omega] at hQ; exact hQ
  · rw [zI_0, zI_le (by omega) (by omega) ha.1 ha.2] at q
    rw [nI_z, zI_le ha.1 ha.2 (by omega) (by omega)] at q2
    rw [show min a.toNat c = c by omega] at hQ; exact hQ
  · rw [zI_0, zI_le (by omega) (by omega) ha.1 ha.2] at q
    rw [show min a.toNat c = 0 by omega] at hQ; exact hQ
theorem c_get {x y : Int32} (k f : Nat) (hx : x = nI k) (hy : y = nI f) (hb : 38 + 6 * k + f < 322) (hQ : Q (some (.int (I 116 (38 + 6 * k + f)))) I) : Mt E d mX12_get [.ref (eb E + 115), .int x, .int y] I Q := by
  subst hx; subst hy
  exact S_X12_get _ _ ⟨38 + 6 * k + f, e3 38 6 k f, hb, hQ⟩
theorem c_puts {x y v : Int32} (k f : Nat) (hx : x = nI k) (hy : y = nI f) (hb : 38 + 6 * k + f < 322) (hQ : Q none (stI I 116 (38 + 6 * k + f) v)) : Mt E d mX12_puts [.ref (eb E + 115), .int x, .int y, .int v] I Q := by
  subst hx; subst hy
  exact S_X12_puts _ _ _ ⟨38 + 6 * k + f, e3 38 6 k f, hb, fun I1 e1 => by rw [e1]; exact hQ⟩
theorem c_isOver {T : Nat → Nat} (h : RM I T) (h0 : T 0 < 2147483648) (h1 : T 1 < 2147483648) (hQ : Q (some (.int (nI (if T 1 ≤ T 0 then 1 else 0)))) I) : Mt E d mX12_isOver [.ref (eb E + 115)] I Q := by
  refine S_X12_isOver ⟨fun q => ?_, fun q => ?_⟩ <;> rw [h 0 (by omega) (by omega) (by omega), h 1 (by omega) (by omega) (by omega), nI_ltI (by omega) (by omega)] at q
  · rw [if_neg (by omega)] at hQ; exact hQ
  · rw [if_pos (by omega)] at hQ; exact hQ
theorem c_becomes {x v : Int32} (j : Nat) (hx : x = nI j) (hj : j < 322) (hQ : Q (some (.int (I 116 j))) (stI I 116 j v)) : Mt E d mX12_becomes [.ref (eb E + 115), .int x, .int v] I Q := by
  subst hx
  exact S_X12_becomes _ _ ⟨j, rfl, hj, j, rfl, hj, fun I4 e4 => by rw [e4]; exact hQ⟩
theorem c_isPane {T : Nat → Nat} (h : RM I T) (h6 : T 6 ≤ 6) (x : Int32) (hQ : Q (some (.int (nI (if 0 ≤ x.toInt ∧ x.toInt < T 6 then 1 else 0)))) I) : Mt E (d + 1) mX12_isPane [.ref (eb E + 115), .int x] I Q := by
  have h1 := Int32.le_toInt x
  have h2 := Int32.toInt_lt x
  simp at h1 h2
  refine S_X12_isPane _ (c_in1 x.toInt 0 ((T 6 : Int) - 1) (by unfold zI; simp) (nI_z 0) (by rw [h 6 (by omega) (by omega) (by omega), nI_z, nI_z, zI_sub]; rfl) (by omega) (by omega) (by omega) ⟨_, rfl, ?_, ?_⟩)
  · split
    · exact Or.inr (by decide +kernel)
    · exact Or.inl (by decide +kernel)
  · have e : (if (0 : Int) ≤ x.toInt ∧ x.toInt ≤ (T 6 : Int) - 1 then 1 else 0) = (if 0 ≤ x.toInt ∧ x.toInt < T 6 then 1 else 0) := by
      by_cases q : 0 ≤ x.toInt ∧ x.toInt < T 6
      · rw [if_pos q, if_pos (by omega)]
      · rw [if_neg q, if_neg (by omega)]
    rw [e]; exact hQ
theorem c_isAct {T : Nat → Nat} (h : RM I T) (h6 : T 6 ≤ 6) (x : Int32) (hQ : Q (some (.int (nI (if 0 ≤ x.toInt ∧ x.toInt ≤ T 6 then 1 else 0)))) I) : Mt E (d + 1) mX12_isAct [.ref (eb E + 115), .int x] I Q := by
  have h1 := Int32.le_toInt x
  have h2 := Int32.toInt_lt x
  simp at h1 h2
  refine S_X12_isAct _ (c_in1 x.toInt 0 (T 6 : Int) (by unfold zI; simp) (nI_z 0) (by rw [h 6 (by omega) (by omega) (by omega), nI_z]) (by omega) (by omega) (by omega) ⟨_, rfl, ?_, hQ⟩)
  split
  · exact Or.inr (by decide +kernel)
  · exact Or.inl (by decide +kernel)
theorem ones_step : ∀ v, v < 256 → v ≠ 0 → (v &&& (v - 1)) < v ∧ pc8 v = pc8 (v &&& (v - 1)) + 1 := by decide +kernel
theorem ones_and : ∀ v, v < 256 → v ≠ 0 → nI v &&& (nI v - nI 1) = nI (v &&& (v - 1)) := by decide +kernel
theorem c_ones_loop : ∀ (n v c : Nat), v < n → v < 256 → Q (some (.int (nI (c + pc8 v)))) I → J E d mX12_ones 4 [(1, .int (nI c)), (2, .int (nI v))] [] I Q := by
  intro n
  induction n with
  | zero => intro v c h; omega
  | succ n ih =>
    intro v c hn hv hQ
    refine S_X12_ones_4 _ _ ⟨fun q => ?_, fun q => ?_⟩
    · have : v = 0 := by
        rw [show (0 : Int32) = nI 0 by decide +kernel, nI_eq (by omega) (by omega)] at q; exact q
      subst this; exact hQ
    · have hz : v ≠ 0 := fun e => q (by rw [e]; decide +kernel)
      obtain ⟨h1, h2⟩ := ones_step v hv hz
      rw [ones_and v hv hz, nI_add]
      exact ih _ _ (by omega) (by omega) (by rw [show c + 1 + pc8 (v &&& (v - 1)) = c + pc8 v by omega]; exact hQ)
theorem c_ones {x : Int32} (v : Nat) (hx : x = nI v) (hv : v < 256) (hQ : Q (some (.int (nI (pc8 v)))) I) : Mt E d mX12_ones [.int x] I Q := by
  subst hx
  exact S_X12_ones _ (c_ones_loop (v + 1) v 0 (by omega) hv (by rw [Nat.zero_add]; exact hQ))
theorem turn_eq : ∀ s, s < 256 → (((nI s <<< (nI 1 &&& 31)) ||| ((nI s <<< (nI 1 &&& 31)) >>> ((nI 8) &&& 31))) &&& (nI 255)) = nI (rot s 1) ∧ (((nI s <<< (nI 2 &&& 31)) ||| ((nI s <<< (nI 2 &&& 31)) >>> ((nI 8) &&& 31))) &&& (nI 255)) = nI (rot s 2) ∧ (((nI s <<< (nI 7 &&& 31)) ||| ((nI s <<< (nI 7 &&& 31)) >>> ((nI 8) &&& 31))) &&& (nI 255)) = nI (rot s 7) := by decide +kernel
theorem c_turned {x y : Int32} (s u : Nat) (hx : x = nI s) (hy : y = nI u) (hs : s < 256) (hu : u = 1 ∨ u = 2 ∨ u = 7) (hQ : Q (some (.int (nI (rot s u)))) I) : Mt E d mX12_turned [.int x, .int y] I Q := by
  subst hx; subst hy
  obtain ⟨h1, h2, h7⟩ := turn_eq s hs
  refine S_X12_turned _ _ ?_
  rcases hu with rfl | rfl | rfl
  · rw [h1]; exact hQ
  · rw [h2]; exact hQ
  · rw [h7]; exact hQ
theorem rem_eq {m c : Nat} (hm : m < 2147483648) (h0 : 0 < c) (hc : c < 2147483648) : nI m - nI m / nI c * nI c = nI (m % c) := pk_rem hm h0 hc
theorem scene_eq : ∀ s, s < 256 → nI s ^^^ nI (rot s 1) = nI (sewn s) ∧ nI 255 - nI (sewn s) = nI (255 - sewn s) ∧ nI (rot s 2) ^^^ nI 15 = nI (rot s 2 ^^^ 15) := by decide +kernel
theorem c_sceneBy {x y z : Int32} (kind s m : Nat) (hx : x = nI kind) (hy : y = nI s) (hz : z = nI m) (hk : kind < 100) (hs : s < 256) (hm : m < 2147483648) (hQ : Q (some (.int (nI (nxt kind s m)))) I) : Mt E (d + 1) mX12_sceneBy [.int x, .int y, .int z] I Q := by
  subst hx; subst hy; subst hz
  obtain ⟨g1, g2, g3⟩ := scene_eq s hs
  have ke : ∀ c : Nat, c < 100 → (nI kind = nI c ↔ kind = c) := fun c hc => nI_eq (by omega) (by omega)
  refine S_X12_sceneBy _ _ _ (c_turned s 1 rfl rfl hs (Or.inl rfl) ⟨_, rfl, ⟨fun q => ?_, fun q => ?_, fun q => ?_, fun q => ?_, fun q => ?_, fun q => ?_⟩⟩)
  · rw [ke 1 (by omega)] at q; subst q
    exact c_turned s 7 rfl rfl hs (Or.inr (Or.inr rfl)) ⟨_, rfl, hQ⟩
  · rw [ke 2 (by omega)] at q; subst q
    rw [g1]; exact hQ
  · rw [ke 3 (by omega)] at q; subst q
    rw [rem_eq hm (by omega) (by omega), g1]
    refine ⟨fun q => ?_, fun q => ?_⟩
    · rw [nI_eq (by omega) (by omega)] at q
      have e : nxt 3 s m = sewn s := by simp [nxt, q]
      rw [e] at hQ; exact hQ
    · rw [nI_eq (by omega) (by omega)] at q
      have e : nxt 3 s m = 255 - sewn s := by simp [nxt, q]
      rw [e] at hQ; rw [g2]; exact hQ
  · rw [ke 4 (by omega)] at q; subst q
    exact c_turned s 2 rfl rfl hs (Or.inr (Or.inl rfl)) ⟨_, rfl, hQ⟩
  · rw [ke 5 (by omega)] at q; subst q
    rw [rem_eq hm (by omega) (by omega)]
    refine ⟨fun q => ?_, fun q => ?_⟩
    · rw [nI_eq (by omega) (by omega)] at q
      have e : nxt 5 s m = rot s 2 := by simp [nxt, q]
      rw [e] at hQ; exact c_turned s 2 rfl rfl hs (Or.inr (Or.inl rfl)) ⟨_, rfl, hQ⟩
    · rw [nI_eq (by omega) (by omega)] at q
      have e : nxt 5 s m = rot s 2 ^^^ 15 := by simp [nxt, q]
      rw [e] at hQ; exact c_turned s 2 rfl rfl hs (Or.inr (Or.inl rfl)) ⟨_, rfl, by rw [g3]; exact hQ⟩
  · obtain ⟨q1, q2, q3, q4, q5⟩ := q
    rw [ke _ (by omega)] at q1 q2 q3 q4 q5
    have e : nxt kind s m = rot s 1 := by simp [nxt, q1, q2, q3, q4, q5]
    rw [e] at hQ; exact c_turned s 1 rfl rfl hs (Or.inl rfl) ⟨_, rfl, hQ⟩
end M1
