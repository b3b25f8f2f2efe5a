/-! whole numbers as ints: zI -/
def zI (z : Int) : Int32 := Int32.ofInt z
theorem zI_add (a b : Int) : zI a + zI b = zI (a + b) := (Int32.ofInt_add a b).symm
theorem zI_sub (a b : Int) : zI a - zI b = zI (a - b) := (Int32.ofInt_sub a b).symm
theorem zI_mul (a b : Int) : zI a * zI b = zI (a * b) := (Int32.ofInt_mul a b).symm
theorem zI_neg (a : Int) : -zI a = zI (-a) := (Int32.ofInt_neg a).symm
theorem nI_z (n : Nat) : nI n = zI n := by
  unfold nI zI
  exact (Int32.ofInt_eq_ofNat).symm
theorem zI_m (n : Nat) : zI (n : Int) = nI n := (nI_z n).symm
theorem zI_neg1 : (-1 : Int32) = zI (-1) := by decide +kernel
theorem zI_0 : (0 : Int32) = zI 0 := by decide +kernel
theorem zI_toInt {a : Int} (h1 : -2147483648 ≤ a) (h2 : a < 2147483648) : (zI a).toInt = a := by
  unfold zI
  exact Int32.toInt_ofInt_of_le (by omega) (by omega)
theorem zI_lt {a b : Int} (h1 : -2147483648 ≤ a) (h2 : a < 2147483648) (h3 : -2147483648 ≤ b) (h4 : b < 2147483648) : zI a < zI b ↔ a < b := by
  rw [Int32.lt_iff_toInt_lt, zI_toInt h1 h2, zI_toInt h3 h4]
theorem zI_le {a b : Int} (h1 : -2147483648 ≤ a) (h2 : a < 2147483648) (h3 : -2147483648 ≤ b) (h4 : b < 2147483648) : zI a ≤ zI b ↔ a ≤ b := by
  rw [Int32.le_iff_toInt_le, zI_toInt h1 h2, zI_toInt h3 h4]
theorem zI_eq {a b : Int} (h1 : -2147483648 ≤ a) (h2 : a < 2147483648) (h3 : -2147483648 ≤ b) (h4 : b < 2147483648) : zI a = zI b ↔ a = b := by
  constructor
  · intro h
    have := congrArg Int32.toInt h
    rwa [zI_toInt h1 h2, zI_toInt h3 h4] at this
  · intro h; rw [h]
theorem nI_mul (a b : Nat) : nI a * nI b = nI (a * b) := pk_mul a b
/-! stores -/
theorem st_ne {I : IH} {a j : Nat} {v : Int32} {q : Nat} (h : q ≠ a) : stI I a j v q = I q := by simp [stI, h]
theorem st_eq {I : IH} {a j : Nat} {v : Int32} : stI I a j v a = upd (I a) j v := by simp [stI]
theorem st_at {I : IH} {a j : Nat} {v : Int32} : stI I a j v a j = v := by simp [stI, upd]
theorem st_nj {I : IH} {a j q : Nat} {v : Int32} (h : q ≠ j) : stI I a j v a q = I a q := by simp [stI, upd, h]
theorem sA_ne {I : IH} {a : Nat} {f : Nat → Int32} {q : Nat} (h : q ≠ a) : stA I a f q = I q := by simp [stA, h]
theorem sA_eq {I : IH} {a : Nat} {f : Nat → Int32} : stA I a f a = f := by simp [stA]
/-- nothing but these cells has changed -/
def Same (L : List Nat) (I I2 : IH) : Prop := ∀ a, a ∉ L → I2 a = I a
theorem Same.rf (L : List Nat) (I : IH) : Same L I I := fun _ _ => rfl
theorem Same.tr {L : List Nat} {I I2 I3 : IH} (h : Same L I I2) (h2 : Same L I2 I3) : Same L I I3 := fun a ha => (h2 a ha).trans (h a ha)
theorem Same.mono {L L2 : List Nat} {I I2 : IH} (h : Same L I I2) (hs : ∀ a ∈ L, a ∈ L2) : Same L2 I I2 := fun a ha => h a (fun q => ha (hs a q))
theorem Same.st {L : List Nat} {I : IH} {a j : Nat} {v : Int32} (h : a ∈ L) : Same L I (stI I a j v) := fun q hq => st_ne (fun e => hq (e ▸ h))
theorem Same.sA {L : List Nat} {I : IH} {a : Nat} {f : Nat → Int32} (h : a ∈ L) : Same L I (stA I a f) := fun q hq => sA_ne (fun e => hq (e ▸ h))
/-! lights of a scene -/
def pc8 (v : Nat) : Nat := v % 2 + v / 2 % 2 + v / 4 % 2 + v / 8 % 2 + v / 16 % 2 + v / 32 % 2 + v / 64 % 2 + v / 128 % 2
theorem pc8_le (v : Nat) : pc8 v ≤ 8 := by unfold pc8; omega
def up (T : Nat → Nat) (j v : Nat) : Nat → Nat := fun i => if i = j then v else T i
theorem up_eq {T : Nat → Nat} {j v : Nat} : up T j v j = v := by simp [up]
theorem up_ne {T : Nat → Nat} {j v i : Nat} (h : i ≠ j) : up T j v i = T i := by simp [up, h]
