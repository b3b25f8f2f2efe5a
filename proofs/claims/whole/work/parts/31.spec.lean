/-! What the reference's row s means: T j is its j-th number (2, the score, and 5, z, are not looked at here). -/
def lt8 (T : Nat → Nat) (k : Nat) : Nat := pc8 (T (39 + 6 * k)) - T (26 + T (41 + 6 * k)) - T 3 / 3
def askBy (kind l k : Nat) : Nat := if kind = 1 then 2 * l else if kind = 2 then l + k else if kind = 3 then 2 * (l + k) else if kind = 4 then min l 3 else if kind = 5 then min l 3 + 1 else l
def ask (T : Nat → Nat) (k : Nat) : Nat := askBy (T (38 + 6 * k)) (lt8 T k) k
def opn (T : Nat → Nat) (k : Nat) : Prop := T (40 + 6 * k) < T (32 + T (41 + 6 * k)) ∧ ask T k ≤ T 4
def wsh (T : Nat → Nat) (k : Nat) : Prop := T (42 + 6 * k) = 0 ∧ 2 < lt8 T k ∧ opn T k
noncomputable def dc (p : Prop) : Bool := @decide p (Classical.propDecidable p)
def rot (s u : Nat) : Nat := s * 2 ^ u % 256 + s * 2 ^ u / 256
def sewn (s : Nat) : Nat := s ^^^ rot s 1
def nxt (kind s m : Nat) : Nat := if kind = 1 then rot s 7 else if kind = 2 then sewn s else if kind = 3 then (if m % 2 = 1 then 255 - sewn s else sewn s) else if kind = 4 then rot s 2 else if kind = 5 then (if m % 3 = 2 then rot s 2 ^^^ 15 else rot s 2) else rot s 1
theorem rot_lt : ∀ s, s < 256 → rot s 1 < 256 ∧ rot s 2 < 256 ∧ rot s 7 < 256 ∧ sewn s < 256 ∧ (rot s 2 ^^^ 15) < 256 := by decide +kernel
theorem nxt_lt {kind s : Nat} (m : Nat) (h : s < 256) : nxt kind s m < 256 := by
  obtain ⟨h1, h2, h3, h4, h5⟩ := rot_lt s h
  unfold nxt
  repeat' split
  all_goals omega
def fogT (f nw : Nat) : Nat := if nw % 4 = 0 then min (f + nw / 4) 9 else if nw % 4 = 1 then f - nw / 4 else if nw % 4 = 2 then (if f < 5 then min (f + nw / 4) 5 else max (f - nw / 4) 5) else f
theorem fogT_le : ∀ f, f < 10 → ∀ n, n < 16 → fogT f n ≤ 9 := by decide +kernel
/-! rules -/
def under (a b : Nat) : Prop := a = b ∨ b = 0 ∨ (a = 3 ∧ b = 2) ∨ (a = 5 ∧ b = 4)
def kn (T : Nat → Nat) (k w : Nat) : Nat := if w = 0 then T 0 else if w = 1 then lt8 T k else if w = 2 then T (40 + 6 * k) else if w = 3 then T 3 else k
def jn (sign a b : Nat) : Nat := if sign = 10010 then (if a < b then 1 else 0) else if sign = 10011 then (if a = b then 1 else 0) else if sign = 10012 then (if b < a then 1 else 0) else if sign = 10013 then (if a ≠ 0 ∧ b ≠ 0 then 1 else 0) else (if a ≠ 0 ∨ b ≠ 0 then 1 else 0)
def stp (T : Nat → Nat) (k step : Nat) (st : List Nat) : List Nat :=
  if step < 10010 then (if step < 10000 then step else kn T k (step - 10000)) :: st
  else if step = 10015 then (match st with | a :: q => (1 - a) :: q | [] => [])
  else (match st with | b :: a :: q => jn step a b :: q | _ => [])
def evs (T : Nat → Nat) (k i : Nat) : Nat → List Nat → List Nat
  | 0, st => st
  | n + 1, st => evs T k (i + 1) n (stp T k (T (122 + i)) st)
/-- the sorts of what lies on the pile: true for a truth, false for a number -/
def tst (step : Nat) (ts : List Bool) : Option (List Bool) :=
  if step < 10005 then some (false :: ts)
  else if step < 10010 then none
  else if step = 10015 then (match ts with | true :: q => some (true :: q) | _ => none)
  else if step ≤ 10012 then (match ts with | false :: false :: q => some (true :: q) | _ => none)
  else if step ≤ 10014 then (match ts with | true :: true :: q => some (true :: q) | _ => none)
  else none
def tvs (T : Nat → Nat) (i : Nat) : Nat → List Bool → Option (List Bool)
  | 0, ts => some ts
  | n + 1, ts => (tst (T (122 + i)) ts).bind (tvs T (i + 1) n)
def rfr (T : Nat → Nat) (r : Nat) : Nat := if r = 0 then 0 else T (97 + 3 * r)
def rto (T : Nat → Nat) (r : Nat) : Nat := T (100 + 3 * r)
def hld (T : Nat → Nat) (r k : Nat) : Prop := match evs T k (rfr T r) (rto T r - rfr T r) [] with | [] => True | a :: q => (a :: q).getLast (by simp) ≠ 0
def wfr (T : Nat → Nat) (r : Nat) : Prop := rfr T r ≤ rto T r ∧ rto T r ≤ 200 ∧ (rfr T r = rto T r ∨ tvs T (rfr T r) (rto T r - rfr T r) [] = some [true])
/-- the first rule from r on that tells -/
noncomputable def wilF (T : Nat → Nat) (k : Nat) : Nat → Nat → Nat
  | _, 0 => 0
  | r, n + 1 => if dc (under (T (38 + 6 * k)) (T (98 + 3 * r)) ∧ hld T r k) = true then T (99 + 3 * r) else wilF T k (r + 1) n
noncomputable def wil (T : Nat → Nat) (k : Nat) : Nat := wilF T k 0 (T 7)
/-! a minute -/
def lks (T : Nat → Nat) (k : Nat) : Nat → Nat := up (up (up (up T 4 (T 4 - ask T k)) (40 + 6 * k) (T (40 + 6 * k) + 1)) (39 + 6 * k) (T (39 + 6 * k) &&& (T (39 + 6 * k) - 1))) (42 + 6 * k) (if 2 < lt8 T k then 1 else T (42 + 6 * k))
def lksW (T : Nat → Nat) (k : Nat) : Nat := lt8 T k + (if 2 < lt8 T k ∧ T (42 + 6 * k) = 0 then 5 else 0)
noncomputable def mee (T : Nat → Nat) (k : Nat) : (Nat → Nat) × Nat :=
  if wil T k = 0 then (if dc (opn T k) = true then (lks T k, lksW T k) else (T, 0))
  else if wil T k = 2 then (up T (26 + T (41 + 6 * k)) (min (T (26 + T (41 + 6 * k)) + 1) 9), 0) else (T, 0)
noncomputable def rsF (T : Nat → Nat) : Nat → Nat → Option Nat
  | _, 0 => none
  | k, n + 1 => if dc (wsh T k) = true then some k else rsF T (k + 1) n
noncomputable def rst (T : Nat → Nat) : Option Nat := rsF T 0 (T 6)
noncomputable def met (T : Nat → Nat) (ko : Option Nat) : (Nat → Nat) × Nat := match ko with | none => (T, 0) | some k => mee T k
def fgo (T : Nat → Nat) : Nat → Nat := if T 0 < 16 then up T 3 (fogT (T 3) (T (10 + T 0))) else T
def sgo (T : Nat → Nat) : Nat → Nat → Nat
  | 0 => T
  | k + 1 => up (sgo T k) (39 + 6 * k) (nxt (T (38 + 6 * k)) (T (39 + 6 * k)) (T 0))
def fin_ (T : Nat → Nat) : Nat → Nat := up (sgo T (T 6)) 0 (T 0 + 1)
noncomputable def goA (T : Nat → Nat) (act : Nat) : (Nat → Nat) × Nat := (fin_ (met (fgo T) (if act = 0 then none else some (act - 1))).1, (met (fgo T) (if act = 0 then none else some (act - 1))).2)
noncomputable def goR (T : Nat → Nat) : (Nat → Nat) × Nat := (fin_ (met (fgo T) (rst (fgo T))).1, (met (fgo T) (rst (fgo T))).2)
/-! what always holds of the row -/
def WfP (T : Nat → Nat) (k : Nat) : Prop := 1 ≤ T (38 + 6 * k) ∧ T (38 + 6 * k) ≤ 5 ∧ T (39 + 6 * k) < 256 ∧ T (40 + 6 * k) ≤ 9 ∧ T (41 + 6 * k) < 6 ∧ T (42 + 6 * k) ≤ 1
def WfE (T : Nat → Nat) : Prop := T 6 ≤ 6 ∧ T 0 ≤ 16 ∧ T 1 ≤ 16 ∧ T 3 ≤ 9 ∧ T 4 ≤ 999 ∧ (∀ j, j < 16 → T (10 + j) ≤ 15) ∧ (∀ w, w < 6 → T (26 + w) ≤ 9 ∧ T (32 + w) ≤ 9) ∧ (∀ k, k < T 6 → WfP T k)
def WfR (T : Nat → Nat) : Prop := T 7 ≤ 8 ∧ ∀ r, r < T 7 → T (98 + 3 * r) ≤ 5 ∧ T (99 + 3 * r) ≤ 2 ∧ wfr T r
theorem lt8_le (T : Nat → Nat) (k : Nat) : lt8 T k ≤ 8 := by
  have := pc8_le (T (39 + 6 * k))
  unfold lt8; omega
theorem askBy_le {kind l k : Nat} (h : l ≤ 8) (hk : k ≤ 5) : askBy kind l k ≤ 26 := by
  unfold askBy
  repeat' split
  all_goals omega
theorem ask_le {T : Nat → Nat} {k : Nat} (hk : k ≤ 5) : ask T k ≤ 26 := askBy_le (lt8_le T k) hk
theorem dc_t {p : Prop} (h : p) : dc p = true := by simp [dc, h]
theorem dc_f {p : Prop} (h : ¬ p) : dc p = false := by simp [dc, h]
theorem dc_i {p : Prop} : dc p = true ↔ p := by simp [dc]
