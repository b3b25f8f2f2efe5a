section K2
variable {E : EE} {d : Nat} {I : IH} {Q : QT} {T : Nat → Nat} {k r : Nat}
/-! the static row LINE -/
def LN (j : Nat) : Int32 := [1, 3, 5, 13, 17, 49].getD j 0
abbrev tLINE : Term := .static "PaneScenes" "LINE" "[I"
theorem line_of {M : MD} {p : Program} {s : State} {m : MethodId} {meth : Method} {c : Code} (F : Fx E M p s m meth c) : ∃ t : Nat, va_Z "PaneScenes" "LINE" "[I" (.ref t) (AA E) s s.heap ∧ va_T .int t 6 (fun j => .int (LN j)) (AA E) s s.heap := by
  obtain ⟨-, -, -, -, -, -, hE, hW, hq⟩ := F
  have hs := flat_of_before _ hE.2.2
  have hA : ∀ a : Nat, a < E.1.heap.size → ¬ (AA E) a := fun a h z => by have z : eb E ≤ a := z; unfold eb at z; omega
  have hel : ∀ j : Nat, j < 6 → (Term.elem tLINE (.int (Int32.ofNat j))).eval E.2.1 E.1 none [] E.1 = some (.int (LN j)) := by
    intro j hj
    rcases (show j = 0 ∨ j = 1 ∨ j = 2 ∨ j = 3 ∨ j = 4 ∨ j = 5 by omega) with rfl | rfl | rfl | rfl | rfl | rfl
    · exact va_eqt (hs (Cond.eq (.elem tLINE (.int 0)) (.int 1)) (by decide +kernel))
    · exact va_eqt (hs (Cond.eq (.elem tLINE (.int 1)) (.int 3)) (by decide +kernel))
    · exact va_eqt (hs (Cond.eq (.elem tLINE (.int 2)) (.int 5)) (by decide +kernel))
    · exact va_eqt (hs (Cond.eq (.elem tLINE (.int 3)) (.int 13)) (by decide +kernel))
    · exact va_eqt (hs (Cond.eq (.elem tLINE (.int 4)) (.int 17)) (by decide +kernel))
    · exact va_eqt (hs (Cond.eq (.elem tLINE (.int 5)) (.int 49)) (by decide +kernel))
  obtain ⟨t, ht, hT⟩ := va_Tof (f := fun j => .int (LN j)) (A := AA E) (N := 6) (by omega) (hs (Cond.arrayOf tLINE .int) (by decide +kernel)) (va_eqt (hs (Cond.eq (.length tLINE) (.int 6)) (by decide +kernel))) hel hA
  have hZ := va_Zref (A := AA E) (hE.1 (Cond.laysStatic "PaneScenes" "LINE" "[I") (by decide +kernel)) (hE.1 (Cond.initialized "PaneScenes") (by decide +kernel)) ht hA
  have hk : ∀ a : Nat, a < E.1.heap.size → ¬ (AA E) a → s.heap[a]? = E.1.heap[a]? := fun a h _ => hq a h
  exact ⟨t, (hZ.moved hW.alike).kept hk, (hT.moved hW.alike).kept hk⟩
theorem lnk_line : Cond.fieldLink RX11 353 "PaneScenes" "LINE" "[I" ∈ Gw := by
  have h : (lw_tbl.filter goodWord).contains (Cond.fieldLink RX11 353 "PaneScenes" "LINE" "[I") = true := by decide +kernel
  exact List.contains_iff_mem.mp h
theorem line_bit : ∀ a, a < 6 → ∀ b, b < 6 → ((((LN a) >>> (nI b &&& 31)) &&& nI 1) = nI 1 ↔ (a = b ∨ b = 0 ∨ (a = 3 ∧ b = 2) ∨ (a = 5 ∧ b = 4))) := by decide +kernel
theorem aX11_isOrUnder_0 : decode mX11_isOrUnder.2.1 0 = .ok (.getstatic 353, 3) := by decide +kernel
theorem aX11_isOrUnder_3 : decode mX11_isOrUnder.2.1 3 = .ok (.iload_n 0, 1) := by decide +kernel
theorem aX11_isOrUnder_4 : decode mX11_isOrUnder.2.1 4 = .ok (.iaload, 1) := by decide +kernel
theorem aX11_isOrUnder_5 : decode mX11_isOrUnder.2.1 5 = .ok (.iload_n 1, 1) ∧ 5 + 1 = 6 := ⟨by decide +kernel, rfl⟩
theorem aX11_isOrUnder_6 : decode mX11_isOrUnder.2.1 6 = .ok (.ishr, 1) ∧ 6 + 1 = 7 := ⟨by decide +kernel, rfl⟩
theorem aX11_isOrUnder_7 : decode mX11_isOrUnder.2.1 7 = .ok (.iconst 1, 1) ∧ 7 + 1 = 8 := ⟨by decide +kernel, rfl⟩
theorem aX11_isOrUnder_8 : decode mX11_isOrUnder.2.1 8 = .ok (.iand, 1) ∧ 8 + 1 = 9 := ⟨by decide +kernel, rfl⟩
theorem aX11_isOrUnder_9 : decode mX11_isOrUnder.2.1 9 = .ok (.iconst 1, 1) ∧ 9 + 1 = 10 := ⟨by decide +kernel, rfl⟩
theorem aX11_isOrUnder_10 : decode mX11_isOrUnder.2.1 10 = .ok (.if_icmp .ne 7, 3) ∧ ((10 : Nat) : Int) + 7 = ((17 : Nat) : Int) ∧ 10 + 3 = 13 := ⟨by decide +kernel, by decide, rfl⟩
theorem aX11_isOrUnder_13 : decode mX11_isOrUnder.2.1 13 = .ok (.iconst 1, 1) ∧ 13 + 1 = 14 := ⟨by decide +kernel, rfl⟩
theorem aX11_isOrUnder_14 : decode mX11_isOrUnder.2.1 14 = .ok (.goto 4, 3) ∧ ((14 : Nat) : Int) + 4 = ((18 : Nat) : Int) := ⟨by decide +kernel, by decide⟩
theorem aX11_isOrUnder_17 : decode mX11_isOrUnder.2.1 17 = .ok (.iconst 0, 1) ∧ 17 + 1 = 18 := ⟨by decide +kernel, rfl⟩
theorem aX11_isOrUnder_18 : decode mX11_isOrUnder.2.1 18 = .ok (.ireturn, 1) := by decide +kernel
theorem c_isOrUnder {x y : Int32} (a b : Nat) (hx : x = nI a) (hy : y = nI b) (ha : a < 6) (hb : b < 6) (hQ : Q (some (.int (nI (bn (under a b))))) I) : Mt E d mX11_isOrUnder [.int x, .int y] I Q := by
  subst hx; subst hy
  have rest : J E d mX11_isOrUnder 5 [(0, .int (nI a)), (1, .int (nI b))] [.int (LN a)] I Q := by
    refine J_iload_n 1 aX11_isOrUnder_5 rfl ?_
    refine J_ishr aX11_isOrUnder_6 ?_
    refine J_iconst (nI 1) aX11_isOrUnder_7 (by decide +kernel) ?_
    refine J_iand aX11_isOrUnder_8 ?_
    refine J_iconst (nI 1) aX11_isOrUnder_9 (by decide +kernel) ?_
    refine J_icmp_ne aX11_isOrUnder_10 (fun q => ?_) (fun q => ?_)
    · refine J_iconst (nI 0) aX11_isOrUnder_17 (by decide +kernel) ?_
      rw [line_bit a ha b hb] at q
      rw [bn_f (p := under a b) q] at hQ
      exact J_zret aX11_isOrUnder_18 rfl (by decide +kernel) hQ
    · refine J_iconst (nI 1) aX11_isOrUnder_13 (by decide +kernel) ?_
      refine J_goto aX11_isOrUnder_14 ?_
      rw [line_bit a ha b hb] at q
      rw [bn_t (p := under a b) q] at hQ
      exact J_zret aX11_isOrUnder_18 rfl (by decide +kernel) hQ
  refine Mt_of [(0, .int (nI a)), (1, .int (nI b))] (by decide +kernel) (by simp [lg_sl, Value.category, mX11_isOrUnder]) rfl ?_
  intro p l e s m args below meth c H locs ls F P hl
  obtain ⟨t, hZ, hT⟩ := line_of F
  refine va_gets F.1 F.2.1 hZ P.2 (own_of F) (hts_of F args _ lnk_line) (fun _ h => h) aX11_isOrUnder_0 ?_
  refine lv_iload_n F.1 F.2.1 aX11_isOrUnder_3 rfl (lv_at hl 0 rfl) ?_
  refine va_ti F.1 F.2.1 hT P.2 (vp_in_nI ha (by omega)) (v := .int (LN a)) (by rw [nI_clamp (by omega)]) aX11_isOrUnder_4 ?_
  exact rest p l e s m args below meth c H locs ls F P hl
/-! conditions: a row of (word, left, right): 0 to 2 compare (a number, or 10000 and a fact), 3 not, 4 and, 5 or -/
abbrev Op3 : Type := Nat × Nat × Nat
def pv (f : Nat → Nat) (c : Nat) : Nat := if c < 10000 then c else f (c - 10000)
def cmpB (o a b : Nat) : Bool := if o = 0 then decide (a < b) else if o = 1 then decide (a = b) else decide (b < a)
def pst (f : Nat → Nat) (q : Op3) (st : List Bool) : List Bool :=
  if q.1 ≤ 2 then cmpB q.1 (pv f q.2.1) (pv f q.2.2) :: st
  else if q.1 = 3 then (match st with | a :: w => (!a) :: w | [] => [])
  else if q.1 = 4 then (match st with | b :: a :: w => (a && b) :: w | _ => [])
  else (match st with | b :: a :: w => (a || b) :: w | _ => [])
def prun (f : Nat → Nat) : List Op3 → List Bool → List Bool
  | [], st => st
  | q :: ops, st => prun f ops (pst f q st)
/-- how deep the truths lie -/
def dp1 (o n : Nat) : Option Nat := if o ≤ 2 then (if n < 12 then some (n + 1) else none) else if o = 3 then (if 1 ≤ n then some n else none) else if o ≤ 5 then (if 2 ≤ n then some (n - 1) else none) else none
def dpt : List Op3 → Nat → Option Nat
  | [], n => some n
  | q :: ops, n => (dp1 q.1 n).bind (dpt ops)
def okv (c : Nat) : Prop := c < 10005
/-- the class's code from i to z spells ops -/
def cV (c : Nat) : Int32 := if c < 10000 then nI c else zI ((c : Int) - 10005)
def spC (c : Nat → Int32) : Nat → Nat → List Op3 → Prop
  | i, z, [] => i = z
  | i, z, q :: ops => if q.1 ≤ 2 then c i = nI q.1 ∧ c (i + 1) = cV q.2.1 ∧ c (i + 2) = cV q.2.2 ∧ okv q.2.1 ∧ okv q.2.2 ∧ spC c (i + 3) z ops else c i = nI q.1 ∧ q.1 ≤ 5 ∧ spC c (i + 1) z ops
theorem spC_le {c : Nat → Int32} : ∀ (ops : List Op3) (i z : Nat), spC c i z ops → i ≤ z := by
  intro ops
  induction ops with
  | nil => intro i z h; exact Nat.le_of_eq h
  | cons q ops ih =>
    intro i z h
    unfold spC at h
    split at h
    · have := ih _ _ h.2.2.2.2.2; omega
    · have := ih _ _ h.2.2; omega
/-- truths as a number, the latest lowest -/
def tb : List Bool → Nat
  | [] => 0
  | a :: w => 2 * tb w + (if a then 1 else 0)
theorem tb_lt : ∀ (st : List Bool), tb st < 2 ^ st.length := by
  intro st
  induction st with
  | nil => decide
  | cons a w ih =>
    show 2 * tb w + _ < 2 ^ (w.length + 1)
    rw [Nat.pow_succ]
    split <;> omega
theorem tb_4096 {st : List Bool} (h : st.length ≤ 12) : tb st < 4096 := by
  have h1 := tb_lt st
  have h2 : 2 ^ st.length ≤ 2 ^ 12 := Nat.pow_le_pow_right (by omega) h
  omega
theorem tp_push0 : ∀ a, a < 64 → ∀ b, b < 64 → (nI (64 * a + b) <<< (nI 1 &&& 31)) ||| nI 0 = nI (2 * (64 * a + b)) ∧ (nI (64 * a + b) <<< (nI 1 &&& 31)) ||| nI 1 = nI (2 * (64 * a + b) + 1) := by decide +kernel
theorem tp_push (v : Nat) (h : v < 4096) : (nI v <<< (nI 1 &&& 31)) ||| nI 0 = nI (2 * v) ∧ (nI v <<< (nI 1 &&& 31)) ||| nI 1 = nI (2 * v + 1) := by
  have q := tp_push0 (v / 64) (by omega) (v % 64) (by omega)
  rw [show 64 * (v / 64) + v % 64 = v by omega] at q
  exact q
theorem tp_not0 : ∀ a, a < 64 → ∀ b, b < 64 → nI (64 * a + b) ^^^ nI 1 = nI (2 * ((64 * a + b) / 2) + (1 - (64 * a + b) % 2)) := by decide +kernel
theorem tp_not (v : Nat) (h : v < 4096) : nI v ^^^ nI 1 = nI (2 * (v / 2) + (1 - v % 2)) := by
  have q := tp_not0 (v / 64) (by omega) (v % 64) (by omega)
  rw [show 64 * (v / 64) + v % 64 = v by omega] at q
  exact q
theorem tp_and0 : ∀ a, a < 64 → ∀ b, b < 64 → (nI (64 * a + b) >>> (nI 1 &&& 31)) &&& (nI (64 * a + b) ||| (-2)) = nI (2 * ((64 * a + b) / 4) + (64 * a + b) / 2 % 2 * ((64 * a + b) % 2)) := by decide +kernel
theorem tp_and (v : Nat) (h : v < 4096) : (nI v >>> (nI 1 &&& 31)) &&& (nI v ||| (-2)) = nI (2 * (v / 4) + v / 2 % 2 * (v % 2)) := by
  have q := tp_and0 (v / 64) (by omega) (v % 64) (by omega)
  rw [show 64 * (v / 64) + v % 64 = v by omega] at q
  exact q
theorem tp_or0 : ∀ a, a < 64 → ∀ b, b < 64 → (nI (64 * a + b) >>> (nI 1 &&& 31)) ||| (nI (64 * a + b) &&& nI 1) = nI (2 * ((64 * a + b) / 4) + max ((64 * a + b) / 2 % 2) ((64 * a + b) % 2)) := by decide +kernel
theorem tp_or (v : Nat) (h : v < 4096) : (nI v >>> (nI 1 &&& 31)) ||| (nI v &&& nI 1) = nI (2 * (v / 4) + max (v / 2 % 2) (v % 2)) := by
  have q := tp_or0 (v / 64) (by omega) (v % 64) (by omega)
  rw [show 64 * (v / 64) + v % 64 = v by omega] at q
  exact q
theorem tp_low0 : ∀ a, a < 64 → ∀ b, b < 64 → nI (64 * a + b) &&& nI 1 = nI ((64 * a + b) % 2) := by decide +kernel
theorem tp_low (v : Nat) (h : v < 4096) : nI v &&& nI 1 = nI (v % 2) := by
  have q := tp_low0 (v / 64) (by omega) (v % 64) (by omega)
  rw [show 64 * (v / 64) + v % 64 = v by omega] at q
  exact q
end K2
