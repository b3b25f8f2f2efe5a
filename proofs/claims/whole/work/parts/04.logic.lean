abbrev IH : Type := Nat → Nat → Int32
abbrev QT : Type := Option Value → IH → Prop
/-- the state at the law's start, its arguments, the classes' numbers, their slots, the array classes -/
abbrev EE : Type := State × Array Value × (Nat → ClassId) × (Nat → Nat → Nat) × (Nat → ClassId)
def eb (E : EE) : Nat := E.1.heap.size
abbrev eD (E : EE) : va_G := (E.2.2.1, E.2.2.2.1)
def etys (E : EE) : List (ClassId × FieldType) := [(E.2.2.2.2 0, .int), (E.2.2.2.2 1, .byte), (E.2.2.2.2 2, .char), (E.2.2.2.2 3, .object "PaneScenes$Pane"), (E.2.2.2.2 4, .object "PaneScenes$Evening")]
def fval (b : Nat) (f : Nat → Int32) (j : Nat) (o : Option Nat) : Value := match o with
  | some r => .ref (b + r)
  | none => .int (f j)
def cellV (E : EE) (f : Nat → Int32) (se : SE) : va_E := match se with
  | .inl o => .inr (o.1, o.2.mapIdx (fval (eb E) f))
  | .inr r => .inl (E.2.2.2.2 r.1, r.2.1, if r.1 < 3 then .inl f else .inr (.inr (.inr (.inr (fun j => (r.2.2[j]?).map (fun q => eb E + q))))))
/-- all cells that the law has made, by what their ints are -/
def wd (E : EE) (I : IH) : va_W := shape.mapIdx (fun a se => (eb E + a, cellV E (I a) se))
def stI (I : IH) (a j : Nat) (v : Int32) : IH := fun a' => if a' = a then upd (I a) j v else I a'
def stA (I : IH) (a : Nat) (f : Nat → Int32) : IH := fun a' => if a' = a then f else I a'
abbrev AA (E : EE) : Nat → Prop := fun q => eb E ≤ q
theorem wd_at (E : EE) (I : IH) {a : Nat} {se : SE} (h : shape[a]? = some se) : (wd E I)[a]? = some (eb E + a, cellV E (I a) se) := by
  simp [wd, List.getElem?_mapIdx, h]
theorem wd_inv {E : EE} {I : IH} {i : Nat} {q : Nat × va_E} (h : (wd E I)[i]? = some q) : q.1 = eb E + i := by
  simp only [wd, List.getElem?_mapIdx, Option.map_eq_some_iff] at h
  obtain ⟨se, -, rfl⟩ := h
  rfl
theorem wd_D (E : EE) (I : IH) : va_D (AA E) (wd E I) :=
  ⟨fun i j x y hi hj h => by have h1 := wd_inv hi; have h2 := wd_inv hj; omega, fun k q h => by have h1 := wd_inv h; show eb E ≤ q.1; omega⟩
theorem wd_stA {E : EE} {I : IH} {a : Nat} {se : SE} {e : va_E} {f : Nat → Int32} (h : shape[a]? = some se) (hc : cellV E f se = e) : (wd E I).set a (eb E + a, e) = wd E (stA I a f) := by
  subst hc
  have hl : a < (wd E I).length := (List.getElem?_eq_some_iff.mp (wd_at E I h)).1
  apply List.ext_getElem?
  intro i
  by_cases hi : i = a
  · subst hi
    rw [List.getElem?_set_self hl, wd_at E _ h]
    simp [stA]
  · rw [List.getElem?_set_ne (Ne.symm hi)]
    simp [wd, List.getElem?_mapIdx, stA, hi]
theorem wd_st {E : EE} {I : IH} {a j : Nat} {v : Int32} {se : SE} {e : va_E} (h : shape[a]? = some se) (hc : cellV E (upd (I a) j v) se = e) : (wd E I).set a (eb E + a, e) = wd E (stI I a j v) := wd_stA h hc
def Gw : List Cond := lw_tbl.filter goodWord
theorem gw (i : Nat) {w : Cond} (h : lw_tbl[i]? = some w) (g : goodWord w = true) : w ∈ Gw := List.mem_filter.mpr ⟨List.mem_of_getElem? h, g⟩
/-- the start is as the statement says -/
def EOK (E : EE) : Prop := (∀ w ∈ lw_tbl, w.before E.2.1 E.1 = true) ∧ va_K (eD E) classes (etys E) E.1 ∧ (Jvm.Cond.and given_1 narrow_1).before E.2.1 E.1 = true
/-- a state of the machine between two calls -/
def PW (E : EE) (I : IH) (U : State) : Prop := EOK E ∧ E.1.WarmedH U.vm ∧ (∀ q, q < eb E → U.heap[q]? = E.1.heap[q]?) ∧ va_P (eD E) classes (wd E I) U.heap
def QQ (E : EE) (Q : QT) : Array Value → State → Outcome → State → Prop := fun _ st oc t => ∃ (r : Option Value) (I' : IH), oc = .returned r ∧ Q r I' ∧ PW E I' t ∧ st.heap.size ≤ t.heap.size
def rmD (d : Nat) : Room := { frames := d, cells := 0, slots := 0, locals := 41 * d }
def Fx (E : EE) (M : MD) (p : Program) (s : State) (m : MethodId) (meth : Method) (c : Code) : Prop :=
  p.tables.exec = Jvm.exec ∧ c.code = M.2.1 ∧ c.maxLocals = M.2.2.1 ∧ meth.sig.returnType = M.2.2.2 ∧ meth.locks = false ∧ s.vm.findClass M.1.cls = some m.cls ∧ EOK E ∧ E.1.WarmedH s.vm ∧ (∀ q, q < eb E → s.heap[q]? = E.1.heap[q]?)
def PH (E : EE) (s : State) (I : IH) (H : Heap) (locs : List Loc) : Prop := va_P (eD E) classes (wd E I) H ∧ va_S (AA E) s.heap H locs
/-- the judgement: from this point of the method, over these ints, it comes to its end with Q -/
def J (E : EE) (d : Nat) (M : MD) (pc : Nat) (lv : List (Nat × Value)) (st : List Value) (I : IH) (Q : QT) : Prop :=
  ∀ (p : Program) (l : Launch) (e : Env) (s : State) (m : MethodId) (args : Array Value) (below : List Frame) (meth : Method) (c : Code) (H : Heap) (locs : List Loc) (ls : Array Slot),
    Fx E M p s m meth c → PH E s I H locs → lv_has ls M.2.2.1 lv → W p l e (rmD d) s m args below meth c H locs 0 0 (MQ below (QQ E Q) args s 0 0 (AA E)) (F0 m pc ls st)
/-- a method's contract -/
def Mt (E : EE) (d : Nat) (M : MD) (av : List Value) (I : IH) (Q : QT) : Prop :=
  ∀ l : Launch, Met l M.1 [Cond.code M.1 M.2.1 M.2.2.1 M.2.2.2] (rmD d) (va_Pc av (PW E I)) (QQ E Q) 0 0 (AA E)
theorem Mt_of {E : EE} {d : Nat} {M : MD} {av : List Value} {I : IH} {Q : QT} (lv : List (Nat × Value)) (hy : plainName M.1.cls = true) (hn : (lg_sl av).length ≤ M.2.2.1) (hlv : lv_args 0 av = lv) (k : J E d M 0 lv [] I Q) : Mt E d M av I Q := by
  intro l
  refine Met.ofW (cc := M.2.1) (maxL := M.2.2.1) (ret := M.2.2.2) hy rfl ?_
  intro p e s m args below meth c s₁ B hml hv
  obtain ⟨rfl, hE, hW, hq, hP⟩ := hv
  have hl := lv_entry av (n := M.2.2.1) hn
  rw [hlv] at hl
  rw [lg_entry_eq]
  exact k p l e s m _ below meth c s.heap [] _ ⟨B.exec, B.bytes, hml, B.returns, B.notSynchronized, findClass_of_methodNamed B.named, hE, hW, hq⟩ ⟨hP, va_S.rf⟩ hl
section JR
variable {E : EE} {d : Nat} {M : MD} {pc pc' tgt : Nat} {lv lv' : List (Nat × Value)} {st : List Value} {I : IH} {Q : QT}
theorem J_pick (ks : List Nat) (h : lv_pick lv ks = lv') (k : J E d M pc lv' st I Q) : J E d M pc lv st I Q := by
  intro p l e s m args below meth c H locs ls F P hl
  exact k p l e s m args below meth c H locs ls F P (lv_sub hl ks h)
theorem J_eq {st' : List Value} (h : st = st') (k : J E d M pc lv st' I Q) : J E d M pc lv st I Q := h ▸ k
theorem J_top {P : Int32 → Prop} {x : Int32} (k : ∀ y : Int32, y = x → J E d M pc lv (.int y :: st) I Q) : J E d M pc lv (.int x :: st) I Q := k x rfl
theorem J_iconst {n : Int} (v : Int32) (h : decode M.2.1 pc = .ok (.iconst n, 1) ∧ pc + 1 = pc') (hv : Int32.ofInt n = v) (k : J E d M pc' lv (.int v :: st) I Q) : J E d M pc lv st I Q := by
  obtain ⟨h, rfl⟩ := h
  intro p l e s m args below meth c H locs ls F P hl
  exact lv_iconst F.1 F.2.1 h hv (k p l e s m args below meth c H locs ls F P hl)
theorem J_bipush {n : Int} (v : Int32) (h : decode M.2.1 pc = .ok (.bipush n, 2) ∧ pc + 2 = pc') (hv : (Int8.ofInt n).toInt32 = v) (k : J E d M pc' lv (.int v :: st) I Q) : J E d M pc lv st I Q := by
  obtain ⟨h, rfl⟩ := h
  intro p l e s m args below meth c H locs ls F P hl
  exact lv_bipush F.1 F.2.1 h hv (k p l e s m args below meth c H locs ls F P hl)
theorem J_sipush {n : Int} (v : Int32) (h : decode M.2.1 pc = .ok (.sipush n, 3) ∧ pc + 3 = pc') (hv : (Int16.ofInt n).toInt32 = v) (k : J E d M pc' lv (.int v :: st) I Q) : J E d M pc lv st I Q := by
  obtain ⟨h, rfl⟩ := h
  intro p l e s m args below meth c H locs ls F P hl
  exact lv_sipush F.1 F.2.1 h hv (k p l e s m args below meth c H locs ls F P hl)
theorem J_iload_n {i : Fin 4} {x : Int32} (a : Nat) (h : decode M.2.1 pc = .ok (.iload_n i, 1) ∧ pc + 1 = pc') (hv : lv[a]? = some ((i : Nat), .int x)) (k : J E d M pc' lv (.int x :: st) I Q) : J E d M pc lv st I Q := by
  obtain ⟨h, rfl⟩ := h
  intro p l e s m args below meth c H locs ls F P hl
  exact lv_iload_n F.1 F.2.1 h rfl (lv_at hl a hv) (k p l e s m args below meth c H locs ls F P hl)
theorem J_iload {i : Nat} {x : Int32} (a : Nat) (h : decode M.2.1 pc = .ok (.iload i, 2) ∧ pc + 2 = pc') (hv : lv[a]? = some (i, .int x)) (k : J E d M pc' lv (.int x :: st) I Q) : J E d M pc lv st I Q := by
  obtain ⟨h, rfl⟩ := h
  intro p l e s m args below meth c H locs ls F P hl
  exact lv_iload F.1 F.2.1 h (lv_at hl a hv) (k p l e s m args below meth c H locs ls F P hl)
theorem J_aload_n {i : Fin 4} {x : Nat} (a : Nat) (h : decode M.2.1 pc = .ok (.aload_n i, 1) ∧ pc + 1 = pc') (hv : lv[a]? = some ((i : Nat), .ref x)) (k : J E d M pc' lv (.ref x :: st) I Q) : J E d M pc lv st I Q := by
  obtain ⟨h, rfl⟩ := h
  intro p l e s m args below meth c H locs ls F P hl
  exact lv_aload_n F.1 F.2.1 h rfl (lv_at hl a hv) (k p l e s m args below meth c H locs ls F P hl)
theorem J_aload {i : Nat} {x : Nat} (a : Nat) (h : decode M.2.1 pc = .ok (.aload i, 2) ∧ pc + 2 = pc') (hv : lv[a]? = some (i, .ref x)) (k : J E d M pc' lv (.ref x :: st) I Q) : J E d M pc lv st I Q := by
  obtain ⟨h, rfl⟩ := h
  intro p l e s m args below meth c H locs ls F P hl
  exact lv_aload F.1 F.2.1 h (lv_at hl a hv) (k p l e s m args below meth c H locs ls F P hl)
theorem J_lload_n {i : Fin 4} {x : Int64} (a : Nat) (h : decode M.2.1 pc = .ok (.lload_n i, 1) ∧ pc + 1 = pc') (hv : lv[a]? = some ((i : Nat), .long x)) (k : J E d M pc' lv (.long x :: st) I Q) : J E d M pc lv st I Q := by
  obtain ⟨h, rfl⟩ := h
  intro p l e s m args below meth c H locs ls F P hl
  exact lv_lload_n F.1 F.2.1 h rfl (lv_at hl a hv) (k p l e s m args below meth c H locs ls F P hl)
theorem J_istore_n {i : Fin 4} {x : Int32} (lv' : List (Nat × Value)) (h : decode M.2.1 pc = .ok (.istore_n i, 1) ∧ pc + 1 = pc') (hn : (i : Nat) < M.2.2.1) (hl' : ((i : Nat), Value.int x) :: lv.filter (fun q => !(q.1 == (i : Nat)) && !(q.1 + 1 == (i : Nat) && q.2.category == 2)) = lv') (k : J E d M pc' lv' st I Q) : J E d M pc lv (.int x :: st) I Q := by
  obtain ⟨h, rfl⟩ := h
  intro p l e s m args below meth c H locs ls F P hl
  exact lv_istore_n F.1 F.2.1 h rfl hl hn hl' (fun ls' h' => k p l e s m args below meth c H locs ls' F P h')
theorem J_istore {i : Nat} {x : Int32} (lv' : List (Nat × Value)) (h : decode M.2.1 pc = .ok (.istore i, 2) ∧ pc + 2 = pc') (hn : i < M.2.2.1) (hl' : (i, Value.int x) :: lv.filter (fun q => !(q.1 == i) && !(q.1 + 1 == i && q.2.category == 2)) = lv') (k : J E d M pc' lv' st I Q) : J E d M pc lv (.int x :: st) I Q := by
  obtain ⟨h, rfl⟩ := h
  intro p l e s m args below meth c H locs ls F P hl
  exact lv_istore F.1 F.2.1 h hl hn hl' (fun ls' h' => k p l e s m args below meth c H locs ls' F P h')
theorem J_astore_n {i : Fin 4} {x : Nat} (lv' : List (Nat × Value)) (h : decode M.2.1 pc = .ok (.astore_n i, 1) ∧ pc + 1 = pc') (hn : (i : Nat) < M.2.2.1) (hl' : ((i : Nat), Value.ref x) :: lv.filter (fun q => !(q.1 == (i : Nat)) && !(q.1 + 1 == (i : Nat) && q.2.category == 2)) = lv') (k : J E d M pc' lv' st I Q) : J E d M pc lv (.ref x :: st) I Q := by
  obtain ⟨h, rfl⟩ := h
  intro p l e s m args below meth c H locs ls F P hl
  exact lv_astore_n F.1 F.2.1 h rfl hl hn hl' (fun ls' h' => k p l e s m args below meth c H locs ls' F P h')
theorem J_astore {i : Nat} {x : Nat} (lv' : List (Nat × Value)) (h : decode M.2.1 pc = .ok (.astore i, 2) ∧ pc + 2 = pc') (hn : i < M.2.2.1) (hl' : (i, Value.ref x) :: lv.filter (fun q => !(q.1 == i) && !(q.1 + 1 == i && q.2.category == 2)) = lv') (k : J E d M pc' lv' st I Q) : J E d M pc lv (.ref x :: st) I Q := by
  obtain ⟨h, rfl⟩ := h
  intro p l e s m args below meth c H locs ls F P hl
  exact lv_astore F.1 F.2.1 h hl hn hl' (fun ls' h' => k p l e s m args below meth c H locs ls' F P h')
theorem J_iinc {i : Nat} {n : Int} {x : Int32} (v : Int32) (lv' : List (Nat × Value)) (a : Nat) (h : decode M.2.1 pc = .ok (.iinc i n, 3) ∧ pc + 3 = pc') (hk : lv[a]? = some (i, .int x)) (hv : x + Int32.ofInt n = v) (hn : i < M.2.2.1) (hl' : (i, Value.int v) :: lv.filter (fun q => !(q.1 == i) && !(q.1 + 1 == i && q.2.category == 2)) = lv') (k : J E d M pc' lv' st I Q) : J E d M pc lv st I Q := by
  obtain ⟨h, rfl⟩ := h
  intro p l e s m args below meth c H locs ls F P hl
  exact lv_iinc F.1 F.2.1 h hl hk hv hn hl' (fun ls' h' => k p l e s m args below meth c H locs ls' F P h')
theorem J_iadd {x y : Int32} (h : decode M.2.1 pc = .ok (.iadd, 1) ∧ pc + 1 = pc') (k : J E d M pc' lv (.int (x + y) :: st) I Q) : J E d M pc lv (.int y :: .int x :: st) I Q := by
  obtain ⟨h, rfl⟩ := h
  intro p l e s m args below meth c H locs ls F P hl
  exact lv_iadd F.1 F.2.1 h (k p l e s m args below meth c H locs ls F P hl)
theorem J_isub {x y : Int32} (h : decode M.2.1 pc = .ok (.isub, 1) ∧ pc + 1 = pc') (k : J E d M pc' lv (.int (x - y) :: st) I Q) : J E d M pc lv (.int y :: .int x :: st) I Q := by
  obtain ⟨h, rfl⟩ := h
  intro p l e s m args below meth c H locs ls F P hl
  exact lv_isub F.1 F.2.1 h (k p l e s m args below meth c H locs ls F P hl)
theorem J_imul {x y : Int32} (h : decode M.2.1 pc = .ok (.imul, 1) ∧ pc + 1 = pc') (k : J E d M pc' lv (.int (x * y) :: st) I Q) : J E d M pc lv (.int y :: .int x :: st) I Q := by
  obtain ⟨h, rfl⟩ := h
  intro p l e s m args below meth c H locs ls F P hl
  exact lv_imul F.1 F.2.1 h (k p l e s m args below meth c H locs ls F P hl)
theorem J_iand {x y : Int32} (h : decode M.2.1 pc = .ok (.iand, 1) ∧ pc + 1 = pc') (k : J E d M pc' lv (.int (x &&& y) :: st) I Q) : J E d M pc lv (.int y :: .int x :: st) I Q := by
  obtain ⟨h, rfl⟩ := h
  intro p l e s m args below meth c H locs ls F P hl
  exact lv_iand F.1 F.2.1 h (k p l e s m args below meth c H locs ls F P hl)
theorem J_ior {x y : Int32} (h : decode M.2.1 pc = .ok (.ior, 1) ∧ pc + 1 = pc') (k : J E d M pc' lv (.int (x ||| y) :: st) I Q) : J E d M pc lv (.int y :: .int x :: st) I Q := by
  obtain ⟨h, rfl⟩ := h
  intro p l e s m args below meth c H locs ls F P hl
  exact lv_ior F.1 F.2.1 h (k p l e s m args below meth c H locs ls F P hl)
theorem J_ixor {x y : Int32} (h : decode M.2.1 pc = .ok (.ixor, 1) ∧ pc + 1 = pc') (k : J E d M pc' lv (.int (x ^^^ y) :: st) I Q) : J E d M pc lv (.int y :: .int x :: st) I Q := by
  obtain ⟨h, rfl⟩ := h
  intro p l e s m args below meth c H locs ls F P hl
  exact lv_ixor F.1 F.2.1 h (k p l e s m args below meth c H locs ls F P hl)
theorem J_idiv {x y : Int32} (h : decode M.2.1 pc = .ok (.idiv, 1) ∧ pc + 1 = pc') (hne : ¬ y = 0) (k : J E d M pc' lv (.int (x / y) :: st) I Q) : J E d M pc lv (.int y :: .int x :: st) I Q := by
  obtain ⟨h, rfl⟩ := h
  intro p l e s m args below meth c H locs ls F P hl
  exact lv_idiv F.1 F.2.1 h hne (k p l e s m args below meth c H locs ls F P hl)
theorem J_irem {x y : Int32} (h : decode M.2.1 pc = .ok (.irem, 1) ∧ pc + 1 = pc') (hne : ¬ y = 0) (k : J E d M pc' lv (.int (x - x / y * y) :: st) I Q) : J E d M pc lv (.int y :: .int x :: st) I Q := by
  obtain ⟨h, rfl⟩ := h
  intro p l e s m args below meth c H locs ls F P hl
  exact lv_irem F.1 F.2.1 h hne (k p l e s m args below meth c H locs ls F P hl)
theorem J_ineg {x : Int32} (h : decode M.2.1 pc = .ok (.ineg, 1) ∧ pc + 1 = pc') (k : J E d M pc' lv (.int (-x) :: st) I Q) : J E d M pc lv (.int x :: st) I Q := by
  obtain ⟨h, rfl⟩ := h
  intro p l e s m args below meth c H locs ls F P hl
  exact lv_ineg F.1 F.2.1 h (k p l e s m args below meth c H locs ls F P hl)
theorem J_ishl {x y : Int32} (h : decode M.2.1 pc = .ok (.ishl, 1) ∧ pc + 1 = pc') (k : J E d M pc' lv (.int (x <<< (y &&& 31)) :: st) I Q) : J E d M pc lv (.int y :: .int x :: st) I Q := by
  obtain ⟨h, rfl⟩ := h
  intro p l e s m args below meth c H locs ls F P hl
  exact lv_ishl F.1 F.2.1 h (k p l e s m args below meth c H locs ls F P hl)
theorem J_ishr {x y : Int32} (h : decode M.2.1 pc = .ok (.ishr, 1) ∧ pc + 1 = pc') (k : J E d M pc' lv (.int (x >>> (y &&& 31)) :: st) I Q) : J E d M pc lv (.int y :: .int x :: st) I Q := by
  obtain ⟨h, rfl⟩ := h
  intro p l e s m args below meth c H locs ls F P hl
  exact lv_ishr F.1 F.2.1 h (k p l e s m args below meth c H locs ls F P hl)
def ushr (x y : Int32) : Int32 := (x.toUInt32 >>> (y.toUInt32 &&& Int32.toUInt32 31)).toInt32
theorem J_iushr {x y : Int32} (h : decode M.2.1 pc = .ok (.iushr, 1) ∧ pc + 1 = pc') (k : J E d M pc' lv (.int (ushr x y) :: st) I Q) : J E d M pc lv (.int y :: .int x :: st) I Q := by
  obtain ⟨h, rfl⟩ := h
  intro p l e s m args below meth c H locs ls F P hl
  exact lv_iushr F.1 F.2.1 h rfl (k p l e s m args below meth c H locs ls F P hl)
theorem J_i2b {x : Int32} (h : decode M.2.1 pc = .ok (.i2b, 1) ∧ pc + 1 = pc') (k : J E d M pc' lv (.int (x.toInt8.toInt32) :: st) I Q) : J E d M pc lv (.int x :: st) I Q := by
  obtain ⟨h, rfl⟩ := h
  intro p l e s m args below meth c H locs ls F P hl
  exact lv_i2b F.1 F.2.1 h rfl (k p l e s m args below meth c H locs ls F P hl)
theorem J_i2s {x : Int32} (h : decode M.2.1 pc = .ok (.i2s, 1) ∧ pc + 1 = pc') (k : J E d M pc' lv (.int (x.toInt16.toInt32) :: st) I Q) : J E d M pc lv (.int x :: st) I Q := by
  obtain ⟨h, rfl⟩ := h
  intro p l e s m args below meth c H locs ls F P hl
  exact lv_i2s F.1 F.2.1 h rfl (k p l e s m args below meth c H locs ls F P hl)
theorem J_dup {v : Value} (h : decode M.2.1 pc = .ok (.dup, 1) ∧ pc + 1 = pc') (hv : v.category = 1) (k : J E d M pc' lv (v :: v :: st) I Q) : J E d M pc lv (v :: st) I Q := by
  obtain ⟨h, rfl⟩ := h
  intro p l e s m args below meth c H locs ls F P hl
  exact lv_dup F.1 F.2.1 h hv (k p l e s m args below meth c H locs ls F P hl)
theorem J_pop {v : Value} (h : decode M.2.1 pc = .ok (.pop, 1) ∧ pc + 1 = pc') (hv : v.category = 1) (k : J E d M pc' lv st I Q) : J E d M pc lv (v :: st) I Q := by
  obtain ⟨h, rfl⟩ := h
  intro p l e s m args below meth c H locs ls F P hl
  exact lv_pop F.1 F.2.1 h hv (k p l e s m args below meth c H locs ls F P hl)
theorem J_dup2 {v w : Value} (h : decode M.2.1 pc = .ok (.dup2, 1) ∧ pc + 1 = pc') (hv : v.category = 1) (hw : w.category = 1) (k : J E d M pc' lv (v :: w :: v :: w :: st) I Q) : J E d M pc lv (v :: w :: st) I Q := by
  obtain ⟨h, rfl⟩ := h
  intro p l e s m args below meth c H locs ls F P hl
  exact lv_dup2_11 F.1 F.2.1 h hv hw (k p l e s m args below meth c H locs ls F P hl)
theorem J_goto {off : Int} (h : decode M.2.1 pc = .ok (.goto off, 3) ∧ (pc : Int) + off = (tgt : Int)) (k : J E d M tgt lv st I Q) : J E d M pc lv st I Q := by
  intro p l e s m args below meth c H locs ls F P hl
  exact lv_goto F.1 F.2.1 h.1 h.2 (k p l e s m args below meth c H locs ls F P hl)
end JR
