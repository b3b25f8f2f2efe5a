/-! while things are made: the cells in the row of their addresses -/
def wl (E : EE) (cs : List va_E) : va_W := cs.mapIdx (fun a c => (eb E + a, c))
theorem wl_at (E : EE) {cs : List va_E} {a : Nat} {c : va_E} (h : cs[a]? = some c) : (wl E cs)[a]? = some (eb E + a, c) := by
  simp [wl, List.getElem?_mapIdx, h]
theorem wl_inv {E : EE} {cs : List va_E} {i : Nat} {q : Nat × va_E} (h : (wl E cs)[i]? = some q) : q.1 = eb E + i := by
  simp only [wl, List.getElem?_mapIdx, Option.map_eq_some_iff] at h
  obtain ⟨se, -, rfl⟩ := h
  rfl
theorem wl_D (E : EE) (cs : List va_E) : va_D (AA E) (wl E cs) :=
  ⟨fun i j x y hi hj h => by have h1 := wl_inv hi; have h2 := wl_inv hj; omega, fun k q h => by have h1 := wl_inv h; show eb E ≤ q.1; omega⟩
theorem wl_set (E : EE) {cs : List va_E} {a : Nat} {c : va_E} (h : a < cs.length) : (wl E cs).set a (eb E + a, c) = wl E (cs.set a c) := by
  apply List.ext_getElem?
  intro i
  by_cases hi : i = a
  · subst hi
    rw [List.getElem?_set_self (by simp [wl]; exact h), wl_at E (List.getElem?_set_self h)]
  · rw [List.getElem?_set_ne (Ne.symm hi)]
    simp [wl, List.getElem?_mapIdx, List.getElem?_set_ne (Ne.symm hi)]
theorem wl_push (E : EE) (cs : List va_E) (c : va_E) : wl E cs ++ [(eb E + cs.length, c)] = wl E (cs ++ [c]) := by
  simp [wl, List.mapIdx_append]
def PKW (E : EE) (cs : List va_E) (U : State) : Prop := EOK E ∧ E.1.WarmedH U.vm ∧ (∀ q, q < eb E → U.heap[q]? = E.1.heap[q]?) ∧ va_P (eD E) classes (wl E cs) U.heap ∧ U.heap.size = eb E + cs.length
def QK (E : EE) (cs : List va_E) : Array Value → State → Outcome → State → Prop := fun _ st oc t => oc = .returned none ∧ PKW E cs t ∧ st.heap.size ≤ t.heap.size
def rmK (d mc ms : Nat) : Room := { frames := d, cells := mc, slots := ms, locals := 41 * d }
/-- a constructor's contract: it makes mc cells of ms slots, the row of cells cs becomes cs2 -/
def CK (E : EE) (d : Nat) (M : MD) (av : List Value) (mc ms : Nat) (cs cs2 : List va_E) : Prop :=
  ∀ l : Launch, Met l M.1 [Cond.code M.1 M.2.1 M.2.2.1 M.2.2.2] (rmK d mc ms) (va_Pc av (PKW E cs)) (QK E cs2) mc ms (AA E)
def PK (E : EE) (s : State) (cs : List va_E) (H : Heap) (locs : List Loc) : Prop := va_P (eD E) classes (wl E cs) H ∧ H.size = eb E + cs.length ∧ va_S (AA E) s.heap H locs
theorem CK_of {E : EE} {d : Nat} {M : MD} {av : List Value} {mc ms : Nat} {cs cs2 : List va_E} (lv : List (Nat × Value)) (hy : plainName M.1.cls = true) (hn : (lg_sl av).length ≤ M.2.2.1) (hlv : lv_args 0 av = lv)
    (k : ∀ (p : Program) (l : Launch) (e : Env) (s : State) (m : MethodId) (args : Array Value) (below : List Frame) (meth : Method) (c : Code) (H : Heap) (locs : List Loc) (ls : Array Slot), Fx E M p s m meth c → meth.name = M.1.name → PK E s cs H locs → lv_has ls M.2.2.1 lv → W p l e (rmK d mc ms) s m args below meth c H locs 0 0 (MQ below (QK E cs2) args s mc ms (AA E)) (F0 m 0 ls [])) : CK E d M av mc ms cs cs2 := by
  intro l
  refine Met.ofW (cc := M.2.1) (maxL := M.2.2.1) (ret := M.2.2.2) hy rfl ?_
  intro p e s m args below meth c s₁ B hml hv
  obtain ⟨rfl, hE, hW, hq, hP, hz⟩ := hv
  have hl := lv_entry av (n := M.2.2.1) hn
  rw [hlv] at hl
  rw [lg_entry_eq]
  exact k p l e s m _ below meth c s.heap [] _ ⟨B.exec, B.bytes, hml, B.returns, B.notSynchronized, findClass_of_methodNamed B.named, hE, hW, hq⟩ (name_of_methodNamed B.named B.method).1 ⟨hP, hz, va_S.rf⟩ hl
/-- a field that a constructor sets -/
def KP (own : String) (idx ci k : Nat) (ty : FieldType) : Prop := ∃ (C : String) (T : u_T) (N : Nat) (ty0 : Nat → FieldType), classes[ci]? = some (C, T, N) ∧ k < N ∧ (T k).1 = C ∧ own = C ∧ (∀ w ∈ u_ws C T N, w ∈ Gw) ∧ Cond.fieldLink own idx C (T k).2.1 (T k).2.2.1 ∈ Gw ∧ (∀ k, k < N → parseFieldDescriptor (T k).2.2.1 = some (ty0 k)) ∧ (∀ a, a < N → ∀ b, b < N → a ≠ b → (T a).2.1 ≠ (T b).2.1) ∧ parseFieldDescriptor (T k).2.2.1 = some ty
section KW
variable {E : EE} {M : MD} {p : Program} {l : Launch} {e : Env} {R : Room} {s : State} {m : MethodId} {args : Array Value} {below : List Frame} {meth : Method} {c : Code} {H : Heap} {locs : List Loc} {cells slots : Nat} {Q : State → Prop} {pc : Nat} {ls : Array Slot} {rest : List Value} {cs : List va_E}
theorem cs_lt {a : Nat} {x : va_E} (h : cs[a]? = some x) : a < cs.length := (List.getElem?_eq_some_iff.mp h).1
theorem K_put {idx ci k a : Nat} {v : Value} {fs : List Value} {ty : FieldType} (F : Fx E M p s m meth c) (P : PK E s cs H locs) (hin : meth.name = "<init>") (hL : KP M.1.cls idx ci k ty) (ha : cs[a]? = some (.inr (ci, fs))) (hn : narrow ty v = v) (hfit : fits ty v = true) (hl : k < fs.length) (hdg : decode M.2.1 pc = .ok (.putfield idx, 3))
    (kk : ∀ (H1 : Heap) (locs1 : List Loc), PK E s (cs.set a (.inr (ci, fs.set k v))) H1 locs1 → W p l e R s m args below meth c H1 locs1 cells slots Q (F0 m (pc + 3) ls rest)) : W p l e R s m args below meth c H locs cells slots Q (F0 m pc ls (v :: .ref (eb E + a) :: rest)) := by
  obtain ⟨C, T, N, ty0, hc, hk, hT1, ho, hws, hlk, hty, hnm, hd⟩ := hL
  obtain ⟨hP, hz, hS0⟩ := P
  have hts := hts_of F args
  have hK := hK_of F
  have hD := wl_D E cs
  have he := wl_at E ha
  have hal := cs_lt ha
  have hap := va_apart (own := M.1.cls) hts hws ty0 hty hnm hK hc
  obtain ⟨r, h1, cell, q1, q2, q3, q4⟩ := hP a _ he
  have hr : r = (C, T, N) := Option.some.inj (h1.symm.trans hc)
  subst hr
  obtain ⟨hS, hfc, kC, hkC, hkind⟩ := hK.1 ci _ hc
  obtain ⟨cf, kf, fi, f, hi, hsl⟩ := hS k hk
  have hlay := hts _ (hws _ (u_in_lay hk))
  have hst := (u_facts hfc hkC (u_lays hts hws hk) hi).1
  have hi2 : s.fieldFound? C (T k).2.1 (T k).2.2.1 = some (cf, kf, fi, f) := by rw [← hT1]; exact hi
  have fin : ∀ H' : Heap, H'[eb E + a]? = some (cell.setSlot f.slot v) → H'.size = H.size → (∀ q, q ≠ eb E + a → H'[q]? = H[q]?) → W p l e R s m args below meth c H' (locs ++ [⟨eb E + a, f.slot⟩]) cells slots Q (F0 m (pc + 3) ls rest) := by
    intro H' e1 e2 e3
    rw [hsl] at e1 ⊢
    have hP2 := hP.set hD he (e := .inr (ci, fs.set k v)) ⟨_, hc, t_OB.to (V := updV (vp_V fs) k v) ⟨_, e1, q2, q3, t_set q4 hap hk v⟩ (fun j _ => vp_updV_set hl v j)⟩ e3
    rw [wl_set E hal] at hP2
    exact kk H' _ ⟨hP2, by rw [e2, hz, List.length_set], hS0.put e2 e3 (hD.2 a _ he)⟩
  cases hfin : (T k).2.2.2 with
  | false =>
    unfold u_lay at hlay
    rw [if_neg (by rw [hfin]; decide)] at hlay
    have h6 := u_store hfc hkC hkind hlay hi hd hn hfit
    exact W.putK F.1 F.2.1 (f := f) ⟨own_of F, hts _ hlk, ⟨_, _, _, hi2⟩, hst⟩ (by rw [q2]; exact h6) q1 q3 (by rw [hsl]; exact k2_hasslot (q4 k hk)) rfl rfl hdg fin
  | true =>
    unfold u_lay at hlay
    rw [if_pos hfin] at hlay
    have hcf : m.cls = cf := by
      obtain ⟨_, _, c', _, _, _, -, -, hf', -, -, -, hown2, -⟩ := Cond.laysFinal_spec hlay
      have e1 : c' = cf := by have := hi.symm.trans hf'; simp at this; exact this.1.symm
      rw [hT1, ← ho] at hown2
      rw [← e1]; exact Option.some.inj ((own_of F).symm.trans hown2)
    have h6 := u_fits hfc hkC hkind (Or.inr hlay) hi hd hn hfit
    exact W.putFinK F.1 F.2.1 (own_of F) (hts _ hlk) hi2 hst hcf hin (by rw [q2]; exact h6) q1 q3 (by rw [hsl]; exact k2_hasslot (q4 k hk)) rfl rfl hdg fin
theorem K_get {idx ci k a : Nat} {v : Value} {fs : List Value} (F : Fx E M p s m meth c) (P : PK E s cs H locs) (hL : FL M.1.cls idx ci k) (ha : cs[a]? = some (.inr (ci, fs))) (hv : fs[k]? = some v) (hdg : decode M.2.1 pc = .ok (.getfield idx, 3))
    (kk : W p l e R s m args below meth c H locs cells slots Q (F0 m (pc + 3) ls (v :: rest))) : W p l e R s m args below meth c H locs cells slots Q (F0 m pc ls (.ref (eb E + a) :: rest)) := by
  obtain ⟨C, T, N, hc, hk, hT1, hws, hlk⟩ := hL
  have hts := hts_of F args
  rcases hlk with hlk | ⟨host, hlk⟩
  · exact va_get F.1 F.2.1 hts hws (own_of F) (hK_of F) P.1 a (wl_at E ha) hc k hk (ref := C) (hts _ hlk) (by rw [hT1]; exact fun _ h => h) hv hdg kk
  · exact va_getN F.1 F.2.1 hts hws (own_of F) (hK_of F) P.1 a (wl_at E ha) hc k hk (ref := C) (nestF_of F hlk args) (by rw [hT1]; exact fun _ h => h) hv hdg kk
/-- a class that code makes things of -/
def KN (own : String) (idx ci : Nat) (fs : List Value) (n : Nat) : Prop := ∃ (C : String) (T : u_T) (ty0 : Nat → FieldType), classes[ci]? = some (C, T, n) ∧ (∀ w ∈ u_ws C T n, w ∈ Gw) ∧ Cond.classLink own idx C ∈ Gw ∧ Cond.instantiable C n ∈ Gw ∧ Cond.initialized C ∈ Gw ∧ (∀ k, k < n → parseFieldDescriptor (T k).2.2.1 = some (ty0 k)) ∧ ∀ j, j < n → defaultValue (ty0 j) = vp_V fs j
theorem K_new {idx ci n : Nat} {fs : List Value} (F : Fx E M p s m meth c) (P : PK E s cs H locs) (hL : KN M.1.cls idx ci fs n) (hc1 : cells + 1 ≤ R.cells) (hs1 : slots + n ≤ R.slots) (hdg : decode M.2.1 pc = .ok (.new idx, 3))
    (kk : ∀ H1 : Heap, PK E s (cs ++ [.inr (ci, fs)]) H1 locs → W p l e R s m args below meth c H1 locs (cells + 1) (slots + n) Q (F0 m (pc + 3) ls (.ref (eb E + cs.length) :: rest))) : W p l e R s m args below meth c H locs cells slots Q (F0 m pc ls rest) := by
  obtain ⟨C, T, ty0, hc, hws, hcl, hinst, hini, hty, hfs⟩ := hL
  obtain ⟨hP, hz, hS⟩ := P
  have hts := hts_of F args
  have hKn := (hK_of F).1 ci _ hc
  refine W.newcK F.1 F.2.1 (own_of F) (hts _ hcl) (hts _ hinst) (hts _ hini) rfl hdg hc1 hs1 hKn.2.1 hz fun H1 kC hkC e1 z1 o1 => ?_
  have hk : ∀ (k : Nat) (x : Nat × va_E), (wl E cs)[k]? = some x → H1[x.1]? = H[x.1]? := fun k x hx => o1 x.1 (by rw [← hz]; exact (hP k x hx).lt)
  refine kk H1 ⟨?_, by rw [z1, List.length_append]; rfl, ⟨Nat.le_trans hS.1 (by omega), fun x h1 h2 => (o1 x (by rw [← hz]; exact Nat.lt_of_lt_of_le h1 hS.1)).trans (hS.2.1 x h1 h2), hS.2.2⟩⟩
  rw [← wl_push]
  refine (hP.kept hk).app (fun k x hx => ?_)
  have hzz : k < 1 := (List.getElem?_eq_some_iff.mp hx).1
  rw [show k = 0 by omega] at hx
  cases hx
  exact ⟨_, hc, (u_born ty0 hts hws hKn hkC e1 hty).to hfs⟩
theorem K_newa {t n : Nat} {ty : ArrayType} {x : Int32} (F : Fx E M p s m meth c) (P : PK E s cs H locs) (hw : Cond.arrayClass (newarray.typeOf ty) ∈ Gw) (ht : (etys E)[t]? = some (E.2.2.2.2 t, newarray.typeOf ty)) (hdf : defaultValue (newarray.typeOf ty) = .int 0) (hra : ∀ (U : State) (cA : ClassId), va_RA U cA (newarray.typeOf ty) → U.vm.findClass ("[" ++ (newarray.typeOf ty).toString) = some cA) (hx : x = nI n) (hn : n < 10000) (hb8 : n * componentBytes (newarray.typeOf ty) ≤ 536870912) (hc1 : cells + 1 ≤ R.cells) (hs1 : slots + n ≤ R.slots) (hdg : decode M.2.1 pc = .ok (.newarray ty, 2))
    (kk : ∀ H1 : Heap, PK E s (cs ++ [.inl (E.2.2.2.2 t, n, .inl (fun _ => 0))]) H1 locs → W p l e R s m args below meth c H1 locs (cells + 1) (slots + n) Q (F0 m (pc + 2) ls (.ref (eb E + cs.length) :: rest))) : W p l e R s m args below meth c H locs cells slots Q (F0 m pc ls (.int x :: rest)) := by
  subst hx
  obtain ⟨hP, hz, hS⟩ := P
  have hts := hts_of F args
  have hK := hK_of F
  refine va_newaK F.1 F.2.1 (hts _ hw) rfl hdg rfl (nI_pos (by omega)) (nI_clamp (by omega)) hb8 hc1 hs1 hz fun H1 cA e1 z1 o1 hAr hNm => ?_
  have hcA : cA = E.2.2.2.2 t := Option.some.inj (hNm.symm.trans (hra s _ (hK.2 t _ ht).2))
  subst hcA
  have hk : ∀ (k : Nat) (x : Nat × va_E), (wl E cs)[k]? = some x → H1[x.1]? = H[x.1]? := fun k x hx => o1 x.1 (by rw [← hz]; exact (hP k x hx).lt)
  refine kk H1 ⟨?_, by rw [z1, List.length_append]; rfl, ⟨Nat.le_trans hS.1 (by omega), fun x h1 h2 => (o1 x (by rw [← hz]; exact Nat.lt_of_lt_of_le h1 hS.1)).trans (hS.2.1 x h1 h2), hS.2.2⟩⟩
  rw [← wl_push]
  refine (hP.kept hk).app (fun k x hx => ?_)
  have hzz : k < 1 := (List.getElem?_eq_some_iff.mp hx).1
  rw [show k = 0 by omega] at hx
  cases hx
  show H1[eb E + cs.length]? = some (vp_cell _ _)
  rw [vp_cell_i, e1, hdf]
/-- that the row's class is there does not hang on what has been linked since -/
theorem ov_warm {n : String} {U V : State} {a b : Array Value} (hW : U.WarmedH V.vm) (h : (Cond.arrayOver (.object n)).before a U = true) : (Cond.arrayOver (.object n)).before b V = true := by
  have hal := hW.alike
  obtain ⟨co, c, k, h1, h2, h3, h4, h5⟩ := Cond.arrayOver_spec h
  obtain ⟨k2, g1, g2⟩ := hal.2.2 c k h3
  have g3 : k2.kind = .array co (.object n) := by rw [g2]; exact h4
  have g5 : V.vm.findClass ("[" ++ (FieldType.object n).toString) = some c := (hal.findClass _ _).trans h5
  have g6 : V.vm.findClass n = some co := (hal.findClass _ _).trans h1
  simp only [Cond.before, Cond.holds, Cond.value, g6, Option.bind_some, beq_iff_eq]
  rw [Option.bind_eq_some_iff]
  exact ⟨c, (hal.findIdx?_eqK _ (fun _ => rfl)).trans h2, by simp [g1, g3, g5]⟩
theorem K_newq {t n idx : Nat} {C : String} {x : Int32} (F : Fx E M p s m meth c) (P : PK E s cs H locs) (hcl : Cond.classLink M.1.cls idx C ∈ Gw) (hov : Cond.arrayOver (.object C) ∈ lw_tbl) (ht : (etys E)[t]? = some (E.2.2.2.2 t, .object C)) (hx : x = nI n) (hn : n < 10000) (hc1 : cells + 1 ≤ R.cells) (hs1 : slots + n ≤ R.slots) (hdg : decode M.2.1 pc = .ok (.anewarray idx, 3))
    (kk : ∀ H1 : Heap, PK E s (cs ++ [.inl (E.2.2.2.2 t, n, .inr (.inr (.inr (.inr (fun _ => none)))))]) H1 locs → W p l e R s m args below meth c H1 locs (cells + 1) (slots + n) Q (F0 m (pc + 3) ls (.ref (eb E + cs.length) :: rest))) : W p l e R s m args below meth c H locs cells slots Q (F0 m pc ls (.int x :: rest)) := by
  subst hx
  obtain ⟨hP, hz, hS⟩ := P
  have hts := hts_of F args
  have hK := hK_of F
  have hcn : (nI n).toNatClampNeg = n := nI_clamp (by omega)
  refine W.anew F.1 F.2.1 (own_of F) (hts _ hcl) (ov_warm F.2.2.2.2.2.2.2.1 (F.2.2.2.2.2.2.1.1 _ hov)) rfl hdg rfl (nI_pos (by omega)) (by rw [hcn]; omega) hc1 (by rw [hcn]; exact hs1) fun cA kA comp f1 f2 f3 f4 => ?_
  obtain ⟨kA2, comp2, g1, g2, g3, g4⟩ := (hK.2 t _ ht).2
  have hcA : cA = E.2.2.2.2 t := Option.some.inj (f1.symm.trans g4)
  subst hcA
  generalize hH1 : H.push ({ cls := E.2.2.2.2 t, slots := Array.replicate (nI n).toNatClampNeg .null, vm := .none } : Cell) = H1
  have z1 : H1.size = H.size + 1 := by rw [← hH1, Array.size_push]
  have e1 : H1[H.size]? = some (arrV (E.2.2.2.2 t) (nI n).toNatClampNeg (fun _ => .null)) := by rw [← hH1, Array.getElem?_push_size, ← arrV_new]
  have o1 : ∀ q : Nat, q < H.size → H1[q]? = H[q]? := fun q hq => by rw [← hH1, Array.getElem?_push, if_neg (Nat.ne_of_lt hq)]
  rw [hcn] at e1 ⊢
  rw [hz] at e1 z1 o1 ⊢
  have hk : ∀ (k : Nat) (x : Nat × va_E), (wl E cs)[k]? = some x → H1[x.1]? = H[x.1]? := fun k x hx => o1 x.1 (by rw [← hz]; exact (hP k x hx).lt)
  refine kk H1 ⟨?_, by rw [z1, List.length_append]; rfl, ⟨Nat.le_trans hS.1 (by omega), fun x h1 h2 => (o1 x (by rw [← hz]; exact Nat.lt_of_lt_of_le h1 hS.1)).trans (hS.2.1 x h1 h2), hS.2.2⟩⟩
  rw [← wl_push]
  refine (hP.kept hk).app (fun k x hx => ?_)
  have hzz : k < 1 := (List.getElem?_eq_some_iff.mp hx).1
  rw [show k = 0 by omega] at hx
  cases hx
  show H1[eb E + cs.length]? = some (vp_cell _ _)
  rw [vp_cell_q]
  exact e1
theorem K_iast {a n j : Nat} {f : Nat → Int32} {x y : Int32} (F : Fx E M p s m meth c) (P : PK E s cs H locs) (ha : cs[a]? = some (.inl (E.2.2.2.2 0, n, .inl f))) (hy : y = nI j) (hj : j < n) (hn : n < 10000) (hdg : decode M.2.1 pc = .ok (.iastore, 1))
    (kk : ∀ (H1 : Heap) (locs1 : List Loc), PK E s (cs.set a (.inl (E.2.2.2.2 0, n, .inl (upd f j x)))) H1 locs1 → W p l e R s m args below meth c H1 locs1 cells slots Q (F0 m (pc + 1) ls rest)) : W p l e R s m args below meth c H locs cells slots Q (F0 m pc ls (.int x :: .int y :: .ref (eb E + a) :: rest)) := by
  subst hy
  obtain ⟨hP, hz, hS⟩ := P
  have hD := wl_D E cs
  have he := wl_at E ha
  have hcj : (nI j).toNatClampNeg = j := nI_clamp (by omega)
  have hvi : vp_in (nI j) n := vp_in_nI hj (by omega)
  refine W.iast F.1 F.2.1 (hP a _ he) (((hK_of F).2 0 _ rfl).1 n (fun j => .int (f j))) (fun q => by cases q) (by show ¬ (nI j < 0 ∨ (arrV _ _ _).slots.size ≤ _); rw [arrV_size]; exact hvi) rfl rfl hdg fun H1 e z oq => ?_
  have hP2 := hP.set hD he (e := .inl (E.2.2.2.2 0, n, .inl (upd f j x))) (H1 := H1) (by
    show H1[eb E + a]? = some (vp_cell _ _)
    rw [e, hcj]
    rw [vp_cell_i, vp_cell_i, arrV_store]
    congr 2
    funext q
    by_cases hq : q = j
    · subst hq; simp [updV, upd]
    · simp [updV, upd, hq]) oq
  rw [wl_set E (cs_lt ha)] at hP2
  exact kk H1 _ ⟨hP2, by rw [z, hz, List.length_set], hS.put z oq (hD.2 a _ he)⟩
theorem K_cast {a n j : Nat} {f : Nat → Int32} {x y : Int32} (F : Fx E M p s m meth c) (P : PK E s cs H locs) (ha : cs[a]? = some (.inl (E.2.2.2.2 2, n, .inl f))) (hy : y = nI j) (hj : j < n) (hn : n < 10000) (hx : vp_nar .char x = x) (hdg : decode M.2.1 pc = .ok (.castore, 1))
    (kk : ∀ (H1 : Heap) (locs1 : List Loc), PK E s (cs.set a (.inl (E.2.2.2.2 2, n, .inl (upd f j x)))) H1 locs1 → W p l e R s m args below meth c H1 locs1 cells slots Q (F0 m (pc + 1) ls rest)) : W p l e R s m args below meth c H locs cells slots Q (F0 m pc ls (.int x :: .int y :: .ref (eb E + a) :: rest)) := by
  subst hy
  obtain ⟨hP, hz, hS⟩ := P
  have hD := wl_D E cs
  have he := wl_at E ha
  have hcj : (nI j).toNatClampNeg = j := nI_clamp (by omega)
  have hvi : vp_in (nI j) n := vp_in_nI hj (by omega)
  refine W.cast F.1 F.2.1 (hP a _ he) (((hK_of F).2 2 _ rfl).1 n (fun j => .int (f j))) (fun q => by cases q) (by show ¬ (nI j < 0 ∨ (arrV _ _ _).slots.size ≤ _); rw [arrV_size]; exact hvi) rfl rfl hdg fun H1 e z oq => ?_
  have hP2 := hP.set hD he (e := .inl (E.2.2.2.2 2, n, .inl (upd f j x))) (H1 := H1) (by
    show H1[eb E + a]? = some (vp_cell _ _)
    rw [e, hcj]
    rw [vp_cell_i, vp_cell_i, arrV_store]
    congr 2
    funext q
    by_cases hq : q = j
    · subst hq
      simp [updV, upd]
      exact congrArg Value.int hx
    · simp [updV, upd, hq]) oq
  rw [wl_set E (cs_lt ha)] at hP2
  exact kk H1 _ ⟨hP2, by rw [z, hz, List.length_set], hS.put z oq (hD.2 a _ he)⟩
/-- a thing goes into a row of a class that is its own or above it -/
theorem K_aast {a b t n j ci : Nat} {C : String} {f : Nat → Option Nat} {fs : List Value} {r : vw_C} {y : Int32} (F : Fx E M p s m meth c) (P : PK E s cs H locs) (ha : cs[a]? = some (.inl (E.2.2.2.2 t, n, .inr (.inr (.inr (.inr f)))))) (ht : (etys E)[t]? = some (E.2.2.2.2 t, .object C)) (hb : cs[b]? = some (.inr (ci, fs))) (hc : classes[ci]? = some r) (hca : r.1 = C ∨ Cond.castable r.1 C ∈ lw_tbl) (hy : y = nI j) (hj : j < n) (hn : n < 10000) (hdg : decode M.2.1 pc = .ok (.aastore, 1))
    (kk : ∀ (H1 : Heap) (locs1 : List Loc), PK E s (cs.set a (.inl (E.2.2.2.2 t, n, .inr (.inr (.inr (.inr (va_up f j (some (eb E + b))))))))) H1 locs1 → W p l e R s m args below meth c H1 locs1 cells slots Q (F0 m (pc + 1) ls rest)) : W p l e R s m args below meth c H locs cells slots Q (F0 m pc ls (.ref (eb E + b) :: .int y :: .ref (eb E + a) :: rest)) := by
  subst hy
  obtain ⟨hP, hz, hS⟩ := P
  have hD := wl_D E cs
  have he := wl_at E ha
  have hcj : (nI j).toNatClampNeg = j := nI_clamp (by omega)
  have hK := hK_of F
  obtain ⟨r', hr', cellV, g1, g2, g3, -⟩ := hP b _ (wl_at E hb)
  have hcls := (hK.1 ci r hc).2
  obtain ⟨kA, comp, k1, k2, k3, -⟩ := (hK.2 t _ ht).2
  obtain ⟨kE, hkE, -⟩ := Vm.findClass_spec k3
  obtain ⟨kC, hkC, -⟩ := hcls.2
  have hasg : s.vm.assignable ((eD E).1 ci) comp = true := by
    rcases hca with rfl | hca
    · have : comp = (eD E).1 ci := Option.some.inj (k3.symm.trans hcls.1)
      rw [this]; exact va_assign hcls
    · have hw : va_Nw (.castable r.1 C) s := va_Nw.warmC F.2.2.2.2.2.2.2.1 (va_Nw.of rfl (F.2.2.2.2.2.2.1.1 _ hca))
      obtain ⟨c0, t1, f1, f2, f3⟩ := Cond.castable_spec (va_Nw.use (A := args) rfl hw)
      have e1 : c0 = (eD E).1 ci := Option.some.inj (f1.symm.trans hcls.1)
      have e2 : t1 = comp := Option.some.inj (f2.symm.trans k3)
      rw [← e1, ← e2]; exact f3
  refine W.aast F.1 F.2.1 (hP a _ he) (fun q h => by cases h) (fun h => by cases h) k1 k2 rfl hkE ⟨nI_pos (by omega), by show _ < (arrV _ _ _).slots.size; rw [arrV_size, hcj]; exact hj⟩ g1 (fun q h => by rw [g3] at h; cases h) (by rw [g2]; exact hkC) (by rw [g2]; exact hasg) rfl rfl hdg fun H1 e z oq => ?_
  have hP2 := hP.set hD he (e := .inl (E.2.2.2.2 t, n, .inr (.inr (.inr (.inr (va_up f j (some (eb E + b)))))))) (H1 := H1) (by
    show H1[eb E + a]? = some (vp_cell _ _)
    rw [e, hcj]
    rw [vp_cell_q, vp_cell_q, arrV_store]
    congr 2
    funext q
    by_cases hq : q = j
    · subst hq; simp [updV, va_up, va_rf]
    · simp [updV, va_up, hq]) oq
  rw [wl_set E (cs_lt ha)] at hP2
  exact kk H1 _ ⟨hP2, by rw [z, hz, List.length_set], hS.put z oq (hD.2 a _ he)⟩
theorem K_alen {a t : Nat} {x : vp_A} {ty : FieldType} {v : Int32} (F : Fx E M p s m meth c) (P : PK E s cs H locs) (ha : cs[a]? = some (.inl (E.2.2.2.2 t, x))) (ht : (etys E)[t]? = some (E.2.2.2.2 t, ty)) (hv : Int32.ofNat x.1 = v) (hdg : decode M.2.1 pc = .ok (.arraylength, 1))
    (kk : W p l e R s m args below meth c H locs cells slots Q (F0 m (pc + 1) ls (.int v :: rest))) : W p l e R s m args below meth c H locs cells slots Q (F0 m pc ls (.ref (eb E + a) :: rest)) :=
  va_alen F.1 F.2.1 (hK_of F) P.1 a t (wl_at E ha) ht hv hdg kk
/-- a constructor that code calls -/
def LkI (own : String) (idx : Nat) (M2 : MD) : Prop := (Cond.methodLink own idx M2.1 ∈ Gw ∨ ∃ host : String, Cond.methodLinkNest own idx M2.1 host ∈ lw_tbl) ∧ M2.1.name = "<init>" ∧ M2.2.2.2 = none ∧ Cond.instanceMethod M2.1 ∈ Gw
theorem pk_blind {av : List Value} : FrameBlind (va_Pc av (PKW E cs)) := fun a U g mk h => ⟨h.1, h.2⟩
theorem pk_pre (F : Fx E M p s m meth c) (P : PK E s cs H locs) (av : List Value) : ∀ U : State, U.heap = H → s.WarmedH U.vm → va_Pc av (PKW E cs) av.toArray U := by
  intro U hU hW
  have hb := below_of F P.2.2
  obtain ⟨-, -, -, -, -, -, hE, hW0, -⟩ := F
  exact ⟨rfl, hE, State.WarmedH.trans hW0 hW, by rw [hU]; exact hb, by rw [hU]; exact P.1, by rw [hU]; exact P.2.1⟩
theorem K_run {stk : List Value} {a : Array Value} {mc ms : Nat} {cs2 : List va_E} (F : Fx E M p s m meth c) (P : PK E s cs H locs) (hr : va_Run p l e R s m args below meth c H locs cells slots mc ms (F0 m pc ls stk) rest (QK E cs2 a) (AA E))
    (kk : ∀ (H1 : Heap) (locs1 : List Loc), PK E s cs2 H1 locs1 → W p l e R s m args below meth c H1 locs1 (cells + mc) (slots + ms) Q (F0 m (pc + 3) ls rest)) : W p l e R s m args below meth c H locs cells slots Q (F0 m pc ls stk) := by
  intro T hT X
  obtain ⟨v, st₀, t, T', L, h0, X', hL, e1, e2, ⟨hv, hPW, hz⟩, hst⟩ := hr T hT X
  cases hv
  have hq := F.2.2.2.2.2.2.2.2
  have hS2 : va_S (AA E) s.heap T'.heap (locs ++ L) := by
    refine ⟨?_, ?_, ?_⟩
    · rw [e1]; rw [h0] at hz; exact Nat.le_trans P.2.2.1 hz
    · intro q h1 h2
      have h3 : q < eb E := Nat.not_le.mp h2
      rw [e1, hPW.2.2.1 q h3, hq q h3]
    · intro q hq2
      rcases List.mem_append.mp hq2 with h | h
      · exact P.2.2.2.2 q h
      · exact hL q h
  obtain ⟨t2, a1, b1⟩ := kk T'.heap (locs ++ L) ⟨by rw [e1]; exact hPW.2.2.2.1, by rw [e1]; exact hPW.2.2.2.2, hS2⟩ T' rfl X'
  exact ⟨t2, hst t2 a1, b1⟩
theorem K_call {idx o d2 n mc ms : Nat} {M2 : MD} {stk : List Value} {cs2 : List va_E} (As : List Value) (F : Fx E M p s m meth c) (P : PK E s cs H locs) (hls : ls.size = M.2.2.1) (hL : LkI M.1.cls idx M2) (hM : Okm M2 n) (hn : As.length = n) (hst : stk = As.reverse ++ .ref (eb E + o) :: rest) (hr : (rest.map fun v => v.category).sum ≤ 8) (hc : CK E d2 M2 (.ref (eb E + o) :: As) mc ms cs cs2) (hd : d2 + 1 ≤ R.frames) (hlo : 41 * (d2 + 1) ≤ R.locals) (hcc : cells + mc ≤ R.cells) (hss : slots + ms ≤ R.slots) (hdg : decode M.2.1 pc = .ok (.invokespecial idx, 3))
    (kk : ∀ (H1 : Heap) (locs1 : List Loc), PK E s cs2 H1 locs1 → W p l e R s m args below meth c H1 locs1 (cells + mc) (slots + ms) Q (F0 m (pc + 3) ls rest)) : W p l e R s m args below meth c H locs cells slots Q (F0 m pc ls stk) := by
  subst hst
  have hts := hts_of F args
  have hpre : PreS s H (va_Pc (.ref (eb E + o) :: As) (PKW E cs)) (.ref (eb E + o) :: As) := ⟨pk_blind, pk_pre F P _⟩
  obtain ⟨hl1, hl2, hl3, hl4⟩ := hL
  have r2 : 8 + (M2.2.2.1 + 11) + 41 * d2 ≤ R.locals := by have := hM.2.2.2.2; omega
  have hcl := hc l
  rw [hl3] at hcl
  have hcode : Cond.code M2.1 M2.2.1 M2.2.2.1 none ∈ Gw := by have := hM.1; rw [hl3] at this; exact this
  have hws : ∀ w ∈ [Cond.code M2.1 M2.2.1 M2.2.2.1 none], ∀ (a' : Array Value) (U : State), s.WarmedH U.vm → w.before a' U = true := by
    intro w hw a' U hW
    rw [List.mem_singleton] at hw
    subst hw
    exact word_at hW (good_gw hcode) (hts _ hcode)
  rcases hl1 with hw | ⟨host, hw⟩
  · exact K_run F P (va_runI (Ts := Gw) (own := M.1.cls) (n := n) (rm := rmK d2 mc ms) ⟨F.1, F.2.1, F.2.2.1, own_of F, hts⟩ hcl ⟨⟨rfl, rfl, hd, r2, hws, List.mem_singleton.mpr rfl, hts _ hcode, hts _ hM.2.1, hM.2.2.1, len_of hM, hts _ hw⟩, hl2, hts _ hl4⟩ hpre rfl hn hls rfl (lv_room hr) hdg ⟨hcc, hss⟩) kk
  · exact K_run F P (va_runIN (Ts := Gw) (own := M.1.cls) (n := n) (rm := rmK d2 mc ms) ⟨F.1, F.2.1, F.2.2.1, own_of F, hts⟩ hcl ⟨⟨⟨rfl, rfl, hd, r2, hws, List.mem_singleton.mpr rfl⟩, hts _ hcode, hts _ hM.2.1, hM.2.2.1, len_of hM, nestM_of F hw args⟩, hl2, hts _ hl4⟩ hpre rfl hn hls rfl (lv_room hr) hdg ⟨hcc, hss⟩) kk
theorem K_callS {idx d2 n mc ms : Nat} {M2 : MD} {stk : List Value} {cs2 : List va_E} (As : List Value) (F : Fx E M p s m meth c) (P : PK E s cs H locs) (hls : ls.size = M.2.2.1) (hL : LkS M.1.cls idx M2) (hM : Okm M2 n) (hn : As.length = n) (hst : stk = As.reverse ++ rest) (hr : (rest.map fun v => v.category).sum ≤ 8) (hc : CK E d2 M2 As mc ms cs cs2) (hd : d2 + 1 ≤ R.frames) (hlo : 41 * (d2 + 1) ≤ R.locals) (hcc : cells + mc ≤ R.cells) (hss : slots + ms ≤ R.slots) (hdg : decode M.2.1 pc = .ok (.invokestatic idx, 3))
    (kk : ∀ (H1 : Heap) (locs1 : List Loc), PK E s cs2 H1 locs1 → W p l e R s m args below meth c H1 locs1 (cells + mc) (slots + ms) Q (F0 m (pc + 3) ls rest)) : W p l e R s m args below meth c H locs cells slots Q (F0 m pc ls stk) := by
  subst hst
  have hts := hts_of F args
  have hpre : PreS s H (va_Pc As (PKW E cs)) As := ⟨pk_blind, pk_pre F P _⟩
  obtain ⟨hl1, hl2⟩ := hL
  have r2 : 8 + (M2.2.2.1 + 11) + 41 * d2 ≤ R.locals := by have := hM.2.2.2.2; omega
  rcases hl1 with hw | ⟨host, hw⟩
  · exact K_run F P (va_runS (Ts := Gw) (own := M.1.cls) (n := n) (rm := rmK d2 mc ms) ⟨F.1, F.2.1, F.2.2.1, own_of F, hts⟩ (hc l) ⟨⟨rfl, rfl, hd, r2, ws_of F hM args, List.mem_singleton.mpr rfl, hts _ hM.1, hts _ hM.2.1, hM.2.2.1, len_of hM, hts _ hw⟩, hts _ hl2⟩ hpre rfl hn hls rfl (lv_room hr) hdg ⟨hcc, hss⟩) kk
  · exact K_run F P (va_runSN (Ts := Gw) (own := M.1.cls) (n := n) (rm := rmK d2 mc ms) ⟨F.1, F.2.1, F.2.2.1, own_of F, hts⟩ (hc l) ⟨⟨⟨rfl, rfl, hd, r2, ws_of F hM args, List.mem_singleton.mpr rfl⟩, hts _ hM.1, hts _ hM.2.1, hM.2.2.1, len_of hM, nestM_of F hw args⟩, hts _ hl2, trivial⟩ hpre rfl hn hls rfl (lv_room hr) hdg ⟨hcc, hss⟩) kk
theorem K_ret {cs2 : List va_E} (F : Fx E M p s m meth c) (P : PK E s cs H locs) (hr : M.2.2.2 = none) (he : cs = cs2) (hdg : decode M.2.1 pc = .ok (.return_, 1)) : W p l e R s m args below meth c H locs cells slots (MQ below (QK E cs2) args s cells slots (AA E)) (F0 m pc ls []) := by
  subst he
  have hb := below_of F P.2.2
  refine W.vret F.1 F.2.1 (F.2.2.2.1.trans hr) (fun t ht hW => ⟨rfl, ⟨F.2.2.2.2.2.2.1, State.WarmedH.trans F.2.2.2.2.2.2.2.1 hW, by rw [ht]; exact hb, by rw [ht]; exact P.1, by rw [ht]; exact P.2.1⟩, by rw [ht]; exact P.2.2.1⟩) P.2.2.2.2 hdg F.2.2.2.2.1
end KW
