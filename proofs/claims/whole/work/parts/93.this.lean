section KT
variable {E : EE} {M : MD} {p : Program} {l : Launch} {e : Env} {R : Room} {s : State} {m : MethodId} {args : Array Value} {below : List Frame} {meth : Method} {c : Code} {H : Heap} {locs : List Loc} {cells slots : Nat} {Q : State → Prop} {pc : Nat} {ls : Array Slot} {rest : List Value} {cs N : List va_E} {X : va_E} {o L : Nat}
/-! what is made, o, and behind the cells that were there, L of them, the new ones N -/
theorem nf_0 (h : cs[o]? = some X) : cs = cs.set o X ++ [] := by
  have hl := cs_lt h
  rw [List.append_nil]
  apply List.ext_getElem?
  intro i
  by_cases hi : i = o
  · subst hi; rw [List.getElem?_set_self hl]; exact h
  · rw [List.getElem?_set_ne (Ne.symm hi)]
theorem nf_o (ho : o < cs.length) : (cs.set o X ++ N)[o]? = some X := by
  rw [List.getElem?_append_left (by rw [List.length_set]; exact ho), List.getElem?_set_self ho]
theorem nf_n {j : Nat} {Y : va_E} (hL : cs.length = L) (h : N[j]? = some Y) : (cs.set o X ++ N)[L + j]? = some Y := by
  rw [List.getElem?_append_right (by rw [List.length_set]; omega), List.length_set, show L + j - cs.length = j by omega]; exact h
theorem nf_l {n : Nat} (hL : cs.length = L) (h : N.length = n) : (cs.set o X ++ N).length = L + n := by
  rw [List.length_append, List.length_set, hL, h]
theorem nf_so (ho : o < cs.length) (Y : va_E) : (cs.set o X ++ N).set o Y = cs.set o Y ++ N := by
  rw [List.set_append_left _ _ (by rw [List.length_set]; exact ho), List.set_set]
theorem nf_sn {j : Nat} (hL : cs.length = L) (Y : va_E) : (cs.set o X ++ N).set (L + j) Y = cs.set o X ++ N.set j Y := by
  rw [List.set_append_right _ _ (by rw [List.length_set]; omega), List.length_set, show L + j - cs.length = j by omega]
theorem T_put {idx ci k : Nat} {v : Value} {fs : List Value} {ty : FieldType} (F : Fx E M p s m meth c) (P : PK E s (cs.set o (.inr (ci, fs)) ++ N) H locs) (ho : o < cs.length) (hin : meth.name = "<init>") (hL : KP M.1.cls idx ci k ty) (hn : narrow ty v = v) (hfit : fits ty v = true) (hl : k < fs.length) (hdg : decode M.2.1 pc = .ok (.putfield idx, 3))
    (kk : ∀ (H1 : Heap) (locs1 : List Loc), PK E s (cs.set o (.inr (ci, fs.set k v)) ++ N) H1 locs1 → W p l e R s m args below meth c H1 locs1 cells slots Q (F0 m (pc + 3) ls rest)) : W p l e R s m args below meth c H locs cells slots Q (F0 m pc ls (v :: .ref (eb E + o) :: rest)) :=
  K_put F P hin hL (nf_o ho) hn hfit hl hdg (fun H1 locs1 P1 => kk H1 locs1 (by rw [nf_so ho] at P1; exact P1))
theorem T_get {idx ci k : Nat} {v : Value} {fs : List Value} (F : Fx E M p s m meth c) (P : PK E s (cs.set o (.inr (ci, fs)) ++ N) H locs) (ho : o < cs.length) (hL : FL M.1.cls idx ci k) (hv : fs[k]? = some v) (hdg : decode M.2.1 pc = .ok (.getfield idx, 3))
    (kk : W p l e R s m args below meth c H locs cells slots Q (F0 m (pc + 3) ls (v :: rest))) : W p l e R s m args below meth c H locs cells slots Q (F0 m pc ls (.ref (eb E + o) :: rest)) :=
  K_get F P hL (nf_o ho) hv hdg kk
theorem T_new {idx ci n j : Nat} {fs : List Value} (F : Fx E M p s m meth c) (P : PK E s (cs.set o X ++ N) H locs) (hL : cs.length = L) (hN : N.length = j) (hk : KN M.1.cls idx ci fs n) (hc1 : cells + 1 ≤ R.cells) (hs1 : slots + n ≤ R.slots) (hdg : decode M.2.1 pc = .ok (.new idx, 3))
    (kk : ∀ H1 : Heap, PK E s (cs.set o X ++ (N ++ [.inr (ci, fs)])) H1 locs → W p l e R s m args below meth c H1 locs (cells + 1) (slots + n) Q (F0 m (pc + 3) ls (.ref (eb E + (L + j)) :: rest))) : W p l e R s m args below meth c H locs cells slots Q (F0 m pc ls rest) := by
  refine K_new F P hk hc1 hs1 hdg (fun H1 P1 => ?_)
  rw [nf_l hL hN]
  rw [List.append_assoc] at P1
  exact kk H1 P1
theorem T_newa {t n j : Nat} {ty : ArrayType} {x : Int32} (F : Fx E M p s m meth c) (P : PK E s (cs.set o X ++ N) H locs) (hL : cs.length = L) (hN : N.length = j) (hw : Cond.arrayClass (newarray.typeOf ty) ∈ Gw) (ht : (etys E)[t]? = some (E.2.2.2.2 t, newarray.typeOf ty)) (hdf : defaultValue (newarray.typeOf ty) = .int 0) (hra : ∀ (U : State) (cA : ClassId), va_RA U cA (newarray.typeOf ty) → U.vm.findClass ("[" ++ (newarray.typeOf ty).toString) = some cA) (hx : x = nI n) (hn : n < 10000) (hb8 : n * componentBytes (newarray.typeOf ty) ≤ 536870912) (hc1 : cells + 1 ≤ R.cells) (hs1 : slots + n ≤ R.slots) (hdg : decode M.2.1 pc = .ok (.newarray ty, 2))
    (kk : ∀ H1 : Heap, PK E s (cs.set o X ++ (N ++ [.inl (E.2.2.2.2 t, n, .inl (fun _ => 0))])) H1 locs → W p l e R s m args below meth c H1 locs (cells + 1) (slots + n) Q (F0 m (pc + 2) ls (.ref (eb E + (L + j)) :: rest))) : W p l e R s m args below meth c H locs cells slots Q (F0 m pc ls (.int x :: rest)) := by
  refine K_newa F P hw ht hdf hra hx hn hb8 hc1 hs1 hdg (fun H1 P1 => ?_)
  rw [nf_l hL hN]
  rw [List.append_assoc] at P1
  exact kk H1 P1
theorem T_newI {n j : Nat} {x : Int32} (F : Fx E M p s m meth c) (P : PK E s (cs.set o X ++ N) H locs) (hL : cs.length = L) (hN : N.length = j) (hw : Cond.arrayClass .int ∈ Gw) (hx : x = nI n) (hn : n < 10000) (hc1 : cells + 1 ≤ R.cells) (hs1 : slots + n ≤ R.slots) (hdg : decode M.2.1 pc = .ok (.newarray .int, 2))
    (kk : ∀ H1 : Heap, PK E s (cs.set o X ++ (N ++ [.inl (E.2.2.2.2 0, n, .inl (fun _ => 0))])) H1 locs → W p l e R s m args below meth c H1 locs (cells + 1) (slots + n) Q (F0 m (pc + 2) ls (.ref (eb E + (L + j)) :: rest))) : W p l e R s m args below meth c H locs cells slots Q (F0 m pc ls (.int x :: rest)) :=
  T_newa (t := 0) (ty := .int) F P hL hN hw rfl rfl (fun _ _ h => h) hx hn (by show n * 4 ≤ _; omega) hc1 hs1 hdg kk
theorem T_newB {n j : Nat} {x : Int32} (F : Fx E M p s m meth c) (P : PK E s (cs.set o X ++ N) H locs) (hL : cs.length = L) (hN : N.length = j) (hw : Cond.arrayClass .byte ∈ Gw) (hx : x = nI n) (hn : n < 10000) (hc1 : cells + 1 ≤ R.cells) (hs1 : slots + n ≤ R.slots) (hdg : decode M.2.1 pc = .ok (.newarray .byte, 2))
    (kk : ∀ H1 : Heap, PK E s (cs.set o X ++ (N ++ [.inl (E.2.2.2.2 1, n, .inl (fun _ => 0))])) H1 locs → W p l e R s m args below meth c H1 locs (cells + 1) (slots + n) Q (F0 m (pc + 2) ls (.ref (eb E + (L + j)) :: rest))) : W p l e R s m args below meth c H locs cells slots Q (F0 m pc ls (.int x :: rest)) :=
  T_newa (t := 1) (ty := .byte) F P hL hN hw rfl rfl (fun _ _ h => h) hx hn (by show n * 1 ≤ _; omega) hc1 hs1 hdg kk
theorem T_newC {n j : Nat} {x : Int32} (F : Fx E M p s m meth c) (P : PK E s (cs.set o X ++ N) H locs) (hL : cs.length = L) (hN : N.length = j) (hw : Cond.arrayClass .char ∈ Gw) (hx : x = nI n) (hn : n < 10000) (hc1 : cells + 1 ≤ R.cells) (hs1 : slots + n ≤ R.slots) (hdg : decode M.2.1 pc = .ok (.newarray .char, 2))
    (kk : ∀ H1 : Heap, PK E s (cs.set o X ++ (N ++ [.inl (E.2.2.2.2 2, n, .inl (fun _ => 0))])) H1 locs → W p l e R s m args below meth c H1 locs (cells + 1) (slots + n) Q (F0 m (pc + 2) ls (.ref (eb E + (L + j)) :: rest))) : W p l e R s m args below meth c H locs cells slots Q (F0 m pc ls (.int x :: rest)) :=
  T_newa (t := 2) (ty := .char) F P hL hN hw rfl rfl (fun _ _ h => h) hx hn (by show n * 2 ≤ _; omega) hc1 hs1 hdg kk
theorem T_newq {t n idx j : Nat} {C : String} {x : Int32} (F : Fx E M p s m meth c) (P : PK E s (cs.set o X ++ N) H locs) (hL : cs.length = L) (hN : N.length = j) (hcl : Cond.classLink M.1.cls idx C ∈ Gw) (hov : Cond.arrayOver (.object C) ∈ lw_tbl) (ht : (etys E)[t]? = some (E.2.2.2.2 t, .object C)) (hx : x = nI n) (hn : n < 10000) (hc1 : cells + 1 ≤ R.cells) (hs1 : slots + n ≤ R.slots) (hdg : decode M.2.1 pc = .ok (.anewarray idx, 3))
    (kk : ∀ H1 : Heap, PK E s (cs.set o X ++ (N ++ [.inl (E.2.2.2.2 t, n, .inr (.inr (.inr (.inr (fun _ => none)))))])) H1 locs → W p l e R s m args below meth c H1 locs (cells + 1) (slots + n) Q (F0 m (pc + 3) ls (.ref (eb E + (L + j)) :: rest))) : W p l e R s m args below meth c H locs cells slots Q (F0 m pc ls (.int x :: rest)) := by
  refine K_newq F P hcl hov ht hx hn hc1 hs1 hdg (fun H1 P1 => ?_)
  rw [nf_l hL hN]
  rw [List.append_assoc] at P1
  exact kk H1 P1
theorem T_iast {a n j : Nat} {f : Nat → Int32} {x y : Int32} (F : Fx E M p s m meth c) (P : PK E s (cs.set o X ++ N) H locs) (hL : cs.length = L) (ha : N[a]? = some (.inl (E.2.2.2.2 0, n, .inl f))) (hy : y = nI j) (hj : j < n) (hn : n < 10000) (hdg : decode M.2.1 pc = .ok (.iastore, 1))
    (kk : ∀ (H1 : Heap) (locs1 : List Loc), PK E s (cs.set o X ++ N.set a (.inl (E.2.2.2.2 0, n, .inl (upd f j x)))) H1 locs1 → W p l e R s m args below meth c H1 locs1 cells slots Q (F0 m (pc + 1) ls rest)) : W p l e R s m args below meth c H locs cells slots Q (F0 m pc ls (.int x :: .int y :: .ref (eb E + (L + a)) :: rest)) :=
  K_iast F P (nf_n hL ha) hy hj hn hdg (fun H1 locs1 P1 => kk H1 locs1 (by rw [nf_sn hL] at P1; exact P1))
/-- a letter, where the row of letters has been written to before -/
theorem T_cast {a n j : Nat} {f : Nat → Int32} {x y : Int32} (F : Fx E M p s m meth c) (P : PK E s (cs.set o X ++ N.set a (.inl (E.2.2.2.2 2, n, .inl f))) H locs) (hL : cs.length = L) (ha : a < N.length) (hy : y = nI j) (hj : j < n) (hn : n < 10000) (hx : vp_nar .char x = x) (hdg : decode M.2.1 pc = .ok (.castore, 1))
    (kk : ∀ (H1 : Heap) (locs1 : List Loc), PK E s (cs.set o X ++ N.set a (.inl (E.2.2.2.2 2, n, .inl (upd f j x)))) H1 locs1 → W p l e R s m args below meth c H1 locs1 cells slots Q (F0 m (pc + 1) ls rest)) : W p l e R s m args below meth c H locs cells slots Q (F0 m pc ls (.int x :: .int y :: .ref (eb E + (L + a)) :: rest)) :=
  K_cast F P (nf_n hL (List.getElem?_set_self ha)) hy hj hn hx hdg (fun H1 locs1 P1 => kk H1 locs1 (by rw [nf_sn hL, List.set_set] at P1; exact P1))
theorem T_aast {a b t n j ci : Nat} {C : String} {f : Nat → Option Nat} {fs : List Value} {r : vw_C} {y : Int32} (F : Fx E M p s m meth c) (P : PK E s (cs.set o X ++ N) H locs) (hL : cs.length = L) (ha : N[a]? = some (.inl (E.2.2.2.2 t, n, .inr (.inr (.inr (.inr f)))))) (ht : (etys E)[t]? = some (E.2.2.2.2 t, .object C)) (hb : N[b]? = some (.inr (ci, fs))) (hc : classes[ci]? = some r) (hca : r.1 = C ∨ Cond.castable r.1 C ∈ lw_tbl) (hy : y = nI j) (hj : j < n) (hn : n < 10000) (hdg : decode M.2.1 pc = .ok (.aastore, 1))
    (kk : ∀ (H1 : Heap) (locs1 : List Loc), PK E s (cs.set o X ++ N.set a (.inl (E.2.2.2.2 t, n, .inr (.inr (.inr (.inr (va_up f j (some (eb E + (L + b)))))))))) H1 locs1 → W p l e R s m args below meth c H1 locs1 cells slots Q (F0 m (pc + 1) ls rest)) : W p l e R s m args below meth c H locs cells slots Q (F0 m pc ls (.ref (eb E + (L + b)) :: .int y :: .ref (eb E + (L + a)) :: rest)) :=
  K_aast F P (nf_n hL ha) ht (nf_n hL hb) hc hca hy hj hn hdg (fun H1 locs1 P1 => kk H1 locs1 (by rw [nf_sn hL] at P1; exact P1))
theorem T_alen {a t : Nat} {x : vp_A} {ty : FieldType} {v : Int32} (F : Fx E M p s m meth c) (P : PK E s (cs.set o X ++ N) H locs) (hL : cs.length = L) (ha : N[a]? = some (.inl (E.2.2.2.2 t, x))) (ht : (etys E)[t]? = some (E.2.2.2.2 t, ty)) (hv : Int32.ofNat x.1 = v) (hdg : decode M.2.1 pc = .ok (.arraylength, 1))
    (kk : W p l e R s m args below meth c H locs cells slots Q (F0 m (pc + 1) ls (.int v :: rest))) : W p l e R s m args below meth c H locs cells slots Q (F0 m pc ls (.ref (eb E + (L + a)) :: rest)) :=
  K_alen F P (nf_n hL ha) ht hv hdg kk
/-- a new thing's constructor -/
theorem T_call {idx d2 n mc ms j k : Nat} {M2 : MD} {stk : List Value} {D Y : va_E} {Z : List va_E} (As : List Value) (F : Fx E M p s m meth c) (P : PK E s (cs.set o X ++ N) H locs) (hL : cs.length = L) (hls : ls.size = M.2.2.1) (hN : N.length = k) (hD : N[j]? = some D) (hlk : LkI M.1.cls idx M2) (hM : Okm M2 n) (hn : As.length = n) (hst : stk = As.reverse ++ .ref (eb E + (L + j)) :: rest) (hr : (rest.map fun v => v.category).sum ≤ 8) (hc : ∀ cs2 : List va_E, cs2[L + j]? = some D → cs2.length = L + k → CK E d2 M2 (.ref (eb E + (L + j)) :: As) mc ms cs2 (cs2.set (L + j) Y ++ Z)) (hd : d2 + 1 ≤ R.frames) (hlo : 41 * (d2 + 1) ≤ R.locals) (hcc : cells + mc ≤ R.cells) (hss : slots + ms ≤ R.slots) (hdg : decode M.2.1 pc = .ok (.invokespecial idx, 3))
    (kk : ∀ (H1 : Heap) (locs1 : List Loc), PK E s (cs.set o X ++ (N.set j Y ++ Z)) H1 locs1 → W p l e R s m args below meth c H1 locs1 (cells + mc) (slots + ms) Q (F0 m (pc + 3) ls rest)) : W p l e R s m args below meth c H locs cells slots Q (F0 m pc ls stk) :=
  K_call As F P hls hlk hM hn hst hr (hc _ (nf_n hL hD) (nf_l hL hN)) hd hlo hcc hss hdg (fun H1 locs1 P1 => kk H1 locs1 (by rw [nf_sn hL, List.append_assoc] at P1; exact P1))
/-- the constructor of the class above -/
theorem T_super {idx d2 : Nat} {M2 : MD} (F : Fx E M p s m meth c) (P : PK E s cs H locs) (hls : ls.size = M.2.2.1) (hlk : LkI M.1.cls idx M2) (hM : Okm M2 0) (hc : CK E d2 M2 [.ref (eb E + o)] 0 0 cs cs) (hr : (rest.map fun v => v.category).sum ≤ 8) (hd : d2 + 1 ≤ R.frames) (hlo : 41 * (d2 + 1) ≤ R.locals) (hcc : cells ≤ R.cells) (hss : slots ≤ R.slots) (hdg : decode M.2.1 pc = .ok (.invokespecial idx, 3))
    (kk : ∀ (H1 : Heap) (locs1 : List Loc), PK E s cs H1 locs1 → W p l e R s m args below meth c H1 locs1 cells slots Q (F0 m (pc + 3) ls rest)) : W p l e R s m args below meth c H locs cells slots Q (F0 m pc ls (.ref (eb E + o) :: rest)) :=
  K_call [] F P hls hlk hM rfl rfl hr hc hd hlo hcc hss hdg kk
theorem T_fill {idx n k j : Nat} {stk : List Value} {f : Nat → Int32} {v : Int32} (F : Fx E M p s m meth c) (P : PK E s (cs.set o X ++ N) H locs) (hL : cs.length = L) (hls : ls.size = M.2.2.1) (hD : N[j]? = some (.inl (E.2.2.2.2 0, k, .inl f))) (hlk : LkS M.1.cls idx mJ7_fill_53178) (hst : stk = .int v :: .ref (eb E + (L + j)) :: rest) (hr : (rest.map fun v => v.category).sum ≤ 8) (hc : ∀ cs2 : List va_E, cs2[L + j]? = some (.inl (E.2.2.2.2 0, k, .inl f)) → CK E 0 mJ7_fill_53178 [.ref (eb E + (L + j)), .int v] 0 0 cs2 (cs2.set (L + j) (.inl (E.2.2.2.2 0, k, .inl (fun i => if i < k then v else f i))))) (hd : 1 ≤ R.frames) (hlo : 41 ≤ R.locals) (hcc : cells ≤ R.cells) (hss : slots ≤ R.slots) (hdg : decode M.2.1 pc = .ok (.invokestatic idx, 3))
    (kk : ∀ (H1 : Heap) (locs1 : List Loc), PK E s (cs.set o X ++ N.set j (.inl (E.2.2.2.2 0, k, .inl (fun i => if i < k then v else f i)))) H1 locs1 → W p l e R s m args below meth c H1 locs1 cells slots Q (F0 m (pc + 3) ls rest)) : W p l e R s m args below meth c H locs cells slots Q (F0 m pc ls stk) :=
  K_callS [.ref (eb E + (L + j)), .int v] F P hls hlk okJ7_fill_53178 rfl hst hr (hc _ (nf_n hL hD)) hd hlo hcc hss hdg (fun H1 locs1 P1 => kk H1 locs1 (by rw [nf_sn hL] at P1; exact P1))
end KT
/-! Arrays.fill, while things are made -/
section KF
variable {E : EE} {a n : Nat} {f : Nat → Int32} {v : Int32} {cs : List va_E}
theorem fl_loop {p : Program} {l : Launch} {e : Env} {R : Room} {s : State} {m : MethodId} {args : Array Value} {below : List Frame} {meth : Method} {c : Code} {cells slots : Nat} {Q : State → Prop} (F : Fx E mJ7_fill_53178 p s m meth c) (ha : a < cs.length) (hn : n < 1000)
    (kk : ∀ (H : Heap) (locs : List Loc) (ls : Array Slot), PK E s (cs.set a (.inl (E.2.2.2.2 0, n, .inl (fun j => if j < n then v else f j)))) H locs → W p l e R s m args below meth c H locs cells slots Q (F0 m 20 ls [])) :
    ∀ (k i : Nat) (H : Heap) (locs : List Loc) (ls : Array Slot), i + k = n → PK E s (cs.set a (.inl (E.2.2.2.2 0, n, .inl (fun j => if j < i then v else f j)))) H locs → lv_has ls 4 [(0, .ref (eb E + a)), (1, .int v), (2, .int (nI i)), (3, .int (nI n))] → W p l e R s m args below meth c H locs cells slots Q (F0 m 5 ls []) := by
  intro k
  induction k with
  | zero =>
    intro i H locs ls hi P hl
    refine lv_iload_n F.1 F.2.1 aJ7_fill_53178_5.1 rfl (lv_at hl 2 rfl) ?_
    refine lv_iload_n F.1 F.2.1 aJ7_fill_53178_6.1 rfl (lv_at hl 3 rfl) ?_
    refine lv_icmp_ge F.1 F.2.1 aJ7_fill_53178_7.1 aJ7_fill_53178_7.2.1 (fun _ => ?_) (fun q => absurd (by rw [nI_leI (by omega) (by omega)]; omega) q)
    have : i = n := by omega
    subst this
    exact kk H locs ls P
  | succ k ih =>
    intro i H locs ls hi P hl
    refine lv_iload_n F.1 F.2.1 aJ7_fill_53178_5.1 rfl (lv_at hl 2 rfl) ?_
    refine lv_iload_n F.1 F.2.1 aJ7_fill_53178_6.1 rfl (lv_at hl 3 rfl) ?_
    refine lv_icmp_ge F.1 F.2.1 aJ7_fill_53178_7.1 aJ7_fill_53178_7.2.1 (fun q => absurd q (by rw [nI_leI (by omega) (by omega)]; omega)) (fun _ => ?_)
    refine lv_aload_n F.1 F.2.1 aJ7_fill_53178_10.1 rfl (lv_at hl 0 rfl) ?_
    refine lv_iload_n F.1 F.2.1 aJ7_fill_53178_11.1 rfl (lv_at hl 2 rfl) ?_
    refine lv_iload_n F.1 F.2.1 aJ7_fill_53178_12.1 rfl (lv_at hl 1 rfl) ?_
    refine K_iast F P (List.getElem?_set_self ha) rfl (show i < n by omega) (by omega) aJ7_fill_53178_13.1 (fun H1 locs1 P1 => ?_)
    refine lv_iinc F.1 F.2.1 (v := nI (i + 1)) (lv' := [(2, .int (nI (i + 1))), (0, .ref (eb E + a)), (1, .int v), (3, .int (nI n))]) aJ7_fill_53178_14.1 hl (k := 2) rfl (nI_add i 1) (by decide) rfl (fun ls1 hl1 => ?_)
    refine lv_goto F.1 F.2.1 aJ7_fill_53178_17.1 aJ7_fill_53178_17.2 ?_
    refine ih (i + 1) H1 locs1 ls1 (by omega) ?_ (lv_sub hl1 [1, 2, 0, 3] rfl)
    rw [List.set_set] at P1
    have e : upd (fun j => if j < i then v else f j) i v = fun j => if j < i + 1 then v else f j := by
      funext j
      unfold upd
      by_cases h1 : j = i
      · rw [if_pos h1, if_pos (by omega)]
      · rw [if_neg h1]
        by_cases h2 : j < i
        · simp [h2, show j < i + 1 by omega]
        · simp [h2, show ¬ j < i + 1 by omega]
    rw [e] at P1
    exact P1
theorem k_fill (hn : n < 1000) (h : cs[a]? = some (.inl (E.2.2.2.2 0, n, .inl f))) : CK E 0 mJ7_fill_53178 [.ref (eb E + a), .int v] 0 0 cs (cs.set a (.inl (E.2.2.2.2 0, n, .inl (fun i => if i < n then v else f i)))) := by
  refine CK_of [(0, .ref (eb E + a)), (1, .int v)] (by decide +kernel) (by simp [lg_sl, Value.category, mJ7_fill_53178]) rfl ?_
  intro p l e s m args below meth c H locs ls F hin P hl
  refine lv_iconst F.1 F.2.1 aJ7_fill_53178_0.1 (show Int32.ofInt 0 = nI 0 by decide +kernel) ?_
  refine lv_istore_n F.1 F.2.1 (lv' := [(2, .int (nI 0)), (0, .ref (eb E + a)), (1, .int v)]) aJ7_fill_53178_1.1 rfl hl (by decide) rfl (fun ls hl => ?_)
  refine lv_aload_n F.1 F.2.1 aJ7_fill_53178_2.1 rfl (lv_at hl 1 rfl) ?_
  refine K_alen F P h (t := 0) (v := nI n) rfl rfl aJ7_fill_53178_3.1 ?_
  refine lv_istore_n F.1 F.2.1 (lv' := [(3, .int (nI n)), (2, .int (nI 0)), (0, .ref (eb E + a)), (1, .int v)]) aJ7_fill_53178_4.1 rfl hl (by decide) rfl (fun ls hl => ?_)
  refine fl_loop F (cs_lt h) hn (f := f) (fun H locs ls P => K_ret F P rfl rfl aJ7_fill_53178_20) n 0 H locs ls (by omega) ?_ (lv_sub hl [2, 3, 1, 0] rfl)
  have e : (fun j => if j < 0 then v else f j) = f := by funext j; simp
  rw [e]
  have := nf_0 h
  rw [List.append_nil] at this
  rw [← this]; exact P
end KF
