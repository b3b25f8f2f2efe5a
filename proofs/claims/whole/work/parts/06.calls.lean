section JC
variable {E : EE} {d : Nat} {M : MD} {pc pc2 tgt : Nat} {lv : List (Nat × Value)} {st : List Value} {I : IH} {Q : QT}
theorem J_r1 {v : Value} {rest : List Value} (k : J E d M pc lv (v :: rest) I Q) : J E d M pc lv ((some v).toList ++ rest) I Q := k
theorem J_r0 {rest : List Value} (k : J E d M pc lv rest I Q) : J E d M pc lv ((none : Option Value).toList ++ rest) I Q := k
theorem pw_blind {av : List Value} : FrameBlind (va_Pc av (PW E I)) := fun a U g mk h => ⟨h.1, h.2⟩
theorem pw_pre {p : Program} {s : State} {m : MethodId} {meth : Method} {c : Code} {H : Heap} {locs : List Loc} (F : Fx E M p s m meth c) (P : PH E s I H locs) (av : List Value) : ∀ U : State, U.heap = H → s.WarmedH U.vm → va_Pc av (PW E I) av.toArray U := by
  intro U hU hW
  have hb := below_of F P.2
  obtain ⟨-, -, -, -, -, -, hE, hW0, -⟩ := F
  exact ⟨rfl, hE, State.WarmedH.trans hW0 hW, by rw [hU]; exact hb, by rw [hU]; exact P.1⟩
theorem J_run {stk rest : List Value} {a : Array Value} (hp : pc + 3 = pc2)
    (hr : ∀ (p : Program) (l : Launch) (e : Env) (s : State) (m : MethodId) (args : Array Value) (below : List Frame) (meth : Method) (c : Code) (H : Heap) (locs : List Loc) (ls : Array Slot), Fx E M p s m meth c → PH E s I H locs → lv_has ls M.2.2.1 lv → va_Run p l e (rmD d) s m args below meth c H locs 0 0 0 0 (F0 m pc ls stk) rest (QQ E (fun r I2 => J E d M pc2 lv (r.toList ++ rest) I2 Q) a) (AA E)) : J E d M pc lv stk I Q := by
  subst hp
  intro p l e s m args below meth c H locs ls F P hl T hT X
  obtain ⟨v, st₀, t, T', L, h0, X', hL, e1, e2, ⟨r, I2, hv, hQ, hPW, hz⟩, hst⟩ := hr p l e s m args below meth c H locs ls F P hl T hT X
  cases hv
  have hq := F.2.2.2.2.2.2.2.2
  have hS2 : va_S (AA E) s.heap T'.heap (locs ++ L) := by
    refine ⟨?_, ?_, ?_⟩
    · rw [e1]; rw [h0] at hz; exact Nat.le_trans P.2.1 hz
    · intro q h1 h2
      have h3 : q < eb E := Nat.not_le.mp h2
      rw [e1, hPW.2.2.1 q h3, hq q h3]
    · intro q hq2
      rcases List.mem_append.mp hq2 with h | h
      · exact P.2.2.2 q h
      · exact hL q h
  obtain ⟨t2, a1, b1⟩ := hQ p l e s m args below meth c T'.heap (locs ++ L) ls F ⟨by rw [e1]; exact hPW.2.2.2, hS2⟩ hl T' rfl X'
  exact ⟨t2, hst t2 a1, b1⟩
/-- what a call asks of the method that is called -/
def Okm (M2 : MD) (n : Nat) : Prop := Cond.code M2.1 M2.2.1 M2.2.2.1 M2.2.2.2 ∈ Gw ∧ Cond.initialized M2.1.cls ∈ Gw ∧ (M2.1.cls ≠ "java/lang/invoke/MethodHandle" ∧ M2.1.cls ≠ "java/lang/invoke/VarHandle") ∧ (parseMethodDescriptor M2.1.desc).map (fun d => d.parameters.length) = some n ∧ M2.2.2.1 ≤ 22
/-- an instance method that a class's code names, and runs at an object of class C -/
def LkV (own : String) (idx : Nat) (C : String) (M2 : MD) : Prop := (Cond.methodLink own idx M2.1 ∈ Gw ∨ ∃ host : String, Cond.methodLinkNest own idx M2.1 host ∈ lw_tbl) ∧ Cond.instanceMethod M2.1 ∈ Gw ∧ Cond.selects C M2.1 M2.1 ∈ Gw
def LkS (own : String) (idx : Nat) (M2 : MD) : Prop := (Cond.methodLink own idx M2.1 ∈ Gw ∨ ∃ host : String, Cond.methodLinkNest own idx M2.1 host ∈ lw_tbl) ∧ Cond.static M2.1 ∈ Gw
/-- one that overrides, or is inherited: x is what the code names -/
def LkU (own : String) (idx : Nat) (C owner : String) (x : MethodName) (M2 : MD) : Prop := Cond.methodLink own idx x ∈ Gw ∧ Cond.sameMethod x.cls owner x.name x.desc ∈ Gw ∧ Cond.instanceMethod ⟨owner, x.name, x.desc⟩ ∈ Gw ∧ Cond.selects C x M2.1 ∈ Gw ∧ Cond.instanceMethod M2.1 ∈ Gw ∧ (∃ b0 m0 r0, Cond.code ⟨owner, x.name, x.desc⟩ b0 m0 r0 ∈ Gw) ∧ (owner ≠ "java/lang/invoke/MethodHandle" ∧ owner ≠ "java/lang/invoke/VarHandle")
def LkSU (own : String) (idx : Nat) (M2 : MD) : Prop := Cond.methodLink own idx M2.1 ∈ Gw ∧ Cond.sameMethod M2.1.cls M2.1.cls M2.1.name M2.1.desc ∈ Gw ∧ Cond.superclass own M2.1.cls ∈ Gw ∧ Cond.instanceMethod M2.1 ∈ Gw ∧ M2.1.name ≠ "<init>"
theorem room_of {M2 : MD} {n d2 : Nat} (hM : Okm M2 n) (hd : d2 + 1 ≤ d) : (rmD d2).frames + 1 ≤ (rmD d).frames ∧ 8 + (M2.2.2.1 + 11) + (rmD d2).locals ≤ (rmD d).locals := by
  obtain ⟨-, -, -, -, h⟩ := hM
  exact ⟨hd, by show 8 + (M2.2.2.1 + 11) + 41 * d2 ≤ 41 * d; omega⟩
theorem len_of {M2 : MD} {n : Nat} (hM : Okm M2 n) : ∀ sig, parseMethodDescriptor M2.1.desc = some sig → n = sig.parameters.length := by
  obtain ⟨-, -, -, h2, -⟩ := hM
  intro sig h
  rw [h] at h2
  exact (Option.some.inj h2).symm
theorem good_gw {w : Cond} (h : w ∈ Gw) : (w.onTables && w.keeps) = true ∨ ∃ ty, w = .arrayClass ty := good_of_word (List.mem_filter.mp h).2
theorem ws_of {p : Program} {s : State} {m : MethodId} {meth : Method} {c : Code} {M2 : MD} {n : Nat} (F : Fx E M p s m meth c) (hM : Okm M2 n) (args : Array Value) : ∀ w ∈ [Cond.code M2.1 M2.2.1 M2.2.2.1 M2.2.2.2], ∀ (a' : Array Value) (U : State), s.WarmedH U.vm → w.before a' U = true := by
  intro w hw a' U hW
  rw [List.mem_singleton] at hw
  subst hw
  exact word_at hW (good_gw hM.1) (hts_of F args _ hM.1)
theorem J_callV {idx ci o d2 n : Nat} {C : String} {fs : List (Option Nat)} {M2 : MD} {stk : List Value} (As rest : List Value) (h : decode M.2.1 pc = .ok (.invokevirtual idx, 3) ∧ pc + 3 = pc2) (hL : LkV M.1.cls idx C M2) (hM : Okm M2 n) (hs : shape[o]? = some (.inl (ci, fs))) (hC : (classes[ci]?).map (fun q => q.1) = some C) (hn : As.length = n) (hst : stk = As.reverse ++ .ref (eb E + o) :: rest) (hr : (rest.map fun v => v.category).sum ≤ 8) (hd : d2 + 1 ≤ d)
    (hc : Mt E d2 M2 (.ref (eb E + o) :: As) I (fun r I2 => J E d M pc2 lv (r.toList ++ rest) I2 Q)) : J E d M pc lv stk I Q := by
  subst hst
  obtain ⟨q, hq, rfl⟩ := Option.map_eq_some_iff.mp hC
  refine J_run (rest := rest) (a := (Value.ref (eb E + o) :: As).toArray) h.2 ?_
  intro p l e s m args below meth c H locs ls F P hl
  have hts := hts_of F args
  have hpre : PreV s H q.1 (eb E + o) (va_Pc (.ref (eb E + o) :: As) (PW E I)) As := ⟨pw_blind, va_recv (hK_of F) P.1 hq (wd_at E I hs), pw_pre F P _⟩
  obtain ⟨hl1, hl2, hl3⟩ := hL
  obtain ⟨r1, r2⟩ := room_of hM hd
  rcases hl1 with hw | ⟨host, hw⟩
  · exact va_runV (Ts := Gw) (own := M.1.cls) (n := n) (C := q.1) ⟨F.1, F.2.1, F.2.2.1, own_of F, hts⟩ (hc l) ⟨⟨rfl, rfl, r1, r2, ws_of F hM args, List.mem_singleton.mpr rfl, hts _ hM.1, hts _ hM.2.1, hM.2.2.1, len_of hM, hts _ hw⟩, hts _ hl2, hts _ hl3⟩ hpre rfl hn hl.1 rfl (lv_room hr) h.1 ⟨Nat.le_refl 0, Nat.le_refl 0⟩
  · exact va_runVN (Ts := Gw) (own := M.1.cls) (n := n) (C := q.1) ⟨F.1, F.2.1, F.2.2.1, own_of F, hts⟩ (hc l) ⟨⟨⟨rfl, rfl, r1, r2, ws_of F hM args, List.mem_singleton.mpr rfl⟩, hts _ hM.1, hts _ hM.2.1, hM.2.2.1, len_of hM, nestM_of F hw args⟩, hts _ hl2, hts _ hl3⟩ hpre rfl hn hl.1 rfl (lv_room hr) h.1 ⟨Nat.le_refl 0, Nat.le_refl 0⟩
theorem J_callS {idx d2 n : Nat} {M2 : MD} {stk : List Value} (As rest : List Value) (h : decode M.2.1 pc = .ok (.invokestatic idx, 3) ∧ pc + 3 = pc2) (hL : LkS M.1.cls idx M2) (hM : Okm M2 n) (hn : As.length = n) (hst : stk = As.reverse ++ rest) (hr : (rest.map fun v => v.category).sum ≤ 8) (hd : d2 + 1 ≤ d)
    (hc : Mt E d2 M2 As I (fun r I2 => J E d M pc2 lv (r.toList ++ rest) I2 Q)) : J E d M pc lv stk I Q := by
  subst hst
  refine J_run (rest := rest) (a := As.toArray) h.2 ?_
  intro p l e s m args below meth c H locs ls F P hl
  have hts := hts_of F args
  have hpre : PreS s H (va_Pc As (PW E I)) As := ⟨pw_blind, pw_pre F P _⟩
  obtain ⟨hl1, hl2⟩ := hL
  obtain ⟨r1, r2⟩ := room_of hM hd
  rcases hl1 with hw | ⟨host, hw⟩
  · exact va_runS (Ts := Gw) (own := M.1.cls) (n := n) ⟨F.1, F.2.1, F.2.2.1, own_of F, hts⟩ (hc l) ⟨⟨rfl, rfl, r1, r2, ws_of F hM args, List.mem_singleton.mpr rfl, hts _ hM.1, hts _ hM.2.1, hM.2.2.1, len_of hM, hts _ hw⟩, hts _ hl2⟩ hpre rfl hn hl.1 rfl (lv_room hr) h.1 ⟨Nat.le_refl 0, Nat.le_refl 0⟩
  · exact va_runSN (Ts := Gw) (own := M.1.cls) (n := n) ⟨F.1, F.2.1, F.2.2.1, own_of F, hts⟩ (hc l) ⟨⟨⟨rfl, rfl, r1, r2, ws_of F hM args, List.mem_singleton.mpr rfl⟩, hts _ hM.1, hts _ hM.2.1, hM.2.2.1, len_of hM, nestM_of F hw args⟩, hts _ hl2, trivial⟩ hpre rfl hn hl.1 rfl (lv_room hr) h.1 ⟨Nat.le_refl 0, Nat.le_refl 0⟩
theorem J_callU {idx ci o d2 n : Nat} {C owner : String} {x : MethodName} {fs : List (Option Nat)} {M2 : MD} {stk : List Value} (As rest : List Value) (h : decode M.2.1 pc = .ok (.invokevirtual idx, 3) ∧ pc + 3 = pc2) (hL : LkU M.1.cls idx C owner x M2) (hM : Okm M2 n) (hx : x.desc = M2.1.desc) (hs : shape[o]? = some (.inl (ci, fs))) (hC : (classes[ci]?).map (fun q => q.1) = some C) (hn : As.length = n) (hst : stk = As.reverse ++ .ref (eb E + o) :: rest) (hr : (rest.map fun v => v.category).sum ≤ 8) (hd : d2 + 1 ≤ d)
    (hc : Mt E d2 M2 (.ref (eb E + o) :: As) I (fun r I2 => J E d M pc2 lv (r.toList ++ rest) I2 Q)) : J E d M pc lv stk I Q := by
  subst hst
  obtain ⟨q, hq, rfl⟩ := Option.map_eq_some_iff.mp hC
  refine J_run (rest := rest) (a := (Value.ref (eb E + o) :: As).toArray) h.2 ?_
  intro p l e s m args below meth c H locs ls F P hl
  have hts := hts_of F args
  have hpre : PreV s H q.1 (eb E + o) (va_Pc (.ref (eb E + o) :: As) (PW E I)) As := ⟨pw_blind, va_recv (hK_of F) P.1 hq (wd_at E I hs), pw_pre F P _⟩
  obtain ⟨l1, l2, l3, l4, l5, ⟨b0, m0, r0, l6⟩, l7⟩ := hL
  obtain ⟨r1, r2⟩ := room_of hM hd
  exact va_runU (Ts := Gw) (own := M.1.cls) (n := n) (C := q.1) (owner := owner) (x := x) ⟨F.1, F.2.1, F.2.2.1, own_of F, hts⟩ (hc l) ⟨⟨rfl, rfl, r1, r2, ws_of F hM args, List.mem_singleton.mpr rfl⟩, hts _ hM.1, hts _ hM.2.1, l7, by rw [hx]; exact len_of hM, hts _ l1, hts _ l2, va_Decl.of (hts _ l3) (hts _ l6), hts _ l4, hts _ l5⟩ hpre rfl hn hl.1 rfl (lv_room hr) h.1 ⟨Nat.le_refl 0, Nat.le_refl 0⟩
theorem J_callSU {idx ci o d2 n : Nat} {fs : List (Option Nat)} {M2 : MD} {stk : List Value} (As rest : List Value) (h : decode M.2.1 pc = .ok (.invokespecial idx, 3) ∧ pc + 3 = pc2) (hL : LkSU M.1.cls idx M2) (hM : Okm M2 n) (hs : shape[o]? = some (.inl (ci, fs))) (hC : ci < 13) (hn : As.length = n) (hst : stk = As.reverse ++ .ref (eb E + o) :: rest) (hr : (rest.map fun v => v.category).sum ≤ 8) (hd : d2 + 1 ≤ d)
    (hc : Mt E d2 M2 (.ref (eb E + o) :: As) I (fun r I2 => J E d M pc2 lv (r.toList ++ rest) I2 Q)) : J E d M pc lv stk I Q := by
  subst hst
  obtain ⟨q, hq⟩ : ∃ q, classes[ci]? = some q := ⟨classes[ci]'hC, List.getElem?_eq_getElem hC⟩
  refine J_run (rest := rest) (a := (Value.ref (eb E + o) :: As).toArray) h.2 ?_
  intro p l e s m args below meth c H locs ls F P hl
  have hts := hts_of F args
  have hpre : PreV s H q.1 (eb E + o) (va_Pc (.ref (eb E + o) :: As) (PW E I)) As := ⟨pw_blind, va_recv (hK_of F) P.1 hq (wd_at E I hs), pw_pre F P _⟩
  obtain ⟨l1, l2, l3, l4, l5⟩ := hL
  obtain ⟨r1, r2⟩ := room_of hM hd
  exact va_runSU (Ts := Gw) (own := M.1.cls) (n := n) (C := q.1) (((hK_of F).1 ci q hq).2) ⟨F.1, F.2.1, F.2.2.1, own_of F, hts⟩ (hc l) ⟨⟨rfl, rfl, r1, r2, ws_of F hM args, List.mem_singleton.mpr rfl⟩, hts _ l1, hts _ l2, hts _ l3, hts _ l4, hts _ hM.2.1, hts _ hM.1, l5, len_of hM⟩ hpre rfl hn hl.1 rfl (lv_room hr) h.1 ⟨Nat.le_refl 0, Nat.le_refl 0⟩
theorem J_max {idx : Nat} {x y : Int32} (h : decode M.2.1 pc = .ok (.invokestatic idx, 3) ∧ pc + 3 = pc2) (hw : Cond.methodLink M.1.cls idx Lib.Math.max.name ∈ Gw) (h1 : Cond.static Lib.Math.max.name ∈ Gw) (h2 : Cond.initialized "java/lang/Math" ∈ Gw) (h3 : Cond.code Lib.Math.max.name Lib.Math.max.code 2 (some .int) ∈ Gw) (hd : 1 ≤ d) (hr : (st.map fun v => v.category).sum ≤ 8) (k : J E d M pc2 lv (.int (if x < y then y else x) :: st) I Q) : J E d M pc lv (.int y :: .int x :: st) I Q := by
  obtain ⟨h, rfl⟩ := h
  intro p l e s m args below meth c H locs ls F P hl
  have hts := hts_of F args
  exact va_mmax F.1 F.2.1 (F.2.2.1.trans hl.1.symm) (own_of F) (hts _ hw) (hts _ h1) (hts _ h2) (hts _ h3) hd (by show _ ≤ 41 * d; omega) (Nat.zero_le _) (Nat.zero_le _) h (k p l e s m args below meth c H locs ls F P hl)
theorem J_min {idx : Nat} {x y : Int32} (h : decode M.2.1 pc = .ok (.invokestatic idx, 3) ∧ pc + 3 = pc2) (hw : Cond.methodLink M.1.cls idx Lib.Math.min.name ∈ Gw) (h1 : Cond.static Lib.Math.min.name ∈ Gw) (h2 : Cond.initialized "java/lang/Math" ∈ Gw) (h3 : Cond.code Lib.Math.min.name Lib.Math.min.code 2 (some .int) ∈ Gw) (hd : 1 ≤ d) (hr : (st.map fun v => v.category).sum ≤ 8) (k : J E d M pc2 lv (.int (if y < x then y else x) :: st) I Q) : J E d M pc lv (.int y :: .int x :: st) I Q := by
  obtain ⟨h, rfl⟩ := h
  intro p l e s m args below meth c H locs ls F P hl
  have hts := hts_of F args
  exact va_mmin F.1 F.2.1 (F.2.2.1.trans hl.1.symm) (own_of F) (hts _ hw) (hts _ h1) (hts _ h2) (hts _ h3) hd (by show _ ≤ 41 * d; omega) (Nat.zero_le _) (Nat.zero_le _) h (k p l e s m args below meth c H locs ls F P hl)
/-- System.arraycopy between two int arrays -/
theorem J_copy {idx a0 a1 n0 n1 : Nat} {r0 r1 : List Nat} {sp dp n : Int32} (sN dN nN : Nat) (h : decode M.2.1 pc = .ok (.invokestatic idx, 3) ∧ pc + 3 = pc2) (hw : Cond.methodLink M.1.cls idx arraycopyName ∈ Gw) (h1 : Cond.native arraycopyName ∈ Gw) (h2 : Cond.static arraycopyName ∈ Gw) (h3 : Cond.initialized "java/lang/System" ∈ Gw) (hs0 : shape[a0]? = some (.inr (0, n0, r0))) (hs1 : shape[a1]? = some (.inr (0, n1, r1))) (e1 : sp = nI sN) (e2 : dp = nI dN) (e3 : n = nI nN) (b1 : sN + nN ≤ n0) (b2 : dN + nN ≤ n1) (b3 : n0 < 2 ^ 30) (b4 : n1 < 2 ^ 30) (hd : 2 ≤ d) (hr : (st.map fun v => v.category).sum ≤ 8)
    (kk : ∀ I2 : IH, I2 = stA I a1 (va_cpy (I a0) (I a1) sN dN nN) → J E d M pc2 lv st I2 Q) : J E d M pc lv (.int n :: .int dp :: .ref (eb E + a1) :: .int sp :: .ref (eb E + a0) :: st) I Q := by
  obtain ⟨h, rfl⟩ := h
  subst e1; subst e2; subst e3
  intro p l e s m args below meth c H locs ls F P hl
  have hts := hts_of F args
  have c1 : (nI sN).toNatClampNeg = sN := nI_clamp (by omega)
  have c2 : (nI dN).toNatClampNeg = dN := nI_clamp (by omega)
  have c3 : (nI nN).toNatClampNeg = nN := nI_clamp (by omega)
  have p1 : ¬ nI sN < 0 := nI_pos (by omega)
  have p2 : ¬ nI dN < 0 := nI_pos (by omega)
  have p3 : ¬ nI nN < 0 := nI_pos (by omega)
  have q1 : (nI sN).toNatClampNeg + (nI nN).toNatClampNeg ≤ n0 := by rw [c1, c3]; exact b1
  have q2 : (nI dN).toNatClampNeg + (nI nN).toNatClampNeg ≤ n1 := by rw [c2, c3]; exact b2
  have q3 : nativeFrameWords "java/lang/System" "arraycopy" 5 + 11 ≤ 60 := by decide +kernel
  have q4 : (st.map fun v => v.category).sum + (nativeFrameWords "java/lang/System" "arraycopy" 5 + 11) ≤ (rmD d).locals := by
    show _ ≤ 41 * d
    omega
  have q5 : 1 ≤ (rmD d).frames := by
    show 1 ≤ d
    omega
  refine va_copyi F.1 F.2.1 (F.2.2.1.trans hl.1.symm) (own_of F) (hts _ hw) (hts _ h1) (hts _ h2) (hts _ h3) (hK_of F) P.1 (wd_D E I) P.2 a0 a1 0 0 (c0 := E.2.2.2.2 0) (c1 := E.2.2.2.2 0) (n0 := n0) (n1 := n1) (f := I a0) (g := I a1) (ty := .int) (wd_at E I hs0) (wd_at E I hs1) rfl rfl rfl p1 p2 p3 q1 q2 (fun _ _ => rfl) q5 q4 h ?_
  intro H1 locs1 hP hD hS
  have hset := wd_stA (E := E) (I := I) (f := va_cpy (I a0) (I a1) sN dN nN) hs1 (e := .inl (E.2.2.2.2 0, n1, .inl (va_cpy (I a0) (I a1) sN dN nN))) rfl
  rw [c1, c2, c3, hset] at hP
  exact kk _ rfl p l e s m args below meth c H1 locs1 ls F ⟨hP, hS⟩ hl
end JC
