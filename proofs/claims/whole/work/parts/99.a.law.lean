/-! the law -/
def R_law : String := "PaneScenesLaw"
def lw_P (b : Addr) (xs : List Int32) (args : Array Value) (s : State) : Prop := args = #[.ref b] ∧ s.IntsAt b xs ∧ xs.length ≤ 2560 ∧ (Jvm.Cond.and given_1 narrow_1).before args s = true
def lw_Q (_ : Array Value) (s : State) (o : Outcome) (t : State) : Prop := o = .returned (some (.int 1)) ∧ Framed s o t [] 600000 7302249
def lw_Z (below : List Frame) (a : Array Value) (s : State) : State → Prop := fun t => ∃ o, t.status = .running ∧ Ended t below o ∧ lw_Q a s o t
/-- the law's own end, with 1 on the stack, nothing written that was there before, its room as the claim has it -/
theorem lw_ret {p : Program} {l : Launch} {e : Env} {s : State} {m : MethodId} {below : List Frame} {meth : Method} {c : Code} {b : Nat} (hx : p.tables.exec = Jvm.exec) (hb : c.code = code) (hr : meth.sig.returnType = ret) (hlocks : meth.locks = false) {pc : Nat} {H : Heap} {ls : Array Slot} (hdg : decode code pc = .ok (.ireturn, 1)) : W p l e room_1 s m #[Value.ref b] below meth c H [] 600000 7302249 (lw_Z below #[Value.ref b] s) (F0 m pc ls [.int 1]) := by
  intro T hT X
  obtain ⟨fs, hret, hrun, hended, hW, hframe⟩ := X.leave (v := some (.int 1)) (hlocks := hlocks) (fun h => by rw [hr] at h; cases h)
  have hmeth' : T.vm.method? m = some meth := X.method'
  refine ⟨T.setFrames fs, ?_, .returned (some (.int 1)), hrun, hended, rfl, ⟨_, rfl⟩, hW, hframe⟩
  jvm_step X.here [X.here.top, hx, hb, hdg, hmeth', hr, ret, narrow_b1]
  (try refine ⟨rfl, ?_⟩); (try refine ⟨rfl, ?_⟩)
  first | (intro acts; rw [hret _ acts rfl rfl rfl]) | rw [hret _ _ rfl rfl rfl]
  exact Steps.refl _
/-- what holds at the law's entry: the machine, the code, the tables' words (any of lw_tbl by 'hts w (by decide +kernel)'), the script of L ints xs at the cell b, what the Statement gives of the start (any of its parts by flat_of_before) -/
def lw_At (p : Program) (s : State) (m : MethodId) (meth : Method) (c : Code) (b L : Nat) (xs : Nat → Int32) : Prop :=
  p.tables.exec = Jvm.exec ∧ c.code = code ∧ meth.sig.returnType = ret ∧ c.maxLocals = 4 ∧ s.vm.findClass R_law = some m.cls ∧ (∀ w ∈ lw_tbl, w.before #[Value.ref b] s = true) ∧ va_X b L xs s s.heap ∧ b < s.heap.size ∧ meth.locks = false ∧ (Jvm.Cond.and given_1 narrow_1).before #[Value.ref b] s = true
def mLw : MD := (x, code, 4, ret)
section LW
variable {E : EE} {p : Program} {l : Launch} {e : Env} {s : State} {m : MethodId} {below : List Frame} {meth : Method} {c : Code} {b L : Nat} {xs : Nat → Int32} {H : Heap} {locs : List Loc} {cells slots pc : Nat} {ls : Array Slot} {rest : List Value} {I : IH} {i : Nat}
/-- the script stands below all that the law makes -/
def LwX (E : EE) (b L : Nat) (xs : Nat → Int32) (s : State) : Prop := s.heap.size = eb E ∧ va_X b L xs s s.heap ∧ b < s.heap.size ∧ L ≤ 2560
theorem LwX.na (X : LwX E b L xs s) : ¬ AA E b := fun h => absurd X.2.2.1 (by have := X.1; omega)
def argAt (pc : Nat) (k : Int) : Prop := decode mLw.2.1 pc = .ok (.aload_n 0, 1) ∧ decode mLw.2.1 (pc + 1) = .ok (.iload_n 3, 1) ∧ decode mLw.2.1 (pc + 2) = .ok (.iconst k, 1) ∧ decode mLw.2.1 (pc + 3) = .ok (.iadd, 1) ∧ decode mLw.2.1 (pc + 4) = .ok (.iaload, 1)
theorem L_ld {j : Nat} (F : Fx E mLw p s m meth c) (X : LwX E b L xs s) (P : PH E s I H locs) (hj : j < L) (hdg : decode mLw.2.1 pc = .ok (.iaload, 1)) (kk : W p l e room_1 s m #[Value.ref b] below meth c H locs cells slots (lw_Z below #[Value.ref b] s) (F0 m (pc + 1) ls (.int (xs j) :: rest))) : W p l e room_1 s m #[Value.ref b] below meth c H locs cells slots (lw_Z below #[Value.ref b] s) (F0 m pc ls (.int (nI j) :: .ref b :: rest)) := by
  have hc : (nI j).toNatClampNeg = j := nI_clamp (by have := X.2.2.2; omega)
  refine va_sld F.1 F.2.1 X.2.1 X.2.2.1 X.na P.2 (vp_in_nI hj (by have := X.2.2.2; omega)) hdg ?_
  rw [hc]; exact kk
/-- one int of the script -/
theorem L_arg {k : Nat} {kz : Int} (F : Fx E mLw p s m meth c) (X : LwX E b L xs s) (P : PH E s I H locs) (hl : lv_has ls 4 [(0, .ref b), (1, .ref (eb E + 0)), (2, .ref (eb E + 115)), (3, .int (nI i))]) (hv : Int32.ofInt kz = nI k) (hk : i + k < L) (h : argAt pc kz) (kk : W p l e room_1 s m #[Value.ref b] below meth c H locs cells slots (lw_Z below #[Value.ref b] s) (F0 m (pc + 5) ls (.int (xs (i + k)) :: rest))) : W p l e room_1 s m #[Value.ref b] below meth c H locs cells slots (lw_Z below #[Value.ref b] s) (F0 m pc ls rest) := by
  refine lv_aload_n F.1 F.2.1 h.1 rfl (lv_at hl 0 rfl) ?_
  refine lv_iload_n F.1 F.2.1 h.2.1 rfl (lv_at hl 3 rfl) ?_
  refine lv_iconst F.1 F.2.1 h.2.2.1 hv ?_
  refine lv_iadd F.1 F.2.1 h.2.2.2.1 ?_
  rw [nI_add]
  exact L_ld F X P hk h.2.2.2.2 kk
/-- a call at the class or at the reference -/
theorem L_callV {idx ci o d2 n : Nat} {C : String} {fs : List (Option Nat)} {M2 : MD} {stk : List Value} {v : Int32} {P2 : IH → Prop} (As rest : List Value) (F : Fx E mLw p s m meth c) (P : PH E s I H locs) (hls : ls.size = 4) (hL : LkV mLw.1.cls idx C M2) (hM : Okm M2 n) (hs : shape[o]? = some (.inl (ci, fs))) (hC : (classes[ci]?).map (fun q => q.1) = some C) (hn : As.length = n) (hst : stk = As.reverse ++ .ref (eb E + o) :: rest) (hr : (rest.map fun v => v.category).sum ≤ 8) (hd : d2 ≤ 100) (hce : cells ≤ 600000) (hsl : slots ≤ 7302249)
    (hc : ∀ Q : QT, (∀ I1, P2 I1 → Q (some (.int v)) I1) → Mt E d2 M2 (.ref (eb E + o) :: As) I Q) (hdg : decode mLw.2.1 pc = .ok (.invokevirtual idx, 3))
    (kk : ∀ (I2 : IH) (H1 : Heap) (locs1 : List Loc), P2 I2 → PH E s I2 H1 locs1 → W p l e room_1 s m #[Value.ref b] below meth c H1 locs1 cells slots (lw_Z below #[Value.ref b] s) (F0 m (pc + 3) ls (.int v :: rest))) : W p l e room_1 s m #[Value.ref b] below meth c H locs cells slots (lw_Z below #[Value.ref b] s) (F0 m pc ls stk) := by
  subst hst
  obtain ⟨q, hq, rfl⟩ := Option.map_eq_some_iff.mp hC
  have hts := hts_of F #[Value.ref b]
  have hpre : PreV s H q.1 (eb E + o) (va_Pc (.ref (eb E + o) :: As) (PW E I)) As := ⟨pw_blind, va_recv (hK_of F) P.1 hq (wd_at E I hs), pw_pre F P _⟩
  obtain ⟨hl1, hl2, hl3⟩ := hL
  have r1 : (rmD d2).frames + 1 ≤ room_1.frames := by show d2 + 1 ≤ 2048; omega
  have r2 : 8 + (M2.2.2.1 + 11) + (rmD d2).locals ≤ room_1.locals := by have := hM.2.2.2.2; show 8 + (M2.2.2.1 + 11) + 41 * d2 ≤ 84000; omega
  have hcQ := hc (fun r I2 => r = some (.int v) ∧ P2 I2) (fun I1 h => ⟨rfl, h⟩)
  have hrun : va_Run p l e room_1 s m #[Value.ref b] below meth c H locs cells slots 0 0 (F0 m pc ls (As.reverse ++ .ref (eb E + o) :: rest)) rest (QQ E (fun r I2 => r = some (.int v) ∧ P2 I2) (Value.ref (eb E + o) :: As).toArray) (AA E) := by
    rcases hl1 with hw | ⟨host, hw⟩
    · exact va_runV (Ts := Gw) (own := mLw.1.cls) (n := n) (C := q.1) ⟨F.1, F.2.1, F.2.2.1, own_of F, hts⟩ (hcQ l) ⟨⟨rfl, rfl, r1, r2, ws_of F hM #[Value.ref b], List.mem_singleton.mpr rfl, hts _ hM.1, hts _ hM.2.1, hM.2.2.1, len_of hM, hts _ hw⟩, hts _ hl2, hts _ hl3⟩ hpre rfl hn hls rfl (lv_room hr) hdg ⟨hce, hsl⟩
    · exact va_runVN (Ts := Gw) (own := mLw.1.cls) (n := n) (C := q.1) ⟨F.1, F.2.1, F.2.2.1, own_of F, hts⟩ (hcQ l) ⟨⟨⟨rfl, rfl, r1, r2, ws_of F hM #[Value.ref b], List.mem_singleton.mpr rfl⟩, hts _ hM.1, hts _ hM.2.1, hM.2.2.1, len_of hM, nestM_of F hw #[Value.ref b]⟩, hts _ hl2, hts _ hl3⟩ hpre rfl hn hls rfl (lv_room hr) hdg ⟨hce, hsl⟩
  intro T hT X
  obtain ⟨w, st₀, t, T', Lc, h0, X', hLc, e1, e2, ⟨r, I2, hv, hQ, hPW, hz⟩, hst⟩ := hrun T hT X
  cases hv
  obtain ⟨rfl, hP2⟩ := hQ
  have hq2 := F.2.2.2.2.2.2.2.2
  have hS2 : va_S (AA E) s.heap T'.heap (locs ++ Lc) := by
    refine ⟨?_, ?_, ?_⟩
    · rw [e1]; rw [h0] at hz; exact Nat.le_trans P.2.1 hz
    · intro q h1 h2
      have h3 : q < eb E := Nat.not_le.mp h2
      rw [e1, hPW.2.2.1 q h3, hq2 q h3]
    · intro q hq3
      rcases List.mem_append.mp hq3 with h | h
      · exact P.2.2.2 q h
      · exact hLc q h
  obtain ⟨t2, a1, b1⟩ := kk I2 T'.heap (locs ++ Lc) hP2 ⟨by rw [e1]; exact hPW.2.2.2, hS2⟩ T' rfl X'
  exact ⟨t2, hst t2 a1, b1⟩
end LW
