section JB
variable {E : EE} {d : Nat} {M : MD} {pc pc2 tgt : Nat} {lv lv2 : List (Nat × Value)} {st : List Value} {I : IH} {Q : QT}
theorem J_if_eq {x : Int32} {off : Int} (h : decode M.2.1 pc = .ok (.ifCond .eq off, 3) ∧ (pc : Int) + off = (tgt : Int) ∧ pc + 3 = pc2) (kt : x = 0 → J E d M tgt lv st I Q) (kf : ¬ x = 0 → J E d M pc2 lv st I Q) : J E d M pc lv (.int x :: st) I Q := by
  obtain ⟨h, ht, rfl⟩ := h
  intro p l e s m args below meth c H locs ls F P hl
  exact lv_if_eq F.1 F.2.1 h ht (fun q => kt q p l e s m args below meth c H locs ls F P hl) (fun q => kf q p l e s m args below meth c H locs ls F P hl)
theorem J_if_ne {x : Int32} {off : Int} (h : decode M.2.1 pc = .ok (.ifCond .ne off, 3) ∧ (pc : Int) + off = (tgt : Int) ∧ pc + 3 = pc2) (kt : ¬ x = 0 → J E d M tgt lv st I Q) (kf : x = 0 → J E d M pc2 lv st I Q) : J E d M pc lv (.int x :: st) I Q := by
  obtain ⟨h, ht, rfl⟩ := h
  intro p l e s m args below meth c H locs ls F P hl
  exact lv_if_ne F.1 F.2.1 h ht (fun q => kt q p l e s m args below meth c H locs ls F P hl) (fun q => kf q p l e s m args below meth c H locs ls F P hl)
theorem J_if_lt {x : Int32} {off : Int} (h : decode M.2.1 pc = .ok (.ifCond .lt off, 3) ∧ (pc : Int) + off = (tgt : Int) ∧ pc + 3 = pc2) (kt : x < 0 → J E d M tgt lv st I Q) (kf : ¬ x < 0 → J E d M pc2 lv st I Q) : J E d M pc lv (.int x :: st) I Q := by
  obtain ⟨h, ht, rfl⟩ := h
  intro p l e s m args below meth c H locs ls F P hl
  exact lv_if_lt F.1 F.2.1 h ht (fun q => kt q p l e s m args below meth c H locs ls F P hl) (fun q => kf q p l e s m args below meth c H locs ls F P hl)
theorem J_if_ge {x : Int32} {off : Int} (h : decode M.2.1 pc = .ok (.ifCond .ge off, 3) ∧ (pc : Int) + off = (tgt : Int) ∧ pc + 3 = pc2) (kt : 0 ≤ x → J E d M tgt lv st I Q) (kf : ¬ 0 ≤ x → J E d M pc2 lv st I Q) : J E d M pc lv (.int x :: st) I Q := by
  obtain ⟨h, ht, rfl⟩ := h
  intro p l e s m args below meth c H locs ls F P hl
  exact lv_if_ge F.1 F.2.1 h ht (fun q => kt q p l e s m args below meth c H locs ls F P hl) (fun q => kf q p l e s m args below meth c H locs ls F P hl)
theorem J_if_gt {x : Int32} {off : Int} (h : decode M.2.1 pc = .ok (.ifCond .gt off, 3) ∧ (pc : Int) + off = (tgt : Int) ∧ pc + 3 = pc2) (kt : 0 < x → J E d M tgt lv st I Q) (kf : ¬ 0 < x → J E d M pc2 lv st I Q) : J E d M pc lv (.int x :: st) I Q := by
  obtain ⟨h, ht, rfl⟩ := h
  intro p l e s m args below meth c H locs ls F P hl
  exact lv_if_gt F.1 F.2.1 h ht (fun q => kt q p l e s m args below meth c H locs ls F P hl) (fun q => kf q p l e s m args below meth c H locs ls F P hl)
theorem J_if_le {x : Int32} {off : Int} (h : decode M.2.1 pc = .ok (.ifCond .le off, 3) ∧ (pc : Int) + off = (tgt : Int) ∧ pc + 3 = pc2) (kt : x ≤ 0 → J E d M tgt lv st I Q) (kf : ¬ x ≤ 0 → J E d M pc2 lv st I Q) : J E d M pc lv (.int x :: st) I Q := by
  obtain ⟨h, ht, rfl⟩ := h
  intro p l e s m args below meth c H locs ls F P hl
  exact lv_if_le F.1 F.2.1 h ht (fun q => kt q p l e s m args below meth c H locs ls F P hl) (fun q => kf q p l e s m args below meth c H locs ls F P hl)
theorem J_icmp_eq {x y : Int32} {off : Int} (h : decode M.2.1 pc = .ok (.if_icmp .eq off, 3) ∧ (pc : Int) + off = (tgt : Int) ∧ pc + 3 = pc2) (kt : x = y → J E d M tgt lv st I Q) (kf : ¬ x = y → J E d M pc2 lv st I Q) : J E d M pc lv (.int y :: .int x :: st) I Q := by
  obtain ⟨h, ht, rfl⟩ := h
  intro p l e s m args below meth c H locs ls F P hl
  exact lv_icmp_eq F.1 F.2.1 h ht (fun q => kt q p l e s m args below meth c H locs ls F P hl) (fun q => kf q p l e s m args below meth c H locs ls F P hl)
theorem J_icmp_ne {x y : Int32} {off : Int} (h : decode M.2.1 pc = .ok (.if_icmp .ne off, 3) ∧ (pc : Int) + off = (tgt : Int) ∧ pc + 3 = pc2) (kt : ¬ x = y → J E d M tgt lv st I Q) (kf : x = y → J E d M pc2 lv st I Q) : J E d M pc lv (.int y :: .int x :: st) I Q := by
  obtain ⟨h, ht, rfl⟩ := h
  intro p l e s m args below meth c H locs ls F P hl
  exact lv_icmp_ne F.1 F.2.1 h ht (fun q => kt q p l e s m args below meth c H locs ls F P hl) (fun q => kf q p l e s m args below meth c H locs ls F P hl)
theorem J_icmp_lt {x y : Int32} {off : Int} (h : decode M.2.1 pc = .ok (.if_icmp .lt off, 3) ∧ (pc : Int) + off = (tgt : Int) ∧ pc + 3 = pc2) (kt : x < y → J E d M tgt lv st I Q) (kf : ¬ x < y → J E d M pc2 lv st I Q) : J E d M pc lv (.int y :: .int x :: st) I Q := by
  obtain ⟨h, ht, rfl⟩ := h
  intro p l e s m args below meth c H locs ls F P hl
  exact lv_icmp_lt F.1 F.2.1 h ht (fun q => kt q p l e s m args below meth c H locs ls F P hl) (fun q => kf q p l e s m args below meth c H locs ls F P hl)
theorem J_icmp_ge {x y : Int32} {off : Int} (h : decode M.2.1 pc = .ok (.if_icmp .ge off, 3) ∧ (pc : Int) + off = (tgt : Int) ∧ pc + 3 = pc2) (kt : y ≤ x → J E d M tgt lv st I Q) (kf : ¬ y ≤ x → J E d M pc2 lv st I Q) : J E d M pc lv (.int y :: .int x :: st) I Q := by
  obtain ⟨h, ht, rfl⟩ := h
  intro p l e s m args below meth c H locs ls F P hl
  exact lv_icmp_ge F.1 F.2.1 h ht (fun q => kt q p l e s m args below meth c H locs ls F P hl) (fun q => kf q p l e s m args below meth c H locs ls F P hl)
theorem J_icmp_gt {x y : Int32} {off : Int} (h : decode M.2.1 pc = .ok (.if_icmp .gt off, 3) ∧ (pc : Int) + off = (tgt : Int) ∧ pc + 3 = pc2) (kt : y < x → J E d M tgt lv st I Q) (kf : ¬ y < x → J E d M pc2 lv st I Q) : J E d M pc lv (.int y :: .int x :: st) I Q := by
  obtain ⟨h, ht, rfl⟩ := h
  intro p l e s m args below meth c H locs ls F P hl
  exact lv_icmp_gt F.1 F.2.1 h ht (fun q => kt q p l e s m args below meth c H locs ls F P hl) (fun q => kf q p l e s m args below meth c H locs ls F P hl)
theorem J_icmp_le {x y : Int32} {off : Int} (h : decode M.2.1 pc = .ok (.if_icmp .le off, 3) ∧ (pc : Int) + off = (tgt : Int) ∧ pc + 3 = pc2) (kt : x ≤ y → J E d M tgt lv st I Q) (kf : ¬ x ≤ y → J E d M pc2 lv st I Q) : J E d M pc lv (.int y :: .int x :: st) I Q := by
  obtain ⟨h, ht, rfl⟩ := h
  intro p l e s m args below meth c H locs ls F P hl
  exact lv_icmp_le F.1 F.2.1 h ht (fun q => kt q p l e s m args below meth c H locs ls F P hl) (fun q => kf q p l e s m args below meth c H locs ls F P hl)
theorem J_i2l {x : Int32} (h : decode M.2.1 pc = .ok (.i2l, 1) ∧ pc + 1 = pc2) (k : J E d M pc2 lv (.long x.toInt64 :: st) I Q) : J E d M pc lv (.int x :: st) I Q := by
  obtain ⟨h, rfl⟩ := h
  intro p l e s m args below meth c H locs ls F P hl
  exact lv_i2l F.1 F.2.1 h rfl (k p l e s m args below meth c H locs ls F P hl)
theorem J_l2i {x : Int64} (h : decode M.2.1 pc = .ok (.l2i, 1) ∧ pc + 1 = pc2) (k : J E d M pc2 lv (.int x.toInt32 :: st) I Q) : J E d M pc lv (.long x :: st) I Q := by
  obtain ⟨h, rfl⟩ := h
  intro p l e s m args below meth c H locs ls F P hl
  exact lv_l2i F.1 F.2.1 h rfl (k p l e s m args below meth c H locs ls F P hl)
theorem J_i2c {x : Int32} (h : decode M.2.1 pc = .ok (.i2c, 1) ∧ pc + 1 = pc2) (k : J E d M pc2 lv (.int (x.toUInt32 % 65536).toInt32 :: st) I Q) : J E d M pc lv (.int x :: st) I Q := by
  obtain ⟨h, rfl⟩ := h
  intro p l e s m args below meth c H locs ls F P hl
  exact lv_i2c F.1 F.2.1 h rfl (k p l e s m args below meth c H locs ls F P hl)
theorem J_land {x y : Int64} (h : decode M.2.1 pc = .ok (.land, 1) ∧ pc + 1 = pc2) (k : J E d M pc2 lv (.long (x &&& y) :: st) I Q) : J E d M pc lv (.long y :: .long x :: st) I Q := by
  obtain ⟨h, rfl⟩ := h
  intro p l e s m args below meth c H locs ls F P hl
  exact lv_land F.1 F.2.1 h (k p l e s m args below meth c H locs ls F P hl)
theorem J_lor {x y : Int64} (h : decode M.2.1 pc = .ok (.lor, 1) ∧ pc + 1 = pc2) (k : J E d M pc2 lv (.long (x ||| y) :: st) I Q) : J E d M pc lv (.long y :: .long x :: st) I Q := by
  obtain ⟨h, rfl⟩ := h
  intro p l e s m args below meth c H locs ls F P hl
  exact lv_lor F.1 F.2.1 h (k p l e s m args below meth c H locs ls F P hl)
theorem J_lushr {x : Int64} {y : Int32} (h : decode M.2.1 pc = .ok (.lushr, 1) ∧ pc + 1 = pc2) (k : J E d M pc2 lv (.long ((x.toUInt64 >>> (y.toInt64.toUInt64 &&& Int64.toUInt64 63)).toInt64) :: st) I Q) : J E d M pc lv (.int y :: .long x :: st) I Q := by
  obtain ⟨h, rfl⟩ := h
  intro p l e s m args below meth c H locs ls F P hl
  exact lv_lushr F.1 F.2.1 h rfl (k p l e s m args below meth c H locs ls F P hl)
theorem J_lshl {x : Int64} {y : Int32} (h : decode M.2.1 pc = .ok (.lshl, 1) ∧ pc + 1 = pc2) (k : J E d M pc2 lv (.long (x <<< (y.toInt64 &&& 63)) :: st) I Q) : J E d M pc lv (.int y :: .long x :: st) I Q := by
  obtain ⟨h, rfl⟩ := h
  intro p l e s m args below meth c H locs ls F P hl
  exact lv_lshl F.1 F.2.1 h rfl (k p l e s m args below meth c H locs ls F P hl)
theorem J_lshr {x : Int64} {y : Int32} (h : decode M.2.1 pc = .ok (.lshr, 1) ∧ pc + 1 = pc2) (k : J E d M pc2 lv (.long (x >>> (y.toInt64 &&& 63)) :: st) I Q) : J E d M pc lv (.int y :: .long x :: st) I Q := by
  obtain ⟨h, rfl⟩ := h
  intro p l e s m args below meth c H locs ls F P hl
  exact lv_lshr F.1 F.2.1 h rfl (k p l e s m args below meth c H locs ls F P hl)
theorem hts_of {p : Program} {s : State} {m : MethodId} {meth : Method} {c : Code} (F : Fx E M p s m meth c) (args : Array Value) : ∀ w ∈ Gw, w.before args s = true := by
  intro w hw
  obtain ⟨h1, h2⟩ := List.mem_filter.mp hw
  obtain ⟨-, -, -, -, -, -, hE, hW, -⟩ := F
  exact word_at hW (good_of_word h2) (hE.1 w h1)
theorem hK_of {p : Program} {s : State} {m : MethodId} {meth : Method} {c : Code} (F : Fx E M p s m meth c) : va_K (eD E) classes (etys E) s := by
  obtain ⟨-, -, -, -, -, -, hE, hW, -⟩ := F
  exact va_K.moved hW.alike hE.2.1
theorem own_of {p : Program} {s : State} {m : MethodId} {meth : Method} {c : Code} (F : Fx E M p s m meth c) : s.vm.findClass M.1.cls = some m.cls := F.2.2.2.2.2.1
theorem nestF_of {p : Program} {s : State} {m : MethodId} {meth : Method} {c : Code} (F : Fx E M p s m meth c) {a : String} {i : Nat} {b n g h : String} (hw : Cond.fieldLinkNest a i b n g h ∈ lw_tbl) (args : Array Value) : (Cond.fieldLinkNest a i b n g h).before args s = true := by
  obtain ⟨-, -, -, -, -, -, hE, hW, -⟩ := F
  exact va_Nw.use rfl (va_Nw.warmF hW (va_Nw.of rfl (hE.1 _ hw)))
theorem nestM_of {p : Program} {s : State} {m : MethodId} {meth : Method} {c : Code} (F : Fx E M p s m meth c) {a : String} {i : Nat} {x : MethodName} {h : String} (hw : Cond.methodLinkNest a i x h ∈ lw_tbl) (args : Array Value) : (Cond.methodLinkNest a i x h).before args s = true := by
  obtain ⟨-, -, -, -, -, -, hE, hW, -⟩ := F
  exact va_Nw.use rfl (va_Nw.warmM hW (va_Nw.of rfl (hE.1 _ hw)))
theorem J_ldc {i : Nat} (v : Int32) (h : decode M.2.1 pc = .ok (.ldc i, 2) ∧ pc + 2 = pc2) (hw : Cond.constant M.1.cls i v ∈ Gw) (k : J E d M pc2 lv (.int v :: st) I Q) : J E d M pc lv st I Q := by
  obtain ⟨h, rfl⟩ := h
  intro p l e s m args below meth c H locs ls F P hl
  exact lv_ldc F.1 F.2.1 (own_of F) (hts_of F args _ hw) h (k p l e s m args below meth c H locs ls F P hl)
theorem J_ldcw {i : Nat} (v : Int32) (h : decode M.2.1 pc = .ok (.ldc_w i, 3) ∧ pc + 3 = pc2) (hw : Cond.constant M.1.cls i v ∈ Gw) (k : J E d M pc2 lv (.int v :: st) I Q) : J E d M pc lv st I Q := by
  obtain ⟨h, rfl⟩ := h
  intro p l e s m args below meth c H locs ls F P hl
  exact lv_ldcw F.1 F.2.1 (own_of F) (hts_of F args _ hw) h (k p l e s m args below meth c H locs ls F P hl)
theorem J_ldc2 {i : Nat} (v : Int64) (h : decode M.2.1 pc = .ok (.ldc2_w i, 3) ∧ pc + 3 = pc2) (hw : Cond.constantLong M.1.cls i v ∈ Gw) (k : J E d M pc2 lv (.long v :: st) I Q) : J E d M pc lv st I Q := by
  obtain ⟨h, rfl⟩ := h
  intro p l e s m args below meth c H locs ls F P hl
  exact lv_ldc2 F.1 F.2.1 (own_of F) (hts_of F args _ hw) h (k p l e s m args below meth c H locs ls F P hl)
theorem J_tswIn {dflt lo hi : Int} {offs : Array Int} {len : Nat} {off : Int} {x : Int32} (kv : Int32) (h : decode M.2.1 pc = .ok (.tableswitch dflt lo hi offs, len)) (h2 : ¬ kv.toInt < lo ∧ ¬ hi < kv.toInt ∧ offs[(kv.toInt - lo).toNat]? = some off ∧ (pc : Int) + off = (tgt : Int)) (hx : x = kv) (k : J E d M tgt lv st I Q) : J E d M pc lv (.int x :: st) I Q := by
  subst hx
  obtain ⟨h1, h2, h3, h4⟩ := h2
  intro p l e s m args below meth c H locs ls F P hl
  exact lv_tableIn F.1 F.2.1 h h1 h2 h3 h4 (k p l e s m args below meth c H locs ls F P hl)
theorem J_tswOut {dflt lo hi : Int} {offs : Array Int} {len : Nat} {x : Int32} (h : decode M.2.1 pc = .ok (.tableswitch dflt lo hi offs, len)) (h4 : (pc : Int) + dflt = (tgt : Int)) (hx : x.toInt < lo ∨ hi < x.toInt) (k : J E d M tgt lv st I Q) : J E d M pc lv (.int x :: st) I Q := by
  intro p l e s m args below meth c H locs ls F P hl
  exact lv_tableOut F.1 F.2.1 h hx h4 (k p l e s m args below meth c H locs ls F P hl)
theorem J_lsw {dflt off : Int} {ps : Array (Int × Int)} {len : Nat} {x : Int32} (h : decode M.2.1 pc = .ok (.lookupswitch dflt ps, len)) (hp : (ps.toList.zip (ps.toList.drop 1)).all (fun (a, next) => a.1 < next.1) = true) (ho : Op.lookupswitch.offset ps.toList dflt x.toInt = off) (h4 : (pc : Int) + off = (tgt : Int)) (k : J E d M tgt lv st I Q) : J E d M pc lv (.int x :: st) I Q := by
  intro p l e s m args below meth c H locs ls F P hl
  exact lv_lookup F.1 F.2.1 h hp ho h4 (k p l e s m args below meth c H locs ls F P hl)
theorem below_of {p : Program} {s : State} {m : MethodId} {meth : Method} {c : Code} {H : Heap} {locs : List Loc} (F : Fx E M p s m meth c) (hS : va_S (AA E) s.heap H locs) : ∀ q, q < eb E → H[q]? = E.1.heap[q]? := by
  obtain ⟨-, -, -, -, -, -, -, -, hq⟩ := F
  intro q h
  have h1 := hq q h
  have h2 : E.1.heap[q]? = some (E.1.heap[q]'h) := Array.getElem?_eq_getElem h
  rw [h2] at h1
  have h3 : q < s.heap.size := (Array.getElem?_eq_some_iff.mp h1).1
  rw [hS.2.1 q h3 (fun z => by have z : eb E ≤ q := z; omega), hq q h]
theorem end_of {p : Program} {s : State} {m : MethodId} {meth : Method} {c : Code} {H : Heap} {locs : List Loc} (F : Fx E M p s m meth c) (P : PH E s I H locs) {r : Option Value} (hQ : Q r I) {args : Array Value} : ∀ t : State, t.heap = H → s.WarmedH t.vm → QQ E Q args s (.returned r) t := by
  intro t ht hW
  have hb := below_of F P.2
  obtain ⟨-, -, -, -, -, -, hE, hW0, -⟩ := F
  exact ⟨r, I, rfl, hQ, ⟨hE, State.WarmedH.trans hW0 hW, by rw [ht]; exact hb, by rw [ht]; exact P.1⟩, by rw [ht]; exact P.2.1⟩
theorem J_iret {v : Int32} (h : decode M.2.1 pc = .ok (.ireturn, 1)) (hr : M.2.2.2 = some .int) (hQ : Q (some (.int v)) I) : J E d M pc lv [.int v] I Q := by
  intro p l e s m args below meth c H locs ls F P hl
  exact W.iret F.1 F.2.1 (F.2.2.2.1.trans hr) (end_of F P hQ) P.2.2.2 h F.2.2.2.2.1
theorem J_zret {v : Int32} (h : decode M.2.1 pc = .ok (.ireturn, 1)) (hr : M.2.2.2 = some .boolean) (hn : narrow .boolean (.int v) = .int v) (hQ : Q (some (.int v)) I) : J E d M pc lv [.int v] I Q := by
  intro p l e s m args below meth c H locs ls F P hl
  exact W.zret F.1 F.2.1 (F.2.2.2.1.trans hr) hn (end_of F P hQ) P.2.2.2 h F.2.2.2.2.1
theorem J_vret (h : decode M.2.1 pc = .ok (.return_, 1)) (hr : M.2.2.2 = none) (hQ : Q none I) : J E d M pc lv [] I Q := by
  intro p l e s m args below meth c H locs ls F P hl
  exact W.vret F.1 F.2.1 (F.2.2.2.1.trans hr) (end_of F P hQ) P.2.2.2 h F.2.2.2.2.1
theorem J_aret {a : Nat} {rt : FieldType} (h : decode M.2.1 pc = .ok (.areturn, 1)) (hr : M.2.2.2 = some rt) (hrt : (∃ n, rt = .object n) ∨ ∃ t, rt = .array t) (hQ : Q (some (.ref a)) I) : J E d M pc lv [.ref a] I Q := by
  intro p l e s m args below meth c H locs ls F P hl
  exact W.aret F.1 F.2.1 (F.2.2.2.1.trans hr) hrt (Or.inr ⟨a, rfl⟩) (end_of F P hQ) P.2.2.2 h F.2.2.2.2.1
/-- a field that a class's code names: which of which class -/
def FL (own : String) (idx ci k : Nat) : Prop := ∃ (C : String) (T : u_T) (N : Nat), classes[ci]? = some (C, T, N) ∧ k < N ∧ (T k).1 = C ∧ (∀ w ∈ u_ws C T N, w ∈ Gw) ∧ (Cond.fieldLink own idx C (T k).2.1 (T k).2.2.1 ∈ Gw ∨ ∃ host : String, Cond.fieldLinkNest own idx C (T k).2.1 (T k).2.2.1 host ∈ lw_tbl)
def FP (own : String) (idx ci k : Nat) (ty : FieldType) : Prop := ∃ (C : String) (T : u_T) (N : Nat) (ty0 : Nat → FieldType), classes[ci]? = some (C, T, N) ∧ k < N ∧ (T k).1 = C ∧ (∀ w ∈ u_ws C T N, w ∈ Gw) ∧ (Cond.fieldLink own idx C (T k).2.1 (T k).2.2.1 ∈ Gw ∨ ∃ host : String, Cond.fieldLinkNest own idx C (T k).2.1 (T k).2.2.1 host ∈ lw_tbl) ∧
  (∀ k, k < N → parseFieldDescriptor (T k).2.2.1 = some (ty0 k)) ∧ (∀ a, a < N → ∀ b, b < N → a ≠ b → (T a).2.1 ≠ (T b).2.1) ∧ (T k).2.2.2 = false ∧ parseFieldDescriptor (T k).2.2.1 = some ty
theorem J_getV {idx ci k o : Nat} {fs : List (Option Nat)} {x : Option Nat} (h : decode M.2.1 pc = .ok (.getfield idx, 3) ∧ pc + 3 = pc2) (hf : FL M.1.cls idx ci k) (hs : shape[o]? = some (.inl (ci, fs))) (hx : fs[k]? = some x) (kk : J E d M pc2 lv (fval (eb E) (I o) k x :: st) I Q) : J E d M pc lv (.ref (eb E + o) :: st) I Q := by
  obtain ⟨h, rfl⟩ := h
  obtain ⟨C, T, N, hc, hk, hC, hin, hl1⟩ := hf
  intro p l e s m args below meth c H locs ls F P hl
  have hv : (fs.mapIdx (fval (eb E) (I o)))[k]? = some (fval (eb E) (I o) k x) := by simp [List.getElem?_mapIdx, hx]
  rcases hl1 with hw | ⟨host, hw⟩
  · exact va_get F.1 F.2.1 (hts_of F args) hin (own_of F) (hK_of F) P.1 o (wd_at E I hs) hc k hk (hts_of F args _ hw) (fun x hx => by rw [hC] at hx; exact hx) hv h (kk p l e s m args below meth c H locs ls F P hl)
  · exact va_getN F.1 F.2.1 (hts_of F args) hin (own_of F) (hK_of F) P.1 o (wd_at E I hs) hc k hk (nestF_of F hw args) (fun x hx => by rw [hC] at hx; exact hx) hv h (kk p l e s m args below meth c H locs ls F P hl)
theorem J_getI {idx ci k o : Nat} {fs : List (Option Nat)} (h : decode M.2.1 pc = .ok (.getfield idx, 3) ∧ pc + 3 = pc2) (hf : FL M.1.cls idx ci k) (hs : shape[o]? = some (.inl (ci, fs))) (hx : fs[k]? = some none) (kk : J E d M pc2 lv (.int (I o k) :: st) I Q) : J E d M pc lv (.ref (eb E + o) :: st) I Q := J_getV h hf hs hx kk
theorem J_getR {idx ci k o r : Nat} {fs : List (Option Nat)} (h : decode M.2.1 pc = .ok (.getfield idx, 3) ∧ pc + 3 = pc2) (hf : FL M.1.cls idx ci k) (hs : shape[o]? = some (.inl (ci, fs))) (hx : fs[k]? = some (some r)) (kk : J E d M pc2 lv (.ref (eb E + r) :: st) I Q) : J E d M pc lv (.ref (eb E + o) :: st) I Q := J_getV h hf hs hx kk
theorem J_putV {idx ci k o : Nat} {fs : List (Option Nat)} {ty : FieldType} {v : Int32} (h : decode M.2.1 pc = .ok (.putfield idx, 3) ∧ pc + 3 = pc2) (hf : FP M.1.cls idx ci k ty) (hs : shape[o]? = some (.inl (ci, fs))) (hx : fs[k]? = some none) (hn : narrow ty (.int v) = .int v) (hft : fits ty (.int v) = true) (kk : ∀ I2 : IH, I2 = stI I o k v → J E d M pc2 lv st I2 Q) : J E d M pc lv (.int v :: .ref (eb E + o) :: st) I Q := by
  obtain ⟨h, rfl⟩ := h
  obtain ⟨C, T, N, ty0, hc, hk, hC, hin, hl1, hty, hnm, hfin, hd⟩ := hf
  intro p l e s m args below meth c H locs ls F P hl
  have hlt : k < (fs.mapIdx (fval (eb E) (I o))).length := by simp; exact (List.getElem?_eq_some_iff.mp hx).1
  have hset : (wd E I).set o (eb E + o, .inr (ci, (fs.mapIdx (fval (eb E) (I o))).set k (.int v))) = wd E (stI I o k v) := by
    apply wd_st hs
    show Sum.inr (ci, _) = Sum.inr (ci, _)
    congr 2
    apply List.ext_getElem?
    intro i
    by_cases hi : i = k
    · subst hi
      rw [List.getElem?_set_self hlt]
      simp [List.getElem?_mapIdx, hx, fval, upd]
    · rw [List.getElem?_set_ne (Ne.symm hi)]
      simp only [List.getElem?_mapIdx]
      cases hfi : fs[i]? with
      | none => rfl
      | some y => cases y <;> simp [fval, upd, hi]
  have fin : ∀ (H1 : Heap) (locs1 : List Loc), va_P (eD E) classes ((wd E I).set o (eb E + o, .inr (ci, (fs.mapIdx (fval (eb E) (I o))).set k (.int v)))) H1 → va_D (AA E) ((wd E I).set o (eb E + o, .inr (ci, (fs.mapIdx (fval (eb E) (I o))).set k (.int v)))) → va_S (AA E) s.heap H1 locs1 → W p l e (rmD d) s m args below meth c H1 locs1 0 0 (MQ below (QQ E Q) args s 0 0 (AA E)) (F0 m (pc + 3) ls st) := by
    intro H1 locs1 hP hD hS
    rw [hset] at hP
    exact kk _ rfl p l e s m args below meth c H1 locs1 ls F ⟨hP, hS⟩ hl
  rcases hl1 with hw | ⟨host, hw⟩
  · exact va_put F.1 F.2.1 (hts_of F args) hin ty0 hty hnm (own_of F) (hK_of F) P.1 (wd_D E I) P.2 o (wd_at E I hs) hc k hk (hts_of F args _ hw) (fun x hx => by rw [hC] at hx; exact hx) hfin hd hn hft hlt h fin
  · exact va_putN F.1 F.2.1 (hts_of F args) hin ty0 hty hnm (own_of F) (hK_of F) P.1 (wd_D E I) P.2 o (wd_at E I hs) hc k hk (nestF_of F hw args) (fun x hx => by rw [hC] at hx; exact hx) hfin hd hn hft hlt h fin
theorem J_putI {idx ci k o : Nat} {fs : List (Option Nat)} {v : Int32} (h : decode M.2.1 pc = .ok (.putfield idx, 3) ∧ pc + 3 = pc2) (hf : FP M.1.cls idx ci k .int) (hs : shape[o]? = some (.inl (ci, fs))) (hx : fs[k]? = some none) (kk : ∀ I2 : IH, I2 = stI I o k v → J E d M pc2 lv st I2 Q) : J E d M pc lv (.int v :: .ref (eb E + o) :: st) I Q := J_putV h hf hs hx rfl rfl kk
theorem nar_bool {v : Int32} (hv : v = 0 ∨ v = 1) : narrow .boolean (.int v) = .int v ∧ fits .boolean (.int v) = true := by
  rcases hv with rfl | rfl <;> exact ⟨by decide +kernel, by decide +kernel⟩
theorem J_putZ {idx ci k o : Nat} {fs : List (Option Nat)} {v : Int32} (h : decode M.2.1 pc = .ok (.putfield idx, 3) ∧ pc + 3 = pc2) (hf : FP M.1.cls idx ci k .boolean) (hs : shape[o]? = some (.inl (ci, fs))) (hx : fs[k]? = some none) (hv : v = 0 ∨ v = 1) (kk : ∀ I2 : IH, I2 = stI I o k v → J E d M pc2 lv st I2 Q) : J E d M pc lv (.int v :: .ref (eb E + o) :: st) I Q := J_putV h hf hs hx (nar_bool hv).1 (nar_bool hv).2 kk

theorem J_iaload {o n : Nat} {rs : List Nat} {x : Int32} (j : Nat) (h : decode M.2.1 pc = .ok (.iaload, 1) ∧ pc + 1 = pc2) (hs : shape[o]? = some (.inr (0, n, rs))) (hx : x = nI j) (hj : j < n) (hn : n < 2 ^ 31) (kk : J E d M pc2 lv (.int (I o j) :: st) I Q) : J E d M pc lv (.int x :: .ref (eb E + o) :: st) I Q := by
  obtain ⟨h, rfl⟩ := h
  subst hx
  intro p l e s m args below meth c H locs ls F P hl
  refine va_iald F.1 F.2.1 (hK_of F) P.1 o 0 (cA := E.2.2.2.2 0) (n := n) (f := I o) (wd_at E I hs) rfl (vp_in_nI hj hn) h ?_
  rw [nI_clamp (Nat.lt_trans hj hn)]
  exact kk p l e s m args below meth c H locs ls F P hl
theorem J_baload {o n : Nat} {rs : List Nat} {x : Int32} (j : Nat) (h : decode M.2.1 pc = .ok (.baload, 1) ∧ pc + 1 = pc2) (hs : shape[o]? = some (.inr (1, n, rs))) (hx : x = nI j) (hj : j < n) (hn : n < 2 ^ 31) (kk : J E d M pc2 lv (.int (I o j) :: st) I Q) : J E d M pc lv (.int x :: .ref (eb E + o) :: st) I Q := by
  obtain ⟨h, rfl⟩ := h
  subst hx
  intro p l e s m args below meth c H locs ls F P hl
  refine va_bald F.1 F.2.1 (hK_of F) P.1 o 1 (cA := E.2.2.2.2 1) (n := n) (f := I o) (wd_at E I hs) rfl (vp_in_nI hj hn) h ?_
  rw [nI_clamp (Nat.lt_trans hj hn)]
  exact kk p l e s m args below meth c H locs ls F P hl
theorem J_caload {o n : Nat} {rs : List Nat} {x : Int32} (j : Nat) (h : decode M.2.1 pc = .ok (.caload, 1) ∧ pc + 1 = pc2) (hs : shape[o]? = some (.inr (2, n, rs))) (hx : x = nI j) (hj : j < n) (hn : n < 2 ^ 31) (kk : J E d M pc2 lv (.int (I o j) :: st) I Q) : J E d M pc lv (.int x :: .ref (eb E + o) :: st) I Q := by
  obtain ⟨h, rfl⟩ := h
  subst hx
  intro p l e s m args below meth c H locs ls F P hl
  refine va_cald F.1 F.2.1 (hK_of F) P.1 o 2 (cA := E.2.2.2.2 2) (n := n) (f := I o) (wd_at E I hs) rfl (vp_in_nI hj hn) h ?_
  rw [nI_clamp (Nat.lt_trans hj hn)]
  exact kk p l e s m args below meth c H locs ls F P hl
theorem J_iastore {o n : Nat} {rs : List Nat} {x v : Int32} (j : Nat) (h : decode M.2.1 pc = .ok (.iastore, 1) ∧ pc + 1 = pc2) (hs : shape[o]? = some (.inr (0, n, rs))) (hx : x = nI j) (hj : j < n) (hn : n < 2 ^ 31) (kk : ∀ I2 : IH, I2 = stI I o j (v) → J E d M pc2 lv st I2 Q) : J E d M pc lv (.int v :: .int x :: .ref (eb E + o) :: st) I Q := by
  obtain ⟨h, rfl⟩ := h
  subst hx
  intro p l e s m args below meth c H locs ls F P hl
  refine va_iast F.1 F.2.1 (hK_of F) P.1 (wd_D E I) P.2 o 0 (cA := E.2.2.2.2 0) (n := n) (f := I o) (wd_at E I hs) rfl (vp_in_nI hj hn) h ?_
  intro H1 locs1 hP hD hS
  have hset := wd_st (E := E) (I := I) (j := j) (v := v) hs (e := .inl (E.2.2.2.2 0, n, .inl (upd (I o) j (v)))) rfl
  rw [nI_clamp (Nat.lt_trans hj hn), hset] at hP
  exact kk _ rfl p l e s m args below meth c H1 locs1 ls F ⟨hP, hS⟩ hl
theorem J_bastore {o n : Nat} {rs : List Nat} {x v : Int32} (j : Nat) (h : decode M.2.1 pc = .ok (.bastore, 1) ∧ pc + 1 = pc2) (hs : shape[o]? = some (.inr (1, n, rs))) (hx : x = nI j) (hj : j < n) (hn : n < 2 ^ 31) (kk : ∀ I2 : IH, I2 = stI I o j (vp_nar .byte v) → J E d M pc2 lv st I2 Q) : J E d M pc lv (.int v :: .int x :: .ref (eb E + o) :: st) I Q := by
  obtain ⟨h, rfl⟩ := h
  subst hx
  intro p l e s m args below meth c H locs ls F P hl
  refine va_bast F.1 F.2.1 (hK_of F) P.1 (wd_D E I) P.2 o 1 (cA := E.2.2.2.2 1) (n := n) (f := I o) (wd_at E I hs) rfl (vp_in_nI hj hn) h ?_
  intro H1 locs1 hP hD hS
  have hset := wd_st (E := E) (I := I) (j := j) (v := vp_nar .byte v) hs (e := .inl (E.2.2.2.2 1, n, .inl (upd (I o) j (vp_nar .byte v)))) rfl
  rw [nI_clamp (Nat.lt_trans hj hn), hset] at hP
  exact kk _ rfl p l e s m args below meth c H1 locs1 ls F ⟨hP, hS⟩ hl
theorem J_aaload {o n tg r : Nat} {rs : List Nat} {x : Int32} (j : Nat) (h : decode M.2.1 pc = .ok (.aaload, 1) ∧ pc + 1 = pc2) (hs : shape[o]? = some (.inr (tg, n, rs))) (htg : tg = 3 ∨ tg = 4) (hx : x = nI j) (hj : j < n) (hn : n < 2 ^ 31) (hr : rs[j]? = some r) (kk : J E d M pc2 lv (.ref (eb E + r) :: st) I Q) : J E d M pc lv (.int x :: .ref (eb E + o) :: st) I Q := by
  obtain ⟨h, rfl⟩ := h
  subst hx
  intro p l e s m args below meth c H locs ls F P hl
  rcases htg with rfl | rfl
  · refine va_aldq F.1 F.2.1 (hK_of F) P.1 o 3 (cA := E.2.2.2.2 3) (C := "PaneScenes$Pane") (n := n) (f := fun j => (rs[j]?).map (fun q => eb E + q)) (wd_at E I hs) rfl (vp_in_nI hj hn) h ?_
    rw [nI_clamp (Nat.lt_trans hj hn), hr]
    exact kk p l e s m args below meth c H locs ls F P hl
  · refine va_aldq F.1 F.2.1 (hK_of F) P.1 o 4 (cA := E.2.2.2.2 4) (C := "PaneScenes$Evening") (n := n) (f := fun j => (rs[j]?).map (fun q => eb E + q)) (wd_at E I hs) rfl (vp_in_nI hj hn) h ?_
    rw [nI_clamp (Nat.lt_trans hj hn), hr]
    exact kk p l e s m args below meth c H locs ls F P hl
theorem J_alen {o n tg : Nat} {rs : List Nat} {v : Int32} (h : decode M.2.1 pc = .ok (.arraylength, 1) ∧ pc + 1 = pc2) (hs : shape[o]? = some (.inr (tg, n, rs))) (htg : tg < 5) (hv : Int32.ofNat n = v) (kk : J E d M pc2 lv (.int v :: st) I Q) : J E d M pc lv (.ref (eb E + o) :: st) I Q := by
  obtain ⟨h, rfl⟩ := h
  intro p l e s m args below meth c H locs ls F P hl
  have key : ∃ ty, (etys E)[tg]? = some (E.2.2.2.2 tg, ty) := by
    rcases (show tg = 0 ∨ tg = 1 ∨ tg = 2 ∨ tg = 3 ∨ tg = 4 by omega) with rfl | rfl | rfl | rfl | rfl <;> exact ⟨_, rfl⟩
  obtain ⟨ty, hty⟩ := key
  exact va_alen F.1 F.2.1 (hK_of F) P.1 o tg (cA := E.2.2.2.2 tg) (wd_at E I hs) hty hv h (kk p l e s m args below meth c H locs ls F P hl)
end JB
