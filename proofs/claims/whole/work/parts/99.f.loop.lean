theorem df11 : ∀ j, j < 16 → defaultValue (tyX11 j) = vp_V [.null, .null, .null, .int 0, .null, .null, .null, .null, .null, .int 0, .null, .null, .null, .null, .null, .null] j := fun j hj => match j, hj with
  | 0, _ => rfl
  | 1, _ => rfl
  | 2, _ => rfl
  | 3, _ => rfl
  | 4, _ => rfl
  | 5, _ => rfl
  | 6, _ => rfl
  | 7, _ => rfl
  | 8, _ => rfl
  | 9, _ => rfl
  | 10, _ => rfl
  | 11, _ => rfl
  | 12, _ => rfl
  | 13, _ => rfl
  | 14, _ => rfl
  | 15, _ => rfl
  | k + 16, h => absurd h (by omega)
theorem knL_7 : KN mLw.1.cls 7 11 [.null, .null, .null, .int 0, .null, .null, .null, .null, .null, .int 0, .null, .null, .null, .null, .null, .null] 16 := ⟨RX11, TX11, tyX11, rfl, iX11, (gx1 22 rfl rfl), (gx1 23 rfl rfl), (gx1 1 rfl rfl), tyX11_ok, df11⟩
theorem df12 : ∀ j, j < 38 → defaultValue (tyX12 j) = vp_V [.null, .null, .null, .int 0, .null, .null, .int 0, .null, .int 0, .int 0, .int 0, .int 0, .int 0, .int 0, .null, .null, .int 0, .int 0, .null, .null, .null, .int 0, .int 0, .int 0, .int 0, .null, .int 0, .null, .int 0, .null, .null, .null, .null, .null, .null, .int 0, .int 0, .int 0] j := fun j hj => match j, hj with
  | 0, _ => rfl
  | 1, _ => rfl
  | 2, _ => rfl
  | 3, _ => rfl
  | 4, _ => rfl
  | 5, _ => rfl
  | 6, _ => rfl
  | 7, _ => rfl
  | 8, _ => rfl
  | 9, _ => rfl
  | 10, _ => rfl
  | 11, _ => rfl
  | 12, _ => rfl
  | 13, _ => rfl
  | 14, _ => rfl
  | 15, _ => rfl
  | 16, _ => rfl
  | 17, _ => rfl
  | 18, _ => rfl
  | 19, _ => rfl
  | 20, _ => rfl
  | 21, _ => rfl
  | 22, _ => rfl
  | 23, _ => rfl
  | 24, _ => rfl
  | 25, _ => rfl
  | 26, _ => rfl
  | 27, _ => rfl
  | 28, _ => rfl
  | 29, _ => rfl
  | 30, _ => rfl
  | 31, _ => rfl
  | 32, _ => rfl
  | 33, _ => rfl
  | 34, _ => rfl
  | 35, _ => rfl
  | 36, _ => rfl
  | 37, _ => rfl
  | k + 38, h => absurd h (by omega)
theorem knL_10 : KN mLw.1.cls 10 12 [.null, .null, .null, .int 0, .null, .null, .int 0, .null, .int 0, .int 0, .int 0, .int 0, .int 0, .int 0, .null, .null, .int 0, .int 0, .null, .null, .null, .int 0, .int 0, .int 0, .int 0, .null, .int 0, .null, .int 0, .null, .null, .null, .null, .null, .null, .int 0, .int 0, .int 0] 38 := ⟨RX12, TX12, tyX12, rfl, iX12, (gx5 124 rfl rfl), (gx5 125 rfl rfl), (gx1 14 rfl rfl), tyX12_ok, df12⟩
theorem liL_9 : LkI mLw.1.cls 9 mX11_init := ⟨Or.inl (gx1 24 rfl rfl), rfl, rfl, (gx1 25 rfl rfl)⟩
theorem liL_12 : LkI mLw.1.cls 12 mX12_init := ⟨Or.inl (gx5 126 rfl rfl), rfl, rfl, (gx5 127 rfl rfl)⟩
theorem un0 {s : State} {a : Array Value} (h : ∀ w ∈ Gw, w.before a s = true) : ∃ (cC : ClassId) (iS : Nat → Nat), u_Kn s RX0 TX0 0 cC iS := u_known h iX0 (h (.instantiable RX0 0) (gx1 160 rfl rfl))
theorem un1 {s : State} {a : Array Value} (h : ∀ w ∈ Gw, w.before a s = true) : ∃ (cC : ClassId) (iS : Nat → Nat), u_Kn s RX1 TX1 19 cC iS := u_known h iX1 (h (.instantiable RX1 19) (gx1 167 rfl rfl))
theorem un2 {s : State} {a : Array Value} (h : ∀ w ∈ Gw, w.before a s = true) : ∃ (cC : ClassId) (iS : Nat → Nat), u_Kn s RX2 TX2 0 cC iS := u_known h iX2 (h (.instantiable RX2 0) (gx1 153 rfl rfl))
theorem un3 {s : State} {a : Array Value} (h : ∀ w ∈ Gw, w.before a s = true) : ∃ (cC : ClassId) (iS : Nat → Nat), u_Kn s RX3 TX3 0 cC iS := u_known h iX3 (h (.instantiable RX3 0) (gx1 132 rfl rfl))
theorem un4 {s : State} {a : Array Value} (h : ∀ w ∈ Gw, w.before a s = true) : ∃ (cC : ClassId) (iS : Nat → Nat), u_Kn s RX4 TX4 0 cC iS := u_known h iX4 (h (.instantiable RX4 0) (gx1 125 rfl rfl))
theorem un5 {s : State} {a : Array Value} (h : ∀ w ∈ Gw, w.before a s = true) : ∃ (cC : ClassId) (iS : Nat → Nat), u_Kn s RX5 TX5 9 cC iS := u_known h iX5 (h (.instantiable RX5 9) (gx2 15 rfl rfl))
theorem un6 {s : State} {a : Array Value} (h : ∀ w ∈ Gw, w.before a s = true) : ∃ (cC : ClassId) (iS : Nat → Nat), u_Kn s RX6 TX6 7 cC iS := u_known h iX6 (h (.instantiable RX6 7) (gx1 59 rfl rfl))
theorem un7 {s : State} {a : Array Value} (h : ∀ w ∈ Gw, w.before a s = true) : ∃ (cC : ClassId) (iS : Nat → Nat), u_Kn s RX7 TX7 0 cC iS := u_known h iX7 (h (.instantiable RX7 0) (gx1 139 rfl rfl))
theorem un8 {s : State} {a : Array Value} (h : ∀ w ∈ Gw, w.before a s = true) : ∃ (cC : ClassId) (iS : Nat → Nat), u_Kn s RX8 TX8 5 cC iS := u_known h iX8 (h (.instantiable RX8 5) (gx1 91 rfl rfl))
theorem un9 {s : State} {a : Array Value} (h : ∀ w ∈ Gw, w.before a s = true) : ∃ (cC : ClassId) (iS : Nat → Nat), u_Kn s RX9 TX9 6 cC iS := u_known h iX9 (h (.instantiable RX9 6) (gx1 31 rfl rfl))
theorem un10 {s : State} {a : Array Value} (h : ∀ w ∈ Gw, w.before a s = true) : ∃ (cC : ClassId) (iS : Nat → Nat), u_Kn s RX10 TX10 0 cC iS := u_known h iX10 (h (.instantiable RX10 0) (gx1 146 rfl rfl))
theorem un11 {s : State} {a : Array Value} (h : ∀ w ∈ Gw, w.before a s = true) : ∃ (cC : ClassId) (iS : Nat → Nat), u_Kn s RX11 TX11 16 cC iS := u_known h iX11 (h (.instantiable RX11 16) (gx1 23 rfl rfl))
theorem un12 {s : State} {a : Array Value} (h : ∀ w ∈ Gw, w.before a s = true) : ∃ (cC : ClassId) (iS : Nat → Nat), u_Kn s RX12 TX12 38 cC iS := u_known h iX12 (h (.instantiable RX12 38) (gx5 125 rfl rfl))
theorem un_all {s : State} {a : Array Value} (h : ∀ w ∈ Gw, w.before a s = true) : ∀ ci : Nat, ∃ (cC : ClassId) (iS : Nat → Nat), ∀ q, classes[ci]? = some q → u_Kn s q.1 q.2.1 q.2.2 cC iS := fun ci => match ci with
  | 0 => (un0 h).elim fun cC hc => hc.elim fun iS hi => ⟨cC, iS, fun q hq => by cases hq; exact hi⟩
  | 1 => (un1 h).elim fun cC hc => hc.elim fun iS hi => ⟨cC, iS, fun q hq => by cases hq; exact hi⟩
  | 2 => (un2 h).elim fun cC hc => hc.elim fun iS hi => ⟨cC, iS, fun q hq => by cases hq; exact hi⟩
  | 3 => (un3 h).elim fun cC hc => hc.elim fun iS hi => ⟨cC, iS, fun q hq => by cases hq; exact hi⟩
  | 4 => (un4 h).elim fun cC hc => hc.elim fun iS hi => ⟨cC, iS, fun q hq => by cases hq; exact hi⟩
  | 5 => (un5 h).elim fun cC hc => hc.elim fun iS hi => ⟨cC, iS, fun q hq => by cases hq; exact hi⟩
  | 6 => (un6 h).elim fun cC hc => hc.elim fun iS hi => ⟨cC, iS, fun q hq => by cases hq; exact hi⟩
  | 7 => (un7 h).elim fun cC hc => hc.elim fun iS hi => ⟨cC, iS, fun q hq => by cases hq; exact hi⟩
  | 8 => (un8 h).elim fun cC hc => hc.elim fun iS hi => ⟨cC, iS, fun q hq => by cases hq; exact hi⟩
  | 9 => (un9 h).elim fun cC hc => hc.elim fun iS hi => ⟨cC, iS, fun q hq => by cases hq; exact hi⟩
  | 10 => (un10 h).elim fun cC hc => hc.elim fun iS hi => ⟨cC, iS, fun q hq => by cases hq; exact hi⟩
  | 11 => (un11 h).elim fun cC hc => hc.elim fun iS hi => ⟨cC, iS, fun q hq => by cases hq; exact hi⟩
  | 12 => (un12 h).elim fun cC hc => hc.elim fun iS hi => ⟨cC, iS, fun q hq => by cases hq; exact hi⟩
  | k + 13 => ⟨default, fun _ => 0, fun q hq => by cases hq⟩
theorem ur0 {s : State} {a : Array Value} (h : ∀ w ∈ lw_tbl, w.before a s = true) : ∃ cA : ClassId, ArrOfT s cA .int ∧ va_RA s cA .int := by
  obtain ⟨c, k, co, h1, h2, h3⟩ := Cond.arrayClass_spec (h (.arrayClass .int) (lx1 57 rfl))
  exact ⟨c, fun n z => ⟨fun q e => (by cases e), k, h2, co, h3⟩, h1⟩
theorem ur1 {s : State} {a : Array Value} (h : ∀ w ∈ lw_tbl, w.before a s = true) : ∃ cA : ClassId, ArrOfT s cA .byte ∧ va_RA s cA .byte := by
  obtain ⟨c, k, co, h1, h2, h3⟩ := Cond.arrayClass_spec (h (.arrayClass .byte) (lx1 56 rfl))
  exact ⟨c, fun n z => ⟨fun q e => (by cases e), k, h2, co, h3⟩, h1⟩
theorem ur2 {s : State} {a : Array Value} (h : ∀ w ∈ lw_tbl, w.before a s = true) : ∃ cA : ClassId, ArrOfT s cA .char ∧ va_RA s cA .char := by
  obtain ⟨c, k, co, h1, h2, h3⟩ := Cond.arrayClass_spec (h (.arrayClass .char) (lx6 5 rfl))
  exact ⟨c, fun n z => ⟨fun q e => (by cases e), k, h2, co, h3⟩, h1⟩
theorem ur3 {s : State} {a : Array Value} (h : ∀ w ∈ lw_tbl, w.before a s = true) : ∃ cA : ClassId, ArrOfT s cA (.object "PaneScenes$Pane") ∧ va_RA s cA (.object "PaneScenes$Pane") := by
  obtain ⟨co, c, k, h1, -, h3, h4, h5⟩ := Cond.arrayOver_spec (h (.arrayOver (.object "PaneScenes$Pane")) (lx1 124 rfl))
  exact ⟨c, fun n z => ⟨fun q e => (by cases e), k, h3, co, h4⟩, k, co, h3, h4, h1, h5⟩
theorem ur4 {s : State} {a : Array Value} (h : ∀ w ∈ lw_tbl, w.before a s = true) : ∃ cA : ClassId, ArrOfT s cA (.object "PaneScenes$Evening") ∧ va_RA s cA (.object "PaneScenes$Evening") := by
  obtain ⟨co, c, k, h1, -, h3, h4, h5⟩ := Cond.arrayOver_spec (h (.arrayOver (.object "PaneScenes$Evening")) (lx2 21 rfl))
  exact ⟨c, fun n z => ⟨fun q e => (by cases e), k, h3, co, h4⟩, k, co, h3, h4, h1, h5⟩
/-- the world's names at the start -/
theorem ee_of {s : State} {b : Nat} (h : ∀ w ∈ lw_tbl, w.before #[Value.ref b] s = true) (hg : (Jvm.Cond.and given_1 narrow_1).before #[Value.ref b] s = true) : ∃ E : EE, E.1 = s ∧ E.2.1 = #[Value.ref b] ∧ EOK E := by
  have hG : ∀ w ∈ Gw, w.before #[Value.ref b] s = true := fun w hw => h w (List.mem_filter.mp hw).1
  obtain ⟨a0, g0⟩ := ur0 h
  obtain ⟨a1, g1⟩ := ur1 h
  obtain ⟨a2, g2⟩ := ur2 h
  obtain ⟨a3, g3⟩ := ur3 h
  obtain ⟨a4, g4⟩ := ur4 h
  have hk := un_all hG
  refine ⟨(s, #[Value.ref b], fun ci => (hk ci).choose, fun ci => (hk ci).choose_spec.choose, fun t => match t with
    | 0 => a0
    | 1 => a1
    | 2 => a2
    | 3 => a3
    | _ => a4), rfl, rfl, h, ⟨fun ci q hq => (hk ci).choose_spec.choose_spec q hq, fun k q hq => ?_⟩, hg⟩
  match k, hq with
  | 0, hq => cases hq; exact g0
  | 1, hq => cases hq; exact g1
  | 2, hq => cases hq; exact g2
  | 3, hq => cases hq; exact g3
  | 4, hq => cases hq; exact g4
theorem and63 (x : Int32) : ∃ n, n < 64 ∧ x &&& 63 = nI n := by
  refine ⟨(x.toBitVec &&& 63#32).toNat, ?_, ?_⟩
  · rw [BitVec.toNat_and]
    exact Nat.lt_of_le_of_lt Nat.and_le_right (by decide)
  · apply Int32.toBitVec_inj.mp
    show (x &&& 63).toBitVec = (Int32.ofNat _).toBitVec
    rw [Int32.toBitVec_and]
    apply BitVec.eq_of_toNat_eq
    have h : (x.toBitVec &&& 63#32).toNat < 2 ^ 32 := BitVec.isLt _
    show _ = (BitVec.ofNat 32 _).toNat
    rw [BitVec.toNat_ofNat, Nat.mod_eq_of_lt h]
    rfl
theorem sub5 {i L : Nat} (hi : i ≤ 2565) (hL : L ≤ 2560) : Int32.ofNat L - nI 5 < nI i ↔ L < i + 5 := by
  show nI L - nI 5 < nI i ↔ _
  rw [nI_z, nI_z, nI_z, zI_sub, zI_lt (by omega) (by omega) (by omega) (by omega)]
  omega
section LL
variable {E : EE} {p : Program} {l : Launch} {e : Env} {s : State} {m : MethodId} {below : List Frame} {meth : Method} {c : Code} {b L : Nat} {xs : Nat → Int32} {H : Heap} {locs : List Loc} {cells slots pc : Nat} {ls : Array Slot} {rest : List Value} {I : IH} {i : Nat}
set_option maxHeartbeats 4000000 in
theorem lw_loop (F : Fx E mLw p s m meth c) (X : LwX E b L xs s) (hr : meth.sig.returnType = ret) (hlocks : meth.locks = false) (hce : cells ≤ 600000) (hsl : slots ≤ 7302249) : ∀ (n i : Nat) (I : IH) (H : Heap) (locs : List Loc) (ls : Array Slot), i ≤ L + 4 → L < i + 5 * n + 5 → Inv I → PH E s I H locs → lv_has ls 4 [(0, .ref b), (1, .ref (eb E + 0)), (2, .ref (eb E + 115)), (3, .int (nI i))] → W p l e room_1 s m #[Value.ref b] below meth c H locs cells slots (lw_Z below #[Value.ref b] s) (F0 m 18 ls []) := by
  intro n
  have hL := X.2.2.2
  induction n with
  | zero =>
    intro i I H locs ls h1 h2 hI P hl
    refine lv_iload_n F.1 F.2.1 zL_18 rfl (lv_at hl 3 rfl) ?_
    refine lv_aload_n F.1 F.2.1 zL_19 rfl (lv_at hl 0 rfl) ?_
    refine va_slen F.1 F.2.1 X.2.1 X.2.2.1 X.na P.2 zL_20 ?_
    refine lv_iconst F.1 F.2.1 zL_21 (show _ = nI 5 by decide +kernel) ?_
    refine lv_isub F.1 F.2.1 zL_22 ?_
    refine lv_icmp_gt F.1 F.2.1 (tgt := 1778) zL_23 (by decide) (fun _ => ?_) (fun q => absurd ((sub5 (by omega) hL).mpr (by omega)) q)
    refine lv_iconst F.1 F.2.1 zL_1778 (show _ = (1 : Int32) by decide +kernel) ?_
    refine va_forget (fun q hq => by have := P.2.2.2 q hq; have h := X.1; exact h ▸ this) ?_
    exact W.widen hce hsl (lw_ret F.1 F.2.1 hr hlocks zL_1779)
  | succ n ih =>
    intro i I H locs ls h1 h2 hI P hl
    refine lv_iload_n F.1 F.2.1 zL_18 rfl (lv_at hl 3 rfl) ?_
    refine lv_aload_n F.1 F.2.1 zL_19 rfl (lv_at hl 0 rfl) ?_
    refine va_slen F.1 F.2.1 X.2.1 X.2.2.1 X.na P.2 zL_20 ?_
    refine lv_iconst F.1 F.2.1 zL_21 (show _ = nI 5 by decide +kernel) ?_
    refine lv_isub F.1 F.2.1 zL_22 ?_
    refine lv_icmp_gt F.1 F.2.1 (tgt := 1778) zL_23 (by decide) (fun _ => ?_) (fun q => ?_)
    · refine lv_iconst F.1 F.2.1 zL_1778 (show _ = (1 : Int32) by decide +kernel) ?_
      refine va_forget (fun q hq => by have := P.2.2.2 q hq; have h := X.1; exact h ▸ this) ?_
      exact W.widen hce hsl (lw_ret F.1 F.2.1 hr hlocks zL_1779)
    have hi : i + 5 ≤ L := by
      rcases Nat.lt_or_ge L (i + 5) with h | h
      · exact absurd ((sub5 (by omega) hL).mpr h) q
      · exact h
    have nxt : ∀ (I2 : IH) (H1 : Heap) (locs1 : List Loc), Inv I2 → PH E s I2 H1 locs1 → W p l e room_1 s m #[Value.ref b] below meth c H1 locs1 cells slots (lw_Z below #[Value.ref b] s) (F0 m 1772 ls []) := by
      intro I2 H1 locs1 hI2 P2
      refine lv_iinc F.1 F.2.1 (v := nI (i + 5)) (lv' := [(3, .int (nI (i + 5))), (0, .ref b), (1, .ref (eb E + 0)), (2, .ref (eb E + 115))]) zL_1772 hl (k := 3) rfl (nI_add i 5) (by decide) rfl (fun ls1 hl1 => ?_)
      refine lv_goto F.1 F.2.1 (tgt := 18) zL_1775 (by decide) ?_
      exact ih (i + 5) I2 H1 locs1 ls1 (by omega) (by omega) hI2 P2 (lv_sub hl1 [1, 2, 3, 0] rfl)
    refine lv_aload_n F.1 F.2.1 zL_26 rfl (lv_at hl 0 rfl) ?_
    refine lv_iload_n F.1 F.2.1 zL_27 rfl (lv_at hl 3 rfl) ?_
    refine L_ld F X P (by omega) zL_28 ?_
    refine lv_bipush F.1 F.2.1 zL_29 (show _ = (63 : Int32) by decide +kernel) ?_
    refine lv_iand F.1 F.2.1 zL_31 ?_
    obtain ⟨k, hk, hw⟩ := and63 (xs i)
    rw [hw]
    match k, hk with
    | 0, _ => exact lv_tableIn F.1 F.2.1 (off := 224) (tgt := 256) zL_32 (by decide +kernel) (by decide +kernel) (by decide +kernel) (by decide) (lc0 F X hI P hl hi hce hsl nxt)
    | 1, _ => exact lv_tableIn F.1 F.2.1 (off := 267) (tgt := 299) zL_32 (by decide +kernel) (by decide +kernel) (by decide +kernel) (by decide) (lc1 F X hI P hl hi hce hsl nxt)
    | 2, _ => exact lv_tableIn F.1 F.2.1 (off := 300) (tgt := 332) zL_32 (by decide +kernel) (by decide +kernel) (by decide +kernel) (by decide) (lc2 F X hI P hl hi hce hsl nxt)
    | 3, _ => exact lv_tableIn F.1 F.2.1 (off := 343) (tgt := 375) zL_32 (by decide +kernel) (by decide +kernel) (by decide +kernel) (by decide) (lc3 F X hI P hl hi hce hsl nxt)
    | 4, _ => exact lv_tableIn F.1 F.2.1 (off := 376) (tgt := 408) zL_32 (by decide +kernel) (by decide +kernel) (by decide +kernel) (by decide) (lc4 F X hI P hl hi hce hsl nxt)
    | 5, _ => exact lv_tableIn F.1 F.2.1 (off := 409) (tgt := 441) zL_32 (by decide +kernel) (by decide +kernel) (by decide +kernel) (by decide) (lc5 F X hI P hl hi hce hsl nxt)
    | 6, _ => exact lv_tableIn F.1 F.2.1 (off := 452) (tgt := 484) zL_32 (by decide +kernel) (by decide +kernel) (by decide +kernel) (by decide) (lc6 F X hI P hl hi hce hsl nxt)
    | 7, _ => exact lv_tableIn F.1 F.2.1 (off := 485) (tgt := 517) zL_32 (by decide +kernel) (by decide +kernel) (by decide +kernel) (by decide) (lc7 F X hI P hl hi hce hsl nxt)
    | 8, _ => exact lv_tableIn F.1 F.2.1 (off := 518) (tgt := 550) zL_32 (by decide +kernel) (by decide +kernel) (by decide +kernel) (by decide) (lc8 F X hI P hl hi hce hsl nxt)
    | 9, _ => exact lv_tableIn F.1 F.2.1 (off := 541) (tgt := 573) zL_32 (by decide +kernel) (by decide +kernel) (by decide +kernel) (by decide) (lc9 F X hI P hl hi hce hsl nxt)
    | 10, _ => exact lv_tableIn F.1 F.2.1 (off := 554) (tgt := 586) zL_32 (by decide +kernel) (by decide +kernel) (by decide +kernel) (by decide) (lc10 F X hI P hl hi hce hsl nxt)
    | 11, _ => exact lv_tableIn F.1 F.2.1 (off := 577) (tgt := 609) zL_32 (by decide +kernel) (by decide +kernel) (by decide +kernel) (by decide) (lc11 F X hI P hl hi hce hsl nxt)
    | 12, _ => exact lv_tableIn F.1 F.2.1 (off := 640) (tgt := 672) zL_32 (by decide +kernel) (by decide +kernel) (by decide +kernel) (by decide) (lc12 F X hI P hl hi hce hsl nxt)
    | 13, _ => exact lv_tableIn F.1 F.2.1 (off := 653) (tgt := 685) zL_32 (by decide +kernel) (by decide +kernel) (by decide +kernel) (by decide) (lc13 F X hI P hl hi hce hsl nxt)
    | 14, _ => exact lv_tableIn F.1 F.2.1 (off := 666) (tgt := 698) zL_32 (by decide +kernel) (by decide +kernel) (by decide +kernel) (by decide) (lc14 F X hI P hl hi hce hsl nxt)
    | 15, _ => exact lv_tableIn F.1 F.2.1 (off := 689) (tgt := 721) zL_32 (by decide +kernel) (by decide +kernel) (by decide +kernel) (by decide) (lc15 F X hI P hl hi hce hsl nxt)
    | 16, _ => exact lv_tableIn F.1 F.2.1 (off := 712) (tgt := 744) zL_32 (by decide +kernel) (by decide +kernel) (by decide +kernel) (by decide) (lc16 F X hI P hl hi hce hsl nxt)
    | 17, _ => exact lv_tableIn F.1 F.2.1 (off := 735) (tgt := 767) zL_32 (by decide +kernel) (by decide +kernel) (by decide +kernel) (by decide) (lc17 F X hI P hl hi hce hsl nxt)
    | 18, _ => exact lv_tableIn F.1 F.2.1 (off := 758) (tgt := 790) zL_32 (by decide +kernel) (by decide +kernel) (by decide +kernel) (by decide) (lc18 F X hI P hl hi hce hsl nxt)
    | 19, _ => exact lv_tableIn F.1 F.2.1 (off := 781) (tgt := 813) zL_32 (by decide +kernel) (by decide +kernel) (by decide +kernel) (by decide) (lc19 F X hI P hl hi hce hsl nxt)
    | 20, _ => exact lv_tableIn F.1 F.2.1 (off := 804) (tgt := 836) zL_32 (by decide +kernel) (by decide +kernel) (by decide +kernel) (by decide) (lc20 F X hI P hl hi hce hsl nxt)
    | 21, _ => exact lv_tableIn F.1 F.2.1 (off := 827) (tgt := 859) zL_32 (by decide +kernel) (by decide +kernel) (by decide +kernel) (by decide) (lc21 F X hI P hl hi hce hsl nxt)
    | 22, _ => exact lv_tableIn F.1 F.2.1 (off := 860) (tgt := 892) zL_32 (by decide +kernel) (by decide +kernel) (by decide +kernel) (by decide) (lc22 F X hI P hl hi hce hsl nxt)
    | 23, _ => exact lv_tableIn F.1 F.2.1 (off := 883) (tgt := 915) zL_32 (by decide +kernel) (by decide +kernel) (by decide +kernel) (by decide) (lc23 F X hI P hl hi hce hsl nxt)
    | 24, _ => exact lv_tableIn F.1 F.2.1 (off := 916) (tgt := 948) zL_32 (by decide +kernel) (by decide +kernel) (by decide +kernel) (by decide) (lc24 F X hI P hl hi hce hsl nxt)
    | 25, _ => exact lv_tableIn F.1 F.2.1 (off := 939) (tgt := 971) zL_32 (by decide +kernel) (by decide +kernel) (by decide +kernel) (by decide) (lc25 F X hI P hl hi hce hsl nxt)
    | 26, _ => exact lv_tableIn F.1 F.2.1 (off := 972) (tgt := 1004) zL_32 (by decide +kernel) (by decide +kernel) (by decide +kernel) (by decide) (lc26 F X hI P hl hi hce hsl nxt)
    | 27, _ => exact lv_tableIn F.1 F.2.1 (off := 1005) (tgt := 1037) zL_32 (by decide +kernel) (by decide +kernel) (by decide +kernel) (by decide) (lc27 F X hI P hl hi hce hsl nxt)
    | 28, _ => exact lv_tableIn F.1 F.2.1 (off := 1028) (tgt := 1060) zL_32 (by decide +kernel) (by decide +kernel) (by decide +kernel) (by decide) (lc28 F X hI P hl hi hce hsl nxt)
    | 29, _ => exact lv_tableIn F.1 F.2.1 (off := 1051) (tgt := 1083) zL_32 (by decide +kernel) (by decide +kernel) (by decide +kernel) (by decide) (lc29 F X hI P hl hi hce hsl nxt)
    | 30, _ => exact lv_tableIn F.1 F.2.1 (off := 1104) (tgt := 1136) zL_32 (by decide +kernel) (by decide +kernel) (by decide +kernel) (by decide) (lc30 F X hI P hl hi hce hsl nxt)
    | 31, _ => exact lv_tableIn F.1 F.2.1 (off := 1117) (tgt := 1149) zL_32 (by decide +kernel) (by decide +kernel) (by decide +kernel) (by decide) (lc31 F X hI P hl hi hce hsl nxt)
    | 32, _ => exact lv_tableIn F.1 F.2.1 (off := 1140) (tgt := 1172) zL_32 (by decide +kernel) (by decide +kernel) (by decide +kernel) (by decide) (lc32 F X hI P hl hi hce hsl nxt)
    | 33, _ => exact lv_tableIn F.1 F.2.1 (off := 1153) (tgt := 1185) zL_32 (by decide +kernel) (by decide +kernel) (by decide +kernel) (by decide) (lc33 F X hI P hl hi hce hsl nxt)
    | 34, _ => exact lv_tableIn F.1 F.2.1 (off := 1176) (tgt := 1208) zL_32 (by decide +kernel) (by decide +kernel) (by decide +kernel) (by decide) (lc34 F X hI P hl hi hce hsl nxt)
    | 35, _ => exact lv_tableIn F.1 F.2.1 (off := 1189) (tgt := 1221) zL_32 (by decide +kernel) (by decide +kernel) (by decide +kernel) (by decide) (lc35 F X hI P hl hi hce hsl nxt)
    | 36, _ => exact lv_tableIn F.1 F.2.1 (off := 1222) (tgt := 1254) zL_32 (by decide +kernel) (by decide +kernel) (by decide +kernel) (by decide) (lc36 F X hI P hl hi hce hsl nxt)
    | 37, _ => exact lv_tableIn F.1 F.2.1 (off := 1245) (tgt := 1277) zL_32 (by decide +kernel) (by decide +kernel) (by decide +kernel) (by decide) (lc37 F X hI P hl hi hce hsl nxt)
    | 38, _ => exact lv_tableIn F.1 F.2.1 (off := 1278) (tgt := 1310) zL_32 (by decide +kernel) (by decide +kernel) (by decide +kernel) (by decide) (lc38 F X hI P hl hi hce hsl nxt)
    | 39, _ => exact lv_tableIn F.1 F.2.1 (off := 1321) (tgt := 1353) zL_32 (by decide +kernel) (by decide +kernel) (by decide +kernel) (by decide) (lc39 F X hI P hl hi hce hsl nxt)
    | 40, _ => exact lv_tableIn F.1 F.2.1 (off := 1334) (tgt := 1366) zL_32 (by decide +kernel) (by decide +kernel) (by decide +kernel) (by decide) (lc40 F X hI P hl hi hce hsl nxt)
    | 41, _ => exact lv_tableIn F.1 F.2.1 (off := 1377) (tgt := 1409) zL_32 (by decide +kernel) (by decide +kernel) (by decide +kernel) (by decide) (lc41 F X hI P hl hi hce hsl nxt)
    | 42, _ => exact lv_tableIn F.1 F.2.1 (off := 1420) (tgt := 1452) zL_32 (by decide +kernel) (by decide +kernel) (by decide +kernel) (by decide) (lc42 F X hI P hl hi hce hsl nxt)
    | 43, _ => exact lv_tableIn F.1 F.2.1 (off := 1463) (tgt := 1495) zL_32 (by decide +kernel) (by decide +kernel) (by decide +kernel) (by decide) (lc43 F X hI P hl hi hce hsl nxt)
    | 44, _ => exact lv_tableIn F.1 F.2.1 (off := 1506) (tgt := 1538) zL_32 (by decide +kernel) (by decide +kernel) (by decide +kernel) (by decide) (lc44 F X hI P hl hi hce hsl nxt)
    | 45, _ => exact lv_tableIn F.1 F.2.1 (off := 1549) (tgt := 1581) zL_32 (by decide +kernel) (by decide +kernel) (by decide +kernel) (by decide) (lc45 F X hI P hl hi hce hsl nxt)
    | 46, _ => exact lv_tableIn F.1 F.2.1 (off := 1592) (tgt := 1624) zL_32 (by decide +kernel) (by decide +kernel) (by decide +kernel) (by decide) (lc46 F X hI P hl hi hce hsl nxt)
    | 47, _ => exact lv_tableIn F.1 F.2.1 (off := 1625) (tgt := 1657) zL_32 (by decide +kernel) (by decide +kernel) (by decide +kernel) (by decide) (lc47 F X hI P hl hi hce hsl nxt)
    | 48, _ => exact lv_tableIn F.1 F.2.1 (off := 1668) (tgt := 1700) zL_32 (by decide +kernel) (by decide +kernel) (by decide +kernel) (by decide) (lc48 F X hI P hl hi hce hsl nxt)
    | 49, _ => exact lv_tableIn F.1 F.2.1 (off := 1691) (tgt := 1723) zL_32 (by decide +kernel) (by decide +kernel) (by decide +kernel) (by decide) (lc49 F X hI P hl hi hce hsl nxt)
    | 50, _ => exact lv_tableIn F.1 F.2.1 (off := 1714) (tgt := 1746) zL_32 (by decide +kernel) (by decide +kernel) (by decide +kernel) (by decide) (lc50 F X hI P hl hi hce hsl nxt)
    | 51, _ => exact lv_tableIn F.1 F.2.1 (off := 1727) (tgt := 1759) zL_32 (by decide +kernel) (by decide +kernel) (by decide +kernel) (by decide) (lc51 F X hI P hl hi hce hsl nxt)
    | 52, _ => exact lv_tableOut F.1 F.2.1 (tgt := 1772) zL_32 (Or.inr (by decide +kernel)) (by decide) (nxt I H locs hI P)
    | 53, _ => exact lv_tableOut F.1 F.2.1 (tgt := 1772) zL_32 (Or.inr (by decide +kernel)) (by decide) (nxt I H locs hI P)
    | 54, _ => exact lv_tableOut F.1 F.2.1 (tgt := 1772) zL_32 (Or.inr (by decide +kernel)) (by decide) (nxt I H locs hI P)
    | 55, _ => exact lv_tableOut F.1 F.2.1 (tgt := 1772) zL_32 (Or.inr (by decide +kernel)) (by decide) (nxt I H locs hI P)
    | 56, _ => exact lv_tableOut F.1 F.2.1 (tgt := 1772) zL_32 (Or.inr (by decide +kernel)) (by decide) (nxt I H locs hI P)
    | 57, _ => exact lv_tableOut F.1 F.2.1 (tgt := 1772) zL_32 (Or.inr (by decide +kernel)) (by decide) (nxt I H locs hI P)
    | 58, _ => exact lv_tableOut F.1 F.2.1 (tgt := 1772) zL_32 (Or.inr (by decide +kernel)) (by decide) (nxt I H locs hI P)
    | 59, _ => exact lv_tableOut F.1 F.2.1 (tgt := 1772) zL_32 (Or.inr (by decide +kernel)) (by decide) (nxt I H locs hI P)
    | 60, _ => exact lv_tableOut F.1 F.2.1 (tgt := 1772) zL_32 (Or.inr (by decide +kernel)) (by decide) (nxt I H locs hI P)
    | 61, _ => exact lv_tableOut F.1 F.2.1 (tgt := 1772) zL_32 (Or.inr (by decide +kernel)) (by decide) (nxt I H locs hI P)
    | 62, _ => exact lv_tableOut F.1 F.2.1 (tgt := 1772) zL_32 (Or.inr (by decide +kernel)) (by decide) (nxt I H locs hI P)
    | 63, _ => exact lv_tableOut F.1 F.2.1 (tgt := 1772) zL_32 (Or.inr (by decide +kernel)) (by decide) (nxt I H locs hI P)
    | k + 64, h => exact absurd h (by omega)
end LL
