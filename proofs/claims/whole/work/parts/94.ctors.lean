section KO
variable {E : EE} {M : MD} {p : Program} {l : Launch} {e : Env} {R : Room} {s : State} {m : MethodId} {args : Array Value} {below : List Frame} {meth : Method} {c : Code} {H : Heap} {locs : List Loc} {cells slots : Nat} {Q : State → Prop} {pc : Nat} {ls : Array Slot} {rest : List Value} {cs N : List va_E} {X : va_E} {o L : Nat}
theorem ob_inst : Cond.instanceMethod Lib.objectInit ∈ Gw := (gx1 28 rfl rfl)
theorem ob_code : Cond.code Lib.objectInit ⟨#[0xb1]⟩ 1 none ∈ Gw := (gx1 29 rfl rfl)
/-- Object's constructor -/
theorem K_obj {idx q : Nat} (F : Fx E M p s m meth c) (hls : ls.size = M.2.2.1) (hw : Cond.methodLink M.1.cls idx Lib.objectInit ∈ Gw) (hr : (rest.map fun v => v.category).sum ≤ 8) (hd : 1 ≤ R.frames) (hlo : 41 ≤ R.locals) (hdg : decode M.2.1 pc = .ok (.invokespecial idx, 3))
    (kk : W p l e R s m args below meth c H locs cells slots Q (F0 m (pc + 3) ls rest)) : W p l e R s m args below meth c H locs cells slots Q (F0 m pc ls (.ref q :: rest)) := by
  have hts := hts_of F args
  refine W.objInit F.1 F.2.1 (own_of F) (hts _ hw) (hts _ ob_inst) (hts _ ob_code) rfl (by show ls.size = _; rw [F.2.2.1]; exact hls) rfl hdg hd ?_ ?_
  · show 2 * 0 + _ + 12 ≤ _
    omega
  · exact W.eq (g2 := F0 m (pc + 3) ls rest) rfl kk
theorem T_iast2 {a n j : Nat} {f : Nat → Int32} {x y : Int32} (F : Fx E M p s m meth c) (P : PK E s (cs.set o X ++ N.set a (.inl (E.2.2.2.2 0, n, .inl f))) H locs) (hL : cs.length = L) (ha : a < N.length) (hy : y = nI j) (hj : j < n) (hn : n < 10000) (hdg : decode M.2.1 pc = .ok (.iastore, 1))
    (kk : ∀ (H1 : Heap) (locs1 : List Loc), PK E s (cs.set o X ++ N.set a (.inl (E.2.2.2.2 0, n, .inl (upd f j x)))) H1 locs1 → W p l e R s m args below meth c H1 locs1 cells slots Q (F0 m (pc + 1) ls rest)) : W p l e R s m args below meth c H locs cells slots Q (F0 m pc ls (.int x :: .int y :: .ref (eb E + (L + a)) :: rest)) :=
  K_iast F P (nf_n hL (List.getElem?_set_self ha)) hy hj hn hdg (fun H1 locs1 P1 => kk H1 locs1 (by rw [nf_sn hL, List.set_set] at P1; exact P1))
end KO
theorem zX4_init_0 : decode mX4_init.2.1 0 = .ok (.aload_n 0, 1) := by decide +kernel
theorem zX4_init_1 : decode mX4_init.2.1 1 = .ok (.invokespecial 3, 3) := by decide +kernel
theorem loX4 : Cond.methodLink RX4 3 Lib.objectInit ∈ Gw := (gx1 129 rfl rfl)
theorem zX4_init_4 : decode mX4_init.2.1 4 = .ok (.return_, 1) := by decide +kernel
theorem zX3_init_0 : decode mX3_init.2.1 0 = .ok (.aload_n 0, 1) := by decide +kernel
theorem zX3_init_1 : decode mX3_init.2.1 1 = .ok (.invokespecial 3, 3) := by decide +kernel
theorem liX3_3 : LkI RX3 3 mX4_init := ⟨Or.inr ⟨"PaneScenes", (lx1 136 rfl)⟩, rfl, rfl, (gx1 127 rfl rfl)⟩
theorem zX3_init_4 : decode mX3_init.2.1 4 = .ok (.return_, 1) := by decide +kernel
theorem zX7_init_0 : decode mX7_init.2.1 0 = .ok (.aload_n 0, 1) := by decide +kernel
theorem zX7_init_1 : decode mX7_init.2.1 1 = .ok (.invokespecial 1, 3) := by decide +kernel
theorem liX7_1 : LkI RX7 1 mX4_init := ⟨Or.inr ⟨"PaneScenes", (lx1 143 rfl)⟩, rfl, rfl, (gx1 127 rfl rfl)⟩
theorem zX7_init_4 : decode mX7_init.2.1 4 = .ok (.return_, 1) := by decide +kernel
theorem zX2_init_0 : decode mX2_init.2.1 0 = .ok (.aload_n 0, 1) := by decide +kernel
theorem zX2_init_1 : decode mX2_init.2.1 1 = .ok (.invokespecial 3, 3) := by decide +kernel
theorem liX2_3 : LkI RX2 3 mX4_init := ⟨Or.inr ⟨"PaneScenes", (lx1 157 rfl)⟩, rfl, rfl, (gx1 127 rfl rfl)⟩
theorem zX2_init_4 : decode mX2_init.2.1 4 = .ok (.return_, 1) := by decide +kernel
theorem zX10_init_0 : decode mX10_init.2.1 0 = .ok (.aload_n 0, 1) := by decide +kernel
theorem zX10_init_1 : decode mX10_init.2.1 1 = .ok (.invokespecial 3, 3) := by decide +kernel
theorem liX10_3 : LkI RX10 3 mX7_init := ⟨Or.inr ⟨"PaneScenes", (lx1 150 rfl)⟩, rfl, rfl, (gx1 141 rfl rfl)⟩
theorem zX10_init_4 : decode mX10_init.2.1 4 = .ok (.return_, 1) := by decide +kernel
theorem zX0_init_0 : decode mX0_init.2.1 0 = .ok (.aload_n 0, 1) := by decide +kernel
theorem zX0_init_1 : decode mX0_init.2.1 1 = .ok (.invokespecial 1, 3) := by decide +kernel
theorem liX0_1 : LkI RX0 1 mX2_init := ⟨Or.inr ⟨"PaneScenes", (lx1 164 rfl)⟩, rfl, rfl, (gx1 155 rfl rfl)⟩
theorem zX0_init_4 : decode mX0_init.2.1 4 = .ok (.return_, 1) := by decide +kernel
theorem zX6_init_0 : decode mX6_init.2.1 0 = .ok (.aload_n 0, 1) := by decide +kernel
theorem zX6_init_1 : decode mX6_init.2.1 1 = .ok (.invokespecial 3, 3) := by decide +kernel
theorem loX6 : Cond.methodLink RX6 3 Lib.objectInit ∈ Gw := (gx1 63 rfl rfl)
theorem zX6_init_4 : decode mX6_init.2.1 4 = .ok (.aload_n 0, 1) := by decide +kernel
theorem zX6_init_5 : decode mX6_init.2.1 5 = .ok (.iconst 0, 1) := by decide +kernel
theorem kc0 : Int32.ofInt (0) = nI 0 := by decide +kernel
theorem zX6_init_6 : decode mX6_init.2.1 6 = .ok (.putfield 9, 3) := by decide +kernel
theorem kpX6_9 : KP RX6 9 6 0 (tyX6 0) := ⟨RX6, TX6, 7, tyX6, rfl, by decide, rfl, rfl, iX6, (gx1 64 rfl rfl), tyX6_ok, nmX6, by decide +kernel⟩
theorem zX6_init_9 : decode mX6_init.2.1 9 = .ok (.aload_n 0, 1) := by decide +kernel
theorem zX6_init_10 : decode mX6_init.2.1 10 = .ok (.iconst 0, 1) := by decide +kernel
theorem zX6_init_11 : decode mX6_init.2.1 11 = .ok (.putfield 15, 3) := by decide +kernel
theorem kpX6_15 : KP RX6 15 6 1 (tyX6 1) := ⟨RX6, TX6, 7, tyX6, rfl, by decide, rfl, rfl, iX6, (gx1 68 rfl rfl), tyX6_ok, nmX6, by decide +kernel⟩
theorem zX6_init_14 : decode mX6_init.2.1 14 = .ok (.aload_n 0, 1) := by decide +kernel
theorem zX6_init_15 : decode mX6_init.2.1 15 = .ok (.bipush 8, 2) := by decide +kernel
theorem kb8 : (Int8.ofInt (8)).toInt32 = nI 8 := by decide +kernel
theorem zX6_init_17 : decode mX6_init.2.1 17 = .ok (.newarray .int, 2) := by decide +kernel
theorem kacI : Cond.arrayClass .int ∈ Gw := (gx1 57 rfl rfl)
theorem zX6_init_19 : decode mX6_init.2.1 19 = .ok (.putfield 18, 3) := by decide +kernel
theorem kpX6_18 : KP RX6 18 6 2 (tyX6 2) := ⟨RX6, TX6, 7, tyX6, rfl, by decide, rfl, rfl, iX6, (gx1 69 rfl rfl), tyX6_ok, nmX6, by decide +kernel⟩
theorem zX6_init_22 : decode mX6_init.2.1 22 = .ok (.aload_n 0, 1) := by decide +kernel
theorem zX6_init_23 : decode mX6_init.2.1 23 = .ok (.bipush 8, 2) := by decide +kernel
theorem zX6_init_25 : decode mX6_init.2.1 25 = .ok (.newarray .int, 2) := by decide +kernel
theorem zX6_init_27 : decode mX6_init.2.1 27 = .ok (.putfield 22, 3) := by decide +kernel
theorem kpX6_22 : KP RX6 22 6 3 (tyX6 3) := ⟨RX6, TX6, 7, tyX6, rfl, by decide, rfl, rfl, iX6, (gx1 70 rfl rfl), tyX6_ok, nmX6, by decide +kernel⟩
theorem zX6_init_30 : decode mX6_init.2.1 30 = .ok (.aload_n 0, 1) := by decide +kernel
theorem zX6_init_31 : decode mX6_init.2.1 31 = .ok (.bipush 8, 2) := by decide +kernel
theorem zX6_init_33 : decode mX6_init.2.1 33 = .ok (.newarray .int, 2) := by decide +kernel
theorem zX6_init_35 : decode mX6_init.2.1 35 = .ok (.putfield 25, 3) := by decide +kernel
theorem kpX6_25 : KP RX6 25 6 4 (tyX6 4) := ⟨RX6, TX6, 7, tyX6, rfl, by decide, rfl, rfl, iX6, (gx1 71 rfl rfl), tyX6_ok, nmX6, by decide +kernel⟩
theorem zX6_init_38 : decode mX6_init.2.1 38 = .ok (.aload_n 0, 1) := by decide +kernel
theorem zX6_init_39 : decode mX6_init.2.1 39 = .ok (.sipush 200, 3) := by decide +kernel
theorem ks200 : (Int16.ofInt (200)).toInt32 = nI 200 := by decide +kernel
theorem zX6_init_42 : decode mX6_init.2.1 42 = .ok (.newarray .int, 2) := by decide +kernel
theorem zX6_init_44 : decode mX6_init.2.1 44 = .ok (.putfield 30, 3) := by decide +kernel
theorem kpX6_30 : KP RX6 30 6 5 (tyX6 5) := ⟨RX6, TX6, 7, tyX6, rfl, by decide, rfl, rfl, iX6, (gx1 72 rfl rfl), tyX6_ok, nmX6, by decide +kernel⟩
theorem zX6_init_47 : decode mX6_init.2.1 47 = .ok (.aload_n 0, 1) := by decide +kernel
theorem zX6_init_48 : decode mX6_init.2.1 48 = .ok (.iconst 5, 1) := by decide +kernel
theorem kc5 : Int32.ofInt (5) = nI 5 := by decide +kernel
theorem zX6_init_49 : decode mX6_init.2.1 49 = .ok (.newarray .int, 2) := by decide +kernel
theorem zX6_init_51 : decode mX6_init.2.1 51 = .ok (.putfield 33, 3) := by decide +kernel
theorem kpX6_33 : KP RX6 33 6 6 (tyX6 6) := ⟨RX6, TX6, 7, tyX6, rfl, by decide, rfl, rfl, iX6, (gx1 73 rfl rfl), tyX6_ok, nmX6, by decide +kernel⟩
theorem zX6_init_54 : decode mX6_init.2.1 54 = .ok (.return_, 1) := by decide +kernel
theorem zX9_init_0 : decode mX9_init.2.1 0 = .ok (.aload_n 0, 1) := by decide +kernel
theorem zX9_init_1 : decode mX9_init.2.1 1 = .ok (.invokespecial 5, 3) := by decide +kernel
theorem loX9 : Cond.methodLink RX9 5 Lib.objectInit ∈ Gw := (gx1 35 rfl rfl)
theorem zX9_init_4 : decode mX9_init.2.1 4 = .ok (.aload_n 0, 1) := by decide +kernel
theorem zX9_init_5 : decode mX9_init.2.1 5 = .ok (.iconst 0, 1) := by decide +kernel
theorem zX9_init_6 : decode mX9_init.2.1 6 = .ok (.putfield 11, 3) := by decide +kernel
theorem kpX9_11 : KP RX9 11 9 0 (tyX9 0) := ⟨RX9, TX9, 6, tyX9, rfl, by decide, rfl, rfl, iX9, (gx1 36 rfl rfl), tyX9_ok, nmX9, by decide +kernel⟩
theorem zX9_init_9 : decode mX9_init.2.1 9 = .ok (.aload_n 0, 1) := by decide +kernel
theorem zX9_init_10 : decode mX9_init.2.1 10 = .ok (.sipush 200, 3) := by decide +kernel
theorem zX9_init_13 : decode mX9_init.2.1 13 = .ok (.newarray .byte, 2) := by decide +kernel
theorem kacB : Cond.arrayClass .byte ∈ Gw := (gx1 56 rfl rfl)
theorem zX9_init_15 : decode mX9_init.2.1 15 = .ok (.putfield 15, 3) := by decide +kernel
theorem kpX9_15 : KP RX9 15 9 1 (tyX9 1) := ⟨RX9, TX9, 6, tyX9, rfl, by decide, rfl, rfl, iX9, (gx1 38 rfl rfl), tyX9_ok, nmX9, by decide +kernel⟩
theorem zX9_init_18 : decode mX9_init.2.1 18 = .ok (.aload_n 0, 1) := by decide +kernel
theorem zX9_init_19 : decode mX9_init.2.1 19 = .ok (.sipush 201, 3) := by decide +kernel
theorem ks201 : (Int16.ofInt (201)).toInt32 = nI 201 := by decide +kernel
theorem zX9_init_22 : decode mX9_init.2.1 22 = .ok (.newarray .int, 2) := by decide +kernel
theorem zX9_init_24 : decode mX9_init.2.1 24 = .ok (.putfield 19, 3) := by decide +kernel
theorem kpX9_19 : KP RX9 19 9 2 (tyX9 2) := ⟨RX9, TX9, 6, tyX9, rfl, by decide, rfl, rfl, iX9, (gx1 39 rfl rfl), tyX9_ok, nmX9, by decide +kernel⟩
theorem zX9_init_27 : decode mX9_init.2.1 27 = .ok (.aload_n 0, 1) := by decide +kernel
theorem zX9_init_28 : decode mX9_init.2.1 28 = .ok (.sipush 201, 3) := by decide +kernel
theorem zX9_init_31 : decode mX9_init.2.1 31 = .ok (.newarray .int, 2) := by decide +kernel
theorem zX9_init_33 : decode mX9_init.2.1 33 = .ok (.putfield 23, 3) := by decide +kernel
theorem kpX9_23 : KP RX9 23 9 3 (tyX9 3) := ⟨RX9, TX9, 6, tyX9, rfl, by decide, rfl, rfl, iX9, (gx1 40 rfl rfl), tyX9_ok, nmX9, by decide +kernel⟩
theorem zX9_init_36 : decode mX9_init.2.1 36 = .ok (.aload_n 0, 1) := by decide +kernel
theorem zX9_init_37 : decode mX9_init.2.1 37 = .ok (.iconst 0, 1) := by decide +kernel
theorem zX9_init_38 : decode mX9_init.2.1 38 = .ok (.putfield 26, 3) := by decide +kernel
theorem kpX9_26 : KP RX9 26 9 4 (tyX9 4) := ⟨RX9, TX9, 6, tyX9, rfl, by decide, rfl, rfl, iX9, (gx1 41 rfl rfl), tyX9_ok, nmX9, by decide +kernel⟩
theorem zX9_init_41 : decode mX9_init.2.1 41 = .ok (.aload_n 0, 1) := by decide +kernel
theorem zX9_init_42 : decode mX9_init.2.1 42 = .ok (.iconst 0, 1) := by decide +kernel
theorem zX9_init_43 : decode mX9_init.2.1 43 = .ok (.putfield 29, 3) := by decide +kernel
theorem kpX9_29 : KP RX9 29 9 5 (tyX9 5) := ⟨RX9, TX9, 6, tyX9, rfl, by decide, rfl, rfl, iX9, (gx1 42 rfl rfl), tyX9_ok, nmX9, by decide +kernel⟩
theorem zX9_init_46 : decode mX9_init.2.1 46 = .ok (.return_, 1) := by decide +kernel
theorem zX8_init_0 : decode mX8_init.2.1 0 = .ok (.aload_n 0, 1) := by decide +kernel
theorem zX8_init_1 : decode mX8_init.2.1 1 = .ok (.invokespecial 1, 3) := by decide +kernel
theorem loX8 : Cond.methodLink RX8 1 Lib.objectInit ∈ Gw := (gx1 95 rfl rfl)
theorem zX8_init_4 : decode mX8_init.2.1 4 = .ok (.aload_n 0, 1) := by decide +kernel
theorem zX8_init_5 : decode mX8_init.2.1 5 = .ok (.bipush 30, 2) := by decide +kernel
theorem kb30 : (Int8.ofInt (30)).toInt32 = nI 30 := by decide +kernel
theorem zX8_init_7 : decode mX8_init.2.1 7 = .ok (.newarray .int, 2) := by decide +kernel
theorem zX8_init_9 : decode mX8_init.2.1 9 = .ok (.putfield 7, 3) := by decide +kernel
theorem kpX8_7 : KP RX8 7 8 0 (tyX8 0) := ⟨RX8, TX8, 5, tyX8, rfl, by decide, rfl, rfl, iX8, (gx1 96 rfl rfl), tyX8_ok, nmX8, by decide +kernel⟩
theorem zX8_init_12 : decode mX8_init.2.1 12 = .ok (.aload_n 0, 1) := by decide +kernel
theorem zX8_init_13 : decode mX8_init.2.1 13 = .ok (.iconst 0, 1) := by decide +kernel
theorem zX8_init_14 : decode mX8_init.2.1 14 = .ok (.putfield 13, 3) := by decide +kernel
theorem kpX8_13 : KP RX8 13 8 1 (tyX8 1) := ⟨RX8, TX8, 5, tyX8, rfl, by decide, rfl, rfl, iX8, (gx1 98 rfl rfl), tyX8_ok, nmX8, by decide +kernel⟩
theorem zX8_init_17 : decode mX8_init.2.1 17 = .ok (.aload_n 0, 1) := by decide +kernel
theorem zX8_init_18 : decode mX8_init.2.1 18 = .ok (.iconst 0, 1) := by decide +kernel
theorem zX8_init_19 : decode mX8_init.2.1 19 = .ok (.putfield 17, 3) := by decide +kernel
theorem kpX8_17 : KP RX8 17 8 2 (tyX8 2) := ⟨RX8, TX8, 5, tyX8, rfl, by decide, rfl, rfl, iX8, (gx1 100 rfl rfl), tyX8_ok, nmX8, by decide +kernel⟩
theorem zX8_init_22 : decode mX8_init.2.1 22 = .ok (.aload_n 0, 1) := by decide +kernel
theorem zX8_init_23 : decode mX8_init.2.1 23 = .ok (.iconst 0, 1) := by decide +kernel
theorem zX8_init_24 : decode mX8_init.2.1 24 = .ok (.putfield 20, 3) := by decide +kernel
theorem kpX8_20 : KP RX8 20 8 3 (tyX8 3) := ⟨RX8, TX8, 5, tyX8, rfl, by decide, rfl, rfl, iX8, (gx1 105 rfl rfl), tyX8_ok, nmX8, by decide +kernel⟩
theorem zX8_init_27 : decode mX8_init.2.1 27 = .ok (.aload_n 0, 1) := by decide +kernel
theorem zX8_init_28 : decode mX8_init.2.1 28 = .ok (.iconst 0, 1) := by decide +kernel
theorem zX8_init_29 : decode mX8_init.2.1 29 = .ok (.putfield 23, 3) := by decide +kernel
theorem kpX8_23 : KP RX8 23 8 4 (tyX8 4) := ⟨RX8, TX8, 5, tyX8, rfl, by decide, rfl, rfl, iX8, (gx1 109 rfl rfl), tyX8_ok, nmX8, by decide +kernel⟩
theorem zX8_init_32 : decode mX8_init.2.1 32 = .ok (.return_, 1) := by decide +kernel
theorem zX1_init_0 : decode mX1_init.2.1 0 = .ok (.aload_n 0, 1) := by decide +kernel
theorem zX1_init_1 : decode mX1_init.2.1 1 = .ok (.invokespecial 3, 3) := by decide +kernel
theorem loX1 : Cond.methodLink RX1 3 Lib.objectInit ∈ Gw := (gx1 171 rfl rfl)
theorem zX1_init_4 : decode mX1_init.2.1 4 = .ok (.aload_n 0, 1) := by decide +kernel
theorem zX1_init_5 : decode mX1_init.2.1 5 = .ok (.bipush 12, 2) := by decide +kernel
theorem kb12 : (Int8.ofInt (12)).toInt32 = nI 12 := by decide +kernel
theorem zX1_init_7 : decode mX1_init.2.1 7 = .ok (.putfield 9, 3) := by decide +kernel
theorem kpX1_9 : KP RX1 9 1 2 (tyX1 2) := ⟨RX1, TX1, 19, tyX1, rfl, by decide, rfl, rfl, iX1, (gx1 178 rfl rfl), tyX1_ok, nmX1, by decide +kernel⟩
theorem zX1_init_10 : decode mX1_init.2.1 10 = .ok (.aload_n 0, 1) := by decide +kernel
theorem zX1_init_11 : decode mX1_init.2.1 11 = .ok (.iconst 0, 1) := by decide +kernel
theorem zX1_init_12 : decode mX1_init.2.1 12 = .ok (.putfield 15, 3) := by decide +kernel
theorem kpX1_15 : KP RX1 15 1 3 (tyX1 3) := ⟨RX1, TX1, 19, tyX1, rfl, by decide, rfl, rfl, iX1, (gx1 181 rfl rfl), tyX1_ok, nmX1, by decide +kernel⟩
theorem zX1_init_15 : decode mX1_init.2.1 15 = .ok (.aload_n 0, 1) := by decide +kernel
theorem zX1_init_16 : decode mX1_init.2.1 16 = .ok (.iconst 0, 1) := by decide +kernel
theorem zX1_init_17 : decode mX1_init.2.1 17 = .ok (.putfield 18, 3) := by decide +kernel
theorem kpX1_18 : KP RX1 18 1 4 (tyX1 4) := ⟨RX1, TX1, 19, tyX1, rfl, by decide, rfl, rfl, iX1, (gx1 184 rfl rfl), tyX1_ok, nmX1, by decide +kernel⟩
theorem zX1_init_20 : decode mX1_init.2.1 20 = .ok (.aload_n 0, 1) := by decide +kernel
theorem zX1_init_21 : decode mX1_init.2.1 21 = .ok (.bipush 60, 2) := by decide +kernel
theorem kb60 : (Int8.ofInt (60)).toInt32 = nI 60 := by decide +kernel
theorem zX1_init_23 : decode mX1_init.2.1 23 = .ok (.putfield 21, 3) := by decide +kernel
theorem kpX1_21 : KP RX1 21 1 5 (tyX1 5) := ⟨RX1, TX1, 19, tyX1, rfl, by decide, rfl, rfl, iX1, (gx1 186 rfl rfl), tyX1_ok, nmX1, by decide +kernel⟩
theorem zX1_init_26 : decode mX1_init.2.1 26 = .ok (.aload_n 0, 1) := by decide +kernel
theorem zX1_init_27 : decode mX1_init.2.1 27 = .ok (.iconst 0, 1) := by decide +kernel
theorem zX1_init_28 : decode mX1_init.2.1 28 = .ok (.putfield 24, 3) := by decide +kernel
theorem kpX1_24 : KP RX1 24 1 6 (tyX1 6) := ⟨RX1, TX1, 19, tyX1, rfl, by decide, rfl, rfl, iX1, (gx1 188 rfl rfl), tyX1_ok, nmX1, by decide +kernel⟩
theorem zX1_init_31 : decode mX1_init.2.1 31 = .ok (.aload_n 0, 1) := by decide +kernel
theorem zX1_init_32 : decode mX1_init.2.1 32 = .ok (.iconst 0, 1) := by decide +kernel
theorem zX1_init_33 : decode mX1_init.2.1 33 = .ok (.putfield 27, 3) := by decide +kernel
theorem kpX1_27 : KP RX1 27 1 7 (tyX1 7) := ⟨RX1, TX1, 19, tyX1, rfl, by decide, rfl, rfl, iX1, (gx1 190 rfl rfl), tyX1_ok, nmX1, by decide +kernel⟩
theorem zX1_init_36 : decode mX1_init.2.1 36 = .ok (.aload_n 0, 1) := by decide +kernel
theorem zX1_init_37 : decode mX1_init.2.1 37 = .ok (.iconst 0, 1) := by decide +kernel
theorem zX1_init_38 : decode mX1_init.2.1 38 = .ok (.putfield 30, 3) := by decide +kernel
theorem kpX1_30 : KP RX1 30 1 8 (tyX1 8) := ⟨RX1, TX1, 19, tyX1, rfl, by decide, rfl, rfl, iX1, (gx1 193 rfl rfl), tyX1_ok, nmX1, by decide +kernel⟩
theorem zX1_init_41 : decode mX1_init.2.1 41 = .ok (.aload_n 0, 1) := by decide +kernel
theorem zX1_init_42 : decode mX1_init.2.1 42 = .ok (.iconst 1, 1) := by decide +kernel
theorem kc1 : Int32.ofInt (1) = nI 1 := by decide +kernel
theorem zX1_init_43 : decode mX1_init.2.1 43 = .ok (.putfield 33, 3) := by decide +kernel
theorem kpX1_33 : KP RX1 33 1 9 (tyX1 9) := ⟨RX1, TX1, 19, tyX1, rfl, by decide, rfl, rfl, iX1, (gx1 196 rfl rfl), tyX1_ok, nmX1, by decide +kernel⟩
theorem zX1_init_46 : decode mX1_init.2.1 46 = .ok (.aload_n 0, 1) := by decide +kernel
theorem zX1_init_47 : decode mX1_init.2.1 47 = .ok (.iconst 0, 1) := by decide +kernel
theorem zX1_init_48 : decode mX1_init.2.1 48 = .ok (.putfield 36, 3) := by decide +kernel
theorem kpX1_36 : KP RX1 36 1 10 (tyX1 10) := ⟨RX1, TX1, 19, tyX1, rfl, by decide, rfl, rfl, iX1, (gx1 198 rfl rfl), tyX1_ok, nmX1, by decide +kernel⟩
theorem zX1_init_51 : decode mX1_init.2.1 51 = .ok (.aload_n 0, 1) := by decide +kernel
theorem zX1_init_52 : decode mX1_init.2.1 52 = .ok (.bipush 16, 2) := by decide +kernel
theorem kb16 : (Int8.ofInt (16)).toInt32 = nI 16 := by decide +kernel
theorem zX1_init_54 : decode mX1_init.2.1 54 = .ok (.newarray .int, 2) := by decide +kernel
theorem zX1_init_56 : decode mX1_init.2.1 56 = .ok (.putfield 39, 3) := by decide +kernel
theorem kpX1_39 : KP RX1 39 1 11 (tyX1 11) := ⟨RX1, TX1, 19, tyX1, rfl, by decide, rfl, rfl, iX1, (gx1 200 rfl rfl), tyX1_ok, nmX1, by decide +kernel⟩
theorem zX1_init_59 : decode mX1_init.2.1 59 = .ok (.aload_n 0, 1) := by decide +kernel
theorem zX1_init_60 : decode mX1_init.2.1 60 = .ok (.bipush 6, 2) := by decide +kernel
theorem kb6 : (Int8.ofInt (6)).toInt32 = nI 6 := by decide +kernel
theorem zX1_init_62 : decode mX1_init.2.1 62 = .ok (.newarray .int, 2) := by decide +kernel
theorem zX1_init_64 : decode mX1_init.2.1 64 = .ok (.putfield 43, 3) := by decide +kernel
theorem kpX1_43 : KP RX1 43 1 12 (tyX1 12) := ⟨RX1, TX1, 19, tyX1, rfl, by decide, rfl, rfl, iX1, (gx1 202 rfl rfl), tyX1_ok, nmX1, by decide +kernel⟩
theorem zX1_init_67 : decode mX1_init.2.1 67 = .ok (.aload_n 0, 1) := by decide +kernel
theorem zX1_init_68 : decode mX1_init.2.1 68 = .ok (.bipush 6, 2) := by decide +kernel
theorem zX1_init_70 : decode mX1_init.2.1 70 = .ok (.newarray .int, 2) := by decide +kernel
theorem zX1_init_72 : decode mX1_init.2.1 72 = .ok (.putfield 46, 3) := by decide +kernel
theorem kpX1_46 : KP RX1 46 1 13 (tyX1 13) := ⟨RX1, TX1, 19, tyX1, rfl, by decide, rfl, rfl, iX1, (gx1 204 rfl rfl), tyX1_ok, nmX1, by decide +kernel⟩
theorem zX1_init_75 : decode mX1_init.2.1 75 = .ok (.aload_n 0, 1) := by decide +kernel
theorem zX1_init_76 : decode mX1_init.2.1 76 = .ok (.bipush 6, 2) := by decide +kernel
theorem zX1_init_78 : decode mX1_init.2.1 78 = .ok (.newarray .int, 2) := by decide +kernel
theorem zX1_init_80 : decode mX1_init.2.1 80 = .ok (.putfield 49, 3) := by decide +kernel
theorem kpX1_49 : KP RX1 49 1 14 (tyX1 14) := ⟨RX1, TX1, 19, tyX1, rfl, by decide, rfl, rfl, iX1, (gx1 206 rfl rfl), tyX1_ok, nmX1, by decide +kernel⟩
theorem zX1_init_83 : decode mX1_init.2.1 83 = .ok (.aload_n 0, 1) := by decide +kernel
theorem zX1_init_84 : decode mX1_init.2.1 84 = .ok (.bipush 6, 2) := by decide +kernel
theorem zX1_init_86 : decode mX1_init.2.1 86 = .ok (.newarray .int, 2) := by decide +kernel
theorem zX1_init_88 : decode mX1_init.2.1 88 = .ok (.putfield 52, 3) := by decide +kernel
theorem kpX1_52 : KP RX1 52 1 15 (tyX1 15) := ⟨RX1, TX1, 19, tyX1, rfl, by decide, rfl, rfl, iX1, (gx1 208 rfl rfl), tyX1_ok, nmX1, by decide +kernel⟩
theorem zX1_init_91 : decode mX1_init.2.1 91 = .ok (.aload_n 0, 1) := by decide +kernel
theorem zX1_init_92 : decode mX1_init.2.1 92 = .ok (.bipush 6, 2) := by decide +kernel
theorem zX1_init_94 : decode mX1_init.2.1 94 = .ok (.newarray .int, 2) := by decide +kernel
theorem zX1_init_96 : decode mX1_init.2.1 96 = .ok (.putfield 55, 3) := by decide +kernel
theorem kpX1_55 : KP RX1 55 1 16 (tyX1 16) := ⟨RX1, TX1, 19, tyX1, rfl, by decide, rfl, rfl, iX1, (gx1 210 rfl rfl), tyX1_ok, nmX1, by decide +kernel⟩
theorem zX1_init_99 : decode mX1_init.2.1 99 = .ok (.aload_n 0, 1) := by decide +kernel
theorem zX1_init_100 : decode mX1_init.2.1 100 = .ok (.bipush 6, 2) := by decide +kernel
theorem zX1_init_102 : decode mX1_init.2.1 102 = .ok (.newarray .int, 2) := by decide +kernel
theorem zX1_init_104 : decode mX1_init.2.1 104 = .ok (.putfield 58, 3) := by decide +kernel
theorem kpX1_58 : KP RX1 58 1 17 (tyX1 17) := ⟨RX1, TX1, 19, tyX1, rfl, by decide, rfl, rfl, iX1, (gx1 212 rfl rfl), tyX1_ok, nmX1, by decide +kernel⟩
theorem zX1_init_107 : decode mX1_init.2.1 107 = .ok (.aload_n 0, 1) := by decide +kernel
theorem zX1_init_108 : decode mX1_init.2.1 108 = .ok (.bipush 24, 2) := by decide +kernel
theorem kb24 : (Int8.ofInt (24)).toInt32 = nI 24 := by decide +kernel
theorem zX1_init_110 : decode mX1_init.2.1 110 = .ok (.newarray .int, 2) := by decide +kernel
theorem zX1_init_112 : decode mX1_init.2.1 112 = .ok (.putfield 61, 3) := by decide +kernel
theorem kpX1_61 : KP RX1 61 1 18 (tyX1 18) := ⟨RX1, TX1, 19, tyX1, rfl, by decide, rfl, rfl, iX1, (gx1 214 rfl rfl), tyX1_ok, nmX1, by decide +kernel⟩
theorem zX1_init_115 : decode mX1_init.2.1 115 = .ok (.aload_n 0, 1) := by decide +kernel
theorem zX1_init_116 : decode mX1_init.2.1 116 = .ok (.aload_n 1, 1) := by decide +kernel
theorem zX1_init_117 : decode mX1_init.2.1 117 = .ok (.putfield 64, 3) := by decide +kernel
theorem kpX1_64 : KP RX1 64 1 0 (tyX1 0) := ⟨RX1, TX1, 19, tyX1, rfl, by decide, rfl, rfl, iX1, (gx1 175 rfl rfl), tyX1_ok, nmX1, by decide +kernel⟩
theorem zX1_init_120 : decode mX1_init.2.1 120 = .ok (.aload_n 0, 1) := by decide +kernel
theorem zX1_init_121 : decode mX1_init.2.1 121 = .ok (.aload_n 2, 1) := by decide +kernel
theorem zX1_init_122 : decode mX1_init.2.1 122 = .ok (.putfield 68, 3) := by decide +kernel
theorem kpX1_68 : KP RX1 68 1 1 (tyX1 1) := ⟨RX1, TX1, 19, tyX1, rfl, by decide, rfl, rfl, iX1, (gx1 176 rfl rfl), tyX1_ok, nmX1, by decide +kernel⟩
theorem zX1_init_125 : decode mX1_init.2.1 125 = .ok (.aload_n 0, 1) := by decide +kernel
theorem zX1_init_126 : decode mX1_init.2.1 126 = .ok (.getfield 39, 3) := by decide +kernel
theorem zX1_init_129 : decode mX1_init.2.1 129 = .ok (.iconst 4, 1) := by decide +kernel
theorem kc4 : Int32.ofInt (4) = nI 4 := by decide +kernel
theorem zX1_init_130 : decode mX1_init.2.1 130 = .ok (.invokestatic 72, 3) := by decide +kernel
theorem zX1_init_133 : decode mX1_init.2.1 133 = .ok (.aload_n 0, 1) := by decide +kernel
theorem zX1_init_134 : decode mX1_init.2.1 134 = .ok (.getfield 46, 3) := by decide +kernel
theorem zX1_init_137 : decode mX1_init.2.1 137 = .ok (.iconst 3, 1) := by decide +kernel
theorem kc3 : Int32.ofInt (3) = nI 3 := by decide +kernel
theorem zX1_init_138 : decode mX1_init.2.1 138 = .ok (.invokestatic 72, 3) := by decide +kernel
theorem zX1_init_141 : decode mX1_init.2.1 141 = .ok (.return_, 1) := by decide +kernel
theorem kb_X4 {E : EE} {cs : List va_E} {o : Nat} : CK E 1 mX4_init [.ref (eb E + o)] 0 0 cs cs := by
  refine CK_of [(0, .ref (eb E + o))] (by decide +kernel) (Nat.le_of_ble_eq_true rfl) rfl ?_
  intro p l e s m args below meth c H locs ls F hin P hl
  refine lv_aload_n F.1 F.2.1 zX4_init_0 rfl (lv_at hl 0 rfl) ?_
  refine K_obj F hl.1 loX4 (Nat.le_of_ble_eq_true rfl) (Nat.le_of_ble_eq_true rfl) (Nat.le_of_ble_eq_true rfl) zX4_init_1 ?_
  exact K_ret F P rfl rfl zX4_init_4
theorem k_X4 {E : EE} {cs : List va_E} {o L : Nat} (h : cs[o]? = some (.inr (4, []))) (hL : cs.length = L) : CK E 1 mX4_init [.ref (eb E + o)] 0 0 cs (cs.set o (.inr (4, [])) ++ []) := by
  rw [← nf_0 h]; exact kb_X4
theorem kb_X3 {E : EE} {cs : List va_E} {o : Nat} : CK E 2 mX3_init [.ref (eb E + o)] 0 0 cs cs := by
  refine CK_of [(0, .ref (eb E + o))] (by decide +kernel) (Nat.le_of_ble_eq_true rfl) rfl ?_
  intro p l e s m args below meth c H locs ls F hin P hl
  refine lv_aload_n F.1 F.2.1 zX3_init_0 rfl (lv_at hl 0 rfl) ?_
  refine T_super F P hl.1 liX3_3 okX4_init kb_X4 (Nat.le_of_ble_eq_true rfl) (Nat.le_of_ble_eq_true rfl) (Nat.le_of_ble_eq_true rfl) (Nat.le_of_ble_eq_true rfl) (Nat.le_of_ble_eq_true rfl) zX3_init_1 (fun H locs P => ?_)
  exact K_ret F P rfl rfl zX3_init_4
theorem k_X3 {E : EE} {cs : List va_E} {o L : Nat} (h : cs[o]? = some (.inr (3, []))) (hL : cs.length = L) : CK E 2 mX3_init [.ref (eb E + o)] 0 0 cs (cs.set o (.inr (3, [])) ++ []) := by
  rw [← nf_0 h]; exact kb_X3
theorem kb_X7 {E : EE} {cs : List va_E} {o : Nat} : CK E 2 mX7_init [.ref (eb E + o)] 0 0 cs cs := by
  refine CK_of [(0, .ref (eb E + o))] (by decide +kernel) (Nat.le_of_ble_eq_true rfl) rfl ?_
  intro p l e s m args below meth c H locs ls F hin P hl
  refine lv_aload_n F.1 F.2.1 zX7_init_0 rfl (lv_at hl 0 rfl) ?_
  refine T_super F P hl.1 liX7_1 okX4_init kb_X4 (Nat.le_of_ble_eq_true rfl) (Nat.le_of_ble_eq_true rfl) (Nat.le_of_ble_eq_true rfl) (Nat.le_of_ble_eq_true rfl) (Nat.le_of_ble_eq_true rfl) zX7_init_1 (fun H locs P => ?_)
  exact K_ret F P rfl rfl zX7_init_4
theorem k_X7 {E : EE} {cs : List va_E} {o L : Nat} (h : cs[o]? = some (.inr (7, []))) (hL : cs.length = L) : CK E 2 mX7_init [.ref (eb E + o)] 0 0 cs (cs.set o (.inr (7, [])) ++ []) := by
  rw [← nf_0 h]; exact kb_X7
theorem kb_X2 {E : EE} {cs : List va_E} {o : Nat} : CK E 2 mX2_init [.ref (eb E + o)] 0 0 cs cs := by
  refine CK_of [(0, .ref (eb E + o))] (by decide +kernel) (Nat.le_of_ble_eq_true rfl) rfl ?_
  intro p l e s m args below meth c H locs ls F hin P hl
  refine lv_aload_n F.1 F.2.1 zX2_init_0 rfl (lv_at hl 0 rfl) ?_
  refine T_super F P hl.1 liX2_3 okX4_init kb_X4 (Nat.le_of_ble_eq_true rfl) (Nat.le_of_ble_eq_true rfl) (Nat.le_of_ble_eq_true rfl) (Nat.le_of_ble_eq_true rfl) (Nat.le_of_ble_eq_true rfl) zX2_init_1 (fun H locs P => ?_)
  exact K_ret F P rfl rfl zX2_init_4
theorem k_X2 {E : EE} {cs : List va_E} {o L : Nat} (h : cs[o]? = some (.inr (2, []))) (hL : cs.length = L) : CK E 2 mX2_init [.ref (eb E + o)] 0 0 cs (cs.set o (.inr (2, [])) ++ []) := by
  rw [← nf_0 h]; exact kb_X2
theorem kb_X10 {E : EE} {cs : List va_E} {o : Nat} : CK E 3 mX10_init [.ref (eb E + o)] 0 0 cs cs := by
  refine CK_of [(0, .ref (eb E + o))] (by decide +kernel) (Nat.le_of_ble_eq_true rfl) rfl ?_
  intro p l e s m args below meth c H locs ls F hin P hl
  refine lv_aload_n F.1 F.2.1 zX10_init_0 rfl (lv_at hl 0 rfl) ?_
  refine T_super F P hl.1 liX10_3 okX7_init kb_X7 (Nat.le_of_ble_eq_true rfl) (Nat.le_of_ble_eq_true rfl) (Nat.le_of_ble_eq_true rfl) (Nat.le_of_ble_eq_true rfl) (Nat.le_of_ble_eq_true rfl) zX10_init_1 (fun H locs P => ?_)
  exact K_ret F P rfl rfl zX10_init_4
theorem k_X10 {E : EE} {cs : List va_E} {o L : Nat} (h : cs[o]? = some (.inr (10, []))) (hL : cs.length = L) : CK E 3 mX10_init [.ref (eb E + o)] 0 0 cs (cs.set o (.inr (10, [])) ++ []) := by
  rw [← nf_0 h]; exact kb_X10
theorem kb_X0 {E : EE} {cs : List va_E} {o : Nat} : CK E 3 mX0_init [.ref (eb E + o)] 0 0 cs cs := by
  refine CK_of [(0, .ref (eb E + o))] (by decide +kernel) (Nat.le_of_ble_eq_true rfl) rfl ?_
  intro p l e s m args below meth c H locs ls F hin P hl
  refine lv_aload_n F.1 F.2.1 zX0_init_0 rfl (lv_at hl 0 rfl) ?_
  refine T_super F P hl.1 liX0_1 okX2_init kb_X2 (Nat.le_of_ble_eq_true rfl) (Nat.le_of_ble_eq_true rfl) (Nat.le_of_ble_eq_true rfl) (Nat.le_of_ble_eq_true rfl) (Nat.le_of_ble_eq_true rfl) zX0_init_1 (fun H locs P => ?_)
  exact K_ret F P rfl rfl zX0_init_4
theorem k_X0 {E : EE} {cs : List va_E} {o L : Nat} (h : cs[o]? = some (.inr (0, []))) (hL : cs.length = L) : CK E 3 mX0_init [.ref (eb E + o)] 0 0 cs (cs.set o (.inr (0, [])) ++ []) := by
  rw [← nf_0 h]; exact kb_X0
set_option maxHeartbeats 4000000 in
set_option maxRecDepth 100000 in
theorem k_X6 {E : EE} {cs : List va_E} {o L : Nat} (h : cs[o]? = some (.inr (6, [.int 0, .int 0, .null, .null, .null, .null, .null]))) (hL : cs.length = L) : CK E 1 mX6_init [.ref (eb E + o)] 5 229 cs (cs.set o (.inr (6, [.int (nI 0), .int (nI 0), .ref (eb E + (L + 0)), .ref (eb E + (L + 1)), .ref (eb E + (L + 2)), .ref (eb E + (L + 3)), .ref (eb E + (L + 4))])) ++ [.inl (E.2.2.2.2 0, 8, .inl (fun _ => 0)), .inl (E.2.2.2.2 0, 8, .inl (fun _ => 0)), .inl (E.2.2.2.2 0, 8, .inl (fun _ => 0)), .inl (E.2.2.2.2 0, 200, .inl (fun _ => 0)), .inl (E.2.2.2.2 0, 5, .inl (fun _ => 0))]) := by
  refine CK_of [(0, .ref (eb E + o))] (by decide +kernel) (Nat.le_of_ble_eq_true rfl) rfl ?_
  intro p l e s m args below meth c H locs ls F hin P hl
  have ho := cs_lt h
  rw [nf_0 h] at P
  refine lv_aload_n F.1 F.2.1 zX6_init_0 rfl (lv_at hl 0 rfl) ?_
  refine K_obj F hl.1 loX6 (Nat.le_of_ble_eq_true rfl) (Nat.le_of_ble_eq_true rfl) (Nat.le_of_ble_eq_true rfl) zX6_init_1 ?_
  refine lv_aload_n F.1 F.2.1 zX6_init_4 rfl (lv_at hl 0 rfl) ?_
  refine lv_iconst F.1 F.2.1 zX6_init_5 kc0 ?_
  refine T_put F P ho hin kpX6_9 rfl rfl (Nat.le_of_ble_eq_true rfl) zX6_init_6 (fun H locs (P : PK E s (cs.set o (.inr (6, [.int (nI 0), .int 0, .null, .null, .null, .null, .null])) ++ []) H locs) => ?_)
  refine lv_aload_n F.1 F.2.1 zX6_init_9 rfl (lv_at hl 0 rfl) ?_
  refine lv_iconst F.1 F.2.1 zX6_init_10 kc0 ?_
  refine T_put F P ho hin kpX6_15 rfl rfl (Nat.le_of_ble_eq_true rfl) zX6_init_11 (fun H locs (P : PK E s (cs.set o (.inr (6, [.int (nI 0), .int (nI 0), .null, .null, .null, .null, .null])) ++ []) H locs) => ?_)
  refine lv_aload_n F.1 F.2.1 zX6_init_14 rfl (lv_at hl 0 rfl) ?_
  refine lv_bipush F.1 F.2.1 zX6_init_15 kb8 ?_
  refine T_newI F P hL rfl kacI rfl (by decide) (Nat.le_of_ble_eq_true rfl) (Nat.le_of_ble_eq_true rfl) zX6_init_17 (fun H (P : PK E s (cs.set o (.inr (6, [.int (nI 0), .int (nI 0), .null, .null, .null, .null, .null])) ++ [.inl (E.2.2.2.2 0, 8, .inl (fun _ => 0))]) H locs) => ?_)
  refine T_put F P ho hin kpX6_18 rfl rfl (Nat.le_of_ble_eq_true rfl) zX6_init_19 (fun H locs (P : PK E s (cs.set o (.inr (6, [.int (nI 0), .int (nI 0), .ref (eb E + (L + 0)), .null, .null, .null, .null])) ++ [.inl (E.2.2.2.2 0, 8, .inl (fun _ => 0))]) H locs) => ?_)
  refine lv_aload_n F.1 F.2.1 zX6_init_22 rfl (lv_at hl 0 rfl) ?_
  refine lv_bipush F.1 F.2.1 zX6_init_23 kb8 ?_
  refine T_newI F P hL rfl kacI rfl (by decide) (Nat.le_of_ble_eq_true rfl) (Nat.le_of_ble_eq_true rfl) zX6_init_25 (fun H (P : PK E s (cs.set o (.inr (6, [.int (nI 0), .int (nI 0), .ref (eb E + (L + 0)), .null, .null, .null, .null])) ++ [.inl (E.2.2.2.2 0, 8, .inl (fun _ => 0)), .inl (E.2.2.2.2 0, 8, .inl (fun _ => 0))]) H locs) => ?_)
  refine T_put F P ho hin kpX6_22 rfl rfl (Nat.le_of_ble_eq_true rfl) zX6_init_27 (fun H locs (P : PK E s (cs.set o (.inr (6, [.int (nI 0), .int (nI 0), .ref (eb E + (L + 0)), .ref (eb E + (L + 1)), .null, .null, .null])) ++ [.inl (E.2.2.2.2 0, 8, .inl (fun _ => 0)), .inl (E.2.2.2.2 0, 8, .inl (fun _ => 0))]) H locs) => ?_)
  refine lv_aload_n F.1 F.2.1 zX6_init_30 rfl (lv_at hl 0 rfl) ?_
  refine lv_bipush F.1 F.2.1 zX6_init_31 kb8 ?_
  refine T_newI F P hL rfl kacI rfl (by decide) (Nat.le_of_ble_eq_true rfl) (Nat.le_of_ble_eq_true rfl) zX6_init_33 (fun H (P : PK E s (cs.set o (.inr (6, [.int (nI 0), .int (nI 0), .ref (eb E + (L + 0)), .ref (eb E + (L + 1)), .null, .null, .null])) ++ [.inl (E.2.2.2.2 0, 8, .inl (fun _ => 0)), .inl (E.2.2.2.2 0, 8, .inl (fun _ => 0)), .inl (E.2.2.2.2 0, 8, .inl (fun _ => 0))]) H locs) => ?_)
  refine T_put F P ho hin kpX6_25 rfl rfl (Nat.le_of_ble_eq_true rfl) zX6_init_35 (fun H locs (P : PK E s (cs.set o (.inr (6, [.int (nI 0), .int (nI 0), .ref (eb E + (L + 0)), .ref (eb E + (L + 1)), .ref (eb E + (L + 2)), .null, .null])) ++ [.inl (E.2.2.2.2 0, 8, .inl (fun _ => 0)), .inl (E.2.2.2.2 0, 8, .inl (fun _ => 0)), .inl (E.2.2.2.2 0, 8, .inl (fun _ => 0))]) H locs) => ?_)
  refine lv_aload_n F.1 F.2.1 zX6_init_38 rfl (lv_at hl 0 rfl) ?_
  refine lv_sipush F.1 F.2.1 zX6_init_39 ks200 ?_
  refine T_newI F P hL rfl kacI rfl (by decide) (Nat.le_of_ble_eq_true rfl) (Nat.le_of_ble_eq_true rfl) zX6_init_42 (fun H (P : PK E s (cs.set o (.inr (6, [.int (nI 0), .int (nI 0), .ref (eb E + (L + 0)), .ref (eb E + (L + 1)), .ref (eb E + (L + 2)), .null, .null])) ++ [.inl (E.2.2.2.2 0, 8, .inl (fun _ => 0)), .inl (E.2.2.2.2 0, 8, .inl (fun _ => 0)), .inl (E.2.2.2.2 0, 8, .inl (fun _ => 0)), .inl (E.2.2.2.2 0, 200, .inl (fun _ => 0))]) H locs) => ?_)
  refine T_put F P ho hin kpX6_30 rfl rfl (Nat.le_of_ble_eq_true rfl) zX6_init_44 (fun H locs (P : PK E s (cs.set o (.inr (6, [.int (nI 0), .int (nI 0), .ref (eb E + (L + 0)), .ref (eb E + (L + 1)), .ref (eb E + (L + 2)), .ref (eb E + (L + 3)), .null])) ++ [.inl (E.2.2.2.2 0, 8, .inl (fun _ => 0)), .inl (E.2.2.2.2 0, 8, .inl (fun _ => 0)), .inl (E.2.2.2.2 0, 8, .inl (fun _ => 0)), .inl (E.2.2.2.2 0, 200, .inl (fun _ => 0))]) H locs) => ?_)
  refine lv_aload_n F.1 F.2.1 zX6_init_47 rfl (lv_at hl 0 rfl) ?_
  refine lv_iconst F.1 F.2.1 zX6_init_48 kc5 ?_
  refine T_newI F P hL rfl kacI rfl (by decide) (Nat.le_of_ble_eq_true rfl) (Nat.le_of_ble_eq_true rfl) zX6_init_49 (fun H (P : PK E s (cs.set o (.inr (6, [.int (nI 0), .int (nI 0), .ref (eb E + (L + 0)), .ref (eb E + (L + 1)), .ref (eb E + (L + 2)), .ref (eb E + (L + 3)), .null])) ++ [.inl (E.2.2.2.2 0, 8, .inl (fun _ => 0)), .inl (E.2.2.2.2 0, 8, .inl (fun _ => 0)), .inl (E.2.2.2.2 0, 8, .inl (fun _ => 0)), .inl (E.2.2.2.2 0, 200, .inl (fun _ => 0)), .inl (E.2.2.2.2 0, 5, .inl (fun _ => 0))]) H locs) => ?_)
  refine T_put F P ho hin kpX6_33 rfl rfl (Nat.le_of_ble_eq_true rfl) zX6_init_51 (fun H locs (P : PK E s (cs.set o (.inr (6, [.int (nI 0), .int (nI 0), .ref (eb E + (L + 0)), .ref (eb E + (L + 1)), .ref (eb E + (L + 2)), .ref (eb E + (L + 3)), .ref (eb E + (L + 4))])) ++ [.inl (E.2.2.2.2 0, 8, .inl (fun _ => 0)), .inl (E.2.2.2.2 0, 8, .inl (fun _ => 0)), .inl (E.2.2.2.2 0, 8, .inl (fun _ => 0)), .inl (E.2.2.2.2 0, 200, .inl (fun _ => 0)), .inl (E.2.2.2.2 0, 5, .inl (fun _ => 0))]) H locs) => ?_)
  exact K_ret F P rfl rfl zX6_init_54
set_option maxHeartbeats 4000000 in
set_option maxRecDepth 100000 in
theorem k_X9 {E : EE} {cs : List va_E} {o L : Nat} (h : cs[o]? = some (.inr (9, [.int 0, .null, .null, .null, .int 0, .int 0]))) (hL : cs.length = L) : CK E 1 mX9_init [.ref (eb E + o)] 3 602 cs (cs.set o (.inr (9, [.int (nI 0), .ref (eb E + (L + 0)), .ref (eb E + (L + 1)), .ref (eb E + (L + 2)), .int (nI 0), .int (nI 0)])) ++ [.inl (E.2.2.2.2 1, 200, .inl (fun _ => 0)), .inl (E.2.2.2.2 0, 201, .inl (fun _ => 0)), .inl (E.2.2.2.2 0, 201, .inl (fun _ => 0))]) := by
  refine CK_of [(0, .ref (eb E + o))] (by decide +kernel) (Nat.le_of_ble_eq_true rfl) rfl ?_
  intro p l e s m args below meth c H locs ls F hin P hl
  have ho := cs_lt h
  rw [nf_0 h] at P
  refine lv_aload_n F.1 F.2.1 zX9_init_0 rfl (lv_at hl 0 rfl) ?_
  refine K_obj F hl.1 loX9 (Nat.le_of_ble_eq_true rfl) (Nat.le_of_ble_eq_true rfl) (Nat.le_of_ble_eq_true rfl) zX9_init_1 ?_
  refine lv_aload_n F.1 F.2.1 zX9_init_4 rfl (lv_at hl 0 rfl) ?_
  refine lv_iconst F.1 F.2.1 zX9_init_5 kc0 ?_
  refine T_put F P ho hin kpX9_11 rfl rfl (Nat.le_of_ble_eq_true rfl) zX9_init_6 (fun H locs (P : PK E s (cs.set o (.inr (9, [.int (nI 0), .null, .null, .null, .int 0, .int 0])) ++ []) H locs) => ?_)
  refine lv_aload_n F.1 F.2.1 zX9_init_9 rfl (lv_at hl 0 rfl) ?_
  refine lv_sipush F.1 F.2.1 zX9_init_10 ks200 ?_
  refine T_newB F P hL rfl kacB rfl (by decide) (Nat.le_of_ble_eq_true rfl) (Nat.le_of_ble_eq_true rfl) zX9_init_13 (fun H (P : PK E s (cs.set o (.inr (9, [.int (nI 0), .null, .null, .null, .int 0, .int 0])) ++ [.inl (E.2.2.2.2 1, 200, .inl (fun _ => 0))]) H locs) => ?_)
  refine T_put F P ho hin kpX9_15 rfl rfl (Nat.le_of_ble_eq_true rfl) zX9_init_15 (fun H locs (P : PK E s (cs.set o (.inr (9, [.int (nI 0), .ref (eb E + (L + 0)), .null, .null, .int 0, .int 0])) ++ [.inl (E.2.2.2.2 1, 200, .inl (fun _ => 0))]) H locs) => ?_)
  refine lv_aload_n F.1 F.2.1 zX9_init_18 rfl (lv_at hl 0 rfl) ?_
  refine lv_sipush F.1 F.2.1 zX9_init_19 ks201 ?_
  refine T_newI F P hL rfl kacI rfl (by decide) (Nat.le_of_ble_eq_true rfl) (Nat.le_of_ble_eq_true rfl) zX9_init_22 (fun H (P : PK E s (cs.set o (.inr (9, [.int (nI 0), .ref (eb E + (L + 0)), .null, .null, .int 0, .int 0])) ++ [.inl (E.2.2.2.2 1, 200, .inl (fun _ => 0)), .inl (E.2.2.2.2 0, 201, .inl (fun _ => 0))]) H locs) => ?_)
  refine T_put F P ho hin kpX9_19 rfl rfl (Nat.le_of_ble_eq_true rfl) zX9_init_24 (fun H locs (P : PK E s (cs.set o (.inr (9, [.int (nI 0), .ref (eb E + (L + 0)), .ref (eb E + (L + 1)), .null, .int 0, .int 0])) ++ [.inl (E.2.2.2.2 1, 200, .inl (fun _ => 0)), .inl (E.2.2.2.2 0, 201, .inl (fun _ => 0))]) H locs) => ?_)
  refine lv_aload_n F.1 F.2.1 zX9_init_27 rfl (lv_at hl 0 rfl) ?_
  refine lv_sipush F.1 F.2.1 zX9_init_28 ks201 ?_
  refine T_newI F P hL rfl kacI rfl (by decide) (Nat.le_of_ble_eq_true rfl) (Nat.le_of_ble_eq_true rfl) zX9_init_31 (fun H (P : PK E s (cs.set o (.inr (9, [.int (nI 0), .ref (eb E + (L + 0)), .ref (eb E + (L + 1)), .null, .int 0, .int 0])) ++ [.inl (E.2.2.2.2 1, 200, .inl (fun _ => 0)), .inl (E.2.2.2.2 0, 201, .inl (fun _ => 0)), .inl (E.2.2.2.2 0, 201, .inl (fun _ => 0))]) H locs) => ?_)
  refine T_put F P ho hin kpX9_23 rfl rfl (Nat.le_of_ble_eq_true rfl) zX9_init_33 (fun H locs (P : PK E s (cs.set o (.inr (9, [.int (nI 0), .ref (eb E + (L + 0)), .ref (eb E + (L + 1)), .ref (eb E + (L + 2)), .int 0, .int 0])) ++ [.inl (E.2.2.2.2 1, 200, .inl (fun _ => 0)), .inl (E.2.2.2.2 0, 201, .inl (fun _ => 0)), .inl (E.2.2.2.2 0, 201, .inl (fun _ => 0))]) H locs) => ?_)
  refine lv_aload_n F.1 F.2.1 zX9_init_36 rfl (lv_at hl 0 rfl) ?_
  refine lv_iconst F.1 F.2.1 zX9_init_37 kc0 ?_
  refine T_put F P ho hin kpX9_26 rfl rfl (Nat.le_of_ble_eq_true rfl) zX9_init_38 (fun H locs (P : PK E s (cs.set o (.inr (9, [.int (nI 0), .ref (eb E + (L + 0)), .ref (eb E + (L + 1)), .ref (eb E + (L + 2)), .int (nI 0), .int 0])) ++ [.inl (E.2.2.2.2 1, 200, .inl (fun _ => 0)), .inl (E.2.2.2.2 0, 201, .inl (fun _ => 0)), .inl (E.2.2.2.2 0, 201, .inl (fun _ => 0))]) H locs) => ?_)
  refine lv_aload_n F.1 F.2.1 zX9_init_41 rfl (lv_at hl 0 rfl) ?_
  refine lv_iconst F.1 F.2.1 zX9_init_42 kc0 ?_
  refine T_put F P ho hin kpX9_29 rfl rfl (Nat.le_of_ble_eq_true rfl) zX9_init_43 (fun H locs (P : PK E s (cs.set o (.inr (9, [.int (nI 0), .ref (eb E + (L + 0)), .ref (eb E + (L + 1)), .ref (eb E + (L + 2)), .int (nI 0), .int (nI 0)])) ++ [.inl (E.2.2.2.2 1, 200, .inl (fun _ => 0)), .inl (E.2.2.2.2 0, 201, .inl (fun _ => 0)), .inl (E.2.2.2.2 0, 201, .inl (fun _ => 0))]) H locs) => ?_)
  exact K_ret F P rfl rfl zX9_init_46
set_option maxHeartbeats 4000000 in
set_option maxRecDepth 100000 in
theorem k_X8 {E : EE} {cs : List va_E} {o L : Nat} (h : cs[o]? = some (.inr (8, [.null, .int 0, .int 0, .int 0, .int 0]))) (hL : cs.length = L) : CK E 1 mX8_init [.ref (eb E + o)] 1 30 cs (cs.set o (.inr (8, [.ref (eb E + (L + 0)), .int (nI 0), .int (nI 0), .int (nI 0), .int (nI 0)])) ++ [.inl (E.2.2.2.2 0, 30, .inl (fun _ => 0))]) := by
  refine CK_of [(0, .ref (eb E + o))] (by decide +kernel) (Nat.le_of_ble_eq_true rfl) rfl ?_
  intro p l e s m args below meth c H locs ls F hin P hl
  have ho := cs_lt h
  rw [nf_0 h] at P
  refine lv_aload_n F.1 F.2.1 zX8_init_0 rfl (lv_at hl 0 rfl) ?_
  refine K_obj F hl.1 loX8 (Nat.le_of_ble_eq_true rfl) (Nat.le_of_ble_eq_true rfl) (Nat.le_of_ble_eq_true rfl) zX8_init_1 ?_
  refine lv_aload_n F.1 F.2.1 zX8_init_4 rfl (lv_at hl 0 rfl) ?_
  refine lv_bipush F.1 F.2.1 zX8_init_5 kb30 ?_
  refine T_newI F P hL rfl kacI rfl (by decide) (Nat.le_of_ble_eq_true rfl) (Nat.le_of_ble_eq_true rfl) zX8_init_7 (fun H (P : PK E s (cs.set o (.inr (8, [.null, .int 0, .int 0, .int 0, .int 0])) ++ [.inl (E.2.2.2.2 0, 30, .inl (fun _ => 0))]) H locs) => ?_)
  refine T_put F P ho hin kpX8_7 rfl rfl (Nat.le_of_ble_eq_true rfl) zX8_init_9 (fun H locs (P : PK E s (cs.set o (.inr (8, [.ref (eb E + (L + 0)), .int 0, .int 0, .int 0, .int 0])) ++ [.inl (E.2.2.2.2 0, 30, .inl (fun _ => 0))]) H locs) => ?_)
  refine lv_aload_n F.1 F.2.1 zX8_init_12 rfl (lv_at hl 0 rfl) ?_
  refine lv_iconst F.1 F.2.1 zX8_init_13 kc0 ?_
  refine T_put F P ho hin kpX8_13 rfl rfl (Nat.le_of_ble_eq_true rfl) zX8_init_14 (fun H locs (P : PK E s (cs.set o (.inr (8, [.ref (eb E + (L + 0)), .int (nI 0), .int 0, .int 0, .int 0])) ++ [.inl (E.2.2.2.2 0, 30, .inl (fun _ => 0))]) H locs) => ?_)
  refine lv_aload_n F.1 F.2.1 zX8_init_17 rfl (lv_at hl 0 rfl) ?_
  refine lv_iconst F.1 F.2.1 zX8_init_18 kc0 ?_
  refine T_put F P ho hin kpX8_17 rfl rfl (Nat.le_of_ble_eq_true rfl) zX8_init_19 (fun H locs (P : PK E s (cs.set o (.inr (8, [.ref (eb E + (L + 0)), .int (nI 0), .int (nI 0), .int 0, .int 0])) ++ [.inl (E.2.2.2.2 0, 30, .inl (fun _ => 0))]) H locs) => ?_)
  refine lv_aload_n F.1 F.2.1 zX8_init_22 rfl (lv_at hl 0 rfl) ?_
  refine lv_iconst F.1 F.2.1 zX8_init_23 kc0 ?_
  refine T_put F P ho hin kpX8_20 rfl rfl (Nat.le_of_ble_eq_true rfl) zX8_init_24 (fun H locs (P : PK E s (cs.set o (.inr (8, [.ref (eb E + (L + 0)), .int (nI 0), .int (nI 0), .int (nI 0), .int 0])) ++ [.inl (E.2.2.2.2 0, 30, .inl (fun _ => 0))]) H locs) => ?_)
  refine lv_aload_n F.1 F.2.1 zX8_init_27 rfl (lv_at hl 0 rfl) ?_
  refine lv_iconst F.1 F.2.1 zX8_init_28 kc0 ?_
  refine T_put F P ho hin kpX8_23 rfl rfl (Nat.le_of_ble_eq_true rfl) zX8_init_29 (fun H locs (P : PK E s (cs.set o (.inr (8, [.ref (eb E + (L + 0)), .int (nI 0), .int (nI 0), .int (nI 0), .int (nI 0)])) ++ [.inl (E.2.2.2.2 0, 30, .inl (fun _ => 0))]) H locs) => ?_)
  exact K_ret F P rfl rfl zX8_init_32
set_option maxHeartbeats 4000000 in
set_option maxRecDepth 100000 in
theorem k_X1 {E : EE} {cs : List va_E} {o L q1 q2 : Nat} (h : cs[o]? = some (.inr (1, [.null, .null, .int 0, .int 0, .int 0, .int 0, .int 0, .int 0, .int 0, .int 0, .int 0, .null, .null, .null, .null, .null, .null, .null, .null]))) (hL : cs.length = L) : CK E 1 mX1_init [.ref (eb E + o), .ref (q1), .ref (q2)] 8 76 cs (cs.set o (.inr (1, [.ref (q1), .ref (q2), .int (nI 12), .int (nI 0), .int (nI 0), .int (nI 60), .int (nI 0), .int (nI 0), .int (nI 0), .int (nI 1), .int (nI 0), .ref (eb E + (L + 0)), .ref (eb E + (L + 1)), .ref (eb E + (L + 2)), .ref (eb E + (L + 3)), .ref (eb E + (L + 4)), .ref (eb E + (L + 5)), .ref (eb E + (L + 6)), .ref (eb E + (L + 7))])) ++ [.inl (E.2.2.2.2 0, 16, .inl (fun i => if i < 16 then nI 4 else (fun _ => 0) i)), .inl (E.2.2.2.2 0, 6, .inl (fun _ => 0)), .inl (E.2.2.2.2 0, 6, .inl (fun i => if i < 6 then nI 3 else (fun _ => 0) i)), .inl (E.2.2.2.2 0, 6, .inl (fun _ => 0)), .inl (E.2.2.2.2 0, 6, .inl (fun _ => 0)), .inl (E.2.2.2.2 0, 6, .inl (fun _ => 0)), .inl (E.2.2.2.2 0, 6, .inl (fun _ => 0)), .inl (E.2.2.2.2 0, 24, .inl (fun _ => 0))]) := by
  refine CK_of [(0, .ref (eb E + o)), (1, .ref (q1)), (2, .ref (q2))] (by decide +kernel) (Nat.le_of_ble_eq_true rfl) rfl ?_
  intro p l e s m args below meth c H locs ls F hin P hl
  have ho := cs_lt h
  rw [nf_0 h] at P
  refine lv_aload_n F.1 F.2.1 zX1_init_0 rfl (lv_at hl 0 rfl) ?_
  refine K_obj F hl.1 loX1 (Nat.le_of_ble_eq_true rfl) (Nat.le_of_ble_eq_true rfl) (Nat.le_of_ble_eq_true rfl) zX1_init_1 ?_
  refine lv_aload_n F.1 F.2.1 zX1_init_4 rfl (lv_at hl 0 rfl) ?_
  refine lv_bipush F.1 F.2.1 zX1_init_5 kb12 ?_
  refine T_put F P ho hin kpX1_9 rfl rfl (Nat.le_of_ble_eq_true rfl) zX1_init_7 (fun H locs (P : PK E s (cs.set o (.inr (1, [.null, .null, .int (nI 12), .int 0, .int 0, .int 0, .int 0, .int 0, .int 0, .int 0, .int 0, .null, .null, .null, .null, .null, .null, .null, .null])) ++ []) H locs) => ?_)
  refine lv_aload_n F.1 F.2.1 zX1_init_10 rfl (lv_at hl 0 rfl) ?_
  refine lv_iconst F.1 F.2.1 zX1_init_11 kc0 ?_
  refine T_put F P ho hin kpX1_15 rfl rfl (Nat.le_of_ble_eq_true rfl) zX1_init_12 (fun H locs (P : PK E s (cs.set o (.inr (1, [.null, .null, .int (nI 12), .int (nI 0), .int 0, .int 0, .int 0, .int 0, .int 0, .int 0, .int 0, .null, .null, .null, .null, .null, .null, .null, .null])) ++ []) H locs) => ?_)
  refine lv_aload_n F.1 F.2.1 zX1_init_15 rfl (lv_at hl 0 rfl) ?_
  refine lv_iconst F.1 F.2.1 zX1_init_16 kc0 ?_
  refine T_put F P ho hin kpX1_18 rfl rfl (Nat.le_of_ble_eq_true rfl) zX1_init_17 (fun H locs (P : PK E s (cs.set o (.inr (1, [.null, .null, .int (nI 12), .int (nI 0), .int (nI 0), .int 0, .int 0, .int 0, .int 0, .int 0, .int 0, .null, .null, .null, .null, .null, .null, .null, .null])) ++ []) H locs) => ?_)
  refine lv_aload_n F.1 F.2.1 zX1_init_20 rfl (lv_at hl 0 rfl) ?_
  refine lv_bipush F.1 F.2.1 zX1_init_21 kb60 ?_
  refine T_put F P ho hin kpX1_21 rfl rfl (Nat.le_of_ble_eq_true rfl) zX1_init_23 (fun H locs (P : PK E s (cs.set o (.inr (1, [.null, .null, .int (nI 12), .int (nI 0), .int (nI 0), .int (nI 60), .int 0, .int 0, .int 0, .int 0, .int 0, .null, .null, .null, .null, .null, .null, .null, .null])) ++ []) H locs) => ?_)
  refine lv_aload_n F.1 F.2.1 zX1_init_26 rfl (lv_at hl 0 rfl) ?_
  refine lv_iconst F.1 F.2.1 zX1_init_27 kc0 ?_
  refine T_put F P ho hin kpX1_24 rfl rfl (Nat.le_of_ble_eq_true rfl) zX1_init_28 (fun H locs (P : PK E s (cs.set o (.inr (1, [.null, .null, .int (nI 12), .int (nI 0), .int (nI 0), .int (nI 60), .int (nI 0), .int 0, .int 0, .int 0, .int 0, .null, .null, .null, .null, .null, .null, .null, .null])) ++ []) H locs) => ?_)
  refine lv_aload_n F.1 F.2.1 zX1_init_31 rfl (lv_at hl 0 rfl) ?_
  refine lv_iconst F.1 F.2.1 zX1_init_32 kc0 ?_
  refine T_put F P ho hin kpX1_27 rfl rfl (Nat.le_of_ble_eq_true rfl) zX1_init_33 (fun H locs (P : PK E s (cs.set o (.inr (1, [.null, .null, .int (nI 12), .int (nI 0), .int (nI 0), .int (nI 60), .int (nI 0), .int (nI 0), .int 0, .int 0, .int 0, .null, .null, .null, .null, .null, .null, .null, .null])) ++ []) H locs) => ?_)
  refine lv_aload_n F.1 F.2.1 zX1_init_36 rfl (lv_at hl 0 rfl) ?_
  refine lv_iconst F.1 F.2.1 zX1_init_37 kc0 ?_
  refine T_put F P ho hin kpX1_30 rfl rfl (Nat.le_of_ble_eq_true rfl) zX1_init_38 (fun H locs (P : PK E s (cs.set o (.inr (1, [.null, .null, .int (nI 12), .int (nI 0), .int (nI 0), .int (nI 60), .int (nI 0), .int (nI 0), .int (nI 0), .int 0, .int 0, .null, .null, .null, .null, .null, .null, .null, .null])) ++ []) H locs) => ?_)
  refine lv_aload_n F.1 F.2.1 zX1_init_41 rfl (lv_at hl 0 rfl) ?_
  refine lv_iconst F.1 F.2.1 zX1_init_42 kc1 ?_
  refine T_put F P ho hin kpX1_33 rfl rfl (Nat.le_of_ble_eq_true rfl) zX1_init_43 (fun H locs (P : PK E s (cs.set o (.inr (1, [.null, .null, .int (nI 12), .int (nI 0), .int (nI 0), .int (nI 60), .int (nI 0), .int (nI 0), .int (nI 0), .int (nI 1), .int 0, .null, .null, .null, .null, .null, .null, .null, .null])) ++ []) H locs) => ?_)
  refine lv_aload_n F.1 F.2.1 zX1_init_46 rfl (lv_at hl 0 rfl) ?_
  refine lv_iconst F.1 F.2.1 zX1_init_47 kc0 ?_
  refine T_put F P ho hin kpX1_36 rfl rfl (Nat.le_of_ble_eq_true rfl) zX1_init_48 (fun H locs (P : PK E s (cs.set o (.inr (1, [.null, .null, .int (nI 12), .int (nI 0), .int (nI 0), .int (nI 60), .int (nI 0), .int (nI 0), .int (nI 0), .int (nI 1), .int (nI 0), .null, .null, .null, .null, .null, .null, .null, .null])) ++ []) H locs) => ?_)
  refine lv_aload_n F.1 F.2.1 zX1_init_51 rfl (lv_at hl 0 rfl) ?_
  refine lv_bipush F.1 F.2.1 zX1_init_52 kb16 ?_
  refine T_newI F P hL rfl kacI rfl (by decide) (Nat.le_of_ble_eq_true rfl) (Nat.le_of_ble_eq_true rfl) zX1_init_54 (fun H (P : PK E s (cs.set o (.inr (1, [.null, .null, .int (nI 12), .int (nI 0), .int (nI 0), .int (nI 60), .int (nI 0), .int (nI 0), .int (nI 0), .int (nI 1), .int (nI 0), .null, .null, .null, .null, .null, .null, .null, .null])) ++ [.inl (E.2.2.2.2 0, 16, .inl (fun _ => 0))]) H locs) => ?_)
  refine T_put F P ho hin kpX1_39 rfl rfl (Nat.le_of_ble_eq_true rfl) zX1_init_56 (fun H locs (P : PK E s (cs.set o (.inr (1, [.null, .null, .int (nI 12), .int (nI 0), .int (nI 0), .int (nI 60), .int (nI 0), .int (nI 0), .int (nI 0), .int (nI 1), .int (nI 0), .ref (eb E + (L + 0)), .null, .null, .null, .null, .null, .null, .null])) ++ [.inl (E.2.2.2.2 0, 16, .inl (fun _ => 0))]) H locs) => ?_)
  refine lv_aload_n F.1 F.2.1 zX1_init_59 rfl (lv_at hl 0 rfl) ?_
  refine lv_bipush F.1 F.2.1 zX1_init_60 kb6 ?_
  refine T_newI F P hL rfl kacI rfl (by decide) (Nat.le_of_ble_eq_true rfl) (Nat.le_of_ble_eq_true rfl) zX1_init_62 (fun H (P : PK E s (cs.set o (.inr (1, [.null, .null, .int (nI 12), .int (nI 0), .int (nI 0), .int (nI 60), .int (nI 0), .int (nI 0), .int (nI 0), .int (nI 1), .int (nI 0), .ref (eb E + (L + 0)), .null, .null, .null, .null, .null, .null, .null])) ++ [.inl (E.2.2.2.2 0, 16, .inl (fun _ => 0)), .inl (E.2.2.2.2 0, 6, .inl (fun _ => 0))]) H locs) => ?_)
  refine T_put F P ho hin kpX1_43 rfl rfl (Nat.le_of_ble_eq_true rfl) zX1_init_64 (fun H locs (P : PK E s (cs.set o (.inr (1, [.null, .null, .int (nI 12), .int (nI 0), .int (nI 0), .int (nI 60), .int (nI 0), .int (nI 0), .int (nI 0), .int (nI 1), .int (nI 0), .ref (eb E + (L + 0)), .ref (eb E + (L + 1)), .null, .null, .null, .null, .null, .null])) ++ [.inl (E.2.2.2.2 0, 16, .inl (fun _ => 0)), .inl (E.2.2.2.2 0, 6, .inl (fun _ => 0))]) H locs) => ?_)
  refine lv_aload_n F.1 F.2.1 zX1_init_67 rfl (lv_at hl 0 rfl) ?_
  refine lv_bipush F.1 F.2.1 zX1_init_68 kb6 ?_
  refine T_newI F P hL rfl kacI rfl (by decide) (Nat.le_of_ble_eq_true rfl) (Nat.le_of_ble_eq_true rfl) zX1_init_70 (fun H (P : PK E s (cs.set o (.inr (1, [.null, .null, .int (nI 12), .int (nI 0), .int (nI 0), .int (nI 60), .int (nI 0), .int (nI 0), .int (nI 0), .int (nI 1), .int (nI 0), .ref (eb E + (L + 0)), .ref (eb E + (L + 1)), .null, .null, .null, .null, .null, .null])) ++ [.inl (E.2.2.2.2 0, 16, .inl (fun _ => 0)), .inl (E.2.2.2.2 0, 6, .inl (fun _ => 0)), .inl (E.2.2.2.2 0, 6, .inl (fun _ => 0))]) H locs) => ?_)
  refine T_put F P ho hin kpX1_46 rfl rfl (Nat.le_of_ble_eq_true rfl) zX1_init_72 (fun H locs (P : PK E s (cs.set o (.inr (1, [.null, .null, .int (nI 12), .int (nI 0), .int (nI 0), .int (nI 60), .int (nI 0), .int (nI 0), .int (nI 0), .int (nI 1), .int (nI 0), .ref (eb E + (L + 0)), .ref (eb E + (L + 1)), .ref (eb E + (L + 2)), .null, .null, .null, .null, .null])) ++ [.inl (E.2.2.2.2 0, 16, .inl (fun _ => 0)), .inl (E.2.2.2.2 0, 6, .inl (fun _ => 0)), .inl (E.2.2.2.2 0, 6, .inl (fun _ => 0))]) H locs) => ?_)
  refine lv_aload_n F.1 F.2.1 zX1_init_75 rfl (lv_at hl 0 rfl) ?_
  refine lv_bipush F.1 F.2.1 zX1_init_76 kb6 ?_
  refine T_newI F P hL rfl kacI rfl (by decide) (Nat.le_of_ble_eq_true rfl) (Nat.le_of_ble_eq_true rfl) zX1_init_78 (fun H (P : PK E s (cs.set o (.inr (1, [.null, .null, .int (nI 12), .int (nI 0), .int (nI 0), .int (nI 60), .int (nI 0), .int (nI 0), .int (nI 0), .int (nI 1), .int (nI 0), .ref (eb E + (L + 0)), .ref (eb E + (L + 1)), .ref (eb E + (L + 2)), .null, .null, .null, .null, .null])) ++ [.inl (E.2.2.2.2 0, 16, .inl (fun _ => 0)), .inl (E.2.2.2.2 0, 6, .inl (fun _ => 0)), .inl (E.2.2.2.2 0, 6, .inl (fun _ => 0)), .inl (E.2.2.2.2 0, 6, .inl (fun _ => 0))]) H locs) => ?_)
  refine T_put F P ho hin kpX1_49 rfl rfl (Nat.le_of_ble_eq_true rfl) zX1_init_80 (fun H locs (P : PK E s (cs.set o (.inr (1, [.null, .null, .int (nI 12), .int (nI 0), .int (nI 0), .int (nI 60), .int (nI 0), .int (nI 0), .int (nI 0), .int (nI 1), .int (nI 0), .ref (eb E + (L + 0)), .ref (eb E + (L + 1)), .ref (eb E + (L + 2)), .ref (eb E + (L + 3)), .null, .null, .null, .null])) ++ [.inl (E.2.2.2.2 0, 16, .inl (fun _ => 0)), .inl (E.2.2.2.2 0, 6, .inl (fun _ => 0)), .inl (E.2.2.2.2 0, 6, .inl (fun _ => 0)), .inl (E.2.2.2.2 0, 6, .inl (fun _ => 0))]) H locs) => ?_)
  refine lv_aload_n F.1 F.2.1 zX1_init_83 rfl (lv_at hl 0 rfl) ?_
  refine lv_bipush F.1 F.2.1 zX1_init_84 kb6 ?_
  refine T_newI F P hL rfl kacI rfl (by decide) (Nat.le_of_ble_eq_true rfl) (Nat.le_of_ble_eq_true rfl) zX1_init_86 (fun H (P : PK E s (cs.set o (.inr (1, [.null, .null, .int (nI 12), .int (nI 0), .int (nI 0), .int (nI 60), .int (nI 0), .int (nI 0), .int (nI 0), .int (nI 1), .int (nI 0), .ref (eb E + (L + 0)), .ref (eb E + (L + 1)), .ref (eb E + (L + 2)), .ref (eb E + (L + 3)), .null, .null, .null, .null])) ++ [.inl (E.2.2.2.2 0, 16, .inl (fun _ => 0)), .inl (E.2.2.2.2 0, 6, .inl (fun _ => 0)), .inl (E.2.2.2.2 0, 6, .inl (fun _ => 0)), .inl (E.2.2.2.2 0, 6, .inl (fun _ => 0)), .inl (E.2.2.2.2 0, 6, .inl (fun _ => 0))]) H locs) => ?_)
  refine T_put F P ho hin kpX1_52 rfl rfl (Nat.le_of_ble_eq_true rfl) zX1_init_88 (fun H locs (P : PK E s (cs.set o (.inr (1, [.null, .null, .int (nI 12), .int (nI 0), .int (nI 0), .int (nI 60), .int (nI 0), .int (nI 0), .int (nI 0), .int (nI 1), .int (nI 0), .ref (eb E + (L + 0)), .ref (eb E + (L + 1)), .ref (eb E + (L + 2)), .ref (eb E + (L + 3)), .ref (eb E + (L + 4)), .null, .null, .null])) ++ [.inl (E.2.2.2.2 0, 16, .inl (fun _ => 0)), .inl (E.2.2.2.2 0, 6, .inl (fun _ => 0)), .inl (E.2.2.2.2 0, 6, .inl (fun _ => 0)), .inl (E.2.2.2.2 0, 6, .inl (fun _ => 0)), .inl (E.2.2.2.2 0, 6, .inl (fun _ => 0))]) H locs) => ?_)
  refine lv_aload_n F.1 F.2.1 zX1_init_91 rfl (lv_at hl 0 rfl) ?_
  refine lv_bipush F.1 F.2.1 zX1_init_92 kb6 ?_
  refine T_newI F P hL rfl kacI rfl (by decide) (Nat.le_of_ble_eq_true rfl) (Nat.le_of_ble_eq_true rfl) zX1_init_94 (fun H (P : PK E s (cs.set o (.inr (1, [.null, .null, .int (nI 12), .int (nI 0), .int (nI 0), .int (nI 60), .int (nI 0), .int (nI 0), .int (nI 0), .int (nI 1), .int (nI 0), .ref (eb E + (L + 0)), .ref (eb E + (L + 1)), .ref (eb E + (L + 2)), .ref (eb E + (L + 3)), .ref (eb E + (L + 4)), .null, .null, .null])) ++ [.inl (E.2.2.2.2 0, 16, .inl (fun _ => 0)), .inl (E.2.2.2.2 0, 6, .inl (fun _ => 0)), .inl (E.2.2.2.2 0, 6, .inl (fun _ => 0)), .inl (E.2.2.2.2 0, 6, .inl (fun _ => 0)), .inl (E.2.2.2.2 0, 6, .inl (fun _ => 0)), .inl (E.2.2.2.2 0, 6, .inl (fun _ => 0))]) H locs) => ?_)
  refine T_put F P ho hin kpX1_55 rfl rfl (Nat.le_of_ble_eq_true rfl) zX1_init_96 (fun H locs (P : PK E s (cs.set o (.inr (1, [.null, .null, .int (nI 12), .int (nI 0), .int (nI 0), .int (nI 60), .int (nI 0), .int (nI 0), .int (nI 0), .int (nI 1), .int (nI 0), .ref (eb E + (L + 0)), .ref (eb E + (L + 1)), .ref (eb E + (L + 2)), .ref (eb E + (L + 3)), .ref (eb E + (L + 4)), .ref (eb E + (L + 5)), .null, .null])) ++ [.inl (E.2.2.2.2 0, 16, .inl (fun _ => 0)), .inl (E.2.2.2.2 0, 6, .inl (fun _ => 0)), .inl (E.2.2.2.2 0, 6, .inl (fun _ => 0)), .inl (E.2.2.2.2 0, 6, .inl (fun _ => 0)), .inl (E.2.2.2.2 0, 6, .inl (fun _ => 0)), .inl (E.2.2.2.2 0, 6, .inl (fun _ => 0))]) H locs) => ?_)
  refine lv_aload_n F.1 F.2.1 zX1_init_99 rfl (lv_at hl 0 rfl) ?_
  refine lv_bipush F.1 F.2.1 zX1_init_100 kb6 ?_
  refine T_newI F P hL rfl kacI rfl (by decide) (Nat.le_of_ble_eq_true rfl) (Nat.le_of_ble_eq_true rfl) zX1_init_102 (fun H (P : PK E s (cs.set o (.inr (1, [.null, .null, .int (nI 12), .int (nI 0), .int (nI 0), .int (nI 60), .int (nI 0), .int (nI 0), .int (nI 0), .int (nI 1), .int (nI 0), .ref (eb E + (L + 0)), .ref (eb E + (L + 1)), .ref (eb E + (L + 2)), .ref (eb E + (L + 3)), .ref (eb E + (L + 4)), .ref (eb E + (L + 5)), .null, .null])) ++ [.inl (E.2.2.2.2 0, 16, .inl (fun _ => 0)), .inl (E.2.2.2.2 0, 6, .inl (fun _ => 0)), .inl (E.2.2.2.2 0, 6, .inl (fun _ => 0)), .inl (E.2.2.2.2 0, 6, .inl (fun _ => 0)), .inl (E.2.2.2.2 0, 6, .inl (fun _ => 0)), .inl (E.2.2.2.2 0, 6, .inl (fun _ => 0)), .inl (E.2.2.2.2 0, 6, .inl (fun _ => 0))]) H locs) => ?_)
  refine T_put F P ho hin kpX1_58 rfl rfl (Nat.le_of_ble_eq_true rfl) zX1_init_104 (fun H locs (P : PK E s (cs.set o (.inr (1, [.null, .null, .int (nI 12), .int (nI 0), .int (nI 0), .int (nI 60), .int (nI 0), .int (nI 0), .int (nI 0), .int (nI 1), .int (nI 0), .ref (eb E + (L + 0)), .ref (eb E + (L + 1)), .ref (eb E + (L + 2)), .ref (eb E + (L + 3)), .ref (eb E + (L + 4)), .ref (eb E + (L + 5)), .ref (eb E + (L + 6)), .null])) ++ [.inl (E.2.2.2.2 0, 16, .inl (fun _ => 0)), .inl (E.2.2.2.2 0, 6, .inl (fun _ => 0)), .inl (E.2.2.2.2 0, 6, .inl (fun _ => 0)), .inl (E.2.2.2.2 0, 6, .inl (fun _ => 0)), .inl (E.2.2.2.2 0, 6, .inl (fun _ => 0)), .inl (E.2.2.2.2 0, 6, .inl (fun _ => 0)), .inl (E.2.2.2.2 0, 6, .inl (fun _ => 0))]) H locs) => ?_)
  refine lv_aload_n F.1 F.2.1 zX1_init_107 rfl (lv_at hl 0 rfl) ?_
  refine lv_bipush F.1 F.2.1 zX1_init_108 kb24 ?_
  refine T_newI F P hL rfl kacI rfl (by decide) (Nat.le_of_ble_eq_true rfl) (Nat.le_of_ble_eq_true rfl) zX1_init_110 (fun H (P : PK E s (cs.set o (.inr (1, [.null, .null, .int (nI 12), .int (nI 0), .int (nI 0), .int (nI 60), .int (nI 0), .int (nI 0), .int (nI 0), .int (nI 1), .int (nI 0), .ref (eb E + (L + 0)), .ref (eb E + (L + 1)), .ref (eb E + (L + 2)), .ref (eb E + (L + 3)), .ref (eb E + (L + 4)), .ref (eb E + (L + 5)), .ref (eb E + (L + 6)), .null])) ++ [.inl (E.2.2.2.2 0, 16, .inl (fun _ => 0)), .inl (E.2.2.2.2 0, 6, .inl (fun _ => 0)), .inl (E.2.2.2.2 0, 6, .inl (fun _ => 0)), .inl (E.2.2.2.2 0, 6, .inl (fun _ => 0)), .inl (E.2.2.2.2 0, 6, .inl (fun _ => 0)), .inl (E.2.2.2.2 0, 6, .inl (fun _ => 0)), .inl (E.2.2.2.2 0, 6, .inl (fun _ => 0)), .inl (E.2.2.2.2 0, 24, .inl (fun _ => 0))]) H locs) => ?_)
  refine T_put F P ho hin kpX1_61 rfl rfl (Nat.le_of_ble_eq_true rfl) zX1_init_112 (fun H locs (P : PK E s (cs.set o (.inr (1, [.null, .null, .int (nI 12), .int (nI 0), .int (nI 0), .int (nI 60), .int (nI 0), .int (nI 0), .int (nI 0), .int (nI 1), .int (nI 0), .ref (eb E + (L + 0)), .ref (eb E + (L + 1)), .ref (eb E + (L + 2)), .ref (eb E + (L + 3)), .ref (eb E + (L + 4)), .ref (eb E + (L + 5)), .ref (eb E + (L + 6)), .ref (eb E + (L + 7))])) ++ [.inl (E.2.2.2.2 0, 16, .inl (fun _ => 0)), .inl (E.2.2.2.2 0, 6, .inl (fun _ => 0)), .inl (E.2.2.2.2 0, 6, .inl (fun _ => 0)), .inl (E.2.2.2.2 0, 6, .inl (fun _ => 0)), .inl (E.2.2.2.2 0, 6, .inl (fun _ => 0)), .inl (E.2.2.2.2 0, 6, .inl (fun _ => 0)), .inl (E.2.2.2.2 0, 6, .inl (fun _ => 0)), .inl (E.2.2.2.2 0, 24, .inl (fun _ => 0))]) H locs) => ?_)
  refine lv_aload_n F.1 F.2.1 zX1_init_115 rfl (lv_at hl 0 rfl) ?_
  refine lv_aload_n F.1 F.2.1 zX1_init_116 rfl (lv_at hl 1 rfl) ?_
  refine T_put F P ho hin kpX1_64 rfl rfl (Nat.le_of_ble_eq_true rfl) zX1_init_117 (fun H locs (P : PK E s (cs.set o (.inr (1, [.ref (q1), .null, .int (nI 12), .int (nI 0), .int (nI 0), .int (nI 60), .int (nI 0), .int (nI 0), .int (nI 0), .int (nI 1), .int (nI 0), .ref (eb E + (L + 0)), .ref (eb E + (L + 1)), .ref (eb E + (L + 2)), .ref (eb E + (L + 3)), .ref (eb E + (L + 4)), .ref (eb E + (L + 5)), .ref (eb E + (L + 6)), .ref (eb E + (L + 7))])) ++ [.inl (E.2.2.2.2 0, 16, .inl (fun _ => 0)), .inl (E.2.2.2.2 0, 6, .inl (fun _ => 0)), .inl (E.2.2.2.2 0, 6, .inl (fun _ => 0)), .inl (E.2.2.2.2 0, 6, .inl (fun _ => 0)), .inl (E.2.2.2.2 0, 6, .inl (fun _ => 0)), .inl (E.2.2.2.2 0, 6, .inl (fun _ => 0)), .inl (E.2.2.2.2 0, 6, .inl (fun _ => 0)), .inl (E.2.2.2.2 0, 24, .inl (fun _ => 0))]) H locs) => ?_)
  refine lv_aload_n F.1 F.2.1 zX1_init_120 rfl (lv_at hl 0 rfl) ?_
  refine lv_aload_n F.1 F.2.1 zX1_init_121 rfl (lv_at hl 2 rfl) ?_
  refine T_put F P ho hin kpX1_68 rfl rfl (Nat.le_of_ble_eq_true rfl) zX1_init_122 (fun H locs (P : PK E s (cs.set o (.inr (1, [.ref (q1), .ref (q2), .int (nI 12), .int (nI 0), .int (nI 0), .int (nI 60), .int (nI 0), .int (nI 0), .int (nI 0), .int (nI 1), .int (nI 0), .ref (eb E + (L + 0)), .ref (eb E + (L + 1)), .ref (eb E + (L + 2)), .ref (eb E + (L + 3)), .ref (eb E + (L + 4)), .ref (eb E + (L + 5)), .ref (eb E + (L + 6)), .ref (eb E + (L + 7))])) ++ [.inl (E.2.2.2.2 0, 16, .inl (fun _ => 0)), .inl (E.2.2.2.2 0, 6, .inl (fun _ => 0)), .inl (E.2.2.2.2 0, 6, .inl (fun _ => 0)), .inl (E.2.2.2.2 0, 6, .inl (fun _ => 0)), .inl (E.2.2.2.2 0, 6, .inl (fun _ => 0)), .inl (E.2.2.2.2 0, 6, .inl (fun _ => 0)), .inl (E.2.2.2.2 0, 6, .inl (fun _ => 0)), .inl (E.2.2.2.2 0, 24, .inl (fun _ => 0))]) H locs) => ?_)
  refine lv_aload_n F.1 F.2.1 zX1_init_125 rfl (lv_at hl 0 rfl) ?_
  refine T_get F P ho flX1_39 rfl zX1_init_126 ?_
  refine lv_iconst F.1 F.2.1 zX1_init_129 kc4 ?_
  refine T_fill (n := 0) (k := 16) (f := fun _ => 0) F P hL hl.1 rfl lkX1_72 rfl (Nat.le_of_ble_eq_true rfl) (fun cs2 h => k_fill (by decide) h) (Nat.le_of_ble_eq_true rfl) (Nat.le_of_ble_eq_true rfl) (Nat.le_of_ble_eq_true rfl) (Nat.le_of_ble_eq_true rfl) zX1_init_130 (fun H locs (P : PK E s (cs.set o (.inr (1, [.ref (q1), .ref (q2), .int (nI 12), .int (nI 0), .int (nI 0), .int (nI 60), .int (nI 0), .int (nI 0), .int (nI 0), .int (nI 1), .int (nI 0), .ref (eb E + (L + 0)), .ref (eb E + (L + 1)), .ref (eb E + (L + 2)), .ref (eb E + (L + 3)), .ref (eb E + (L + 4)), .ref (eb E + (L + 5)), .ref (eb E + (L + 6)), .ref (eb E + (L + 7))])) ++ [.inl (E.2.2.2.2 0, 16, .inl (fun i => if i < 16 then nI 4 else (fun _ => 0) i)), .inl (E.2.2.2.2 0, 6, .inl (fun _ => 0)), .inl (E.2.2.2.2 0, 6, .inl (fun _ => 0)), .inl (E.2.2.2.2 0, 6, .inl (fun _ => 0)), .inl (E.2.2.2.2 0, 6, .inl (fun _ => 0)), .inl (E.2.2.2.2 0, 6, .inl (fun _ => 0)), .inl (E.2.2.2.2 0, 6, .inl (fun _ => 0)), .inl (E.2.2.2.2 0, 24, .inl (fun _ => 0))]) H locs) => ?_)
  refine lv_aload_n F.1 F.2.1 zX1_init_133 rfl (lv_at hl 0 rfl) ?_
  refine T_get F P ho flX1_46 rfl zX1_init_134 ?_
  refine lv_iconst F.1 F.2.1 zX1_init_137 kc3 ?_
  refine T_fill (n := 0) (k := 6) (f := fun _ => 0) F P hL hl.1 rfl lkX1_72 rfl (Nat.le_of_ble_eq_true rfl) (fun cs2 h => k_fill (by decide) h) (Nat.le_of_ble_eq_true rfl) (Nat.le_of_ble_eq_true rfl) (Nat.le_of_ble_eq_true rfl) (Nat.le_of_ble_eq_true rfl) zX1_init_138 (fun H locs (P : PK E s (cs.set o (.inr (1, [.ref (q1), .ref (q2), .int (nI 12), .int (nI 0), .int (nI 0), .int (nI 60), .int (nI 0), .int (nI 0), .int (nI 0), .int (nI 1), .int (nI 0), .ref (eb E + (L + 0)), .ref (eb E + (L + 1)), .ref (eb E + (L + 2)), .ref (eb E + (L + 3)), .ref (eb E + (L + 4)), .ref (eb E + (L + 5)), .ref (eb E + (L + 6)), .ref (eb E + (L + 7))])) ++ [.inl (E.2.2.2.2 0, 16, .inl (fun i => if i < 16 then nI 4 else (fun _ => 0) i)), .inl (E.2.2.2.2 0, 6, .inl (fun _ => 0)), .inl (E.2.2.2.2 0, 6, .inl (fun i => if i < 6 then nI 3 else (fun _ => 0) i)), .inl (E.2.2.2.2 0, 6, .inl (fun _ => 0)), .inl (E.2.2.2.2 0, 6, .inl (fun _ => 0)), .inl (E.2.2.2.2 0, 6, .inl (fun _ => 0)), .inl (E.2.2.2.2 0, 6, .inl (fun _ => 0)), .inl (E.2.2.2.2 0, 24, .inl (fun _ => 0))]) H locs) => ?_)
  exact K_ret F P rfl rfl zX1_init_141
