section LC
variable {E : EE} {p : Program} {l : Launch} {e : Env} {s : State} {m : MethodId} {below : List Frame} {meth : Method} {c : Code} {b L : Nat} {xs : Nat → Int32} {H : Heap} {locs : List Loc} {cells slots pc : Nat} {ls : Array Slot} {rest : List Value} {I : IH} {i : Nat}
theorem lc26 (F : Fx E mLw p s m meth c) (X : LwX E b L xs s) (hI : Inv I) (P : PH E s I H locs) (hl : lv_has ls 4 [(0, .ref b), (1, .ref (eb E + 0)), (2, .ref (eb E + 115)), (3, .int (nI i))]) (hi : i + 5 ≤ L) (hce : cells ≤ 600000) (hsl : slots ≤ 7302249) (kk : ∀ (I2 : IH) (H1 : Heap) (locs1 : List Loc), Inv I2 → PH E s I2 H1 locs1 → W p l e room_1 s m #[Value.ref b] below meth c H1 locs1 cells slots (lw_Z below #[Value.ref b] s) (F0 m 1772 ls [])) : W p l e room_1 s m #[Value.ref b] below meth c H locs cells slots (lw_Z below #[Value.ref b] s) (F0 m 1004 ls []) := by
  have hp : Pair E 40 mX11_bars mX12_bars [.int (xs (i + 1)), .int (xs (i + 2))] [.int (xs (i + 1)), .int (xs (i + 2))] I := p_bars (d := 0) hI
  obtain ⟨v, P1, h1, h2⟩ := hp
  refine lv_aload_n F.1 F.2.1 zL_1004 rfl (lv_at hl 1 rfl) ?_
  refine L_arg (k := 1) F X P hl (by decide +kernel) (by omega) la_1005 ?_
  refine L_arg (k := 2) F X P hl (by decide +kernel) (by omega) la_1010 ?_
  refine L_callV [.int (xs (i + 1)), .int (xs (i + 2))] [] F P hl.1 lkL_124 okX11_bars (o := 0) rfl rfl rfl rfl (Nat.le_of_ble_eq_true rfl) (d2 := 40) (by decide) hce hsl h1 zL_1015 (fun I1 H locs hP1 P => ?_)
  refine lv_aload_n F.1 F.2.1 zL_1018 rfl (lv_at hl 2 rfl) ?_
  refine L_arg (k := 1) F X P hl (by decide +kernel) (by omega) la_1019 ?_
  refine L_arg (k := 2) F X P hl (by decide +kernel) (by omega) la_1024 ?_
  refine L_callV [.int (xs (i + 1)), .int (xs (i + 2))] [.int v] F P hl.1 lkL_127 okX12_bars (o := 115) rfl rfl rfl rfl (Nat.le_of_ble_eq_true rfl) (d2 := 40) (by decide) hce hsl (h2 I1 hP1) zL_1029 (fun I2 H locs hI2 P => ?_)
  exact lv_icmp_eq F.1 F.2.1 (tgt := 1772) zL_1032 (by decide) (fun _ => kk I2 H locs hI2 P) (fun q => absurd rfl q)
theorem lc27 (F : Fx E mLw p s m meth c) (X : LwX E b L xs s) (hI : Inv I) (P : PH E s I H locs) (hl : lv_has ls 4 [(0, .ref b), (1, .ref (eb E + 0)), (2, .ref (eb E + 115)), (3, .int (nI i))]) (hi : i + 5 ≤ L) (hce : cells ≤ 600000) (hsl : slots ≤ 7302249) (kk : ∀ (I2 : IH) (H1 : Heap) (locs1 : List Loc), Inv I2 → PH E s I2 H1 locs1 → W p l e room_1 s m #[Value.ref b] below meth c H1 locs1 cells slots (lw_Z below #[Value.ref b] s) (F0 m 1772 ls [])) : W p l e room_1 s m #[Value.ref b] below meth c H locs cells slots (lw_Z below #[Value.ref b] s) (F0 m 1037 ls []) := by
  have hp : Pair E 40 mX11_game mX12_game [.int (xs (i + 1))] [.int (xs (i + 1))] I := p_game (d := 0) hI
  obtain ⟨v, P1, h1, h2⟩ := hp
  refine lv_aload_n F.1 F.2.1 zL_1037 rfl (lv_at hl 1 rfl) ?_
  refine L_arg (k := 1) F X P hl (by decide +kernel) (by omega) la_1038 ?_
  refine L_callV [.int (xs (i + 1))] [] F P hl.1 lkL_128 okX11_game (o := 0) rfl rfl rfl rfl (Nat.le_of_ble_eq_true rfl) (d2 := 40) (by decide) hce hsl h1 zL_1043 (fun I1 H locs hP1 P => ?_)
  refine lv_aload_n F.1 F.2.1 zL_1046 rfl (lv_at hl 2 rfl) ?_
  refine L_arg (k := 1) F X P hl (by decide +kernel) (by omega) la_1047 ?_
  refine L_callV [.int (xs (i + 1))] [.int v] F P hl.1 lkL_131 okX12_game (o := 115) rfl rfl rfl rfl (Nat.le_of_ble_eq_true rfl) (d2 := 40) (by decide) hce hsl (h2 I1 hP1) zL_1052 (fun I2 H locs hI2 P => ?_)
  exact lv_icmp_eq F.1 F.2.1 (tgt := 1772) zL_1055 (by decide) (fun _ => kk I2 H locs hI2 P) (fun q => absurd rfl q)
theorem lc28 (F : Fx E mLw p s m meth c) (X : LwX E b L xs s) (hI : Inv I) (P : PH E s I H locs) (hl : lv_has ls 4 [(0, .ref b), (1, .ref (eb E + 0)), (2, .ref (eb E + 115)), (3, .int (nI i))]) (hi : i + 5 ≤ L) (hce : cells ≤ 600000) (hsl : slots ≤ 7302249) (kk : ∀ (I2 : IH) (H1 : Heap) (locs1 : List Loc), Inv I2 → PH E s I2 H1 locs1 → W p l e room_1 s m #[Value.ref b] below meth c H1 locs1 cells slots (lw_Z below #[Value.ref b] s) (F0 m 1772 ls [])) : W p l e room_1 s m #[Value.ref b] below meth c H locs cells slots (lw_Z below #[Value.ref b] s) (F0 m 1060 ls []) := by
  have hp : Pair E 40 mX11_play mX12_play [.int (xs (i + 1))] [.int (xs (i + 1))] I := p_play (d := 0) hI
  obtain ⟨v, P1, h1, h2⟩ := hp
  refine lv_aload_n F.1 F.2.1 zL_1060 rfl (lv_at hl 1 rfl) ?_
  refine L_arg (k := 1) F X P hl (by decide +kernel) (by omega) la_1061 ?_
  refine L_callV [.int (xs (i + 1))] [] F P hl.1 lkL_132 okX11_play (o := 0) rfl rfl rfl rfl (Nat.le_of_ble_eq_true rfl) (d2 := 40) (by decide) hce hsl h1 zL_1066 (fun I1 H locs hP1 P => ?_)
  refine lv_aload_n F.1 F.2.1 zL_1069 rfl (lv_at hl 2 rfl) ?_
  refine L_arg (k := 1) F X P hl (by decide +kernel) (by omega) la_1070 ?_
  refine L_callV [.int (xs (i + 1))] [.int v] F P hl.1 lkL_135 okX12_play (o := 115) rfl rfl rfl rfl (Nat.le_of_ble_eq_true rfl) (d2 := 40) (by decide) hce hsl (h2 I1 hP1) zL_1075 (fun I2 H locs hI2 P => ?_)
  exact lv_icmp_eq F.1 F.2.1 (tgt := 1772) zL_1078 (by decide) (fun _ => kk I2 H locs hI2 P) (fun q => absurd rfl q)
theorem lc29 (F : Fx E mLw p s m meth c) (X : LwX E b L xs s) (hI : Inv I) (P : PH E s I H locs) (hl : lv_has ls 4 [(0, .ref b), (1, .ref (eb E + 0)), (2, .ref (eb E + 115)), (3, .int (nI i))]) (hi : i + 5 ≤ L) (hce : cells ≤ 600000) (hsl : slots ≤ 7302249) (kk : ∀ (I2 : IH) (H1 : Heap) (locs1 : List Loc), Inv I2 → PH E s I2 H1 locs1 → W p l e room_1 s m #[Value.ref b] below meth c H1 locs1 cells slots (lw_Z below #[Value.ref b] s) (F0 m 1772 ls [])) : W p l e room_1 s m #[Value.ref b] below meth c H locs cells slots (lw_Z below #[Value.ref b] s) (F0 m 1083 ls []) := by
  have hp : Pair E 40 mX11_report mX12_report [.int (xs (i + 1)), .int (xs (i + 2)), .int (xs (i + 3)), .int (xs (i + 4))] [.int (xs (i + 1)), .int (xs (i + 2)), .int (xs (i + 3)), .int (xs (i + 4))] I := p_report (d := 0) hI
  obtain ⟨v, P1, h1, h2⟩ := hp
  refine lv_aload_n F.1 F.2.1 zL_1083 rfl (lv_at hl 1 rfl) ?_
  refine L_arg (k := 1) F X P hl (by decide +kernel) (by omega) la_1084 ?_
  refine L_arg (k := 2) F X P hl (by decide +kernel) (by omega) la_1089 ?_
  refine L_arg (k := 3) F X P hl (by decide +kernel) (by omega) la_1094 ?_
  refine L_arg (k := 4) F X P hl (by decide +kernel) (by omega) la_1099 ?_
  refine L_callV [.int (xs (i + 1)), .int (xs (i + 2)), .int (xs (i + 3)), .int (xs (i + 4))] [] F P hl.1 lkL_136 okX11_report (o := 0) rfl rfl rfl rfl (Nat.le_of_ble_eq_true rfl) (d2 := 40) (by decide) hce hsl h1 zL_1104 (fun I1 H locs hP1 P => ?_)
  refine lv_aload_n F.1 F.2.1 zL_1107 rfl (lv_at hl 2 rfl) ?_
  refine L_arg (k := 1) F X P hl (by decide +kernel) (by omega) la_1108 ?_
  refine L_arg (k := 2) F X P hl (by decide +kernel) (by omega) la_1113 ?_
  refine L_arg (k := 3) F X P hl (by decide +kernel) (by omega) la_1118 ?_
  refine L_arg (k := 4) F X P hl (by decide +kernel) (by omega) la_1123 ?_
  refine L_callV [.int (xs (i + 1)), .int (xs (i + 2)), .int (xs (i + 3)), .int (xs (i + 4))] [.int v] F P hl.1 lkL_140 okX12_report (o := 115) rfl rfl rfl rfl (Nat.le_of_ble_eq_true rfl) (d2 := 40) (by decide) hce hsl (h2 I1 hP1) zL_1128 (fun I2 H locs hI2 P => ?_)
  exact lv_icmp_eq F.1 F.2.1 (tgt := 1772) zL_1131 (by decide) (fun _ => kk I2 H locs hI2 P) (fun q => absurd rfl q)
theorem lc30 (F : Fx E mLw p s m meth c) (X : LwX E b L xs s) (hI : Inv I) (P : PH E s I H locs) (hl : lv_has ls 4 [(0, .ref b), (1, .ref (eb E + 0)), (2, .ref (eb E + 115)), (3, .int (nI i))]) (hi : i + 5 ≤ L) (hce : cells ≤ 600000) (hsl : slots ≤ 7302249) (kk : ∀ (I2 : IH) (H1 : Heap) (locs1 : List Loc), Inv I2 → PH E s I2 H1 locs1 → W p l e room_1 s m #[Value.ref b] below meth c H1 locs1 cells slots (lw_Z below #[Value.ref b] s) (F0 m 1772 ls [])) : W p l e room_1 s m #[Value.ref b] below meth c H locs cells slots (lw_Z below #[Value.ref b] s) (F0 m 1136 ls []) := by
  have hp : Pair E 40 mX11_forget mX12_forget [] [] I := p_forget (d := 0) hI
  obtain ⟨v, P1, h1, h2⟩ := hp
  refine lv_aload_n F.1 F.2.1 zL_1136 rfl (lv_at hl 1 rfl) ?_
  refine L_callV [] [] F P hl.1 lkL_141 okX11_forget (o := 0) rfl rfl rfl rfl (Nat.le_of_ble_eq_true rfl) (d2 := 40) (by decide) hce hsl h1 zL_1137 (fun I1 H locs hP1 P => ?_)
  refine lv_aload_n F.1 F.2.1 zL_1140 rfl (lv_at hl 2 rfl) ?_
  refine L_callV [] [.int v] F P hl.1 lkL_144 okX12_forget (o := 115) rfl rfl rfl rfl (Nat.le_of_ble_eq_true rfl) (d2 := 40) (by decide) hce hsl (h2 I1 hP1) zL_1141 (fun I2 H locs hI2 P => ?_)
  exact lv_icmp_eq F.1 F.2.1 (tgt := 1772) zL_1144 (by decide) (fun _ => kk I2 H locs hI2 P) (fun q => absurd rfl q)
theorem lc31 (F : Fx E mLw p s m meth c) (X : LwX E b L xs s) (hI : Inv I) (P : PH E s I H locs) (hl : lv_has ls 4 [(0, .ref b), (1, .ref (eb E + 0)), (2, .ref (eb E + 115)), (3, .int (nI i))]) (hi : i + 5 ≤ L) (hce : cells ≤ 600000) (hsl : slots ≤ 7302249) (kk : ∀ (I2 : IH) (H1 : Heap) (locs1 : List Loc), Inv I2 → PH E s I2 H1 locs1 → W p l e room_1 s m #[Value.ref b] below meth c H1 locs1 cells slots (lw_Z below #[Value.ref b] s) (F0 m 1772 ls [])) : W p l e room_1 s m #[Value.ref b] below meth c H locs cells slots (lw_Z below #[Value.ref b] s) (F0 m 1149 ls []) := by
  have hp : Pair E 40 mX11_who mX12_who [.int (xs (i + 1))] [.int (xs (i + 1))] I := p_who (d := 0) hI
  obtain ⟨v, P1, h1, h2⟩ := hp
  refine lv_aload_n F.1 F.2.1 zL_1149 rfl (lv_at hl 1 rfl) ?_
  refine L_arg (k := 1) F X P hl (by decide +kernel) (by omega) la_1150 ?_
  refine L_callV [.int (xs (i + 1))] [] F P hl.1 lkL_145 okX11_who (o := 0) rfl rfl rfl rfl (Nat.le_of_ble_eq_true rfl) (d2 := 40) (by decide) hce hsl h1 zL_1155 (fun I1 H locs hP1 P => ?_)
  refine lv_aload_n F.1 F.2.1 zL_1158 rfl (lv_at hl 2 rfl) ?_
  refine L_arg (k := 1) F X P hl (by decide +kernel) (by omega) la_1159 ?_
  refine L_callV [.int (xs (i + 1))] [.int v] F P hl.1 lkL_148 okX12_who (o := 115) rfl rfl rfl rfl (Nat.le_of_ble_eq_true rfl) (d2 := 40) (by decide) hce hsl (h2 I1 hP1) zL_1164 (fun I2 H locs hI2 P => ?_)
  exact lv_icmp_eq F.1 F.2.1 (tgt := 1772) zL_1167 (by decide) (fun _ => kk I2 H locs hI2 P) (fun q => absurd rfl q)
theorem lc32 (F : Fx E mLw p s m meth c) (X : LwX E b L xs s) (hI : Inv I) (P : PH E s I H locs) (hl : lv_has ls 4 [(0, .ref b), (1, .ref (eb E + 0)), (2, .ref (eb E + 115)), (3, .int (nI i))]) (hi : i + 5 ≤ L) (hce : cells ≤ 600000) (hsl : slots ≤ 7302249) (kk : ∀ (I2 : IH) (H1 : Heap) (locs1 : List Loc), Inv I2 → PH E s I2 H1 locs1 → W p l e room_1 s m #[Value.ref b] below meth c H1 locs1 cells slots (lw_Z below #[Value.ref b] s) (F0 m 1772 ls [])) : W p l e room_1 s m #[Value.ref b] below meth c H locs cells slots (lw_Z below #[Value.ref b] s) (F0 m 1172 ls []) := by
  have hp : Pair E 40 mX11_liar mX12_liar [] [] I := p_liar (d := 0) hI
  obtain ⟨v, P1, h1, h2⟩ := hp
  refine lv_aload_n F.1 F.2.1 zL_1172 rfl (lv_at hl 1 rfl) ?_
  refine L_callV [] [] F P hl.1 lkL_149 okX11_liar (o := 0) rfl rfl rfl rfl (Nat.le_of_ble_eq_true rfl) (d2 := 40) (by decide) hce hsl h1 zL_1173 (fun I1 H locs hP1 P => ?_)
  refine lv_aload_n F.1 F.2.1 zL_1176 rfl (lv_at hl 2 rfl) ?_
  refine L_callV [] [.int v] F P hl.1 lkL_152 okX12_liar (o := 115) rfl rfl rfl rfl (Nat.le_of_ble_eq_true rfl) (d2 := 40) (by decide) hce hsl (h2 I1 hP1) zL_1177 (fun I2 H locs hI2 P => ?_)
  exact lv_icmp_eq F.1 F.2.1 (tgt := 1772) zL_1180 (by decide) (fun _ => kk I2 H locs hI2 P) (fun q => absurd rfl q)
theorem lc33 (F : Fx E mLw p s m meth c) (X : LwX E b L xs s) (hI : Inv I) (P : PH E s I H locs) (hl : lv_has ls 4 [(0, .ref b), (1, .ref (eb E + 0)), (2, .ref (eb E + 115)), (3, .int (nI i))]) (hi : i + 5 ≤ L) (hce : cells ≤ 600000) (hsl : slots ≤ 7302249) (kk : ∀ (I2 : IH) (H1 : Heap) (locs1 : List Loc), Inv I2 → PH E s I2 H1 locs1 → W p l e room_1 s m #[Value.ref b] below meth c H1 locs1 cells slots (lw_Z below #[Value.ref b] s) (F0 m 1772 ls [])) : W p l e room_1 s m #[Value.ref b] below meth c H locs cells slots (lw_Z below #[Value.ref b] s) (F0 m 1185 ls []) := by
  have hp : Pair E 40 mX11_seed mX12_seed [.int (xs (i + 1))] [.int (xs (i + 1))] I := p_seed (d := 0) hI
  obtain ⟨v, P1, h1, h2⟩ := hp
  refine lv_aload_n F.1 F.2.1 zL_1185 rfl (lv_at hl 1 rfl) ?_
  refine L_arg (k := 1) F X P hl (by decide +kernel) (by omega) la_1186 ?_
  refine L_callV [.int (xs (i + 1))] [] F P hl.1 lkL_153 okX11_seed (o := 0) rfl rfl rfl rfl (Nat.le_of_ble_eq_true rfl) (d2 := 40) (by decide) hce hsl h1 zL_1191 (fun I1 H locs hP1 P => ?_)
  refine lv_aload_n F.1 F.2.1 zL_1194 rfl (lv_at hl 2 rfl) ?_
  refine L_arg (k := 1) F X P hl (by decide +kernel) (by omega) la_1195 ?_
  refine L_callV [.int (xs (i + 1))] [.int v] F P hl.1 lkL_156 okX12_seed (o := 115) rfl rfl rfl rfl (Nat.le_of_ble_eq_true rfl) (d2 := 40) (by decide) hce hsl (h2 I1 hP1) zL_1200 (fun I2 H locs hI2 P => ?_)
  exact lv_icmp_eq F.1 F.2.1 (tgt := 1772) zL_1203 (by decide) (fun _ => kk I2 H locs hI2 P) (fun q => absurd rfl q)
theorem lc34 (F : Fx E mLw p s m meth c) (X : LwX E b L xs s) (hI : Inv I) (P : PH E s I H locs) (hl : lv_has ls 4 [(0, .ref b), (1, .ref (eb E + 0)), (2, .ref (eb E + 115)), (3, .int (nI i))]) (hi : i + 5 ≤ L) (hce : cells ≤ 600000) (hsl : slots ≤ 7302249) (kk : ∀ (I2 : IH) (H1 : Heap) (locs1 : List Loc), Inv I2 → PH E s I2 H1 locs1 → W p l e room_1 s m #[Value.ref b] below meth c H1 locs1 cells slots (lw_Z below #[Value.ref b] s) (F0 m 1772 ls [])) : W p l e room_1 s m #[Value.ref b] below meth c H locs cells slots (lw_Z below #[Value.ref b] s) (F0 m 1208 ls []) := by
  have hp : Pair E 40 mX11_lot mX12_lot [] [] I := p_lot (d := 0) hI
  obtain ⟨v, P1, h1, h2⟩ := hp
  refine lv_aload_n F.1 F.2.1 zL_1208 rfl (lv_at hl 1 rfl) ?_
  refine L_callV [] [] F P hl.1 lkL_157 okX11_lot (o := 0) rfl rfl rfl rfl (Nat.le_of_ble_eq_true rfl) (d2 := 40) (by decide) hce hsl h1 zL_1209 (fun I1 H locs hP1 P => ?_)
  refine lv_aload_n F.1 F.2.1 zL_1212 rfl (lv_at hl 2 rfl) ?_
  refine L_callV [] [.int v] F P hl.1 lkL_160 okX12_lot (o := 115) rfl rfl rfl rfl (Nat.le_of_ble_eq_true rfl) (d2 := 40) (by decide) hce hsl (h2 I1 hP1) zL_1213 (fun I2 H locs hI2 P => ?_)
  exact lv_icmp_eq F.1 F.2.1 (tgt := 1772) zL_1216 (by decide) (fun _ => kk I2 H locs hI2 P) (fun q => absurd rfl q)
theorem lc35 (F : Fx E mLw p s m meth c) (X : LwX E b L xs s) (hI : Inv I) (P : PH E s I H locs) (hl : lv_has ls 4 [(0, .ref b), (1, .ref (eb E + 0)), (2, .ref (eb E + 115)), (3, .int (nI i))]) (hi : i + 5 ≤ L) (hce : cells ≤ 600000) (hsl : slots ≤ 7302249) (kk : ∀ (I2 : IH) (H1 : Heap) (locs1 : List Loc), Inv I2 → PH E s I2 H1 locs1 → W p l e room_1 s m #[Value.ref b] below meth c H1 locs1 cells slots (lw_Z below #[Value.ref b] s) (F0 m 1772 ls [])) : W p l e room_1 s m #[Value.ref b] below meth c H locs cells slots (lw_Z below #[Value.ref b] s) (F0 m 1221 ls []) := by
  have hp : Pair E 40 mX11_times mX12_times [.int (xs (i + 1)), .int (xs (i + 2))] [.int (xs (i + 1)), .int (xs (i + 2))] I := p_times (d := 0) hI
  obtain ⟨v, P1, h1, h2⟩ := hp
  refine lv_aload_n F.1 F.2.1 zL_1221 rfl (lv_at hl 1 rfl) ?_
  refine L_arg (k := 1) F X P hl (by decide +kernel) (by omega) la_1222 ?_
  refine L_arg (k := 2) F X P hl (by decide +kernel) (by omega) la_1227 ?_
  refine L_callV [.int (xs (i + 1)), .int (xs (i + 2))] [] F P hl.1 lkL_161 okX11_times (o := 0) rfl rfl rfl rfl (Nat.le_of_ble_eq_true rfl) (d2 := 40) (by decide) hce hsl h1 zL_1232 (fun I1 H locs hP1 P => ?_)
  refine lv_aload_n F.1 F.2.1 zL_1235 rfl (lv_at hl 2 rfl) ?_
  refine L_arg (k := 1) F X P hl (by decide +kernel) (by omega) la_1236 ?_
  refine L_arg (k := 2) F X P hl (by decide +kernel) (by omega) la_1241 ?_
  refine L_callV [.int (xs (i + 1)), .int (xs (i + 2))] [.int v] F P hl.1 lkL_164 okX12_times (o := 115) rfl rfl rfl rfl (Nat.le_of_ble_eq_true rfl) (d2 := 40) (by decide) hce hsl (h2 I1 hP1) zL_1246 (fun I2 H locs hI2 P => ?_)
  exact lv_icmp_eq F.1 F.2.1 (tgt := 1772) zL_1249 (by decide) (fun _ => kk I2 H locs hI2 P) (fun q => absurd rfl q)
theorem lc36 (F : Fx E mLw p s m meth c) (X : LwX E b L xs s) (hI : Inv I) (P : PH E s I H locs) (hl : lv_has ls 4 [(0, .ref b), (1, .ref (eb E + 0)), (2, .ref (eb E + 115)), (3, .int (nI i))]) (hi : i + 5 ≤ L) (hce : cells ≤ 600000) (hsl : slots ≤ 7302249) (kk : ∀ (I2 : IH) (H1 : Heap) (locs1 : List Loc), Inv I2 → PH E s I2 H1 locs1 → W p l e room_1 s m #[Value.ref b] below meth c H1 locs1 cells slots (lw_Z below #[Value.ref b] s) (F0 m 1772 ls [])) : W p l e room_1 s m #[Value.ref b] below meth c H locs cells slots (lw_Z below #[Value.ref b] s) (F0 m 1254 ls []) := by
  have hp : Pair E 40 mX11_prove mX12_prove [.int (xs (i + 1))] [.int (xs (i + 1))] I := p_prove (d := 0) hI
  obtain ⟨v, P1, h1, h2⟩ := hp
  refine lv_aload_n F.1 F.2.1 zL_1254 rfl (lv_at hl 1 rfl) ?_
  refine L_arg (k := 1) F X P hl (by decide +kernel) (by omega) la_1255 ?_
  refine L_callV [.int (xs (i + 1))] [] F P hl.1 lkL_165 okX11_prove (o := 0) rfl rfl rfl rfl (Nat.le_of_ble_eq_true rfl) (d2 := 40) (by decide) hce hsl h1 zL_1260 (fun I1 H locs hP1 P => ?_)
  refine lv_aload_n F.1 F.2.1 zL_1263 rfl (lv_at hl 2 rfl) ?_
  refine L_arg (k := 1) F X P hl (by decide +kernel) (by omega) la_1264 ?_
  refine L_callV [.int (xs (i + 1))] [.int v] F P hl.1 lkL_168 okX12_prove (o := 115) rfl rfl rfl rfl (Nat.le_of_ble_eq_true rfl) (d2 := 40) (by decide) hce hsl (h2 I1 hP1) zL_1269 (fun I2 H locs hI2 P => ?_)
  exact lv_icmp_eq F.1 F.2.1 (tgt := 1772) zL_1272 (by decide) (fun _ => kk I2 H locs hI2 P) (fun q => absurd rfl q)
theorem lc37 (F : Fx E mLw p s m meth c) (X : LwX E b L xs s) (hI : Inv I) (P : PH E s I H locs) (hl : lv_has ls 4 [(0, .ref b), (1, .ref (eb E + 0)), (2, .ref (eb E + 115)), (3, .int (nI i))]) (hi : i + 5 ≤ L) (hce : cells ≤ 600000) (hsl : slots ≤ 7302249) (kk : ∀ (I2 : IH) (H1 : Heap) (locs1 : List Loc), Inv I2 → PH E s I2 H1 locs1 → W p l e room_1 s m #[Value.ref b] below meth c H1 locs1 cells slots (lw_Z below #[Value.ref b] s) (F0 m 1772 ls [])) : W p l e room_1 s m #[Value.ref b] below meth c H locs cells slots (lw_Z below #[Value.ref b] s) (F0 m 1277 ls []) := by
  have hp : Pair E 40 mX11_row mX12_row [.int (xs (i + 1)), .int (xs (i + 2))] [.int (xs (i + 1)), .int (xs (i + 2))] I := p_row (d := 0) hI
  obtain ⟨v, P1, h1, h2⟩ := hp
  refine lv_aload_n F.1 F.2.1 zL_1277 rfl (lv_at hl 1 rfl) ?_
  refine L_arg (k := 1) F X P hl (by decide +kernel) (by omega) la_1278 ?_
  refine L_arg (k := 2) F X P hl (by decide +kernel) (by omega) la_1283 ?_
  refine L_callV [.int (xs (i + 1)), .int (xs (i + 2))] [] F P hl.1 lkL_169 okX11_row (o := 0) rfl rfl rfl rfl (Nat.le_of_ble_eq_true rfl) (d2 := 40) (by decide) hce hsl h1 zL_1288 (fun I1 H locs hP1 P => ?_)
  refine lv_aload_n F.1 F.2.1 zL_1291 rfl (lv_at hl 2 rfl) ?_
  refine L_arg (k := 1) F X P hl (by decide +kernel) (by omega) la_1292 ?_
  refine L_arg (k := 2) F X P hl (by decide +kernel) (by omega) la_1297 ?_
  refine L_callV [.int (xs (i + 1)), .int (xs (i + 2))] [.int v] F P hl.1 lkL_172 okX12_row (o := 115) rfl rfl rfl rfl (Nat.le_of_ble_eq_true rfl) (d2 := 40) (by decide) hce hsl (h2 I1 hP1) zL_1302 (fun I2 H locs hI2 P => ?_)
  exact lv_icmp_eq F.1 F.2.1 (tgt := 1772) zL_1305 (by decide) (fun _ => kk I2 H locs hI2 P) (fun q => absurd rfl q)
theorem lc38 (F : Fx E mLw p s m meth c) (X : LwX E b L xs s) (hI : Inv I) (P : PH E s I H locs) (hl : lv_has ls 4 [(0, .ref b), (1, .ref (eb E + 0)), (2, .ref (eb E + 115)), (3, .int (nI i))]) (hi : i + 5 ≤ L) (hce : cells ≤ 600000) (hsl : slots ≤ 7302249) (kk : ∀ (I2 : IH) (H1 : Heap) (locs1 : List Loc), Inv I2 → PH E s I2 H1 locs1 → W p l e room_1 s m #[Value.ref b] below meth c H1 locs1 cells slots (lw_Z below #[Value.ref b] s) (F0 m 1772 ls [])) : W p l e room_1 s m #[Value.ref b] below meth c H locs cells slots (lw_Z below #[Value.ref b] s) (F0 m 1310 ls []) := by
  have hp : Pair E 40 mX11_alterRow mX12_alterRow [.int (xs (i + 1)), .int (xs (i + 2)), .int (xs (i + 3))] [.int (xs (i + 1)), .int (xs (i + 2)), .int (xs (i + 3))] I := p_alterRow (d := 0) hI
  obtain ⟨v, P1, h1, h2⟩ := hp
  refine lv_aload_n F.1 F.2.1 zL_1310 rfl (lv_at hl 1 rfl) ?_
  refine L_arg (k := 1) F X P hl (by decide +kernel) (by omega) la_1311 ?_
  refine L_arg (k := 2) F X P hl (by decide +kernel) (by omega) la_1316 ?_
  refine L_arg (k := 3) F X P hl (by decide +kernel) (by omega) la_1321 ?_
  refine L_callV [.int (xs (i + 1)), .int (xs (i + 2)), .int (xs (i + 3))] [] F P hl.1 lkL_173 okX11_alterRow (o := 0) rfl rfl rfl rfl (Nat.le_of_ble_eq_true rfl) (d2 := 40) (by decide) hce hsl h1 zL_1326 (fun I1 H locs hP1 P => ?_)
  refine lv_aload_n F.1 F.2.1 zL_1329 rfl (lv_at hl 2 rfl) ?_
  refine L_arg (k := 1) F X P hl (by decide +kernel) (by omega) la_1330 ?_
  refine L_arg (k := 2) F X P hl (by decide +kernel) (by omega) la_1335 ?_
  refine L_arg (k := 3) F X P hl (by decide +kernel) (by omega) la_1340 ?_
  refine L_callV [.int (xs (i + 1)), .int (xs (i + 2)), .int (xs (i + 3))] [.int v] F P hl.1 lkL_176 okX12_alterRow (o := 115) rfl rfl rfl rfl (Nat.le_of_ble_eq_true rfl) (d2 := 40) (by decide) hce hsl (h2 I1 hP1) zL_1345 (fun I2 H locs hI2 P => ?_)
  exact lv_icmp_eq F.1 F.2.1 (tgt := 1772) zL_1348 (by decide) (fun _ => kk I2 H locs hI2 P) (fun q => absurd rfl q)
theorem lc39 (F : Fx E mLw p s m meth c) (X : LwX E b L xs s) (hI : Inv I) (P : PH E s I H locs) (hl : lv_has ls 4 [(0, .ref b), (1, .ref (eb E + 0)), (2, .ref (eb E + 115)), (3, .int (nI i))]) (hi : i + 5 ≤ L) (hce : cells ≤ 600000) (hsl : slots ≤ 7302249) (kk : ∀ (I2 : IH) (H1 : Heap) (locs1 : List Loc), Inv I2 → PH E s I2 H1 locs1 → W p l e room_1 s m #[Value.ref b] below meth c H1 locs1 cells slots (lw_Z below #[Value.ref b] s) (F0 m 1772 ls [])) : W p l e room_1 s m #[Value.ref b] below meth c H locs cells slots (lw_Z below #[Value.ref b] s) (F0 m 1353 ls []) := by
  have hp : Pair E 40 mX11_judge mX12_judge [] [] I := p_judge (d := 0) hI
  obtain ⟨v, P1, h1, h2⟩ := hp
  refine lv_aload_n F.1 F.2.1 zL_1353 rfl (lv_at hl 1 rfl) ?_
  refine L_callV [] [] F P hl.1 lkL_177 okX11_judge (o := 0) rfl rfl rfl rfl (Nat.le_of_ble_eq_true rfl) (d2 := 40) (by decide) hce hsl h1 zL_1354 (fun I1 H locs hP1 P => ?_)
  refine lv_aload_n F.1 F.2.1 zL_1357 rfl (lv_at hl 2 rfl) ?_
  refine L_callV [] [.int v] F P hl.1 lkL_180 okX12_judge (o := 115) rfl rfl rfl rfl (Nat.le_of_ble_eq_true rfl) (d2 := 40) (by decide) hce hsl (h2 I1 hP1) zL_1358 (fun I2 H locs hI2 P => ?_)
  exact lv_icmp_eq F.1 F.2.1 (tgt := 1772) zL_1361 (by decide) (fun _ => kk I2 H locs hI2 P) (fun q => absurd rfl q)
theorem lc40 (F : Fx E mLw p s m meth c) (X : LwX E b L xs s) (hI : Inv I) (P : PH E s I H locs) (hl : lv_has ls 4 [(0, .ref b), (1, .ref (eb E + 0)), (2, .ref (eb E + 115)), (3, .int (nI i))]) (hi : i + 5 ≤ L) (hce : cells ≤ 600000) (hsl : slots ≤ 7302249) (kk : ∀ (I2 : IH) (H1 : Heap) (locs1 : List Loc), Inv I2 → PH E s I2 H1 locs1 → W p l e room_1 s m #[Value.ref b] below meth c H1 locs1 cells slots (lw_Z below #[Value.ref b] s) (F0 m 1772 ls [])) : W p l e room_1 s m #[Value.ref b] below meth c H locs cells slots (lw_Z below #[Value.ref b] s) (F0 m 1366 ls []) := by
  have hp : Pair E 40 mX11_sheet mX12_sheet [.int (xs (i + 1)), .int (xs (i + 2)), .int (xs (i + 3))] [.int (xs (i + 1)), .int (xs (i + 2)), .int (xs (i + 3))] I := p_sheet (d := 0) hI
  obtain ⟨v, P1, h1, h2⟩ := hp
  refine lv_aload_n F.1 F.2.1 zL_1366 rfl (lv_at hl 1 rfl) ?_
  refine L_arg (k := 1) F X P hl (by decide +kernel) (by omega) la_1367 ?_
  refine L_arg (k := 2) F X P hl (by decide +kernel) (by omega) la_1372 ?_
  refine L_arg (k := 3) F X P hl (by decide +kernel) (by omega) la_1377 ?_
  refine L_callV [.int (xs (i + 1)), .int (xs (i + 2)), .int (xs (i + 3))] [] F P hl.1 lkL_181 okX11_sheet (o := 0) rfl rfl rfl rfl (Nat.le_of_ble_eq_true rfl) (d2 := 40) (by decide) hce hsl h1 zL_1382 (fun I1 H locs hP1 P => ?_)
  refine lv_aload_n F.1 F.2.1 zL_1385 rfl (lv_at hl 2 rfl) ?_
  refine L_arg (k := 1) F X P hl (by decide +kernel) (by omega) la_1386 ?_
  refine L_arg (k := 2) F X P hl (by decide +kernel) (by omega) la_1391 ?_
  refine L_arg (k := 3) F X P hl (by decide +kernel) (by omega) la_1396 ?_
  refine L_callV [.int (xs (i + 1)), .int (xs (i + 2)), .int (xs (i + 3))] [.int v] F P hl.1 lkL_184 okX12_sheet (o := 115) rfl rfl rfl rfl (Nat.le_of_ble_eq_true rfl) (d2 := 40) (by decide) hce hsl (h2 I1 hP1) zL_1401 (fun I2 H locs hI2 P => ?_)
  exact lv_icmp_eq F.1 F.2.1 (tgt := 1772) zL_1404 (by decide) (fun _ => kk I2 H locs hI2 P) (fun q => absurd rfl q)
theorem lc41 (F : Fx E mLw p s m meth c) (X : LwX E b L xs s) (hI : Inv I) (P : PH E s I H locs) (hl : lv_has ls 4 [(0, .ref b), (1, .ref (eb E + 0)), (2, .ref (eb E + 115)), (3, .int (nI i))]) (hi : i + 5 ≤ L) (hce : cells ≤ 600000) (hsl : slots ≤ 7302249) (kk : ∀ (I2 : IH) (H1 : Heap) (locs1 : List Loc), Inv I2 → PH E s I2 H1 locs1 → W p l e room_1 s m #[Value.ref b] below meth c H1 locs1 cells slots (lw_Z below #[Value.ref b] s) (F0 m 1772 ls [])) : W p l e room_1 s m #[Value.ref b] below meth c H locs cells slots (lw_Z below #[Value.ref b] s) (F0 m 1409 ls []) := by
  have hp : Pair E 40 mX11_write mX12_write [.int (xs (i + 1)), .int (xs (i + 2)), .int (xs (i + 3))] [.int (xs (i + 1)), .int (xs (i + 2)), .int (xs (i + 3))] I := p_write (d := 0) hI
  obtain ⟨v, P1, h1, h2⟩ := hp
  refine lv_aload_n F.1 F.2.1 zL_1409 rfl (lv_at hl 1 rfl) ?_
  refine L_arg (k := 1) F X P hl (by decide +kernel) (by omega) la_1410 ?_
  refine L_arg (k := 2) F X P hl (by decide +kernel) (by omega) la_1415 ?_
  refine L_arg (k := 3) F X P hl (by decide +kernel) (by omega) la_1420 ?_
  refine L_callV [.int (xs (i + 1)), .int (xs (i + 2)), .int (xs (i + 3))] [] F P hl.1 lkL_185 okX11_write (o := 0) rfl rfl rfl rfl (Nat.le_of_ble_eq_true rfl) (d2 := 40) (by decide) hce hsl h1 zL_1425 (fun I1 H locs hP1 P => ?_)
  refine lv_aload_n F.1 F.2.1 zL_1428 rfl (lv_at hl 2 rfl) ?_
  refine L_arg (k := 1) F X P hl (by decide +kernel) (by omega) la_1429 ?_
  refine L_arg (k := 2) F X P hl (by decide +kernel) (by omega) la_1434 ?_
  refine L_arg (k := 3) F X P hl (by decide +kernel) (by omega) la_1439 ?_
  refine L_callV [.int (xs (i + 1)), .int (xs (i + 2)), .int (xs (i + 3))] [.int v] F P hl.1 lkL_188 okX12_write (o := 115) rfl rfl rfl rfl (Nat.le_of_ble_eq_true rfl) (d2 := 40) (by decide) hce hsl (h2 I1 hP1) zL_1444 (fun I2 H locs hI2 P => ?_)
  exact lv_icmp_eq F.1 F.2.1 (tgt := 1772) zL_1447 (by decide) (fun _ => kk I2 H locs hI2 P) (fun q => absurd rfl q)
theorem lc42 (F : Fx E mLw p s m meth c) (X : LwX E b L xs s) (hI : Inv I) (P : PH E s I H locs) (hl : lv_has ls 4 [(0, .ref b), (1, .ref (eb E + 0)), (2, .ref (eb E + 115)), (3, .int (nI i))]) (hi : i + 5 ≤ L) (hce : cells ≤ 600000) (hsl : slots ≤ 7302249) (kk : ∀ (I2 : IH) (H1 : Heap) (locs1 : List Loc), Inv I2 → PH E s I2 H1 locs1 → W p l e room_1 s m #[Value.ref b] below meth c H1 locs1 cells slots (lw_Z below #[Value.ref b] s) (F0 m 1772 ls [])) : W p l e room_1 s m #[Value.ref b] below meth c H locs cells slots (lw_Z below #[Value.ref b] s) (F0 m 1452 ls []) := by
  have hp : Pair E 40 mX11_item mX12_item [.int (xs (i + 1)), .int (xs (i + 2)), .int (xs (i + 3))] [.int (xs (i + 1)), .int (xs (i + 2)), .int (xs (i + 3))] I := p_item (d := 0) hI
  obtain ⟨v, P1, h1, h2⟩ := hp
  refine lv_aload_n F.1 F.2.1 zL_1452 rfl (lv_at hl 1 rfl) ?_
  refine L_arg (k := 1) F X P hl (by decide +kernel) (by omega) la_1453 ?_
  refine L_arg (k := 2) F X P hl (by decide +kernel) (by omega) la_1458 ?_
  refine L_arg (k := 3) F X P hl (by decide +kernel) (by omega) la_1463 ?_
  refine L_callV [.int (xs (i + 1)), .int (xs (i + 2)), .int (xs (i + 3))] [] F P hl.1 lkL_189 okX11_item (o := 0) rfl rfl rfl rfl (Nat.le_of_ble_eq_true rfl) (d2 := 40) (by decide) hce hsl h1 zL_1468 (fun I1 H locs hP1 P => ?_)
  refine lv_aload_n F.1 F.2.1 zL_1471 rfl (lv_at hl 2 rfl) ?_
  refine L_arg (k := 1) F X P hl (by decide +kernel) (by omega) la_1472 ?_
  refine L_arg (k := 2) F X P hl (by decide +kernel) (by omega) la_1477 ?_
  refine L_arg (k := 3) F X P hl (by decide +kernel) (by omega) la_1482 ?_
  refine L_callV [.int (xs (i + 1)), .int (xs (i + 2)), .int (xs (i + 3))] [.int v] F P hl.1 lkL_192 okX12_item (o := 115) rfl rfl rfl rfl (Nat.le_of_ble_eq_true rfl) (d2 := 40) (by decide) hce hsl (h2 I1 hP1) zL_1487 (fun I2 H locs hI2 P => ?_)
  exact lv_icmp_eq F.1 F.2.1 (tgt := 1772) zL_1490 (by decide) (fun _ => kk I2 H locs hI2 P) (fun q => absurd rfl q)
theorem lc43 (F : Fx E mLw p s m meth c) (X : LwX E b L xs s) (hI : Inv I) (P : PH E s I H locs) (hl : lv_has ls 4 [(0, .ref b), (1, .ref (eb E + 0)), (2, .ref (eb E + 115)), (3, .int (nI i))]) (hi : i + 5 ≤ L) (hce : cells ≤ 600000) (hsl : slots ≤ 7302249) (kk : ∀ (I2 : IH) (H1 : Heap) (locs1 : List Loc), Inv I2 → PH E s I2 H1 locs1 → W p l e room_1 s m #[Value.ref b] below meth c H1 locs1 cells slots (lw_Z below #[Value.ref b] s) (F0 m 1772 ls [])) : W p l e room_1 s m #[Value.ref b] below meth c H locs cells slots (lw_Z below #[Value.ref b] s) (F0 m 1495 ls []) := by
  have hp : Pair E 40 mX11_goAll mX12_goAll [.int (xs (i + 1)), .int (xs (i + 2)), .int (xs (i + 3))] [.int (xs (i + 1)), .int (xs (i + 2)), .int (xs (i + 3))] I := p_goAll (d := 0) hI
  obtain ⟨v, P1, h1, h2⟩ := hp
  refine lv_aload_n F.1 F.2.1 zL_1495 rfl (lv_at hl 1 rfl) ?_
  refine L_arg (k := 1) F X P hl (by decide +kernel) (by omega) la_1496 ?_
  refine L_arg (k := 2) F X P hl (by decide +kernel) (by omega) la_1501 ?_
  refine L_arg (k := 3) F X P hl (by decide +kernel) (by omega) la_1506 ?_
  refine L_callV [.int (xs (i + 1)), .int (xs (i + 2)), .int (xs (i + 3))] [] F P hl.1 lkL_193 okX11_goAll (o := 0) rfl rfl rfl rfl (Nat.le_of_ble_eq_true rfl) (d2 := 40) (by decide) hce hsl h1 zL_1511 (fun I1 H locs hP1 P => ?_)
  refine lv_aload_n F.1 F.2.1 zL_1514 rfl (lv_at hl 2 rfl) ?_
  refine L_arg (k := 1) F X P hl (by decide +kernel) (by omega) la_1515 ?_
  refine L_arg (k := 2) F X P hl (by decide +kernel) (by omega) la_1520 ?_
  refine L_arg (k := 3) F X P hl (by decide +kernel) (by omega) la_1525 ?_
  refine L_callV [.int (xs (i + 1)), .int (xs (i + 2)), .int (xs (i + 3))] [.int v] F P hl.1 lkL_196 okX12_goAll (o := 115) rfl rfl rfl rfl (Nat.le_of_ble_eq_true rfl) (d2 := 40) (by decide) hce hsl (h2 I1 hP1) zL_1530 (fun I2 H locs hI2 P => ?_)
  exact lv_icmp_eq F.1 F.2.1 (tgt := 1772) zL_1533 (by decide) (fun _ => kk I2 H locs hI2 P) (fun q => absurd rfl q)
theorem lc44 (F : Fx E mLw p s m meth c) (X : LwX E b L xs s) (hI : Inv I) (P : PH E s I H locs) (hl : lv_has ls 4 [(0, .ref b), (1, .ref (eb E + 0)), (2, .ref (eb E + 115)), (3, .int (nI i))]) (hi : i + 5 ≤ L) (hce : cells ≤ 600000) (hsl : slots ≤ 7302249) (kk : ∀ (I2 : IH) (H1 : Heap) (locs1 : List Loc), Inv I2 → PH E s I2 H1 locs1 → W p l e room_1 s m #[Value.ref b] below meth c H1 locs1 cells slots (lw_Z below #[Value.ref b] s) (F0 m 1772 ls [])) : W p l e room_1 s m #[Value.ref b] below meth c H locs cells slots (lw_Z below #[Value.ref b] s) (F0 m 1538 ls []) := by
  have hp : Pair E 40 mX11_wouldBe mX12_wouldBe [.int (xs (i + 1)), .int (xs (i + 2)), .int (xs (i + 3))] [.int (xs (i + 1)), .int (xs (i + 2)), .int (xs (i + 3))] I := p_wouldBe (d := 0) hI
  obtain ⟨v, P1, h1, h2⟩ := hp
  refine lv_aload_n F.1 F.2.1 zL_1538 rfl (lv_at hl 1 rfl) ?_
  refine L_arg (k := 1) F X P hl (by decide +kernel) (by omega) la_1539 ?_
  refine L_arg (k := 2) F X P hl (by decide +kernel) (by omega) la_1544 ?_
  refine L_arg (k := 3) F X P hl (by decide +kernel) (by omega) la_1549 ?_
  refine L_callV [.int (xs (i + 1)), .int (xs (i + 2)), .int (xs (i + 3))] [] F P hl.1 lkL_197 okX11_wouldBe (o := 0) rfl rfl rfl rfl (Nat.le_of_ble_eq_true rfl) (d2 := 40) (by decide) hce hsl h1 zL_1554 (fun I1 H locs hP1 P => ?_)
  refine lv_aload_n F.1 F.2.1 zL_1557 rfl (lv_at hl 2 rfl) ?_
  refine L_arg (k := 1) F X P hl (by decide +kernel) (by omega) la_1558 ?_
  refine L_arg (k := 2) F X P hl (by decide +kernel) (by omega) la_1563 ?_
  refine L_arg (k := 3) F X P hl (by decide +kernel) (by omega) la_1568 ?_
  refine L_callV [.int (xs (i + 1)), .int (xs (i + 2)), .int (xs (i + 3))] [.int v] F P hl.1 lkL_200 okX12_wouldBe (o := 115) rfl rfl rfl rfl (Nat.le_of_ble_eq_true rfl) (d2 := 40) (by decide) hce hsl (h2 I1 hP1) zL_1573 (fun I2 H locs hI2 P => ?_)
  exact lv_icmp_eq F.1 F.2.1 (tgt := 1772) zL_1576 (by decide) (fun _ => kk I2 H locs hI2 P) (fun q => absurd rfl q)
theorem lc45 (F : Fx E mLw p s m meth c) (X : LwX E b L xs s) (hI : Inv I) (P : PH E s I H locs) (hl : lv_has ls 4 [(0, .ref b), (1, .ref (eb E + 0)), (2, .ref (eb E + 115)), (3, .int (nI i))]) (hi : i + 5 ≤ L) (hce : cells ≤ 600000) (hsl : slots ≤ 7302249) (kk : ∀ (I2 : IH) (H1 : Heap) (locs1 : List Loc), Inv I2 → PH E s I2 H1 locs1 → W p l e room_1 s m #[Value.ref b] below meth c H1 locs1 cells slots (lw_Z below #[Value.ref b] s) (F0 m 1772 ls [])) : W p l e room_1 s m #[Value.ref b] below meth c H locs cells slots (lw_Z below #[Value.ref b] s) (F0 m 1581 ls []) := by
  have hp : Pair E 40 mX11_shelf mX12_shelf [.int (xs (i + 1)), .int (xs (i + 2)), .int (xs (i + 3))] [.int (xs (i + 1)), .int (xs (i + 2)), .int (xs (i + 3))] I := p_shelf (d := 0) hI
  obtain ⟨v, P1, h1, h2⟩ := hp
  refine lv_aload_n F.1 F.2.1 zL_1581 rfl (lv_at hl 1 rfl) ?_
  refine L_arg (k := 1) F X P hl (by decide +kernel) (by omega) la_1582 ?_
  refine L_arg (k := 2) F X P hl (by decide +kernel) (by omega) la_1587 ?_
  refine L_arg (k := 3) F X P hl (by decide +kernel) (by omega) la_1592 ?_
  refine L_callV [.int (xs (i + 1)), .int (xs (i + 2)), .int (xs (i + 3))] [] F P hl.1 lkL_201 okX11_shelf (o := 0) rfl rfl rfl rfl (Nat.le_of_ble_eq_true rfl) (d2 := 40) (by decide) hce hsl h1 zL_1597 (fun I1 H locs hP1 P => ?_)
  refine lv_aload_n F.1 F.2.1 zL_1600 rfl (lv_at hl 2 rfl) ?_
  refine L_arg (k := 1) F X P hl (by decide +kernel) (by omega) la_1601 ?_
  refine L_arg (k := 2) F X P hl (by decide +kernel) (by omega) la_1606 ?_
  refine L_arg (k := 3) F X P hl (by decide +kernel) (by omega) la_1611 ?_
  refine L_callV [.int (xs (i + 1)), .int (xs (i + 2)), .int (xs (i + 3))] [.int v] F P hl.1 lkL_204 okX12_shelf (o := 115) rfl rfl rfl rfl (Nat.le_of_ble_eq_true rfl) (d2 := 40) (by decide) hce hsl (h2 I1 hP1) zL_1616 (fun I2 H locs hI2 P => ?_)
  exact lv_icmp_eq F.1 F.2.1 (tgt := 1772) zL_1619 (by decide) (fun _ => kk I2 H locs hI2 P) (fun q => absurd rfl q)
theorem lc46 (F : Fx E mLw p s m meth c) (X : LwX E b L xs s) (hI : Inv I) (P : PH E s I H locs) (hl : lv_has ls 4 [(0, .ref b), (1, .ref (eb E + 0)), (2, .ref (eb E + 115)), (3, .int (nI i))]) (hi : i + 5 ≤ L) (hce : cells ≤ 600000) (hsl : slots ≤ 7302249) (kk : ∀ (I2 : IH) (H1 : Heap) (locs1 : List Loc), Inv I2 → PH E s I2 H1 locs1 → W p l e room_1 s m #[Value.ref b] below meth c H1 locs1 cells slots (lw_Z below #[Value.ref b] s) (F0 m 1772 ls [])) : W p l e room_1 s m #[Value.ref b] below meth c H locs cells slots (lw_Z below #[Value.ref b] s) (F0 m 1624 ls []) := by
  have hp : Pair E 40 mX11_taken mX12_taken [.int (xs (i + 1)), .int (xs (i + 2))] [.int (xs (i + 1)), .int (xs (i + 2))] I := p_taken (d := 0) hI
  obtain ⟨v, P1, h1, h2⟩ := hp
  refine lv_aload_n F.1 F.2.1 zL_1624 rfl (lv_at hl 1 rfl) ?_
  refine L_arg (k := 1) F X P hl (by decide +kernel) (by omega) la_1625 ?_
  refine L_arg (k := 2) F X P hl (by decide +kernel) (by omega) la_1630 ?_
  refine L_callV [.int (xs (i + 1)), .int (xs (i + 2))] [] F P hl.1 lkL_205 okX11_taken (o := 0) rfl rfl rfl rfl (Nat.le_of_ble_eq_true rfl) (d2 := 40) (by decide) hce hsl h1 zL_1635 (fun I1 H locs hP1 P => ?_)
  refine lv_aload_n F.1 F.2.1 zL_1638 rfl (lv_at hl 2 rfl) ?_
  refine L_arg (k := 1) F X P hl (by decide +kernel) (by omega) la_1639 ?_
  refine L_arg (k := 2) F X P hl (by decide +kernel) (by omega) la_1644 ?_
  refine L_callV [.int (xs (i + 1)), .int (xs (i + 2))] [.int v] F P hl.1 lkL_208 okX12_taken (o := 115) rfl rfl rfl rfl (Nat.le_of_ble_eq_true rfl) (d2 := 40) (by decide) hce hsl (h2 I1 hP1) zL_1649 (fun I2 H locs hI2 P => ?_)
  exact lv_icmp_eq F.1 F.2.1 (tgt := 1772) zL_1652 (by decide) (fun _ => kk I2 H locs hI2 P) (fun q => absurd rfl q)
theorem lc47 (F : Fx E mLw p s m meth c) (X : LwX E b L xs s) (hI : Inv I) (P : PH E s I H locs) (hl : lv_has ls 4 [(0, .ref b), (1, .ref (eb E + 0)), (2, .ref (eb E + 115)), (3, .int (nI i))]) (hi : i + 5 ≤ L) (hce : cells ≤ 600000) (hsl : slots ≤ 7302249) (kk : ∀ (I2 : IH) (H1 : Heap) (locs1 : List Loc), Inv I2 → PH E s I2 H1 locs1 → W p l e room_1 s m #[Value.ref b] below meth c H1 locs1 cells slots (lw_Z below #[Value.ref b] s) (F0 m 1772 ls [])) : W p l e room_1 s m #[Value.ref b] below meth c H locs cells slots (lw_Z below #[Value.ref b] s) (F0 m 1657 ls []) := by
  have hp : Pair E 40 mX11_act mX12_act [.int (xs (i + 1)), .int (xs (i + 2)), .int (xs (i + 3))] [.int (xs (i + 1)), .int (xs (i + 2)), .int (xs (i + 3))] I := p_act (d := 0) hI
  obtain ⟨v, P1, h1, h2⟩ := hp
  refine lv_aload_n F.1 F.2.1 zL_1657 rfl (lv_at hl 1 rfl) ?_
  refine L_arg (k := 1) F X P hl (by decide +kernel) (by omega) la_1658 ?_
  refine L_arg (k := 2) F X P hl (by decide +kernel) (by omega) la_1663 ?_
  refine L_arg (k := 3) F X P hl (by decide +kernel) (by omega) la_1668 ?_
  refine L_callV [.int (xs (i + 1)), .int (xs (i + 2)), .int (xs (i + 3))] [] F P hl.1 lkL_209 okX11_act (o := 0) rfl rfl rfl rfl (Nat.le_of_ble_eq_true rfl) (d2 := 40) (by decide) hce hsl h1 zL_1673 (fun I1 H locs hP1 P => ?_)
  refine lv_aload_n F.1 F.2.1 zL_1676 rfl (lv_at hl 2 rfl) ?_
  refine L_arg (k := 1) F X P hl (by decide +kernel) (by omega) la_1677 ?_
  refine L_arg (k := 2) F X P hl (by decide +kernel) (by omega) la_1682 ?_
  refine L_arg (k := 3) F X P hl (by decide +kernel) (by omega) la_1687 ?_
  refine L_callV [.int (xs (i + 1)), .int (xs (i + 2)), .int (xs (i + 3))] [.int v] F P hl.1 lkL_212 okX12_act (o := 115) rfl rfl rfl rfl (Nat.le_of_ble_eq_true rfl) (d2 := 40) (by decide) hce hsl (h2 I1 hP1) zL_1692 (fun I2 H locs hI2 P => ?_)
  exact lv_icmp_eq F.1 F.2.1 (tgt := 1772) zL_1695 (by decide) (fun _ => kk I2 H locs hI2 P) (fun q => absurd rfl q)
theorem lc48 (F : Fx E mLw p s m meth c) (X : LwX E b L xs s) (hI : Inv I) (P : PH E s I H locs) (hl : lv_has ls 4 [(0, .ref b), (1, .ref (eb E + 0)), (2, .ref (eb E + 115)), (3, .int (nI i))]) (hi : i + 5 ≤ L) (hce : cells ≤ 600000) (hsl : slots ≤ 7302249) (kk : ∀ (I2 : IH) (H1 : Heap) (locs1 : List Loc), Inv I2 → PH E s I2 H1 locs1 → W p l e room_1 s m #[Value.ref b] below meth c H1 locs1 cells slots (lw_Z below #[Value.ref b] s) (F0 m 1772 ls [])) : W p l e room_1 s m #[Value.ref b] below meth c H locs cells slots (lw_Z below #[Value.ref b] s) (F0 m 1700 ls []) := by
  have hp : Pair E 40 mX11_trace mX12_trace [.int (xs (i + 1))] [.int (xs (i + 1))] I := p_trace (d := 0) hI
  obtain ⟨v, P1, h1, h2⟩ := hp
  refine lv_aload_n F.1 F.2.1 zL_1700 rfl (lv_at hl 1 rfl) ?_
  refine L_arg (k := 1) F X P hl (by decide +kernel) (by omega) la_1701 ?_
  refine L_callV [.int (xs (i + 1))] [] F P hl.1 lkL_213 okX11_trace (o := 0) rfl rfl rfl rfl (Nat.le_of_ble_eq_true rfl) (d2 := 40) (by decide) hce hsl h1 zL_1706 (fun I1 H locs hP1 P => ?_)
  refine lv_aload_n F.1 F.2.1 zL_1709 rfl (lv_at hl 2 rfl) ?_
  refine L_arg (k := 1) F X P hl (by decide +kernel) (by omega) la_1710 ?_
  refine L_callV [.int (xs (i + 1))] [.int v] F P hl.1 lkL_216 okX12_trace (o := 115) rfl rfl rfl rfl (Nat.le_of_ble_eq_true rfl) (d2 := 40) (by decide) hce hsl (h2 I1 hP1) zL_1715 (fun I2 H locs hI2 P => ?_)
  exact lv_icmp_eq F.1 F.2.1 (tgt := 1772) zL_1718 (by decide) (fun _ => kk I2 H locs hI2 P) (fun q => absurd rfl q)
theorem lc49 (F : Fx E mLw p s m meth c) (X : LwX E b L xs s) (hI : Inv I) (P : PH E s I H locs) (hl : lv_has ls 4 [(0, .ref b), (1, .ref (eb E + 0)), (2, .ref (eb E + 115)), (3, .int (nI i))]) (hi : i + 5 ≤ L) (hce : cells ≤ 600000) (hsl : slots ≤ 7302249) (kk : ∀ (I2 : IH) (H1 : Heap) (locs1 : List Loc), Inv I2 → PH E s I2 H1 locs1 → W p l e room_1 s m #[Value.ref b] below meth c H1 locs1 cells slots (lw_Z below #[Value.ref b] s) (F0 m 1772 ls [])) : W p l e room_1 s m #[Value.ref b] below meth c H locs cells slots (lw_Z below #[Value.ref b] s) (F0 m 1723 ls []) := by
  have hp : Pair E 40 mX11_many mX12_many [.int (xs (i + 1))] [.int (xs (i + 1))] I := p_many (d := 0) hI
  obtain ⟨v, P1, h1, h2⟩ := hp
  refine lv_aload_n F.1 F.2.1 zL_1723 rfl (lv_at hl 1 rfl) ?_
  refine L_arg (k := 1) F X P hl (by decide +kernel) (by omega) la_1724 ?_
  refine L_callV [.int (xs (i + 1))] [] F P hl.1 lkL_217 okX11_many (o := 0) rfl rfl rfl rfl (Nat.le_of_ble_eq_true rfl) (d2 := 40) (by decide) hce hsl h1 zL_1729 (fun I1 H locs hP1 P => ?_)
  refine lv_aload_n F.1 F.2.1 zL_1732 rfl (lv_at hl 2 rfl) ?_
  refine L_arg (k := 1) F X P hl (by decide +kernel) (by omega) la_1733 ?_
  refine L_callV [.int (xs (i + 1))] [.int v] F P hl.1 lkL_220 okX12_many (o := 115) rfl rfl rfl rfl (Nat.le_of_ble_eq_true rfl) (d2 := 40) (by decide) hce hsl (h2 I1 hP1) zL_1738 (fun I2 H locs hI2 P => ?_)
  exact lv_icmp_eq F.1 F.2.1 (tgt := 1772) zL_1741 (by decide) (fun _ => kk I2 H locs hI2 P) (fun q => absurd rfl q)
theorem lc50 (F : Fx E mLw p s m meth c) (X : LwX E b L xs s) (hI : Inv I) (P : PH E s I H locs) (hl : lv_has ls 4 [(0, .ref b), (1, .ref (eb E + 0)), (2, .ref (eb E + 115)), (3, .int (nI i))]) (hi : i + 5 ≤ L) (hce : cells ≤ 600000) (hsl : slots ≤ 7302249) (kk : ∀ (I2 : IH) (H1 : Heap) (locs1 : List Loc), Inv I2 → PH E s I2 H1 locs1 → W p l e room_1 s m #[Value.ref b] below meth c H1 locs1 cells slots (lw_Z below #[Value.ref b] s) (F0 m 1772 ls [])) : W p l e room_1 s m #[Value.ref b] below meth c H locs cells slots (lw_Z below #[Value.ref b] s) (F0 m 1746 ls []) := by
  have hp : Pair E 40 mX11_keep mX12_keep [] [] I := p_keep (d := 0) hI
  obtain ⟨v, P1, h1, h2⟩ := hp
  refine lv_aload_n F.1 F.2.1 zL_1746 rfl (lv_at hl 1 rfl) ?_
  refine L_callV [] [] F P hl.1 lkL_221 okX11_keep (o := 0) rfl rfl rfl rfl (Nat.le_of_ble_eq_true rfl) (d2 := 40) (by decide) hce hsl h1 zL_1747 (fun I1 H locs hP1 P => ?_)
  refine lv_aload_n F.1 F.2.1 zL_1750 rfl (lv_at hl 2 rfl) ?_
  refine L_callV [] [.int v] F P hl.1 lkL_224 okX12_keep (o := 115) rfl rfl rfl rfl (Nat.le_of_ble_eq_true rfl) (d2 := 40) (by decide) hce hsl (h2 I1 hP1) zL_1751 (fun I2 H locs hI2 P => ?_)
  exact lv_icmp_eq F.1 F.2.1 (tgt := 1772) zL_1754 (by decide) (fun _ => kk I2 H locs hI2 P) (fun q => absurd rfl q)
theorem lc51 (F : Fx E mLw p s m meth c) (X : LwX E b L xs s) (hI : Inv I) (P : PH E s I H locs) (hl : lv_has ls 4 [(0, .ref b), (1, .ref (eb E + 0)), (2, .ref (eb E + 115)), (3, .int (nI i))]) (hi : i + 5 ≤ L) (hce : cells ≤ 600000) (hsl : slots ≤ 7302249) (kk : ∀ (I2 : IH) (H1 : Heap) (locs1 : List Loc), Inv I2 → PH E s I2 H1 locs1 → W p l e room_1 s m #[Value.ref b] below meth c H1 locs1 cells slots (lw_Z below #[Value.ref b] s) (F0 m 1772 ls [])) : W p l e room_1 s m #[Value.ref b] below meth c H locs cells slots (lw_Z below #[Value.ref b] s) (F0 m 1759 ls []) := by
  have hp : Pair E 40 mX11_again mX12_again [] [] I := p_again (d := 0) hI
  obtain ⟨v, P1, h1, h2⟩ := hp
  refine lv_aload_n F.1 F.2.1 zL_1759 rfl (lv_at hl 1 rfl) ?_
  refine L_callV [] [] F P hl.1 lkL_225 okX11_again (o := 0) rfl rfl rfl rfl (Nat.le_of_ble_eq_true rfl) (d2 := 40) (by decide) hce hsl h1 zL_1760 (fun I1 H locs hP1 P => ?_)
  refine lv_aload_n F.1 F.2.1 zL_1763 rfl (lv_at hl 2 rfl) ?_
  refine L_callV [] [.int v] F P hl.1 lkL_228 okX12_again (o := 115) rfl rfl rfl rfl (Nat.le_of_ble_eq_true rfl) (d2 := 40) (by decide) hce hsl (h2 I1 hP1) zL_1764 (fun I2 H locs hI2 P => ?_)
  exact lv_icmp_eq F.1 F.2.1 (tgt := 1772) zL_1767 (by decide) (fun _ => kk I2 H locs hI2 P) (fun q => absurd rfl q)
end LC
