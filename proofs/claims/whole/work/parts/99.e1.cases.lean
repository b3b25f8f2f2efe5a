section LC
variable {E : EE} {p : Program} {l : Launch} {e : Env} {s : State} {m : MethodId} {below : List Frame} {meth : Method} {c : Code} {b L : Nat} {xs : Nat → Int32} {H : Heap} {locs : List Loc} {cells slots pc : Nat} {ls : Array Slot} {rest : List Value} {I : IH} {i : Nat}
theorem lc0 (F : Fx E mLw p s m meth c) (X : LwX E b L xs s) (hI : Inv I) (P : PH E s I H locs) (hl : lv_has ls 4 [(0, .ref b), (1, .ref (eb E + 0)), (2, .ref (eb E + 115)), (3, .int (nI i))]) (hi : i + 5 ≤ L) (hce : cells ≤ 600000) (hsl : slots ≤ 7302249) (kk : ∀ (I2 : IH) (H1 : Heap) (locs1 : List Loc), Inv I2 → PH E s I2 H1 locs1 → W p l e room_1 s m #[Value.ref b] below meth c H1 locs1 cells slots (lw_Z below #[Value.ref b] s) (F0 m 1772 ls [])) : W p l e room_1 s m #[Value.ref b] below meth c H locs cells slots (lw_Z below #[Value.ref b] s) (F0 m 256 ls []) := by
  have hp : Pair E 40 mX11_pane mX12_pane [.int (xs (i + 1)), .int (xs (i + 2)), .int (xs (i + 3))] [.int (xs (i + 1)), .int (xs (i + 2)), .int (xs (i + 3))] I := p_pane (d := 0) hI
  obtain ⟨v, P1, h1, h2⟩ := hp
  refine lv_aload_n F.1 F.2.1 zL_256 rfl (lv_at hl 1 rfl) ?_
  refine L_arg (k := 1) F X P hl (by decide +kernel) (by omega) la_257 ?_
  refine L_arg (k := 2) F X P hl (by decide +kernel) (by omega) la_262 ?_
  refine L_arg (k := 3) F X P hl (by decide +kernel) (by omega) la_267 ?_
  refine L_callV [.int (xs (i + 1)), .int (xs (i + 2)), .int (xs (i + 3))] [] F P hl.1 lkL_13 okX11_pane (o := 0) rfl rfl rfl rfl (Nat.le_of_ble_eq_true rfl) (d2 := 40) (by decide) hce hsl h1 zL_272 (fun I1 H locs hP1 P => ?_)
  refine lv_aload_n F.1 F.2.1 zL_275 rfl (lv_at hl 2 rfl) ?_
  refine L_arg (k := 1) F X P hl (by decide +kernel) (by omega) la_276 ?_
  refine L_arg (k := 2) F X P hl (by decide +kernel) (by omega) la_281 ?_
  refine L_arg (k := 3) F X P hl (by decide +kernel) (by omega) la_286 ?_
  refine L_callV [.int (xs (i + 1)), .int (xs (i + 2)), .int (xs (i + 3))] [.int v] F P hl.1 lkL_17 okX12_pane (o := 115) rfl rfl rfl rfl (Nat.le_of_ble_eq_true rfl) (d2 := 40) (by decide) hce hsl (h2 I1 hP1) zL_291 (fun I2 H locs hI2 P => ?_)
  exact lv_icmp_eq F.1 F.2.1 (tgt := 1772) zL_294 (by decide) (fun _ => kk I2 H locs hI2 P) (fun q => absurd rfl q)
theorem lc1 (F : Fx E mLw p s m meth c) (X : LwX E b L xs s) (hI : Inv I) (P : PH E s I H locs) (hl : lv_has ls 4 [(0, .ref b), (1, .ref (eb E + 0)), (2, .ref (eb E + 115)), (3, .int (nI i))]) (hi : i + 5 ≤ L) (hce : cells ≤ 600000) (hsl : slots ≤ 7302249) (kk : ∀ (I2 : IH) (H1 : Heap) (locs1 : List Loc), Inv I2 → PH E s I2 H1 locs1 → W p l e room_1 s m #[Value.ref b] below meth c H1 locs1 cells slots (lw_Z below #[Value.ref b] s) (F0 m 1772 ls [])) : W p l e room_1 s m #[Value.ref b] below meth c H locs cells slots (lw_Z below #[Value.ref b] s) (F0 m 299 ls []) := by
  have hp : Pair E 40 mX11_paneOf mX12_paneOf [.int (xs (i + 1)), .int (xs (i + 2))] [.int (xs (i + 1)), .int (xs (i + 2))] I := p_paneOf (d := 0) hI
  obtain ⟨v, P1, h1, h2⟩ := hp
  refine lv_aload_n F.1 F.2.1 zL_299 rfl (lv_at hl 1 rfl) ?_
  refine L_arg (k := 1) F X P hl (by decide +kernel) (by omega) la_300 ?_
  refine L_arg (k := 2) F X P hl (by decide +kernel) (by omega) la_305 ?_
  refine L_callV [.int (xs (i + 1)), .int (xs (i + 2))] [] F P hl.1 lkL_18 okX11_paneOf (o := 0) rfl rfl rfl rfl (Nat.le_of_ble_eq_true rfl) (d2 := 40) (by decide) hce hsl h1 zL_310 (fun I1 H locs hP1 P => ?_)
  refine lv_aload_n F.1 F.2.1 zL_313 rfl (lv_at hl 2 rfl) ?_
  refine L_arg (k := 1) F X P hl (by decide +kernel) (by omega) la_314 ?_
  refine L_arg (k := 2) F X P hl (by decide +kernel) (by omega) la_319 ?_
  refine L_callV [.int (xs (i + 1)), .int (xs (i + 2))] [.int v] F P hl.1 lkL_22 okX12_paneOf (o := 115) rfl rfl rfl rfl (Nat.le_of_ble_eq_true rfl) (d2 := 40) (by decide) hce hsl (h2 I1 hP1) zL_324 (fun I2 H locs hI2 P => ?_)
  exact lv_icmp_eq F.1 F.2.1 (tgt := 1772) zL_327 (by decide) (fun _ => kk I2 H locs hI2 P) (fun q => absurd rfl q)
theorem lc2 (F : Fx E mLw p s m meth c) (X : LwX E b L xs s) (hI : Inv I) (P : PH E s I H locs) (hl : lv_has ls 4 [(0, .ref b), (1, .ref (eb E + 0)), (2, .ref (eb E + 115)), (3, .int (nI i))]) (hi : i + 5 ≤ L) (hce : cells ≤ 600000) (hsl : slots ≤ 7302249) (kk : ∀ (I2 : IH) (H1 : Heap) (locs1 : List Loc), Inv I2 → PH E s I2 H1 locs1 → W p l e room_1 s m #[Value.ref b] below meth c H1 locs1 cells slots (lw_Z below #[Value.ref b] s) (F0 m 1772 ls [])) : W p l e room_1 s m #[Value.ref b] below meth c H locs cells slots (lw_Z below #[Value.ref b] s) (F0 m 332 ls []) := by
  have hp : Pair E 40 mX11_change mX12_change [.int (xs (i + 1)), .int (xs (i + 2)), .int (xs (i + 3))] [.int (xs (i + 1)), .int (xs (i + 2)), .int (xs (i + 3))] I := p_change (d := 0) hI
  obtain ⟨v, P1, h1, h2⟩ := hp
  refine lv_aload_n F.1 F.2.1 zL_332 rfl (lv_at hl 1 rfl) ?_
  refine L_arg (k := 1) F X P hl (by decide +kernel) (by omega) la_333 ?_
  refine L_arg (k := 2) F X P hl (by decide +kernel) (by omega) la_338 ?_
  refine L_arg (k := 3) F X P hl (by decide +kernel) (by omega) la_343 ?_
  refine L_callV [.int (xs (i + 1)), .int (xs (i + 2)), .int (xs (i + 3))] [] F P hl.1 lkL_23 okX11_change (o := 0) rfl rfl rfl rfl (Nat.le_of_ble_eq_true rfl) (d2 := 40) (by decide) hce hsl h1 zL_348 (fun I1 H locs hP1 P => ?_)
  refine lv_aload_n F.1 F.2.1 zL_351 rfl (lv_at hl 2 rfl) ?_
  refine L_arg (k := 1) F X P hl (by decide +kernel) (by omega) la_352 ?_
  refine L_arg (k := 2) F X P hl (by decide +kernel) (by omega) la_357 ?_
  refine L_arg (k := 3) F X P hl (by decide +kernel) (by omega) la_362 ?_
  refine L_callV [.int (xs (i + 1)), .int (xs (i + 2)), .int (xs (i + 3))] [.int v] F P hl.1 lkL_26 okX12_change (o := 115) rfl rfl rfl rfl (Nat.le_of_ble_eq_true rfl) (d2 := 40) (by decide) hce hsl (h2 I1 hP1) zL_367 (fun I2 H locs hI2 P => ?_)
  exact lv_icmp_eq F.1 F.2.1 (tgt := 1772) zL_370 (by decide) (fun _ => kk I2 H locs hI2 P) (fun q => absurd rfl q)
theorem lc3 (F : Fx E mLw p s m meth c) (X : LwX E b L xs s) (hI : Inv I) (P : PH E s I H locs) (hl : lv_has ls 4 [(0, .ref b), (1, .ref (eb E + 0)), (2, .ref (eb E + 115)), (3, .int (nI i))]) (hi : i + 5 ≤ L) (hce : cells ≤ 600000) (hsl : slots ≤ 7302249) (kk : ∀ (I2 : IH) (H1 : Heap) (locs1 : List Loc), Inv I2 → PH E s I2 H1 locs1 → W p l e room_1 s m #[Value.ref b] below meth c H1 locs1 cells slots (lw_Z below #[Value.ref b] s) (F0 m 1772 ls [])) : W p l e room_1 s m #[Value.ref b] below meth c H locs cells slots (lw_Z below #[Value.ref b] s) (F0 m 375 ls []) := by
  have hp : Pair E 40 mX11_remake mX12_remake [.int (xs (i + 1)), .int (xs (i + 2))] [.int (xs (i + 1)), .int (xs (i + 2))] I := p_remake (d := 0) hI
  obtain ⟨v, P1, h1, h2⟩ := hp
  refine lv_aload_n F.1 F.2.1 zL_375 rfl (lv_at hl 1 rfl) ?_
  refine L_arg (k := 1) F X P hl (by decide +kernel) (by omega) la_376 ?_
  refine L_arg (k := 2) F X P hl (by decide +kernel) (by omega) la_381 ?_
  refine L_callV [.int (xs (i + 1)), .int (xs (i + 2))] [] F P hl.1 lkL_27 okX11_remake (o := 0) rfl rfl rfl rfl (Nat.le_of_ble_eq_true rfl) (d2 := 40) (by decide) hce hsl h1 zL_386 (fun I1 H locs hP1 P => ?_)
  refine lv_aload_n F.1 F.2.1 zL_389 rfl (lv_at hl 2 rfl) ?_
  refine L_arg (k := 1) F X P hl (by decide +kernel) (by omega) la_390 ?_
  refine L_arg (k := 2) F X P hl (by decide +kernel) (by omega) la_395 ?_
  refine L_callV [.int (xs (i + 1)), .int (xs (i + 2))] [.int v] F P hl.1 lkL_30 okX12_remake (o := 115) rfl rfl rfl rfl (Nat.le_of_ble_eq_true rfl) (d2 := 40) (by decide) hce hsl (h2 I1 hP1) zL_400 (fun I2 H locs hI2 P => ?_)
  exact lv_icmp_eq F.1 F.2.1 (tgt := 1772) zL_403 (by decide) (fun _ => kk I2 H locs hI2 P) (fun q => absurd rfl q)
theorem lc4 (F : Fx E mLw p s m meth c) (X : LwX E b L xs s) (hI : Inv I) (P : PH E s I H locs) (hl : lv_has ls 4 [(0, .ref b), (1, .ref (eb E + 0)), (2, .ref (eb E + 115)), (3, .int (nI i))]) (hi : i + 5 ≤ L) (hce : cells ≤ 600000) (hsl : slots ≤ 7302249) (kk : ∀ (I2 : IH) (H1 : Heap) (locs1 : List Loc), Inv I2 → PH E s I2 H1 locs1 → W p l e room_1 s m #[Value.ref b] below meth c H1 locs1 cells slots (lw_Z below #[Value.ref b] s) (F0 m 1772 ls [])) : W p l e room_1 s m #[Value.ref b] below meth c H locs cells slots (lw_Z below #[Value.ref b] s) (F0 m 408 ls []) := by
  have hp : Pair E 40 mX11_news mX12_news [.int (xs (i + 1)), .int (xs (i + 2))] [.int (xs (i + 1)), .int (xs (i + 2))] I := p_news (d := 0) hI
  obtain ⟨v, P1, h1, h2⟩ := hp
  refine lv_aload_n F.1 F.2.1 zL_408 rfl (lv_at hl 1 rfl) ?_
  refine L_arg (k := 1) F X P hl (by decide +kernel) (by omega) la_409 ?_
  refine L_arg (k := 2) F X P hl (by decide +kernel) (by omega) la_414 ?_
  refine L_callV [.int (xs (i + 1)), .int (xs (i + 2))] [] F P hl.1 lkL_31 okX11_news (o := 0) rfl rfl rfl rfl (Nat.le_of_ble_eq_true rfl) (d2 := 40) (by decide) hce hsl h1 zL_419 (fun I1 H locs hP1 P => ?_)
  refine lv_aload_n F.1 F.2.1 zL_422 rfl (lv_at hl 2 rfl) ?_
  refine L_arg (k := 1) F X P hl (by decide +kernel) (by omega) la_423 ?_
  refine L_arg (k := 2) F X P hl (by decide +kernel) (by omega) la_428 ?_
  refine L_callV [.int (xs (i + 1)), .int (xs (i + 2))] [.int v] F P hl.1 lkL_34 okX12_news (o := 115) rfl rfl rfl rfl (Nat.le_of_ble_eq_true rfl) (d2 := 40) (by decide) hce hsl (h2 I1 hP1) zL_433 (fun I2 H locs hI2 P => ?_)
  exact lv_icmp_eq F.1 F.2.1 (tgt := 1772) zL_436 (by decide) (fun _ => kk I2 H locs hI2 P) (fun q => absurd rfl q)
theorem lc5 (F : Fx E mLw p s m meth c) (X : LwX E b L xs s) (hI : Inv I) (P : PH E s I H locs) (hl : lv_has ls 4 [(0, .ref b), (1, .ref (eb E + 0)), (2, .ref (eb E + 115)), (3, .int (nI i))]) (hi : i + 5 ≤ L) (hce : cells ≤ 600000) (hsl : slots ≤ 7302249) (kk : ∀ (I2 : IH) (H1 : Heap) (locs1 : List Loc), Inv I2 → PH E s I2 H1 locs1 → W p l e room_1 s m #[Value.ref b] below meth c H1 locs1 cells slots (lw_Z below #[Value.ref b] s) (F0 m 1772 ls [])) : W p l e room_1 s m #[Value.ref b] below meth c H locs cells slots (lw_Z below #[Value.ref b] s) (F0 m 441 ls []) := by
  have hp : Pair E 40 mX11_ward mX12_ward [.int (xs (i + 1)), .int (xs (i + 2)), .int (xs (i + 3))] [.int (xs (i + 1)), .int (xs (i + 2)), .int (xs (i + 3))] I := p_ward (d := 0) hI
  obtain ⟨v, P1, h1, h2⟩ := hp
  refine lv_aload_n F.1 F.2.1 zL_441 rfl (lv_at hl 1 rfl) ?_
  refine L_arg (k := 1) F X P hl (by decide +kernel) (by omega) la_442 ?_
  refine L_arg (k := 2) F X P hl (by decide +kernel) (by omega) la_447 ?_
  refine L_arg (k := 3) F X P hl (by decide +kernel) (by omega) la_452 ?_
  refine L_callV [.int (xs (i + 1)), .int (xs (i + 2)), .int (xs (i + 3))] [] F P hl.1 lkL_35 okX11_ward (o := 0) rfl rfl rfl rfl (Nat.le_of_ble_eq_true rfl) (d2 := 40) (by decide) hce hsl h1 zL_457 (fun I1 H locs hP1 P => ?_)
  refine lv_aload_n F.1 F.2.1 zL_460 rfl (lv_at hl 2 rfl) ?_
  refine L_arg (k := 1) F X P hl (by decide +kernel) (by omega) la_461 ?_
  refine L_arg (k := 2) F X P hl (by decide +kernel) (by omega) la_466 ?_
  refine L_arg (k := 3) F X P hl (by decide +kernel) (by omega) la_471 ?_
  refine L_callV [.int (xs (i + 1)), .int (xs (i + 2)), .int (xs (i + 3))] [.int v] F P hl.1 lkL_38 okX12_ward (o := 115) rfl rfl rfl rfl (Nat.le_of_ble_eq_true rfl) (d2 := 40) (by decide) hce hsl (h2 I1 hP1) zL_476 (fun I2 H locs hI2 P => ?_)
  exact lv_icmp_eq F.1 F.2.1 (tgt := 1772) zL_479 (by decide) (fun _ => kk I2 H locs hI2 P) (fun q => absurd rfl q)
theorem lc6 (F : Fx E mLw p s m meth c) (X : LwX E b L xs s) (hI : Inv I) (P : PH E s I H locs) (hl : lv_has ls 4 [(0, .ref b), (1, .ref (eb E + 0)), (2, .ref (eb E + 115)), (3, .int (nI i))]) (hi : i + 5 ≤ L) (hce : cells ≤ 600000) (hsl : slots ≤ 7302249) (kk : ∀ (I2 : IH) (H1 : Heap) (locs1 : List Loc), Inv I2 → PH E s I2 H1 locs1 → W p l e room_1 s m #[Value.ref b] below meth c H1 locs1 cells slots (lw_Z below #[Value.ref b] s) (F0 m 1772 ls [])) : W p l e room_1 s m #[Value.ref b] below meth c H locs cells slots (lw_Z below #[Value.ref b] s) (F0 m 484 ls []) := by
  have hp : Pair E 40 mX11_wardOf mX12_wardOf [.int (xs (i + 1)), .int (xs (i + 2))] [.int (xs (i + 1)), .int (xs (i + 2))] I := p_wardOf (d := 0) hI
  obtain ⟨v, P1, h1, h2⟩ := hp
  refine lv_aload_n F.1 F.2.1 zL_484 rfl (lv_at hl 1 rfl) ?_
  refine L_arg (k := 1) F X P hl (by decide +kernel) (by omega) la_485 ?_
  refine L_arg (k := 2) F X P hl (by decide +kernel) (by omega) la_490 ?_
  refine L_callV [.int (xs (i + 1)), .int (xs (i + 2))] [] F P hl.1 lkL_39 okX11_wardOf (o := 0) rfl rfl rfl rfl (Nat.le_of_ble_eq_true rfl) (d2 := 40) (by decide) hce hsl h1 zL_495 (fun I1 H locs hP1 P => ?_)
  refine lv_aload_n F.1 F.2.1 zL_498 rfl (lv_at hl 2 rfl) ?_
  refine L_arg (k := 1) F X P hl (by decide +kernel) (by omega) la_499 ?_
  refine L_arg (k := 2) F X P hl (by decide +kernel) (by omega) la_504 ?_
  refine L_callV [.int (xs (i + 1)), .int (xs (i + 2))] [.int v] F P hl.1 lkL_42 okX12_wardOf (o := 115) rfl rfl rfl rfl (Nat.le_of_ble_eq_true rfl) (d2 := 40) (by decide) hce hsl (h2 I1 hP1) zL_509 (fun I2 H locs hI2 P => ?_)
  exact lv_icmp_eq F.1 F.2.1 (tgt := 1772) zL_512 (by decide) (fun _ => kk I2 H locs hI2 P) (fun q => absurd rfl q)
theorem lc7 (F : Fx E mLw p s m meth c) (X : LwX E b L xs s) (hI : Inv I) (P : PH E s I H locs) (hl : lv_has ls 4 [(0, .ref b), (1, .ref (eb E + 0)), (2, .ref (eb E + 115)), (3, .int (nI i))]) (hi : i + 5 ≤ L) (hce : cells ≤ 600000) (hsl : slots ≤ 7302249) (kk : ∀ (I2 : IH) (H1 : Heap) (locs1 : List Loc), Inv I2 → PH E s I2 H1 locs1 → W p l e room_1 s m #[Value.ref b] below meth c H1 locs1 cells slots (lw_Z below #[Value.ref b] s) (F0 m 1772 ls [])) : W p l e room_1 s m #[Value.ref b] below meth c H locs cells slots (lw_Z below #[Value.ref b] s) (F0 m 517 ls []) := by
  have hp : Pair E 40 mX11_lord mX12_lord [.int (xs (i + 1)), .int (xs (i + 2))] [.int (xs (i + 1)), .int (xs (i + 2))] I := p_lord (d := 0) hI
  obtain ⟨v, P1, h1, h2⟩ := hp
  refine lv_aload_n F.1 F.2.1 zL_517 rfl (lv_at hl 1 rfl) ?_
  refine L_arg (k := 1) F X P hl (by decide +kernel) (by omega) la_518 ?_
  refine L_arg (k := 2) F X P hl (by decide +kernel) (by omega) la_523 ?_
  refine L_callV [.int (xs (i + 1)), .int (xs (i + 2))] [] F P hl.1 lkL_43 okX11_lord (o := 0) rfl rfl rfl rfl (Nat.le_of_ble_eq_true rfl) (d2 := 40) (by decide) hce hsl h1 zL_528 (fun I1 H locs hP1 P => ?_)
  refine lv_aload_n F.1 F.2.1 zL_531 rfl (lv_at hl 2 rfl) ?_
  refine L_arg (k := 1) F X P hl (by decide +kernel) (by omega) la_532 ?_
  refine L_arg (k := 2) F X P hl (by decide +kernel) (by omega) la_537 ?_
  refine L_callV [.int (xs (i + 1)), .int (xs (i + 2))] [.int v] F P hl.1 lkL_46 okX12_lord (o := 115) rfl rfl rfl rfl (Nat.le_of_ble_eq_true rfl) (d2 := 40) (by decide) hce hsl (h2 I1 hP1) zL_542 (fun I2 H locs hI2 P => ?_)
  exact lv_icmp_eq F.1 F.2.1 (tgt := 1772) zL_545 (by decide) (fun _ => kk I2 H locs hI2 P) (fun q => absurd rfl q)
theorem lc8 (F : Fx E mLw p s m meth c) (X : LwX E b L xs s) (hI : Inv I) (P : PH E s I H locs) (hl : lv_has ls 4 [(0, .ref b), (1, .ref (eb E + 0)), (2, .ref (eb E + 115)), (3, .int (nI i))]) (hi : i + 5 ≤ L) (hce : cells ≤ 600000) (hsl : slots ≤ 7302249) (kk : ∀ (I2 : IH) (H1 : Heap) (locs1 : List Loc), Inv I2 → PH E s I2 H1 locs1 → W p l e room_1 s m #[Value.ref b] below meth c H1 locs1 cells slots (lw_Z below #[Value.ref b] s) (F0 m 1772 ls [])) : W p l e room_1 s m #[Value.ref b] below meth c H locs cells slots (lw_Z below #[Value.ref b] s) (F0 m 550 ls []) := by
  have hp : Pair E 40 mX11_ends mX12_ends [.int (xs (i + 1))] [.int (xs (i + 1))] I := p_ends (d := 0) hI
  obtain ⟨v, P1, h1, h2⟩ := hp
  refine lv_aload_n F.1 F.2.1 zL_550 rfl (lv_at hl 1 rfl) ?_
  refine L_arg (k := 1) F X P hl (by decide +kernel) (by omega) la_551 ?_
  refine L_callV [.int (xs (i + 1))] [] F P hl.1 lkL_47 okX11_ends (o := 0) rfl rfl rfl rfl (Nat.le_of_ble_eq_true rfl) (d2 := 40) (by decide) hce hsl h1 zL_556 (fun I1 H locs hP1 P => ?_)
  refine lv_aload_n F.1 F.2.1 zL_559 rfl (lv_at hl 2 rfl) ?_
  refine L_arg (k := 1) F X P hl (by decide +kernel) (by omega) la_560 ?_
  refine L_callV [.int (xs (i + 1))] [.int v] F P hl.1 lkL_51 okX12_ends (o := 115) rfl rfl rfl rfl (Nat.le_of_ble_eq_true rfl) (d2 := 40) (by decide) hce hsl (h2 I1 hP1) zL_565 (fun I2 H locs hI2 P => ?_)
  exact lv_icmp_eq F.1 F.2.1 (tgt := 1772) zL_568 (by decide) (fun _ => kk I2 H locs hI2 P) (fun q => absurd rfl q)
theorem lc9 (F : Fx E mLw p s m meth c) (X : LwX E b L xs s) (hI : Inv I) (P : PH E s I H locs) (hl : lv_has ls 4 [(0, .ref b), (1, .ref (eb E + 0)), (2, .ref (eb E + 115)), (3, .int (nI i))]) (hi : i + 5 ≤ L) (hce : cells ≤ 600000) (hsl : slots ≤ 7302249) (kk : ∀ (I2 : IH) (H1 : Heap) (locs1 : List Loc), Inv I2 → PH E s I2 H1 locs1 → W p l e room_1 s m #[Value.ref b] below meth c H1 locs1 cells slots (lw_Z below #[Value.ref b] s) (F0 m 1772 ls [])) : W p l e room_1 s m #[Value.ref b] below meth c H locs cells slots (lw_Z below #[Value.ref b] s) (F0 m 573 ls []) := by
  have hp : Pair E 40 mX11_anew mX12_anew [] [] I := p_anew (d := 0) hI
  obtain ⟨v, P1, h1, h2⟩ := hp
  refine lv_aload_n F.1 F.2.1 zL_573 rfl (lv_at hl 1 rfl) ?_
  refine L_callV [] [] F P hl.1 lkL_52 okX11_anew (o := 0) rfl rfl rfl rfl (Nat.le_of_ble_eq_true rfl) (d2 := 40) (by decide) hce hsl h1 zL_574 (fun I1 H locs hP1 P => ?_)
  refine lv_aload_n F.1 F.2.1 zL_577 rfl (lv_at hl 2 rfl) ?_
  refine L_callV [] [.int v] F P hl.1 lkL_56 okX12_anew (o := 115) rfl rfl rfl rfl (Nat.le_of_ble_eq_true rfl) (d2 := 40) (by decide) hce hsl (h2 I1 hP1) zL_578 (fun I2 H locs hI2 P => ?_)
  exact lv_icmp_eq F.1 F.2.1 (tgt := 1772) zL_581 (by decide) (fun _ => kk I2 H locs hI2 P) (fun q => absurd rfl q)
theorem lc10 (F : Fx E mLw p s m meth c) (X : LwX E b L xs s) (hI : Inv I) (P : PH E s I H locs) (hl : lv_has ls 4 [(0, .ref b), (1, .ref (eb E + 0)), (2, .ref (eb E + 115)), (3, .int (nI i))]) (hi : i + 5 ≤ L) (hce : cells ≤ 600000) (hsl : slots ≤ 7302249) (kk : ∀ (I2 : IH) (H1 : Heap) (locs1 : List Loc), Inv I2 → PH E s I2 H1 locs1 → W p l e room_1 s m #[Value.ref b] below meth c H1 locs1 cells slots (lw_Z below #[Value.ref b] s) (F0 m 1772 ls [])) : W p l e room_1 s m #[Value.ref b] below meth c H locs cells slots (lw_Z below #[Value.ref b] s) (F0 m 586 ls []) := by
  have hp : Pair E 40 mX11_state mX12_state [.int (xs (i + 1))] [.int (xs (i + 1))] I := p_state (d := 0) hI
  obtain ⟨v, P1, h1, h2⟩ := hp
  refine lv_aload_n F.1 F.2.1 zL_586 rfl (lv_at hl 1 rfl) ?_
  refine L_arg (k := 1) F X P hl (by decide +kernel) (by omega) la_587 ?_
  refine L_callV [.int (xs (i + 1))] [] F P hl.1 lkL_57 okX11_state (o := 0) rfl rfl rfl rfl (Nat.le_of_ble_eq_true rfl) (d2 := 40) (by decide) hce hsl h1 zL_592 (fun I1 H locs hP1 P => ?_)
  refine lv_aload_n F.1 F.2.1 zL_595 rfl (lv_at hl 2 rfl) ?_
  refine L_arg (k := 1) F X P hl (by decide +kernel) (by omega) la_596 ?_
  refine L_callV [.int (xs (i + 1))] [.int v] F P hl.1 lkL_60 okX12_state (o := 115) rfl rfl rfl rfl (Nat.le_of_ble_eq_true rfl) (d2 := 40) (by decide) hce hsl (h2 I1 hP1) zL_601 (fun I2 H locs hI2 P => ?_)
  exact lv_icmp_eq F.1 F.2.1 (tgt := 1772) zL_604 (by decide) (fun _ => kk I2 H locs hI2 P) (fun q => absurd rfl q)
theorem lc11 (F : Fx E mLw p s m meth c) (X : LwX E b L xs s) (hI : Inv I) (P : PH E s I H locs) (hl : lv_has ls 4 [(0, .ref b), (1, .ref (eb E + 0)), (2, .ref (eb E + 115)), (3, .int (nI i))]) (hi : i + 5 ≤ L) (hce : cells ≤ 600000) (hsl : slots ≤ 7302249) (kk : ∀ (I2 : IH) (H1 : Heap) (locs1 : List Loc), Inv I2 → PH E s I2 H1 locs1 → W p l e room_1 s m #[Value.ref b] below meth c H1 locs1 cells slots (lw_Z below #[Value.ref b] s) (F0 m 1772 ls [])) : W p l e room_1 s m #[Value.ref b] below meth c H locs cells slots (lw_Z below #[Value.ref b] s) (F0 m 609 ls []) := by
  have hp : Pair E 40 mX11_feed mX12_feed [.long ((((xs (i + 1))).toInt64 <<< ((nI 32).toInt64 &&& 63)) ||| (((xs (i + 2))).toInt64 &&& (4294967295 : Int64))), .int (xs (i + 3))] [.long ((((xs (i + 1))).toInt64 <<< ((nI 32).toInt64 &&& 63)) ||| (((xs (i + 2))).toInt64 &&& (4294967295 : Int64))), .int (xs (i + 3))] I := p_feed (d := 0) hI
  obtain ⟨v, P1, h1, h2⟩ := hp
  refine lv_aload_n F.1 F.2.1 zL_609 rfl (lv_at hl 1 rfl) ?_
  refine L_arg (k := 1) F X P hl (by decide +kernel) (by omega) la_610 ?_
  refine lv_i2l F.1 F.2.1 zL_615 rfl ?_
  refine lv_bipush F.1 F.2.1 zL_616 (show _ = nI 32 by decide +kernel) ?_
  refine lv_lshl F.1 F.2.1 zL_618 rfl ?_
  refine L_arg (k := 2) F X P hl (by decide +kernel) (by omega) la_619 ?_
  refine lv_i2l F.1 F.2.1 zL_624 rfl ?_
  refine lv_ldc2 F.1 F.2.1 (own_of F) (hts_of F #[Value.ref b] _ lkL_long) zL_625 ?_
  refine lv_land F.1 F.2.1 zL_628 ?_
  refine lv_lor F.1 F.2.1 zL_629 ?_
  refine L_arg (k := 3) F X P hl (by decide +kernel) (by omega) la_630 ?_
  refine L_callV [.long ((((xs (i + 1))).toInt64 <<< ((nI 32).toInt64 &&& 63)) ||| (((xs (i + 2))).toInt64 &&& (4294967295 : Int64))), .int (xs (i + 3))] [] F P hl.1 lkL_63 okX11_feed (o := 0) rfl rfl rfl rfl (Nat.le_of_ble_eq_true rfl) (d2 := 40) (by decide) hce hsl h1 zL_635 (fun I1 H locs hP1 P => ?_)
  refine lv_aload_n F.1 F.2.1 zL_638 rfl (lv_at hl 2 rfl) ?_
  refine L_arg (k := 1) F X P hl (by decide +kernel) (by omega) la_639 ?_
  refine lv_i2l F.1 F.2.1 zL_644 rfl ?_
  refine lv_bipush F.1 F.2.1 zL_645 (show _ = nI 32 by decide +kernel) ?_
  refine lv_lshl F.1 F.2.1 zL_647 rfl ?_
  refine L_arg (k := 2) F X P hl (by decide +kernel) (by omega) la_648 ?_
  refine lv_i2l F.1 F.2.1 zL_653 rfl ?_
  refine lv_ldc2 F.1 F.2.1 (own_of F) (hts_of F #[Value.ref b] _ lkL_long) zL_654 ?_
  refine lv_land F.1 F.2.1 zL_657 ?_
  refine lv_lor F.1 F.2.1 zL_658 ?_
  refine L_arg (k := 3) F X P hl (by decide +kernel) (by omega) la_659 ?_
  refine L_callV [.long ((((xs (i + 1))).toInt64 <<< ((nI 32).toInt64 &&& 63)) ||| (((xs (i + 2))).toInt64 &&& (4294967295 : Int64))), .int (xs (i + 3))] [.int v] F P hl.1 lkL_67 okX12_feed (o := 115) rfl rfl rfl rfl (Nat.le_of_ble_eq_true rfl) (d2 := 40) (by decide) hce hsl (h2 I1 hP1) zL_664 (fun I2 H locs hI2 P => ?_)
  exact lv_icmp_eq F.1 F.2.1 (tgt := 1772) zL_667 (by decide) (fun _ => kk I2 H locs hI2 P) (fun q => absurd rfl q)
theorem lc12 (F : Fx E mLw p s m meth c) (X : LwX E b L xs s) (hI : Inv I) (P : PH E s I H locs) (hl : lv_has ls 4 [(0, .ref b), (1, .ref (eb E + 0)), (2, .ref (eb E + 115)), (3, .int (nI i))]) (hi : i + 5 ≤ L) (hce : cells ≤ 600000) (hsl : slots ≤ 7302249) (kk : ∀ (I2 : IH) (H1 : Heap) (locs1 : List Loc), Inv I2 → PH E s I2 H1 locs1 → W p l e room_1 s m #[Value.ref b] below meth c H1 locs1 cells slots (lw_Z below #[Value.ref b] s) (F0 m 1772 ls [])) : W p l e room_1 s m #[Value.ref b] below meth c H locs cells slots (lw_Z below #[Value.ref b] s) (F0 m 672 ls []) := by
  have hp : Pair E 40 mX11_rules mX12_rules [] [] I := p_rules (d := 0) hI
  obtain ⟨v, P1, h1, h2⟩ := hp
  refine lv_aload_n F.1 F.2.1 zL_672 rfl (lv_at hl 1 rfl) ?_
  refine L_callV [] [] F P hl.1 lkL_68 okX11_rules (o := 0) rfl rfl rfl rfl (Nat.le_of_ble_eq_true rfl) (d2 := 40) (by decide) hce hsl h1 zL_673 (fun I1 H locs hP1 P => ?_)
  refine lv_aload_n F.1 F.2.1 zL_676 rfl (lv_at hl 2 rfl) ?_
  refine L_callV [] [.int v] F P hl.1 lkL_71 okX12_rules (o := 115) rfl rfl rfl rfl (Nat.le_of_ble_eq_true rfl) (d2 := 40) (by decide) hce hsl (h2 I1 hP1) zL_677 (fun I2 H locs hI2 P => ?_)
  exact lv_icmp_eq F.1 F.2.1 (tgt := 1772) zL_680 (by decide) (fun _ => kk I2 H locs hI2 P) (fun q => absurd rfl q)
theorem lc13 (F : Fx E mLw p s m meth c) (X : LwX E b L xs s) (hI : Inv I) (P : PH E s I H locs) (hl : lv_has ls 4 [(0, .ref b), (1, .ref (eb E + 0)), (2, .ref (eb E + 115)), (3, .int (nI i))]) (hi : i + 5 ≤ L) (hce : cells ≤ 600000) (hsl : slots ≤ 7302249) (kk : ∀ (I2 : IH) (H1 : Heap) (locs1 : List Loc), Inv I2 → PH E s I2 H1 locs1 → W p l e room_1 s m #[Value.ref b] below meth c H1 locs1 cells slots (lw_Z below #[Value.ref b] s) (F0 m 1772 ls [])) : W p l e room_1 s m #[Value.ref b] below meth c H locs cells slots (lw_Z below #[Value.ref b] s) (F0 m 685 ls []) := by
  have hp : Pair E 40 mX11_minute mX12_minute [] [] I := p_minute (d := 0) hI
  obtain ⟨v, P1, h1, h2⟩ := hp
  refine lv_aload_n F.1 F.2.1 zL_685 rfl (lv_at hl 1 rfl) ?_
  refine L_callV [] [] F P hl.1 lkL_72 okX11_minute (o := 0) rfl rfl rfl rfl (Nat.le_of_ble_eq_true rfl) (d2 := 40) (by decide) hce hsl h1 zL_686 (fun I1 H locs hP1 P => ?_)
  refine lv_aload_n F.1 F.2.1 zL_689 rfl (lv_at hl 2 rfl) ?_
  refine L_callV [] [.int v] F P hl.1 lkL_75 okX12_minute (o := 115) rfl rfl rfl rfl (Nat.le_of_ble_eq_true rfl) (d2 := 40) (by decide) hce hsl (h2 I1 hP1) zL_690 (fun I2 H locs hI2 P => ?_)
  exact lv_icmp_eq F.1 F.2.1 (tgt := 1772) zL_693 (by decide) (fun _ => kk I2 H locs hI2 P) (fun q => absurd rfl q)
theorem lc14 (F : Fx E mLw p s m meth c) (X : LwX E b L xs s) (hI : Inv I) (P : PH E s I H locs) (hl : lv_has ls 4 [(0, .ref b), (1, .ref (eb E + 0)), (2, .ref (eb E + 115)), (3, .int (nI i))]) (hi : i + 5 ≤ L) (hce : cells ≤ 600000) (hsl : slots ≤ 7302249) (kk : ∀ (I2 : IH) (H1 : Heap) (locs1 : List Loc), Inv I2 → PH E s I2 H1 locs1 → W p l e room_1 s m #[Value.ref b] below meth c H1 locs1 cells slots (lw_Z below #[Value.ref b] s) (F0 m 1772 ls [])) : W p l e room_1 s m #[Value.ref b] below meth c H locs cells slots (lw_Z below #[Value.ref b] s) (F0 m 698 ls []) := by
  have hp : Pair E 40 mX11_on mX12_on [.int (xs (i + 1))] [.int (xs (i + 1))] I := p_on (d := 0) hI
  obtain ⟨v, P1, h1, h2⟩ := hp
  refine lv_aload_n F.1 F.2.1 zL_698 rfl (lv_at hl 1 rfl) ?_
  refine L_arg (k := 1) F X P hl (by decide +kernel) (by omega) la_699 ?_
  refine L_callV [.int (xs (i + 1))] [] F P hl.1 lkL_76 okX11_on (o := 0) rfl rfl rfl rfl (Nat.le_of_ble_eq_true rfl) (d2 := 40) (by decide) hce hsl h1 zL_704 (fun I1 H locs hP1 P => ?_)
  refine lv_aload_n F.1 F.2.1 zL_707 rfl (lv_at hl 2 rfl) ?_
  refine L_arg (k := 1) F X P hl (by decide +kernel) (by omega) la_708 ?_
  refine L_callV [.int (xs (i + 1))] [.int v] F P hl.1 lkL_79 okX12_on (o := 115) rfl rfl rfl rfl (Nat.le_of_ble_eq_true rfl) (d2 := 40) (by decide) hce hsl (h2 I1 hP1) zL_713 (fun I2 H locs hI2 P => ?_)
  exact lv_icmp_eq F.1 F.2.1 (tgt := 1772) zL_716 (by decide) (fun _ => kk I2 H locs hI2 P) (fun q => absurd rfl q)
theorem lc15 (F : Fx E mLw p s m meth c) (X : LwX E b L xs s) (hI : Inv I) (P : PH E s I H locs) (hl : lv_has ls 4 [(0, .ref b), (1, .ref (eb E + 0)), (2, .ref (eb E + 115)), (3, .int (nI i))]) (hi : i + 5 ≤ L) (hce : cells ≤ 600000) (hsl : slots ≤ 7302249) (kk : ∀ (I2 : IH) (H1 : Heap) (locs1 : List Loc), Inv I2 → PH E s I2 H1 locs1 → W p l e room_1 s m #[Value.ref b] below meth c H1 locs1 cells slots (lw_Z below #[Value.ref b] s) (F0 m 1772 ls [])) : W p l e room_1 s m #[Value.ref b] below meth c H locs cells slots (lw_Z below #[Value.ref b] s) (F0 m 721 ls []) := by
  have hp : Pair E 40 mX11_when mX12_when [.int (xs (i + 1))] [.int (xs (i + 1))] I := p_when (d := 0) hI
  obtain ⟨v, P1, h1, h2⟩ := hp
  refine lv_aload_n F.1 F.2.1 zL_721 rfl (lv_at hl 1 rfl) ?_
  refine L_arg (k := 1) F X P hl (by decide +kernel) (by omega) la_722 ?_
  refine L_callV [.int (xs (i + 1))] [] F P hl.1 lkL_80 okX11_when (o := 0) rfl rfl rfl rfl (Nat.le_of_ble_eq_true rfl) (d2 := 40) (by decide) hce hsl h1 zL_727 (fun I1 H locs hP1 P => ?_)
  refine lv_aload_n F.1 F.2.1 zL_730 rfl (lv_at hl 2 rfl) ?_
  refine L_arg (k := 1) F X P hl (by decide +kernel) (by omega) la_731 ?_
  refine L_callV [.int (xs (i + 1))] [.int v] F P hl.1 lkL_83 okX12_when (o := 115) rfl rfl rfl rfl (Nat.le_of_ble_eq_true rfl) (d2 := 40) (by decide) hce hsl (h2 I1 hP1) zL_736 (fun I2 H locs hI2 P => ?_)
  exact lv_icmp_eq F.1 F.2.1 (tgt := 1772) zL_739 (by decide) (fun _ => kk I2 H locs hI2 P) (fun q => absurd rfl q)
theorem lc16 (F : Fx E mLw p s m meth c) (X : LwX E b L xs s) (hI : Inv I) (P : PH E s I H locs) (hl : lv_has ls 4 [(0, .ref b), (1, .ref (eb E + 0)), (2, .ref (eb E + 115)), (3, .int (nI i))]) (hi : i + 5 ≤ L) (hce : cells ≤ 600000) (hsl : slots ≤ 7302249) (kk : ∀ (I2 : IH) (H1 : Heap) (locs1 : List Loc), Inv I2 → PH E s I2 H1 locs1 → W p l e room_1 s m #[Value.ref b] below meth c H1 locs1 cells slots (lw_Z below #[Value.ref b] s) (F0 m 1772 ls [])) : W p l e room_1 s m #[Value.ref b] below meth c H locs cells slots (lw_Z below #[Value.ref b] s) (F0 m 744 ls []) := by
  have hp : Pair E 40 mX11_sceneFor mX12_sceneFor [.int (xs (i + 1))] [.int (xs (i + 1))] I := p_sceneFor (d := 0) hI
  obtain ⟨v, P1, h1, h2⟩ := hp
  refine lv_aload_n F.1 F.2.1 zL_744 rfl (lv_at hl 1 rfl) ?_
  refine L_arg (k := 1) F X P hl (by decide +kernel) (by omega) la_745 ?_
  refine L_callV [.int (xs (i + 1))] [] F P hl.1 lkL_84 okX11_sceneFor (o := 0) rfl rfl rfl rfl (Nat.le_of_ble_eq_true rfl) (d2 := 40) (by decide) hce hsl h1 zL_750 (fun I1 H locs hP1 P => ?_)
  refine lv_aload_n F.1 F.2.1 zL_753 rfl (lv_at hl 2 rfl) ?_
  refine L_arg (k := 1) F X P hl (by decide +kernel) (by omega) la_754 ?_
  refine L_callV [.int (xs (i + 1))] [.int v] F P hl.1 lkL_87 okX12_sceneFor (o := 115) rfl rfl rfl rfl (Nat.le_of_ble_eq_true rfl) (d2 := 40) (by decide) hce hsl (h2 I1 hP1) zL_759 (fun I2 H locs hI2 P => ?_)
  exact lv_icmp_eq F.1 F.2.1 (tgt := 1772) zL_762 (by decide) (fun _ => kk I2 H locs hI2 P) (fun q => absurd rfl q)
theorem lc17 (F : Fx E mLw p s m meth c) (X : LwX E b L xs s) (hI : Inv I) (P : PH E s I H locs) (hl : lv_has ls 4 [(0, .ref b), (1, .ref (eb E + 0)), (2, .ref (eb E + 115)), (3, .int (nI i))]) (hi : i + 5 ≤ L) (hce : cells ≤ 600000) (hsl : slots ≤ 7302249) (kk : ∀ (I2 : IH) (H1 : Heap) (locs1 : List Loc), Inv I2 → PH E s I2 H1 locs1 → W p l e room_1 s m #[Value.ref b] below meth c H1 locs1 cells slots (lw_Z below #[Value.ref b] s) (F0 m 1772 ls [])) : W p l e room_1 s m #[Value.ref b] below meth c H locs cells slots (lw_Z below #[Value.ref b] s) (F0 m 767 ls []) := by
  have hp : Pair E 40 mX11_wardFor mX12_wardFor [.int (xs (i + 1))] [.int (xs (i + 1))] I := p_wardFor (d := 0) hI
  obtain ⟨v, P1, h1, h2⟩ := hp
  refine lv_aload_n F.1 F.2.1 zL_767 rfl (lv_at hl 1 rfl) ?_
  refine L_arg (k := 1) F X P hl (by decide +kernel) (by omega) la_768 ?_
  refine L_callV [.int (xs (i + 1))] [] F P hl.1 lkL_88 okX11_wardFor (o := 0) rfl rfl rfl rfl (Nat.le_of_ble_eq_true rfl) (d2 := 40) (by decide) hce hsl h1 zL_773 (fun I1 H locs hP1 P => ?_)
  refine lv_aload_n F.1 F.2.1 zL_776 rfl (lv_at hl 2 rfl) ?_
  refine L_arg (k := 1) F X P hl (by decide +kernel) (by omega) la_777 ?_
  refine L_callV [.int (xs (i + 1))] [.int v] F P hl.1 lkL_91 okX12_wardFor (o := 115) rfl rfl rfl rfl (Nat.le_of_ble_eq_true rfl) (d2 := 40) (by decide) hce hsl (h2 I1 hP1) zL_782 (fun I2 H locs hI2 P => ?_)
  exact lv_icmp_eq F.1 F.2.1 (tgt := 1772) zL_785 (by decide) (fun _ => kk I2 H locs hI2 P) (fun q => absurd rfl q)
theorem lc18 (F : Fx E mLw p s m meth c) (X : LwX E b L xs s) (hI : Inv I) (P : PH E s I H locs) (hl : lv_has ls 4 [(0, .ref b), (1, .ref (eb E + 0)), (2, .ref (eb E + 115)), (3, .int (nI i))]) (hi : i + 5 ≤ L) (hce : cells ≤ 600000) (hsl : slots ≤ 7302249) (kk : ∀ (I2 : IH) (H1 : Heap) (locs1 : List Loc), Inv I2 → PH E s I2 H1 locs1 → W p l e room_1 s m #[Value.ref b] below meth c H1 locs1 cells slots (lw_Z below #[Value.ref b] s) (F0 m 1772 ls [])) : W p l e room_1 s m #[Value.ref b] below meth c H locs cells slots (lw_Z below #[Value.ref b] s) (F0 m 790 ls []) := by
  have hp : Pair E 40 mX11_dark mX12_dark [.int (xs (i + 1))] [.int (xs (i + 1))] I := p_dark (d := 0) hI
  obtain ⟨v, P1, h1, h2⟩ := hp
  refine lv_aload_n F.1 F.2.1 zL_790 rfl (lv_at hl 1 rfl) ?_
  refine L_arg (k := 1) F X P hl (by decide +kernel) (by omega) la_791 ?_
  refine L_callV [.int (xs (i + 1))] [] F P hl.1 lkL_92 okX11_dark (o := 0) rfl rfl rfl rfl (Nat.le_of_ble_eq_true rfl) (d2 := 40) (by decide) hce hsl h1 zL_796 (fun I1 H locs hP1 P => ?_)
  refine lv_aload_n F.1 F.2.1 zL_799 rfl (lv_at hl 2 rfl) ?_
  refine L_arg (k := 1) F X P hl (by decide +kernel) (by omega) la_800 ?_
  refine L_callV [.int (xs (i + 1))] [.int v] F P hl.1 lkL_95 okX12_dark (o := 115) rfl rfl rfl rfl (Nat.le_of_ble_eq_true rfl) (d2 := 40) (by decide) hce hsl (h2 I1 hP1) zL_805 (fun I2 H locs hI2 P => ?_)
  exact lv_icmp_eq F.1 F.2.1 (tgt := 1772) zL_808 (by decide) (fun _ => kk I2 H locs hI2 P) (fun q => absurd rfl q)
theorem lc19 (F : Fx E mLw p s m meth c) (X : LwX E b L xs s) (hI : Inv I) (P : PH E s I H locs) (hl : lv_has ls 4 [(0, .ref b), (1, .ref (eb E + 0)), (2, .ref (eb E + 115)), (3, .int (nI i))]) (hi : i + 5 ≤ L) (hce : cells ≤ 600000) (hsl : slots ≤ 7302249) (kk : ∀ (I2 : IH) (H1 : Heap) (locs1 : List Loc), Inv I2 → PH E s I2 H1 locs1 → W p l e room_1 s m #[Value.ref b] below meth c H1 locs1 cells slots (lw_Z below #[Value.ref b] s) (F0 m 1772 ls [])) : W p l e room_1 s m #[Value.ref b] below meth c H locs cells slots (lw_Z below #[Value.ref b] s) (F0 m 813 ls []) := by
  have hp : Pair E 40 mX11_back mX12_back [.int (xs (i + 1))] [.int (xs (i + 1))] I := p_back (d := 0) hI
  obtain ⟨v, P1, h1, h2⟩ := hp
  refine lv_aload_n F.1 F.2.1 zL_813 rfl (lv_at hl 1 rfl) ?_
  refine L_arg (k := 1) F X P hl (by decide +kernel) (by omega) la_814 ?_
  refine L_callV [.int (xs (i + 1))] [] F P hl.1 lkL_96 okX11_back (o := 0) rfl rfl rfl rfl (Nat.le_of_ble_eq_true rfl) (d2 := 40) (by decide) hce hsl h1 zL_819 (fun I1 H locs hP1 P => ?_)
  refine lv_aload_n F.1 F.2.1 zL_822 rfl (lv_at hl 2 rfl) ?_
  refine L_arg (k := 1) F X P hl (by decide +kernel) (by omega) la_823 ?_
  refine L_callV [.int (xs (i + 1))] [.int v] F P hl.1 lkL_99 okX12_back (o := 115) rfl rfl rfl rfl (Nat.le_of_ble_eq_true rfl) (d2 := 40) (by decide) hce hsl (h2 I1 hP1) zL_828 (fun I2 H locs hI2 P => ?_)
  exact lv_icmp_eq F.1 F.2.1 (tgt := 1772) zL_831 (by decide) (fun _ => kk I2 H locs hI2 P) (fun q => absurd rfl q)
theorem lc20 (F : Fx E mLw p s m meth c) (X : LwX E b L xs s) (hI : Inv I) (P : PH E s I H locs) (hl : lv_has ls 4 [(0, .ref b), (1, .ref (eb E + 0)), (2, .ref (eb E + 115)), (3, .int (nI i))]) (hi : i + 5 ≤ L) (hce : cells ≤ 600000) (hsl : slots ≤ 7302249) (kk : ∀ (I2 : IH) (H1 : Heap) (locs1 : List Loc), Inv I2 → PH E s I2 H1 locs1 → W p l e room_1 s m #[Value.ref b] below meth c H1 locs1 cells slots (lw_Z below #[Value.ref b] s) (F0 m 1772 ls [])) : W p l e room_1 s m #[Value.ref b] below meth c H locs cells slots (lw_Z below #[Value.ref b] s) (F0 m 836 ls []) := by
  have hp : Pair E 40 mX11_companies mX12_companies [.int (xs (i + 1))] [.int (xs (i + 1))] I := p_companies (d := 0) hI
  obtain ⟨v, P1, h1, h2⟩ := hp
  refine lv_aload_n F.1 F.2.1 zL_836 rfl (lv_at hl 1 rfl) ?_
  refine L_arg (k := 1) F X P hl (by decide +kernel) (by omega) la_837 ?_
  refine L_callV [.int (xs (i + 1))] [] F P hl.1 lkL_100 okX11_companies (o := 0) rfl rfl rfl rfl (Nat.le_of_ble_eq_true rfl) (d2 := 40) (by decide) hce hsl h1 zL_842 (fun I1 H locs hP1 P => ?_)
  refine lv_aload_n F.1 F.2.1 zL_845 rfl (lv_at hl 2 rfl) ?_
  refine L_arg (k := 1) F X P hl (by decide +kernel) (by omega) la_846 ?_
  refine L_callV [.int (xs (i + 1))] [.int v] F P hl.1 lkL_103 okX12_companies (o := 115) rfl rfl rfl rfl (Nat.le_of_ble_eq_true rfl) (d2 := 40) (by decide) hce hsl (h2 I1 hP1) zL_851 (fun I2 H locs hI2 P => ?_)
  exact lv_icmp_eq F.1 F.2.1 (tgt := 1772) zL_854 (by decide) (fun _ => kk I2 H locs hI2 P) (fun q => absurd rfl q)
theorem lc21 (F : Fx E mLw p s m meth c) (X : LwX E b L xs s) (hI : Inv I) (P : PH E s I H locs) (hl : lv_has ls 4 [(0, .ref b), (1, .ref (eb E + 0)), (2, .ref (eb E + 115)), (3, .int (nI i))]) (hi : i + 5 ≤ L) (hce : cells ≤ 600000) (hsl : slots ≤ 7302249) (kk : ∀ (I2 : IH) (H1 : Heap) (locs1 : List Loc), Inv I2 → PH E s I2 H1 locs1 → W p l e room_1 s m #[Value.ref b] below meth c H1 locs1 cells slots (lw_Z below #[Value.ref b] s) (F0 m 1772 ls [])) : W p l e room_1 s m #[Value.ref b] below meth c H locs cells slots (lw_Z below #[Value.ref b] s) (F0 m 859 ls []) := by
  have hp : Pair E 40 mX11_tour mX12_tour [.int (xs (i + 1)), .int (xs (i + 2))] [.int (xs (i + 1)), .int (xs (i + 2))] I := p_tour (d := 0) hI
  obtain ⟨v, P1, h1, h2⟩ := hp
  refine lv_aload_n F.1 F.2.1 zL_859 rfl (lv_at hl 1 rfl) ?_
  refine L_arg (k := 1) F X P hl (by decide +kernel) (by omega) la_860 ?_
  refine L_arg (k := 2) F X P hl (by decide +kernel) (by omega) la_865 ?_
  refine L_callV [.int (xs (i + 1)), .int (xs (i + 2))] [] F P hl.1 lkL_104 okX11_tour (o := 0) rfl rfl rfl rfl (Nat.le_of_ble_eq_true rfl) (d2 := 40) (by decide) hce hsl h1 zL_870 (fun I1 H locs hP1 P => ?_)
  refine lv_aload_n F.1 F.2.1 zL_873 rfl (lv_at hl 2 rfl) ?_
  refine L_arg (k := 1) F X P hl (by decide +kernel) (by omega) la_874 ?_
  refine L_arg (k := 2) F X P hl (by decide +kernel) (by omega) la_879 ?_
  refine L_callV [.int (xs (i + 1)), .int (xs (i + 2))] [.int v] F P hl.1 lkL_107 okX12_tour (o := 115) rfl rfl rfl rfl (Nat.le_of_ble_eq_true rfl) (d2 := 40) (by decide) hce hsl (h2 I1 hP1) zL_884 (fun I2 H locs hI2 P => ?_)
  exact lv_icmp_eq F.1 F.2.1 (tgt := 1772) zL_887 (by decide) (fun _ => kk I2 H locs hI2 P) (fun q => absurd rfl q)
theorem lc22 (F : Fx E mLw p s m meth c) (X : LwX E b L xs s) (hI : Inv I) (P : PH E s I H locs) (hl : lv_has ls 4 [(0, .ref b), (1, .ref (eb E + 0)), (2, .ref (eb E + 115)), (3, .int (nI i))]) (hi : i + 5 ≤ L) (hce : cells ≤ 600000) (hsl : slots ≤ 7302249) (kk : ∀ (I2 : IH) (H1 : Heap) (locs1 : List Loc), Inv I2 → PH E s I2 H1 locs1 → W p l e room_1 s m #[Value.ref b] below meth c H1 locs1 cells slots (lw_Z below #[Value.ref b] s) (F0 m 1772 ls [])) : W p l e room_1 s m #[Value.ref b] below meth c H locs cells slots (lw_Z below #[Value.ref b] s) (F0 m 892 ls []) := by
  have hp : Pair E 40 mX11_best mX12_best [.int (xs (i + 1))] [.int (xs (i + 1))] I := p_best (d := 0) hI
  obtain ⟨v, P1, h1, h2⟩ := hp
  refine lv_aload_n F.1 F.2.1 zL_892 rfl (lv_at hl 1 rfl) ?_
  refine L_arg (k := 1) F X P hl (by decide +kernel) (by omega) la_893 ?_
  refine L_callV [.int (xs (i + 1))] [] F P hl.1 lkL_108 okX11_best (o := 0) rfl rfl rfl rfl (Nat.le_of_ble_eq_true rfl) (d2 := 40) (by decide) hce hsl h1 zL_898 (fun I1 H locs hP1 P => ?_)
  refine lv_aload_n F.1 F.2.1 zL_901 rfl (lv_at hl 2 rfl) ?_
  refine L_arg (k := 1) F X P hl (by decide +kernel) (by omega) la_902 ?_
  refine L_callV [.int (xs (i + 1))] [.int v] F P hl.1 lkL_111 okX12_best (o := 115) rfl rfl rfl rfl (Nat.le_of_ble_eq_true rfl) (d2 := 40) (by decide) hce hsl (h2 I1 hP1) zL_907 (fun I2 H locs hI2 P => ?_)
  exact lv_icmp_eq F.1 F.2.1 (tgt := 1772) zL_910 (by decide) (fun _ => kk I2 H locs hI2 P) (fun q => absurd rfl q)
theorem lc23 (F : Fx E mLw p s m meth c) (X : LwX E b L xs s) (hI : Inv I) (P : PH E s I H locs) (hl : lv_has ls 4 [(0, .ref b), (1, .ref (eb E + 0)), (2, .ref (eb E + 115)), (3, .int (nI i))]) (hi : i + 5 ≤ L) (hce : cells ≤ 600000) (hsl : slots ≤ 7302249) (kk : ∀ (I2 : IH) (H1 : Heap) (locs1 : List Loc), Inv I2 → PH E s I2 H1 locs1 → W p l e room_1 s m #[Value.ref b] below meth c H1 locs1 cells slots (lw_Z below #[Value.ref b] s) (F0 m 1772 ls [])) : W p l e room_1 s m #[Value.ref b] below meth c H locs cells slots (lw_Z below #[Value.ref b] s) (F0 m 915 ls []) := by
  have hp : Pair E 40 mX11_ith mX12_ith [.int (xs (i + 1)), .int (xs (i + 2))] [.int (xs (i + 1)), .int (xs (i + 2))] I := p_ith (d := 0) hI
  obtain ⟨v, P1, h1, h2⟩ := hp
  refine lv_aload_n F.1 F.2.1 zL_915 rfl (lv_at hl 1 rfl) ?_
  refine L_arg (k := 1) F X P hl (by decide +kernel) (by omega) la_916 ?_
  refine L_arg (k := 2) F X P hl (by decide +kernel) (by omega) la_921 ?_
  refine L_callV [.int (xs (i + 1)), .int (xs (i + 2))] [] F P hl.1 lkL_112 okX11_ith (o := 0) rfl rfl rfl rfl (Nat.le_of_ble_eq_true rfl) (d2 := 40) (by decide) hce hsl h1 zL_926 (fun I1 H locs hP1 P => ?_)
  refine lv_aload_n F.1 F.2.1 zL_929 rfl (lv_at hl 2 rfl) ?_
  refine L_arg (k := 1) F X P hl (by decide +kernel) (by omega) la_930 ?_
  refine L_arg (k := 2) F X P hl (by decide +kernel) (by omega) la_935 ?_
  refine L_callV [.int (xs (i + 1)), .int (xs (i + 2))] [.int v] F P hl.1 lkL_115 okX12_ith (o := 115) rfl rfl rfl rfl (Nat.le_of_ble_eq_true rfl) (d2 := 40) (by decide) hce hsl (h2 I1 hP1) zL_940 (fun I2 H locs hI2 P => ?_)
  exact lv_icmp_eq F.1 F.2.1 (tgt := 1772) zL_943 (by decide) (fun _ => kk I2 H locs hI2 P) (fun q => absurd rfl q)
theorem lc24 (F : Fx E mLw p s m meth c) (X : LwX E b L xs s) (hI : Inv I) (P : PH E s I H locs) (hl : lv_has ls 4 [(0, .ref b), (1, .ref (eb E + 0)), (2, .ref (eb E + 115)), (3, .int (nI i))]) (hi : i + 5 ≤ L) (hce : cells ≤ 600000) (hsl : slots ≤ 7302249) (kk : ∀ (I2 : IH) (H1 : Heap) (locs1 : List Loc), Inv I2 → PH E s I2 H1 locs1 → W p l e room_1 s m #[Value.ref b] below meth c H1 locs1 cells slots (lw_Z below #[Value.ref b] s) (F0 m 1772 ls [])) : W p l e room_1 s m #[Value.ref b] below meth c H locs cells slots (lw_Z below #[Value.ref b] s) (F0 m 948 ls []) := by
  have hp : Pair E 40 mX11_ways mX12_ways [.int (xs (i + 1))] [.int (xs (i + 1))] I := p_ways (d := 0) hI
  obtain ⟨v, P1, h1, h2⟩ := hp
  refine lv_aload_n F.1 F.2.1 zL_948 rfl (lv_at hl 1 rfl) ?_
  refine L_arg (k := 1) F X P hl (by decide +kernel) (by omega) la_949 ?_
  refine L_callV [.int (xs (i + 1))] [] F P hl.1 lkL_116 okX11_ways (o := 0) rfl rfl rfl rfl (Nat.le_of_ble_eq_true rfl) (d2 := 40) (by decide) hce hsl h1 zL_954 (fun I1 H locs hP1 P => ?_)
  refine lv_aload_n F.1 F.2.1 zL_957 rfl (lv_at hl 2 rfl) ?_
  refine L_arg (k := 1) F X P hl (by decide +kernel) (by omega) la_958 ?_
  refine L_callV [.int (xs (i + 1))] [.int v] F P hl.1 lkL_119 okX12_ways (o := 115) rfl rfl rfl rfl (Nat.le_of_ble_eq_true rfl) (d2 := 40) (by decide) hce hsl (h2 I1 hP1) zL_963 (fun I2 H locs hI2 P => ?_)
  exact lv_icmp_eq F.1 F.2.1 (tgt := 1772) zL_966 (by decide) (fun _ => kk I2 H locs hI2 P) (fun q => absurd rfl q)
theorem lc25 (F : Fx E mLw p s m meth c) (X : LwX E b L xs s) (hI : Inv I) (P : PH E s I H locs) (hl : lv_has ls 4 [(0, .ref b), (1, .ref (eb E + 0)), (2, .ref (eb E + 115)), (3, .int (nI i))]) (hi : i + 5 ≤ L) (hce : cells ≤ 600000) (hsl : slots ≤ 7302249) (kk : ∀ (I2 : IH) (H1 : Heap) (locs1 : List Loc), Inv I2 → PH E s I2 H1 locs1 → W p l e room_1 s m #[Value.ref b] below meth c H1 locs1 cells slots (lw_Z below #[Value.ref b] s) (F0 m 1772 ls [])) : W p l e room_1 s m #[Value.ref b] below meth c H locs cells slots (lw_Z below #[Value.ref b] s) (F0 m 971 ls []) := by
  have hp : Pair E 40 mX11_visit mX12_visit [.int (xs (i + 1)), .int (xs (i + 2))] [.int (xs (i + 1)), .int (xs (i + 2))] I := p_visit (d := 0) hI
  obtain ⟨v, P1, h1, h2⟩ := hp
  refine lv_aload_n F.1 F.2.1 zL_971 rfl (lv_at hl 1 rfl) ?_
  refine L_arg (k := 1) F X P hl (by decide +kernel) (by omega) la_972 ?_
  refine L_arg (k := 2) F X P hl (by decide +kernel) (by omega) la_977 ?_
  refine L_callV [.int (xs (i + 1)), .int (xs (i + 2))] [] F P hl.1 lkL_120 okX11_visit (o := 0) rfl rfl rfl rfl (Nat.le_of_ble_eq_true rfl) (d2 := 40) (by decide) hce hsl h1 zL_982 (fun I1 H locs hP1 P => ?_)
  refine lv_aload_n F.1 F.2.1 zL_985 rfl (lv_at hl 2 rfl) ?_
  refine L_arg (k := 1) F X P hl (by decide +kernel) (by omega) la_986 ?_
  refine L_arg (k := 2) F X P hl (by decide +kernel) (by omega) la_991 ?_
  refine L_callV [.int (xs (i + 1)), .int (xs (i + 2))] [.int v] F P hl.1 lkL_123 okX12_visit (o := 115) rfl rfl rfl rfl (Nat.le_of_ble_eq_true rfl) (d2 := 40) (by decide) hce hsl (h2 I1 hP1) zL_996 (fun I2 H locs hI2 P => ?_)
  exact lv_icmp_eq F.1 F.2.1 (tgt := 1772) zL_999 (by decide) (fun _ => kk I2 H locs hI2 P) (fun q => absurd rfl q)
end LC
