theorem aX12_seed_0 : decode mX12_seed.2.1 0 = .ok (.aload_n 0, 1) ∧ 0 + 1 = 1 := ⟨by decide +kernel, rfl⟩
theorem aX12_seed_1 : decode mX12_seed.2.1 1 = .ok (.iconst 5, 1) ∧ 1 + 1 = 2 := ⟨by decide +kernel, rfl⟩
theorem aX12_seed_2 : decode mX12_seed.2.1 2 = .ok (.iload_n 1, 1) ∧ 2 + 1 = 3 := ⟨by decide +kernel, rfl⟩
theorem aX12_seed_3 : decode mX12_seed.2.1 3 = .ok (.invokevirtual 222, 3) ∧ 3 + 3 = 6 := ⟨by decide +kernel, rfl⟩
theorem aX12_seed_6 : decode mX12_seed.2.1 6 = .ok (.ireturn, 1) := by decide +kernel
theorem S_X12_seed {E : EE} {d : Nat} {I : IH} {Q : QT} (x1 : Int32) (h :
(Mt E d mX12_becomes [.ref (eb E + 115), .int (nI 5), .int x1] I (fun rv I1 => ∃ v2 : Int32, rv = some (.int v2) ∧
 Q (some (.int v2)) I1))) : Mt E (d + 1) mX12_seed [.ref (eb E + 115), .int x1] I Q := by
  refine Mt_of [(0, .ref (eb E + 115)), (1, .int x1)] (by decide +kernel) (by simp [lg_sl, Value.category, mX12_seed]) rfl ?_
  refine J_aload_n 0 aX12_seed_0 rfl ?_
  refine J_iconst (nI 5) aX12_seed_1 (by decide +kernel) ?_
  refine J_iload_n 1 aX12_seed_2 rfl ?_
  refine J_callV [.int (nI 5), .int x1] [] aX12_seed_3 lkX12_222_X12 okX12_becomes sh115 rfl rfl rfl (Nat.le_of_ble_eq_true rfl) (Nat.le_refl _) (Mt_mono h (fun rv I1 h => ?_))
  obtain ⟨v2, rfl, h⟩ := h
  refine J_r1 ?_
  exact J_iret aX12_seed_6 rfl h
theorem aX12_byLot_0 : decode mX12_byLot.2.1 0 = .ok (.aload_n 0, 1) ∧ 0 + 1 = 1 := ⟨by decide +kernel, rfl⟩
theorem aX12_byLot_1 : decode mX12_byLot.2.1 1 = .ok (.getfield 9, 3) ∧ 1 + 3 = 4 := ⟨by decide +kernel, rfl⟩
theorem aX12_byLot_4 : decode mX12_byLot.2.1 4 = .ok (.iconst 5, 1) ∧ 4 + 1 = 5 := ⟨by decide +kernel, rfl⟩
theorem aX12_byLot_5 : decode mX12_byLot.2.1 5 = .ok (.aload_n 0, 1) ∧ 5 + 1 = 6 := ⟨by decide +kernel, rfl⟩
theorem aX12_byLot_6 : decode mX12_byLot.2.1 6 = .ok (.getfield 9, 3) ∧ 6 + 3 = 9 := ⟨by decide +kernel, rfl⟩
theorem aX12_byLot_9 : decode mX12_byLot.2.1 9 = .ok (.iconst 5, 1) ∧ 9 + 1 = 10 := ⟨by decide +kernel, rfl⟩
theorem aX12_byLot_10 : decode mX12_byLot.2.1 10 = .ok (.iaload, 1) ∧ 10 + 1 = 11 := ⟨by decide +kernel, rfl⟩
theorem aX12_byLot_11 : decode mX12_byLot.2.1 11 = .ok (.ldc_w 318, 3) ∧ 11 + 3 = 14 := ⟨by decide +kernel, rfl⟩
theorem aX12_byLot_14 : decode mX12_byLot.2.1 14 = .ok (.imul, 1) ∧ 14 + 1 = 15 := ⟨by decide +kernel, rfl⟩
theorem aX12_byLot_15 : decode mX12_byLot.2.1 15 = .ok (.sipush 12345, 3) ∧ 15 + 3 = 18 := ⟨by decide +kernel, rfl⟩
theorem aX12_byLot_18 : decode mX12_byLot.2.1 18 = .ok (.iadd, 1) ∧ 18 + 1 = 19 := ⟨by decide +kernel, rfl⟩
theorem aX12_byLot_19 : decode mX12_byLot.2.1 19 = .ok (.iastore, 1) ∧ 19 + 1 = 20 := ⟨by decide +kernel, rfl⟩
theorem aX12_byLot_20 : decode mX12_byLot.2.1 20 = .ok (.aload_n 0, 1) ∧ 20 + 1 = 21 := ⟨by decide +kernel, rfl⟩
theorem aX12_byLot_21 : decode mX12_byLot.2.1 21 = .ok (.aload_n 0, 1) ∧ 21 + 1 = 22 := ⟨by decide +kernel, rfl⟩
theorem aX12_byLot_22 : decode mX12_byLot.2.1 22 = .ok (.getfield 9, 3) ∧ 22 + 3 = 25 := ⟨by decide +kernel, rfl⟩
theorem aX12_byLot_25 : decode mX12_byLot.2.1 25 = .ok (.iconst 5, 1) ∧ 25 + 1 = 26 := ⟨by decide +kernel, rfl⟩
theorem aX12_byLot_26 : decode mX12_byLot.2.1 26 = .ok (.iaload, 1) ∧ 26 + 1 = 27 := ⟨by decide +kernel, rfl⟩
theorem aX12_byLot_27 : decode mX12_byLot.2.1 27 = .ok (.bipush 16, 2) ∧ 27 + 2 = 29 := ⟨by decide +kernel, rfl⟩
theorem aX12_byLot_29 : decode mX12_byLot.2.1 29 = .ok (.iushr, 1) ∧ 29 + 1 = 30 := ⟨by decide +kernel, rfl⟩
theorem aX12_byLot_30 : decode mX12_byLot.2.1 30 = .ok (.aload_n 0, 1) ∧ 30 + 1 = 31 := ⟨by decide +kernel, rfl⟩
theorem aX12_byLot_31 : decode mX12_byLot.2.1 31 = .ok (.getfield 9, 3) ∧ 31 + 3 = 34 := ⟨by decide +kernel, rfl⟩
theorem aX12_byLot_34 : decode mX12_byLot.2.1 34 = .ok (.bipush 6, 2) ∧ 34 + 2 = 36 := ⟨by decide +kernel, rfl⟩
theorem aX12_byLot_36 : decode mX12_byLot.2.1 36 = .ok (.iaload, 1) ∧ 36 + 1 = 37 := ⟨by decide +kernel, rfl⟩
theorem aX12_byLot_37 : decode mX12_byLot.2.1 37 = .ok (.iconst 1, 1) ∧ 37 + 1 = 38 := ⟨by decide +kernel, rfl⟩
theorem aX12_byLot_38 : decode mX12_byLot.2.1 38 = .ok (.iadd, 1) ∧ 38 + 1 = 39 := ⟨by decide +kernel, rfl⟩
theorem aX12_byLot_39 : decode mX12_byLot.2.1 39 = .ok (.irem, 1) ∧ 39 + 1 = 40 := ⟨by decide +kernel, rfl⟩
theorem aX12_byLot_40 : decode mX12_byLot.2.1 40 = .ok (.invokevirtual 234, 3) ∧ 40 + 3 = 43 := ⟨by decide +kernel, rfl⟩
theorem aX12_byLot_43 : decode mX12_byLot.2.1 43 = .ok (.ireturn, 1) := by decide +kernel
theorem S_X12_byLot {E : EE} {d : Nat} {I : IH} {Q : QT}  (h :
(∀ I1 : IH, I1 = stI I 116 5 (((I 116 5) * (nI 1103515245)) + (nI 12345)) →
 (¬ ((I1 116 6) + (nI 1)) = 0 ∧ (Mt E d mX12_goesBy [.ref (eb E + 115), .int ((ushr (I1 116 5) (nI 16)) - (ushr (I1 116 5) (nI 16)) / ((I1 116 6) + (nI 1)) * ((I1 116 6) + (nI 1)))] I1 (fun rv I4 => ∃ v5 : Int32, rv = some (.int v5) ∧
 Q (some (.int v5)) I4))))) : Mt E (d + 1) mX12_byLot [.ref (eb E + 115)] I Q := by
  refine Mt_of [(0, .ref (eb E + 115))] (by decide +kernel) (by simp [lg_sl, Value.category, mX12_byLot]) rfl ?_
  refine J_aload_n 0 aX12_byLot_0 rfl ?_
  refine J_getR aX12_byLot_1 flX12_9 sh115 rfl ?_
  refine J_iconst (nI 5) aX12_byLot_4 (by decide +kernel) ?_
  refine J_aload_n 0 aX12_byLot_5 rfl ?_
  refine J_getR aX12_byLot_6 flX12_9 sh115 rfl ?_
  refine J_iconst (nI 5) aX12_byLot_9 (by decide +kernel) ?_
  refine J_iaload 5 aX12_byLot_10 sh116 rfl (by decide) (by decide) ?_
  refine J_ldcw (nI 1103515245) aX12_byLot_11 (gx7 154 rfl rfl) ?_
  refine J_imul aX12_byLot_14 ?_
  refine J_sipush (nI 12345) aX12_byLot_15 (by decide +kernel) ?_
  refine J_iadd aX12_byLot_18 ?_
  refine J_iastore 5 aX12_byLot_19 sh116 rfl (by decide) (by decide) (fun I1 e2 => ?_)
  replace h := h I1 e2
  refine J_aload_n 0 aX12_byLot_20 rfl ?_
  refine J_aload_n 0 aX12_byLot_21 rfl ?_
  refine J_getR aX12_byLot_22 flX12_9 sh115 rfl ?_
  refine J_iconst (nI 5) aX12_byLot_25 (by decide +kernel) ?_
  refine J_iaload 5 aX12_byLot_26 sh116 rfl (by decide) (by decide) ?_
  refine J_bipush (nI 16) aX12_byLot_27 (by decide +kernel) ?_
  refine J_iushr aX12_byLot_29 ?_
  refine J_aload_n 0 aX12_byLot_30 rfl ?_
  refine J_getR aX12_byLot_31 flX12_9 sh115 rfl ?_
  refine J_bipush (nI 6) aX12_byLot_34 (by decide +kernel) ?_
  refine J_iaload 6 aX12_byLot_36 sh116 rfl (by decide) (by decide) ?_
  refine J_iconst (nI 1) aX12_byLot_37 (by decide +kernel) ?_
  refine J_iadd aX12_byLot_38 ?_
  obtain ⟨n3, h⟩ := h
  refine J_irem aX12_byLot_39 n3 ?_
  refine J_callV [.int ((ushr (I1 116 5) (nI 16)) - (ushr (I1 116 5) (nI 16)) / ((I1 116 6) + (nI 1)) * ((I1 116 6) + (nI 1)))] [] aX12_byLot_40 lkX12_234_X12 okX12_goesBy sh115 rfl rfl rfl (Nat.le_of_ble_eq_true rfl) (Nat.le_refl _) (Mt_mono h (fun rv I4 h => ?_))
  obtain ⟨v5, rfl, h⟩ := h
  refine J_r1 ?_
  exact J_iret aX12_byLot_43 rfl h
theorem aX12_lot_0 : decode mX12_lot.2.1 0 = .ok (.aload_n 0, 1) ∧ 0 + 1 = 1 := ⟨by decide +kernel, rfl⟩
theorem aX12_lot_1 : decode mX12_lot.2.1 1 = .ok (.invokevirtual 228, 3) ∧ 1 + 3 = 4 := ⟨by decide +kernel, rfl⟩
theorem aX12_lot_4 : decode mX12_lot.2.1 4 = .ok (.ifCond .eq 8, 3) ∧ ((4 : Nat) : Int) + 8 = ((12 : Nat) : Int) ∧ 4 + 3 = 7 := ⟨by decide +kernel, by decide, rfl⟩
theorem aX12_lot_7 : decode mX12_lot.2.1 7 = .ok (.bipush (-4), 2) ∧ 7 + 2 = 9 := ⟨by decide +kernel, rfl⟩
theorem aX12_lot_9 : decode mX12_lot.2.1 9 = .ok (.goto 7, 3) ∧ ((9 : Nat) : Int) + 7 = ((16 : Nat) : Int) := ⟨by decide +kernel, by decide⟩
theorem aX12_lot_12 : decode mX12_lot.2.1 12 = .ok (.aload_n 0, 1) ∧ 12 + 1 = 13 := ⟨by decide +kernel, rfl⟩
theorem aX12_lot_13 : decode mX12_lot.2.1 13 = .ok (.invokevirtual 319, 3) ∧ 13 + 3 = 16 := ⟨by decide +kernel, rfl⟩
theorem aX12_lot_16 : decode mX12_lot.2.1 16 = .ok (.ireturn, 1) := by decide +kernel
theorem S_X12_lot {E : EE} {d : Nat} {I : IH} {Q : QT}  (h :
(Mt E d mX12_isOver [.ref (eb E + 115)] I (fun rv I1 => ∃ v2 : Int32, rv = some (.int v2) ∧
 ((v2 = 0 → (Mt E d mX12_byLot [.ref (eb E + 115)] I1 (fun rv I3 => ∃ v4 : Int32, rv = some (.int v4) ∧
 Q (some (.int v4)) I3))) ∧
 (¬ v2 = 0 → Q (some (.int (-4))) I1))))) : Mt E (d + 1) mX12_lot [.ref (eb E + 115)] I Q := by
  refine Mt_of [(0, .ref (eb E + 115))] (by decide +kernel) (by simp [lg_sl, Value.category, mX12_lot]) rfl ?_
  refine J_aload_n 0 aX12_lot_0 rfl ?_
  refine J_callV [] [] aX12_lot_1 lkX12_228_X12 okX12_isOver sh115 rfl rfl rfl (Nat.le_of_ble_eq_true rfl) (Nat.le_refl _) (Mt_mono h (fun rv I1 h => ?_))
  obtain ⟨v2, rfl, h⟩ := h
  refine J_r1 ?_
  refine J_if_eq aX12_lot_4 (fun q => ?_) (fun q => ?_)
  · replace h := h.1 q
    refine J_aload_n 0 aX12_lot_12 rfl ?_
    refine J_callV [] [] aX12_lot_13 lkX12_319_X12 okX12_byLot sh115 rfl rfl rfl (Nat.le_of_ble_eq_true rfl) (Nat.le_refl _) (Mt_mono h (fun rv I3 h => ?_))
    obtain ⟨v4, rfl, h⟩ := h
    refine J_r1 ?_
    exact J_iret aX12_lot_16 rfl h
  · replace h := h.2 q
    refine J_bipush (-4) aX12_lot_7 (by decide +kernel) ?_
    refine J_goto aX12_lot_9 ?_
    exact J_iret aX12_lot_16 rfl h
theorem aX12_times_0 : decode mX12_times.2.1 0 = .ok (.iload_n 1, 1) ∧ 0 + 1 = 1 := ⟨by decide +kernel, rfl⟩
theorem aX12_times_1 : decode mX12_times.2.1 1 = .ok (.iconst 1, 1) ∧ 1 + 1 = 2 := ⟨by decide +kernel, rfl⟩
theorem aX12_times_2 : decode mX12_times.2.1 2 = .ok (.bipush 40, 2) ∧ 2 + 2 = 4 := ⟨by decide +kernel, rfl⟩
theorem aX12_times_4 : decode mX12_times.2.1 4 = .ok (.invokestatic 68, 3) ∧ 4 + 3 = 7 := ⟨by decide +kernel, rfl⟩
theorem aX12_times_7 : decode mX12_times.2.1 7 = .ok (.ifCond .eq 14, 3) ∧ ((7 : Nat) : Int) + 14 = ((21 : Nat) : Int) ∧ 7 + 3 = 10 := ⟨by decide +kernel, by decide, rfl⟩
theorem aX12_times_10 : decode mX12_times.2.1 10 = .ok (.iload_n 2, 1) ∧ 10 + 1 = 11 := ⟨by decide +kernel, rfl⟩
theorem aX12_times_11 : decode mX12_times.2.1 11 = .ok (.iconst 0, 1) ∧ 11 + 1 = 12 := ⟨by decide +kernel, rfl⟩
theorem aX12_times_12 : decode mX12_times.2.1 12 = .ok (.sipush 999, 3) ∧ 12 + 3 = 15 := ⟨by decide +kernel, rfl⟩
theorem aX12_times_15 : decode mX12_times.2.1 15 = .ok (.invokestatic 68, 3) ∧ 15 + 3 = 18 := ⟨by decide +kernel, rfl⟩
theorem aX12_times_18 : decode mX12_times.2.1 18 = .ok (.ifCond .ne 5, 3) ∧ ((18 : Nat) : Int) + 5 = ((23 : Nat) : Int) ∧ 18 + 3 = 21 := ⟨by decide +kernel, by decide, rfl⟩
theorem aX12_times_21 : decode mX12_times.2.1 21 = .ok (.iconst (-1), 1) ∧ 21 + 1 = 22 := ⟨by decide +kernel, rfl⟩
theorem aX12_times_22 : decode mX12_times.2.1 22 = .ok (.ireturn, 1) := by decide +kernel
theorem aX12_times_23 : decode mX12_times.2.1 23 = .ok (.aload_n 0, 1) ∧ 23 + 1 = 24 := ⟨by decide +kernel, rfl⟩
theorem aX12_times_24 : decode mX12_times.2.1 24 = .ok (.invokevirtual 237, 3) ∧ 24 + 3 = 27 := ⟨by decide +kernel, rfl⟩
theorem aX12_times_27 : decode mX12_times.2.1 27 = .ok (.iconst 0, 1) ∧ 27 + 1 = 28 := ⟨by decide +kernel, rfl⟩
theorem aX12_times_28 : decode mX12_times.2.1 28 = .ok (.istore_n 3, 1) ∧ 28 + 1 = 29 := ⟨by decide +kernel, rfl⟩
theorem aX12_times_29 : decode mX12_times.2.1 29 = .ok (.iconst 0, 1) ∧ 29 + 1 = 30 := ⟨by decide +kernel, rfl⟩
theorem aX12_times_30 : decode mX12_times.2.1 30 = .ok (.istore 4, 2) ∧ 30 + 2 = 32 := ⟨by decide +kernel, rfl⟩
theorem aX12_times_32 : decode mX12_times.2.1 32 = .ok (.iload 4, 2) ∧ 32 + 2 = 34 := ⟨by decide +kernel, rfl⟩
theorem aX12_times_34 : decode mX12_times.2.1 34 = .ok (.iload_n 1, 1) ∧ 34 + 1 = 35 := ⟨by decide +kernel, rfl⟩
theorem aX12_times_35 : decode mX12_times.2.1 35 = .ok (.if_icmp .ge 65, 3) ∧ ((35 : Nat) : Int) + 65 = ((100 : Nat) : Int) ∧ 35 + 3 = 38 := ⟨by decide +kernel, by decide, rfl⟩
theorem aX12_times_38 : decode mX12_times.2.1 38 = .ok (.iconst 0, 1) ∧ 38 + 1 = 39 := ⟨by decide +kernel, rfl⟩
theorem aX12_times_39 : decode mX12_times.2.1 39 = .ok (.istore 5, 2) ∧ 39 + 2 = 41 := ⟨by decide +kernel, rfl⟩
theorem aX12_times_41 : decode mX12_times.2.1 41 = .ok (.aload_n 0, 1) ∧ 41 + 1 = 42 := ⟨by decide +kernel, rfl⟩
theorem aX12_times_42 : decode mX12_times.2.1 42 = .ok (.invokevirtual 228, 3) ∧ 42 + 3 = 45 := ⟨by decide +kernel, rfl⟩
theorem aX12_times_45 : decode mX12_times.2.1 45 = .ok (.ifCond .ne 15, 3) ∧ ((45 : Nat) : Int) + 15 = ((60 : Nat) : Int) ∧ 45 + 3 = 48 := ⟨by decide +kernel, by decide, rfl⟩
theorem aX12_times_48 : decode mX12_times.2.1 48 = .ok (.iload 5, 2) ∧ 48 + 2 = 50 := ⟨by decide +kernel, rfl⟩
theorem aX12_times_50 : decode mX12_times.2.1 50 = .ok (.aload_n 0, 1) ∧ 50 + 1 = 51 := ⟨by decide +kernel, rfl⟩
theorem aX12_times_51 : decode mX12_times.2.1 51 = .ok (.invokevirtual 319, 3) ∧ 51 + 3 = 54 := ⟨by decide +kernel, rfl⟩
theorem aX12_times_54 : decode mX12_times.2.1 54 = .ok (.iadd, 1) ∧ 54 + 1 = 55 := ⟨by decide +kernel, rfl⟩
theorem aX12_times_55 : decode mX12_times.2.1 55 = .ok (.istore 5, 2) ∧ 55 + 2 = 57 := ⟨by decide +kernel, rfl⟩
theorem aX12_times_57 : decode mX12_times.2.1 57 = .ok (.goto (-16), 3) ∧ ((57 : Nat) : Int) + (-16) = ((41 : Nat) : Int) := ⟨by decide +kernel, by decide⟩
theorem aX12_times_60 : decode mX12_times.2.1 60 = .ok (.iload_n 3, 1) ∧ 60 + 1 = 61 := ⟨by decide +kernel, rfl⟩
theorem aX12_times_61 : decode mX12_times.2.1 61 = .ok (.iload 5, 2) ∧ 61 + 2 = 63 := ⟨by decide +kernel, rfl⟩
theorem aX12_times_63 : decode mX12_times.2.1 63 = .ok (.iload_n 2, 1) ∧ 63 + 1 = 64 := ⟨by decide +kernel, rfl⟩
theorem aX12_times_64 : decode mX12_times.2.1 64 = .ok (.if_icmp .lt 7, 3) ∧ ((64 : Nat) : Int) + 7 = ((71 : Nat) : Int) ∧ 64 + 3 = 67 := ⟨by decide +kernel, by decide, rfl⟩
theorem aX12_times_67 : decode mX12_times.2.1 67 = .ok (.iconst 1, 1) ∧ 67 + 1 = 68 := ⟨by decide +kernel, rfl⟩
theorem aX12_times_68 : decode mX12_times.2.1 68 = .ok (.goto 4, 3) ∧ ((68 : Nat) : Int) + 4 = ((72 : Nat) : Int) := ⟨by decide +kernel, by decide⟩
theorem aX12_times_71 : decode mX12_times.2.1 71 = .ok (.iconst 0, 1) ∧ 71 + 1 = 72 := ⟨by decide +kernel, rfl⟩
theorem aX12_times_72 : decode mX12_times.2.1 72 = .ok (.iadd, 1) ∧ 72 + 1 = 73 := ⟨by decide +kernel, rfl⟩
theorem aX12_times_73 : decode mX12_times.2.1 73 = .ok (.istore_n 3, 1) ∧ 73 + 1 = 74 := ⟨by decide +kernel, rfl⟩
theorem aX12_times_74 : decode mX12_times.2.1 74 = .ok (.aload_n 0, 1) ∧ 74 + 1 = 75 := ⟨by decide +kernel, rfl⟩
theorem aX12_times_75 : decode mX12_times.2.1 75 = .ok (.getfield 9, 3) ∧ 75 + 3 = 78 := ⟨by decide +kernel, rfl⟩
theorem aX12_times_78 : decode mX12_times.2.1 78 = .ok (.iconst 5, 1) ∧ 78 + 1 = 79 := ⟨by decide +kernel, rfl⟩
theorem aX12_times_79 : decode mX12_times.2.1 79 = .ok (.iaload, 1) ∧ 79 + 1 = 80 := ⟨by decide +kernel, rfl⟩
theorem aX12_times_80 : decode mX12_times.2.1 80 = .ok (.istore 6, 2) ∧ 80 + 2 = 82 := ⟨by decide +kernel, rfl⟩
theorem aX12_times_82 : decode mX12_times.2.1 82 = .ok (.aload_n 0, 1) ∧ 82 + 1 = 83 := ⟨by decide +kernel, rfl⟩
theorem aX12_times_83 : decode mX12_times.2.1 83 = .ok (.invokevirtual 243, 3) ∧ 83 + 3 = 86 := ⟨by decide +kernel, rfl⟩
theorem aX12_times_86 : decode mX12_times.2.1 86 = .ok (.aload_n 0, 1) ∧ 86 + 1 = 87 := ⟨by decide +kernel, rfl⟩
theorem aX12_times_87 : decode mX12_times.2.1 87 = .ok (.getfield 9, 3) ∧ 87 + 3 = 90 := ⟨by decide +kernel, rfl⟩
theorem aX12_times_90 : decode mX12_times.2.1 90 = .ok (.iconst 5, 1) ∧ 90 + 1 = 91 := ⟨by decide +kernel, rfl⟩
theorem aX12_times_91 : decode mX12_times.2.1 91 = .ok (.iload 6, 2) ∧ 91 + 2 = 93 := ⟨by decide +kernel, rfl⟩
theorem aX12_times_93 : decode mX12_times.2.1 93 = .ok (.iastore, 1) ∧ 93 + 1 = 94 := ⟨by decide +kernel, rfl⟩
theorem aX12_times_94 : decode mX12_times.2.1 94 = .ok (.iinc 4 1, 3) ∧ 94 + 3 = 97 := ⟨by decide +kernel, rfl⟩
theorem aX12_times_97 : decode mX12_times.2.1 97 = .ok (.goto (-65), 3) ∧ ((97 : Nat) : Int) + (-65) = ((32 : Nat) : Int) := ⟨by decide +kernel, by decide⟩
theorem aX12_times_100 : decode mX12_times.2.1 100 = .ok (.aload_n 0, 1) ∧ 100 + 1 = 101 := ⟨by decide +kernel, rfl⟩
theorem aX12_times_101 : decode mX12_times.2.1 101 = .ok (.invokevirtual 243, 3) ∧ 101 + 3 = 104 := ⟨by decide +kernel, rfl⟩
theorem aX12_times_104 : decode mX12_times.2.1 104 = .ok (.iload_n 3, 1) ∧ 104 + 1 = 105 := ⟨by decide +kernel, rfl⟩
theorem aX12_times_105 : decode mX12_times.2.1 105 = .ok (.ireturn, 1) := by decide +kernel
theorem S_X12_times {E : EE} {d : Nat} {I : IH} {Q : QT} (x1 : Int32) (x2 : Int32) (h :
(Mt E d mX12_in1 [.int x1, .int (nI 1), .int (nI 40)] I (fun rv I1 => ∃ v2 : Int32, rv = some (.int v2) ∧
 ((v2 = 0 → Q (some (.int (-1))) I1) ∧
 (¬ v2 = 0 → (Mt E d mX12_in1 [.int x2, .int (nI 0), .int (nI 999)] I1 (fun rv I3 => ∃ v4 : Int32, rv = some (.int v4) ∧
 ((¬ v4 = 0 → (Mt E d mX12_layDown [.ref (eb E + 115)] I3 (fun rv I5 => rv = none ∧
 J E (d + 1) mX12_times 32 [(0, .ref (eb E + 115)), (1, .int x1), (2, .int x2), (3, .int (nI 0)), (4, .int (nI 0))] [] I5 Q))) ∧
 (v4 = 0 → Q (some (.int (-1))) I3))))))))) : Mt E (d + 1) mX12_times [.ref (eb E + 115), .int x1, .int x2] I Q := by
  refine Mt_of [(0, .ref (eb E + 115)), (1, .int x1), (2, .int x2)] (by decide +kernel) (by simp [lg_sl, Value.category, mX12_times]) rfl ?_
  refine J_iload_n 1 aX12_times_0 rfl ?_
  refine J_iconst (nI 1) aX12_times_1 (by decide +kernel) ?_
  refine J_bipush (nI 40) aX12_times_2 (by decide +kernel) ?_
  refine J_callS [.int x1, .int (nI 1), .int (nI 40)] [] aX12_times_4 lkX12_68 okX12_in1 rfl rfl (Nat.le_of_ble_eq_true rfl) (Nat.le_refl _) (Mt_mono h (fun rv I1 h => ?_))
  obtain ⟨v2, rfl, h⟩ := h
  refine J_r1 ?_
  refine J_if_eq aX12_times_7 (fun q => ?_) (fun q => ?_)
  · replace h := h.1 q
    refine J_iconst (-1) aX12_times_21 (by decide +kernel) ?_
    exact J_iret aX12_times_22 rfl h
  · replace h := h.2 q
    refine J_iload_n 2 aX12_times_10 rfl ?_
    refine J_iconst (nI 0) aX12_times_11 (by decide +kernel) ?_
    refine J_sipush (nI 999) aX12_times_12 (by decide +kernel) ?_
    refine J_callS [.int x2, .int (nI 0), .int (nI 999)] [] aX12_times_15 lkX12_68 okX12_in1 rfl rfl (Nat.le_of_ble_eq_true rfl) (Nat.le_refl _) (Mt_mono h (fun rv I3 h => ?_))
    obtain ⟨v4, rfl, h⟩ := h
    refine J_r1 ?_
    refine J_if_ne aX12_times_18 (fun q => ?_) (fun q => ?_)
    · replace h := h.1 q
      refine J_aload_n 0 aX12_times_23 rfl ?_
      refine J_callV [] [] aX12_times_24 lkX12_237_X12 okX12_layDown sh115 rfl rfl rfl (Nat.le_of_ble_eq_true rfl) (Nat.le_refl _) (Mt_mono h (fun rv I5 h => ?_))
      obtain ⟨rfl, h⟩ := h
      refine J_r0 ?_
      refine J_iconst (nI 0) aX12_times_27 (by decide +kernel) ?_
      refine J_istore_n [(3, .int (nI 0)), (0, .ref (eb E + 115)), (1, .int x1), (2, .int x2)] aX12_times_28 (by decide) rfl ?_
      refine J_iconst (nI 0) aX12_times_29 (by decide +kernel) ?_
      refine J_istore [(4, .int (nI 0)), (3, .int (nI 0)), (0, .ref (eb E + 115)), (1, .int x1), (2, .int x2)] aX12_times_30 (by decide) rfl ?_
      refine J_pick [2, 3, 4, 1, 0] rfl ?_
      exact h
    · replace h := h.2 q
      refine J_iconst (-1) aX12_times_21 (by decide +kernel) ?_
      exact J_iret aX12_times_22 rfl h
theorem S_X12_times_32 {E : EE} {d : Nat} {I : IH} {Q : QT} (x1 : Int32) (x2 : Int32) (x3 : Int32) (x4 : Int32) (h :
((x1 ≤ x4 → (Mt E d mX12_layBack [.ref (eb E + 115)] I (fun rv I1 => rv = none ∧
 Q (some (.int x3)) I1))) ∧
 (¬ x1 ≤ x4 → J E (d + 1) mX12_times 41 [(0, .ref (eb E + 115)), (1, .int x1), (2, .int x2), (3, .int x3), (4, .int x4), (5, .int (nI 0))] [] I Q))) : J E (d + 1) mX12_times 32 [(0, .ref (eb E + 115)), (1, .int x1), (2, .int x2), (3, .int x3), (4, .int x4)] [] I Q := by
  refine J_iload 4 aX12_times_32 rfl ?_
  refine J_iload_n 1 aX12_times_34 rfl ?_
  refine J_icmp_ge aX12_times_35 (fun q => ?_) (fun q => ?_)
  · replace h := h.1 q
    refine J_aload_n 0 aX12_times_100 rfl ?_
    refine J_callV [] [] aX12_times_101 lkX12_243_X12 okX12_layBack sh115 rfl rfl rfl (Nat.le_of_ble_eq_true rfl) (Nat.le_refl _) (Mt_mono h (fun rv I1 h => ?_))
    obtain ⟨rfl, h⟩ := h
    refine J_r0 ?_
    refine J_iload_n 3 aX12_times_104 rfl ?_
    exact J_iret aX12_times_105 rfl h
  · replace h := h.2 q
    refine J_iconst (nI 0) aX12_times_38 (by decide +kernel) ?_
    refine J_istore [(5, .int (nI 0)), (0, .ref (eb E + 115)), (1, .int x1), (2, .int x2), (3, .int x3), (4, .int x4)] aX12_times_39 (by decide) rfl ?_
    refine J_pick [1, 2, 3, 4, 5, 0] rfl ?_
    exact h
theorem S_X12_times_41 {E : EE} {d : Nat} {I : IH} {Q : QT} (x1 : Int32) (x2 : Int32) (x3 : Int32) (x4 : Int32) (x5 : Int32) (h :
(Mt E d mX12_isOver [.ref (eb E + 115)] I (fun rv I1 => ∃ v2 : Int32, rv = some (.int v2) ∧
 ((¬ v2 = 0 → ((x5 < x2 → J E (d + 1) mX12_times 72 [(0, .ref (eb E + 115)), (1, .int x1), (2, .int x2), (4, .int x4)] [.int (nI 0), .int x3] I1 Q) ∧
 (¬ x5 < x2 → J E (d + 1) mX12_times 72 [(0, .ref (eb E + 115)), (1, .int x1), (2, .int x2), (4, .int x4)] [.int (nI 1), .int x3] I1 Q))) ∧
 (v2 = 0 → (Mt E d mX12_byLot [.ref (eb E + 115)] I1 (fun rv I3 => ∃ v4 : Int32, rv = some (.int v4) ∧
 J E (d + 1) mX12_times 41 [(0, .ref (eb E + 115)), (1, .int x1), (2, .int x2), (3, .int x3), (4, .int x4), (5, .int (x5 + v4))] [] I3 Q))))))) : J E (d + 1) mX12_times 41 [(0, .ref (eb E + 115)), (1, .int x1), (2, .int x2), (3, .int x3), (4, .int x4), (5, .int x5)] [] I Q := by
  refine J_aload_n 0 aX12_times_41 rfl ?_
  refine J_callV [] [] aX12_times_42 lkX12_228_X12 okX12_isOver sh115 rfl rfl rfl (Nat.le_of_ble_eq_true rfl) (Nat.le_refl _) (Mt_mono h (fun rv I1 h => ?_))
  obtain ⟨v2, rfl, h⟩ := h
  refine J_r1 ?_
  refine J_if_ne aX12_times_45 (fun q => ?_) (fun q => ?_)
  · replace h := h.1 q
    refine J_iload_n 3 aX12_times_60 rfl ?_
    refine J_iload 5 aX12_times_61 rfl ?_
    refine J_iload_n 2 aX12_times_63 rfl ?_
    refine J_icmp_lt aX12_times_64 (fun q => ?_) (fun q => ?_)
    · replace h := h.1 q
      refine J_iconst (nI 0) aX12_times_71 (by decide +kernel) ?_
      refine J_pick [0, 1, 2, 4] rfl ?_
      exact h
    · replace h := h.2 q
      refine J_iconst (nI 1) aX12_times_67 (by decide +kernel) ?_
      refine J_goto aX12_times_68 ?_
      refine J_pick [0, 1, 2, 4] rfl ?_
      exact h
  · replace h := h.2 q
    refine J_iload 5 aX12_times_48 rfl ?_
    refine J_aload_n 0 aX12_times_50 rfl ?_
    refine J_callV [] [.int x5] aX12_times_51 lkX12_319_X12 okX12_byLot sh115 rfl rfl rfl (Nat.le_of_ble_eq_true rfl) (Nat.le_refl _) (Mt_mono h (fun rv I3 h => ?_))
    obtain ⟨v4, rfl, h⟩ := h
    refine J_r1 ?_
    refine J_iadd aX12_times_54 ?_
    refine J_istore [(5, .int (x5 + v4)), (0, .ref (eb E + 115)), (1, .int x1), (2, .int x2), (3, .int x3), (4, .int x4)] aX12_times_55 (by decide) rfl ?_
    refine J_goto aX12_times_57 ?_
    refine J_pick [1, 2, 3, 4, 5, 0] rfl ?_
    exact h
theorem S_X12_times_72 {E : EE} {d : Nat} {I : IH} {Q : QT} (x1 : Int32) (x2 : Int32) (x4 : Int32) (t0 : Int32) (t1 : Int32) (h :
(Mt E d mX12_layBack [.ref (eb E + 115)] I (fun rv I1 => rv = none ∧
 (∀ I2 : IH, I2 = stI I1 116 5 (I 116 5) →
 J E (d + 1) mX12_times 32 [(0, .ref (eb E + 115)), (1, .int x1), (2, .int x2), (3, .int (t1 + t0)), (4, .int (x4 + nI 1))] [] I2 Q)))) : J E (d + 1) mX12_times 72 [(0, .ref (eb E + 115)), (1, .int x1), (2, .int x2), (4, .int x4)] [.int t0, .int t1] I Q := by
  refine J_iadd aX12_times_72 ?_
  refine J_istore_n [(3, .int (t1 + t0)), (0, .ref (eb E + 115)), (1, .int x1), (2, .int x2), (4, .int x4)] aX12_times_73 (by decide) rfl ?_
  refine J_aload_n 1 aX12_times_74 rfl ?_
  refine J_getR aX12_times_75 flX12_9 sh115 rfl ?_
  refine J_iconst (nI 5) aX12_times_78 (by decide +kernel) ?_
  refine J_iaload 5 aX12_times_79 sh116 rfl (by decide) (by decide) ?_
  refine J_istore [(6, .int (I 116 5)), (3, .int (t1 + t0)), (0, .ref (eb E + 115)), (1, .int x1), (2, .int x2), (4, .int x4)] aX12_times_80 (by decide) rfl ?_
  refine J_aload_n 2 aX12_times_82 rfl ?_
  refine J_callV [] [] aX12_times_83 lkX12_243_X12 okX12_layBack sh115 rfl rfl rfl (Nat.le_of_ble_eq_true rfl) (Nat.le_refl _) (Mt_mono h (fun rv I1 h => ?_))
  obtain ⟨rfl, h⟩ := h
  refine J_r0 ?_
  refine J_aload_n 2 aX12_times_86 rfl ?_
  refine J_getR aX12_times_87 flX12_9 sh115 rfl ?_
  refine J_iconst (nI 5) aX12_times_90 (by decide +kernel) ?_
  refine J_iload 0 aX12_times_91 rfl ?_
  refine J_iastore 5 aX12_times_93 sh116 rfl (by decide) (by decide) (fun I2 e3 => ?_)
  replace h := h I2 e3
  refine J_iinc (x4 + nI 1) [(4, .int (x4 + nI 1)), (6, .int (I 116 5)), (3, .int (t1 + t0)), (0, .ref (eb E + 115)), (1, .int x1), (2, .int x2)] 5 aX12_times_94 rfl (by first | rfl | (congr 1; decide +kernel)) (by decide) rfl ?_
  refine J_goto aX12_times_97 ?_
  refine J_pick [3, 4, 5, 2, 0] rfl ?_
  exact h
theorem aX12_prove_0 : decode mX12_prove.2.1 0 = .ok (.iload_n 1, 1) ∧ 0 + 1 = 1 := ⟨by decide +kernel, rfl⟩
theorem aX12_prove_1 : decode mX12_prove.2.1 1 = .ok (.invokestatic 293, 3) ∧ 1 + 3 = 4 := ⟨by decide +kernel, rfl⟩
theorem aX12_prove_4 : decode mX12_prove.2.1 4 = .ok (.ifCond .ne 5, 3) ∧ ((4 : Nat) : Int) + 5 = ((9 : Nat) : Int) ∧ 4 + 3 = 7 := ⟨by decide +kernel, by decide, rfl⟩
theorem aX12_prove_7 : decode mX12_prove.2.1 7 = .ok (.iconst (-1), 1) ∧ 7 + 1 = 8 := ⟨by decide +kernel, rfl⟩
theorem aX12_prove_8 : decode mX12_prove.2.1 8 = .ok (.ireturn, 1) := by decide +kernel
theorem aX12_prove_9 : decode mX12_prove.2.1 9 = .ok (.aload_n 0, 1) ∧ 9 + 1 = 10 := ⟨by decide +kernel, rfl⟩
theorem aX12_prove_10 : decode mX12_prove.2.1 10 = .ok (.iload_n 1, 1) ∧ 10 + 1 = 11 := ⟨by decide +kernel, rfl⟩
theorem aX12_prove_11 : decode mX12_prove.2.1 11 = .ok (.iconst 0, 1) ∧ 11 + 1 = 12 := ⟨by decide +kernel, rfl⟩
theorem aX12_prove_12 : decode mX12_prove.2.1 12 = .ok (.invokevirtual 296, 3) ∧ 12 + 3 = 15 := ⟨by decide +kernel, rfl⟩
theorem aX12_prove_15 : decode mX12_prove.2.1 15 = .ok (.aload_n 0, 1) ∧ 15 + 1 = 16 := ⟨by decide +kernel, rfl⟩
theorem aX12_prove_16 : decode mX12_prove.2.1 16 = .ok (.aload_n 0, 1) ∧ 16 + 1 = 17 := ⟨by decide +kernel, rfl⟩
theorem aX12_prove_17 : decode mX12_prove.2.1 17 = .ok (.iload_n 1, 1) ∧ 17 + 1 = 18 := ⟨by decide +kernel, rfl⟩
theorem aX12_prove_18 : decode mX12_prove.2.1 18 = .ok (.invokevirtual 290, 3) ∧ 18 + 3 = 21 := ⟨by decide +kernel, rfl⟩
theorem aX12_prove_21 : decode mX12_prove.2.1 21 = .ok (.putfield 322, 3) ∧ 21 + 3 = 24 := ⟨by decide +kernel, rfl⟩
theorem aX12_prove_24 : decode mX12_prove.2.1 24 = .ok (.aload_n 0, 1) ∧ 24 + 1 = 25 := ⟨by decide +kernel, rfl⟩
theorem aX12_prove_25 : decode mX12_prove.2.1 25 = .ok (.invokevirtual 237, 3) ∧ 25 + 3 = 28 := ⟨by decide +kernel, rfl⟩
theorem aX12_prove_28 : decode mX12_prove.2.1 28 = .ok (.iconst 0, 1) ∧ 28 + 1 = 29 := ⟨by decide +kernel, rfl⟩
theorem aX12_prove_29 : decode mX12_prove.2.1 29 = .ok (.istore_n 2, 1) ∧ 29 + 1 = 30 := ⟨by decide +kernel, rfl⟩
theorem aX12_prove_30 : decode mX12_prove.2.1 30 = .ok (.iload_n 2, 1) ∧ 30 + 1 = 31 := ⟨by decide +kernel, rfl⟩
theorem aX12_prove_31 : decode mX12_prove.2.1 31 = .ok (.aload_n 0, 1) ∧ 31 + 1 = 32 := ⟨by decide +kernel, rfl⟩
theorem aX12_prove_32 : decode mX12_prove.2.1 32 = .ok (.getfield 322, 3) ∧ 32 + 3 = 35 := ⟨by decide +kernel, rfl⟩
theorem aX12_prove_35 : decode mX12_prove.2.1 35 = .ok (.if_icmp .ge 58, 3) ∧ ((35 : Nat) : Int) + 58 = ((93 : Nat) : Int) ∧ 35 + 3 = 38 := ⟨by decide +kernel, by decide, rfl⟩
theorem aX12_prove_38 : decode mX12_prove.2.1 38 = .ok (.aload_n 0, 1) ∧ 38 + 1 = 39 := ⟨by decide +kernel, rfl⟩
theorem aX12_prove_39 : decode mX12_prove.2.1 39 = .ok (.getfield 47, 3) ∧ 39 + 3 = 42 := ⟨by decide +kernel, rfl⟩
theorem aX12_prove_42 : decode mX12_prove.2.1 42 = .ok (.iconst 3, 1) ∧ 42 + 1 = 43 := ⟨by decide +kernel, rfl⟩
theorem aX12_prove_43 : decode mX12_prove.2.1 43 = .ok (.iload_n 2, 1) ∧ 43 + 1 = 44 := ⟨by decide +kernel, rfl⟩
theorem aX12_prove_44 : decode mX12_prove.2.1 44 = .ok (.imul, 1) ∧ 44 + 1 = 45 := ⟨by decide +kernel, rfl⟩
theorem aX12_prove_45 : decode mX12_prove.2.1 45 = .ok (.aload_n 0, 1) ∧ 45 + 1 = 46 := ⟨by decide +kernel, rfl⟩
theorem aX12_prove_46 : decode mX12_prove.2.1 46 = .ok (.getfield 41, 3) ∧ 46 + 3 = 49 := ⟨by decide +kernel, rfl⟩
theorem aX12_prove_49 : decode mX12_prove.2.1 49 = .ok (.iload_n 2, 1) ∧ 49 + 1 = 50 := ⟨by decide +kernel, rfl⟩
theorem aX12_prove_50 : decode mX12_prove.2.1 50 = .ok (.iaload, 1) ∧ 50 + 1 = 51 := ⟨by decide +kernel, rfl⟩
theorem aX12_prove_51 : decode mX12_prove.2.1 51 = .ok (.iastore, 1) ∧ 51 + 1 = 52 := ⟨by decide +kernel, rfl⟩
theorem aX12_prove_52 : decode mX12_prove.2.1 52 = .ok (.aload_n 0, 1) ∧ 52 + 1 = 53 := ⟨by decide +kernel, rfl⟩
theorem aX12_prove_53 : decode mX12_prove.2.1 53 = .ok (.getfield 47, 3) ∧ 53 + 3 = 56 := ⟨by decide +kernel, rfl⟩
theorem aX12_prove_56 : decode mX12_prove.2.1 56 = .ok (.iconst 3, 1) ∧ 56 + 1 = 57 := ⟨by decide +kernel, rfl⟩
theorem aX12_prove_57 : decode mX12_prove.2.1 57 = .ok (.iload_n 2, 1) ∧ 57 + 1 = 58 := ⟨by decide +kernel, rfl⟩
theorem aX12_prove_58 : decode mX12_prove.2.1 58 = .ok (.imul, 1) ∧ 58 + 1 = 59 := ⟨by decide +kernel, rfl⟩
theorem aX12_prove_59 : decode mX12_prove.2.1 59 = .ok (.iconst 1, 1) ∧ 59 + 1 = 60 := ⟨by decide +kernel, rfl⟩
theorem aX12_prove_60 : decode mX12_prove.2.1 60 = .ok (.iadd, 1) ∧ 60 + 1 = 61 := ⟨by decide +kernel, rfl⟩
theorem aX12_prove_61 : decode mX12_prove.2.1 61 = .ok (.aload_n 0, 1) ∧ 61 + 1 = 62 := ⟨by decide +kernel, rfl⟩
theorem aX12_prove_62 : decode mX12_prove.2.1 62 = .ok (.aload_n 0, 1) ∧ 62 + 1 = 63 := ⟨by decide +kernel, rfl⟩
theorem aX12_prove_63 : decode mX12_prove.2.1 63 = .ok (.getfield 41, 3) ∧ 63 + 3 = 66 := ⟨by decide +kernel, rfl⟩
theorem aX12_prove_66 : decode mX12_prove.2.1 66 = .ok (.iload_n 2, 1) ∧ 66 + 1 = 67 := ⟨by decide +kernel, rfl⟩
theorem aX12_prove_67 : decode mX12_prove.2.1 67 = .ok (.iaload, 1) ∧ 67 + 1 = 68 := ⟨by decide +kernel, rfl⟩
theorem aX12_prove_68 : decode mX12_prove.2.1 68 = .ok (.invokevirtual 234, 3) ∧ 68 + 3 = 71 := ⟨by decide +kernel, rfl⟩
theorem aX12_prove_71 : decode mX12_prove.2.1 71 = .ok (.iastore, 1) ∧ 71 + 1 = 72 := ⟨by decide +kernel, rfl⟩
theorem aX12_prove_72 : decode mX12_prove.2.1 72 = .ok (.aload_n 0, 1) ∧ 72 + 1 = 73 := ⟨by decide +kernel, rfl⟩
theorem aX12_prove_73 : decode mX12_prove.2.1 73 = .ok (.getfield 47, 3) ∧ 73 + 3 = 76 := ⟨by decide +kernel, rfl⟩
theorem aX12_prove_76 : decode mX12_prove.2.1 76 = .ok (.iconst 3, 1) ∧ 76 + 1 = 77 := ⟨by decide +kernel, rfl⟩
theorem aX12_prove_77 : decode mX12_prove.2.1 77 = .ok (.iload_n 2, 1) ∧ 77 + 1 = 78 := ⟨by decide +kernel, rfl⟩
theorem aX12_prove_78 : decode mX12_prove.2.1 78 = .ok (.imul, 1) ∧ 78 + 1 = 79 := ⟨by decide +kernel, rfl⟩
theorem aX12_prove_79 : decode mX12_prove.2.1 79 = .ok (.iconst 2, 1) ∧ 79 + 1 = 80 := ⟨by decide +kernel, rfl⟩
theorem aX12_prove_80 : decode mX12_prove.2.1 80 = .ok (.iadd, 1) ∧ 80 + 1 = 81 := ⟨by decide +kernel, rfl⟩
theorem aX12_prove_81 : decode mX12_prove.2.1 81 = .ok (.aload_n 0, 1) ∧ 81 + 1 = 82 := ⟨by decide +kernel, rfl⟩
theorem aX12_prove_82 : decode mX12_prove.2.1 82 = .ok (.iconst 4, 1) ∧ 82 + 1 = 83 := ⟨by decide +kernel, rfl⟩
theorem aX12_prove_83 : decode mX12_prove.2.1 83 = .ok (.invokevirtual 231, 3) ∧ 83 + 3 = 86 := ⟨by decide +kernel, rfl⟩
theorem aX12_prove_86 : decode mX12_prove.2.1 86 = .ok (.iastore, 1) ∧ 86 + 1 = 87 := ⟨by decide +kernel, rfl⟩
theorem aX12_prove_87 : decode mX12_prove.2.1 87 = .ok (.iinc 2 1, 3) ∧ 87 + 3 = 90 := ⟨by decide +kernel, rfl⟩
theorem aX12_prove_90 : decode mX12_prove.2.1 90 = .ok (.goto (-60), 3) ∧ ((90 : Nat) : Int) + (-60) = ((30 : Nat) : Int) := ⟨by decide +kernel, by decide⟩
theorem aX12_prove_93 : decode mX12_prove.2.1 93 = .ok (.aload_n 0, 1) ∧ 93 + 1 = 94 := ⟨by decide +kernel, rfl⟩
theorem aX12_prove_94 : decode mX12_prove.2.1 94 = .ok (.invokevirtual 243, 3) ∧ 94 + 3 = 97 := ⟨by decide +kernel, rfl⟩
theorem aX12_prove_97 : decode mX12_prove.2.1 97 = .ok (.aload_n 0, 1) ∧ 97 + 1 = 98 := ⟨by decide +kernel, rfl⟩
theorem aX12_prove_98 : decode mX12_prove.2.1 98 = .ok (.getfield 322, 3) ∧ 98 + 3 = 101 := ⟨by decide +kernel, rfl⟩
theorem aX12_prove_101 : decode mX12_prove.2.1 101 = .ok (.ireturn, 1) := by decide +kernel
theorem S_X12_prove {E : EE} {d : Nat} {I : IH} {Q : QT} (x1 : Int32) (h :
(Mt E d mX12_isPlan [.int x1] I (fun rv I1 => ∃ v2 : Int32, rv = some (.int v2) ∧
 ((¬ v2 = 0 → (Mt E d mX12_triesAll [.ref (eb E + 115), .int x1, .int (nI 0)] I1 (fun rv I3 => rv = none ∧
 (Mt E d mX12_daysOf [.ref (eb E + 115), .int x1] I3 (fun rv I4 => ∃ v5 : Int32, rv = some (.int v5) ∧
 (∀ I6 : IH, I6 = stI I4 115 28 v5 →
 (Mt E d mX12_layDown [.ref (eb E + 115)] I6 (fun rv I8 => rv = none ∧
 J E (d + 1) mX12_prove 30 [(0, .ref (eb E + 115)), (2, .int (nI 0))] [] I8 Q)))))))) ∧
 (v2 = 0 → Q (some (.int (-1))) I1))))) : Mt E (d + 1) mX12_prove [.ref (eb E + 115), .int x1] I Q := by
  refine Mt_of [(0, .ref (eb E + 115)), (1, .int x1)] (by decide +kernel) (by simp [lg_sl, Value.category, mX12_prove]) rfl ?_
  refine J_iload_n 1 aX12_prove_0 rfl ?_
  refine J_callS [.int x1] [] aX12_prove_1 lkX12_293 okX12_isPlan rfl rfl (Nat.le_of_ble_eq_true rfl) (Nat.le_refl _) (Mt_mono h (fun rv I1 h => ?_))
  obtain ⟨v2, rfl, h⟩ := h
  refine J_r1 ?_
  refine J_if_ne aX12_prove_4 (fun q => ?_) (fun q => ?_)
  · replace h := h.1 q
    refine J_aload_n 0 aX12_prove_9 rfl ?_
    refine J_iload_n 1 aX12_prove_10 rfl ?_
    refine J_iconst (nI 0) aX12_prove_11 (by decide +kernel) ?_
    refine J_callV [.int x1, .int (nI 0)] [] aX12_prove_12 lkX12_296_X12 okX12_triesAll sh115 rfl rfl rfl (Nat.le_of_ble_eq_true rfl) (Nat.le_refl _) (Mt_mono h (fun rv I3 h => ?_))
    obtain ⟨rfl, h⟩ := h
    refine J_r0 ?_
    refine J_aload_n 0 aX12_prove_15 rfl ?_
    refine J_aload_n 0 aX12_prove_16 rfl ?_
    refine J_iload_n 1 aX12_prove_17 rfl ?_
    refine J_callV [.int x1] [.ref (eb E + 115)] aX12_prove_18 lkX12_290_X12 okX12_daysOf sh115 rfl rfl rfl (Nat.le_of_ble_eq_true rfl) (Nat.le_refl _) (Mt_mono h (fun rv I4 h => ?_))
    obtain ⟨v5, rfl, h⟩ := h
    refine J_r1 ?_
    refine J_putI aX12_prove_21 fpX12_322 sh115 rfl (fun I6 e7 => ?_)
    replace h := h I6 e7
    refine J_aload_n 0 aX12_prove_24 rfl ?_
    refine J_callV [] [] aX12_prove_25 lkX12_237_X12 okX12_layDown sh115 rfl rfl rfl (Nat.le_of_ble_eq_true rfl) (Nat.le_refl _) (Mt_mono h (fun rv I8 h => ?_))
    obtain ⟨rfl, h⟩ := h
    refine J_r0 ?_
    refine J_iconst (nI 0) aX12_prove_28 (by decide +kernel) ?_
    refine J_istore_n [(2, .int (nI 0)), (0, .ref (eb E + 115)), (1, .int x1)] aX12_prove_29 (by decide) rfl ?_
    refine J_pick [1, 0] rfl ?_
    exact h
  · replace h := h.2 q
    refine J_iconst (-1) aX12_prove_7 (by decide +kernel) ?_
    exact J_iret aX12_prove_8 rfl h
theorem S_X12_prove_30 {E : EE} {d : Nat} {I : IH} {Q : QT} (x2 : Int32) (h :
(((I 115 28) ≤ x2 → (Mt E d mX12_layBack [.ref (eb E + 115)] I (fun rv I1 => rv = none ∧
 Q (some (.int (I1 115 28))) I1))) ∧
 (¬ (I 115 28) ≤ x2 → (∃ j2 : Nat, x2 = nI j2 ∧ j2 < 4 ∧ (∃ j7 : Nat, ((nI 3) * x2) = nI j7 ∧ j7 < 12 ∧ (∀ I5 : IH, I5 = stI I 128 j7 (I 126 j2) →
 (∃ j10 : Nat, x2 = nI j10 ∧ j10 < 4 ∧ (Mt E d mX12_goesBy [.ref (eb E + 115), .int (I5 126 j10)] I5 (fun rv I13 => ∃ v14 : Int32, rv = some (.int v14) ∧
 (∃ j17 : Nat, (((nI 3) * x2) + (nI 1)) = nI j17 ∧ j17 < 12 ∧ (∀ I15 : IH, I15 = stI I13 128 j17 v14 →
 (Mt E d mX12_those [.ref (eb E + 115), .int (nI 4)] I15 (fun rv I20 => ∃ v21 : Int32, rv = some (.int v21) ∧
 (∃ j24 : Nat, (((nI 3) * x2) + (nI 2)) = nI j24 ∧ j24 < 12 ∧ (∀ I22 : IH, I22 = stI I20 128 j24 v21 →
 J E (d + 1) mX12_prove 30 [(0, .ref (eb E + 115)), (2, .int (x2 + nI 1))] [] I22 Q))))))))))))))) : J E (d + 1) mX12_prove 30 [(0, .ref (eb E + 115)), (2, .int x2)] [] I Q := by
  refine J_iload_n 1 aX12_prove_30 rfl ?_
  refine J_aload_n 0 aX12_prove_31 rfl ?_
  refine J_getI aX12_prove_32 flX12_322 sh115 rfl ?_
  refine J_icmp_ge aX12_prove_35 (fun q => ?_) (fun q => ?_)
  · replace h := h.1 q
    refine J_aload_n 0 aX12_prove_93 rfl ?_
    refine J_callV [] [] aX12_prove_94 lkX12_243_X12 okX12_layBack sh115 rfl rfl rfl (Nat.le_of_ble_eq_true rfl) (Nat.le_refl _) (Mt_mono h (fun rv I1 h => ?_))
    obtain ⟨rfl, h⟩ := h
    refine J_r0 ?_
    refine J_aload_n 0 aX12_prove_97 rfl ?_
    refine J_getI aX12_prove_98 flX12_322 sh115 rfl ?_
    exact J_iret aX12_prove_101 rfl h
  · replace h := h.2 q
    refine J_aload_n 0 aX12_prove_38 rfl ?_
    refine J_getR aX12_prove_39 flX12_47 sh115 rfl ?_
    refine J_iconst (nI 3) aX12_prove_42 (by decide +kernel) ?_
    refine J_iload_n 1 aX12_prove_43 rfl ?_
    refine J_imul aX12_prove_44 ?_
    refine J_aload_n 0 aX12_prove_45 rfl ?_
    refine J_getR aX12_prove_46 flX12_41 sh115 rfl ?_
    refine J_iload_n 1 aX12_prove_49 rfl ?_
    obtain ⟨j2, e3, b4, h⟩ := h
    refine J_iaload j2 aX12_prove_50 sh126 e3 b4 (by decide) ?_
    obtain ⟨j7, e8, b9, h⟩ := h
    refine J_iastore j7 aX12_prove_51 sh128 e8 b9 (by decide) (fun I5 e6 => ?_)
    replace h := h I5 e6
    refine J_aload_n 0 aX12_prove_52 rfl ?_
    refine J_getR aX12_prove_53 flX12_47 sh115 rfl ?_
    refine J_iconst (nI 3) aX12_prove_56 (by decide +kernel) ?_
    refine J_iload_n 1 aX12_prove_57 rfl ?_
    refine J_imul aX12_prove_58 ?_
    refine J_iconst (nI 1) aX12_prove_59 (by decide +kernel) ?_
    refine J_iadd aX12_prove_60 ?_
    refine J_aload_n 0 aX12_prove_61 rfl ?_
    refine J_aload_n 0 aX12_prove_62 rfl ?_
    refine J_getR aX12_prove_63 flX12_41 sh115 rfl ?_
    refine J_iload_n 1 aX12_prove_66 rfl ?_
    obtain ⟨j10, e11, b12, h⟩ := h
    refine J_iaload j10 aX12_prove_67 sh126 e11 b12 (by decide) ?_
    refine J_callV [.int (I5 126 j10)] [.int (((nI 3) * x2) + (nI 1)), .ref (eb E + 128)] aX12_prove_68 lkX12_234_X12 okX12_goesBy sh115 rfl rfl rfl (Nat.le_of_ble_eq_true rfl) (Nat.le_refl _) (Mt_mono h (fun rv I13 h => ?_))
    obtain ⟨v14, rfl, h⟩ := h
    refine J_r1 ?_
    obtain ⟨j17, e18, b19, h⟩ := h
    refine J_iastore j17 aX12_prove_71 sh128 e18 b19 (by decide) (fun I15 e16 => ?_)
    replace h := h I15 e16
    refine J_aload_n 0 aX12_prove_72 rfl ?_
    refine J_getR aX12_prove_73 flX12_47 sh115 rfl ?_
    refine J_iconst (nI 3) aX12_prove_76 (by decide +kernel) ?_
    refine J_iload_n 1 aX12_prove_77 rfl ?_
    refine J_imul aX12_prove_78 ?_
    refine J_iconst (nI 2) aX12_prove_79 (by decide +kernel) ?_
    refine J_iadd aX12_prove_80 ?_
    refine J_aload_n 0 aX12_prove_81 rfl ?_
    refine J_iconst (nI 4) aX12_prove_82 (by decide +kernel) ?_
    refine J_callV [.int (nI 4)] [.int (((nI 3) * x2) + (nI 2)), .ref (eb E + 128)] aX12_prove_83 lkX12_231_X12 okX12_those sh115 rfl rfl rfl (Nat.le_of_ble_eq_true rfl) (Nat.le_refl _) (Mt_mono h (fun rv I20 h => ?_))
    obtain ⟨v21, rfl, h⟩ := h
    refine J_r1 ?_
    obtain ⟨j24, e25, b26, h⟩ := h
    refine J_iastore j24 aX12_prove_86 sh128 e25 b26 (by decide) (fun I22 e23 => ?_)
    replace h := h I22 e23
    refine J_iinc (x2 + nI 1) [(2, .int (x2 + nI 1)), (0, .ref (eb E + 115))] 1 aX12_prove_87 rfl (by first | rfl | (congr 1; decide +kernel)) (by decide) rfl ?_
    refine J_goto aX12_prove_90 ?_
    refine J_pick [1, 0] rfl ?_
    exact h
theorem aX12_isRow_0 : decode mX12_isRow.2.1 0 = .ok (.iload_n 1, 1) ∧ 0 + 1 = 1 := ⟨by decide +kernel, rfl⟩
theorem aX12_isRow_1 : decode mX12_isRow.2.1 1 = .ok (.iconst 0, 1) ∧ 1 + 1 = 2 := ⟨by decide +kernel, rfl⟩
theorem aX12_isRow_2 : decode mX12_isRow.2.1 2 = .ok (.aload_n 0, 1) ∧ 2 + 1 = 3 := ⟨by decide +kernel, rfl⟩
theorem aX12_isRow_3 : decode mX12_isRow.2.1 3 = .ok (.getfield 322, 3) ∧ 3 + 3 = 6 := ⟨by decide +kernel, rfl⟩
theorem aX12_isRow_6 : decode mX12_isRow.2.1 6 = .ok (.iconst 1, 1) ∧ 6 + 1 = 7 := ⟨by decide +kernel, rfl⟩
theorem aX12_isRow_7 : decode mX12_isRow.2.1 7 = .ok (.isub, 1) ∧ 7 + 1 = 8 := ⟨by decide +kernel, rfl⟩
theorem aX12_isRow_8 : decode mX12_isRow.2.1 8 = .ok (.invokestatic 68, 3) ∧ 8 + 3 = 11 := ⟨by decide +kernel, rfl⟩
theorem aX12_isRow_11 : decode mX12_isRow.2.1 11 = .ok (.ifCond .eq 16, 3) ∧ ((11 : Nat) : Int) + 16 = ((27 : Nat) : Int) ∧ 11 + 3 = 14 := ⟨by decide +kernel, by decide, rfl⟩
theorem aX12_isRow_14 : decode mX12_isRow.2.1 14 = .ok (.iload_n 2, 1) ∧ 14 + 1 = 15 := ⟨by decide +kernel, rfl⟩
theorem aX12_isRow_15 : decode mX12_isRow.2.1 15 = .ok (.iconst 0, 1) ∧ 15 + 1 = 16 := ⟨by decide +kernel, rfl⟩
theorem aX12_isRow_16 : decode mX12_isRow.2.1 16 = .ok (.iconst 2, 1) ∧ 16 + 1 = 17 := ⟨by decide +kernel, rfl⟩
theorem aX12_isRow_17 : decode mX12_isRow.2.1 17 = .ok (.invokestatic 68, 3) ∧ 17 + 3 = 20 := ⟨by decide +kernel, rfl⟩
theorem aX12_isRow_20 : decode mX12_isRow.2.1 20 = .ok (.ifCond .eq 7, 3) ∧ ((20 : Nat) : Int) + 7 = ((27 : Nat) : Int) ∧ 20 + 3 = 23 := ⟨by decide +kernel, by decide, rfl⟩
theorem aX12_isRow_23 : decode mX12_isRow.2.1 23 = .ok (.iconst 1, 1) ∧ 23 + 1 = 24 := ⟨by decide +kernel, rfl⟩
theorem aX12_isRow_24 : decode mX12_isRow.2.1 24 = .ok (.goto 4, 3) ∧ ((24 : Nat) : Int) + 4 = ((28 : Nat) : Int) := ⟨by decide +kernel, by decide⟩
theorem aX12_isRow_27 : decode mX12_isRow.2.1 27 = .ok (.iconst 0, 1) ∧ 27 + 1 = 28 := ⟨by decide +kernel, rfl⟩
theorem aX12_isRow_28 : decode mX12_isRow.2.1 28 = .ok (.ireturn, 1) := by decide +kernel
theorem S_X12_isRow {E : EE} {d : Nat} {I : IH} {Q : QT} (x1 : Int32) (x2 : Int32) (h :
(Mt E d mX12_in1 [.int x1, .int (nI 0), .int ((I 115 28) - (nI 1))] I (fun rv I1 => ∃ v2 : Int32, rv = some (.int v2) ∧
 ((v2 = 0 → Q (some (.int (nI 0))) I1) ∧
 (¬ v2 = 0 → (Mt E d mX12_in1 [.int x2, .int (nI 0), .int (nI 2)] I1 (fun rv I3 => ∃ v4 : Int32, rv = some (.int v4) ∧
 ((v4 = 0 → Q (some (.int (nI 0))) I3) ∧
 (¬ v4 = 0 → Q (some (.int (nI 1))) I3))))))))) : Mt E (d + 1) mX12_isRow [.ref (eb E + 115), .int x1, .int x2] I Q := by
  refine Mt_of [(0, .ref (eb E + 115)), (1, .int x1), (2, .int x2)] (by decide +kernel) (by simp [lg_sl, Value.category, mX12_isRow]) rfl ?_
  refine J_iload_n 1 aX12_isRow_0 rfl ?_
  refine J_iconst (nI 0) aX12_isRow_1 (by decide +kernel) ?_
  refine J_aload_n 0 aX12_isRow_2 rfl ?_
  refine J_getI aX12_isRow_3 flX12_322 sh115 rfl ?_
  refine J_iconst (nI 1) aX12_isRow_6 (by decide +kernel) ?_
  refine J_isub aX12_isRow_7 ?_
  refine J_callS [.int x1, .int (nI 0), .int ((I 115 28) - (nI 1))] [] aX12_isRow_8 lkX12_68 okX12_in1 rfl rfl (Nat.le_of_ble_eq_true rfl) (Nat.le_refl _) (Mt_mono h (fun rv I1 h => ?_))
  obtain ⟨v2, rfl, h⟩ := h
  refine J_r1 ?_
  refine J_if_eq aX12_isRow_11 (fun q => ?_) (fun q => ?_)
  · replace h := h.1 q
    refine J_iconst (nI 0) aX12_isRow_27 (by decide +kernel) ?_
    exact J_zret aX12_isRow_28 rfl (by decide +kernel) h
  · replace h := h.2 q
    refine J_iload_n 2 aX12_isRow_14 rfl ?_
    refine J_iconst (nI 0) aX12_isRow_15 (by decide +kernel) ?_
    refine J_iconst (nI 2) aX12_isRow_16 (by decide +kernel) ?_
    refine J_callS [.int x2, .int (nI 0), .int (nI 2)] [] aX12_isRow_17 lkX12_68 okX12_in1 rfl rfl (Nat.le_of_ble_eq_true rfl) (Nat.le_refl _) (Mt_mono h (fun rv I3 h => ?_))
    obtain ⟨v4, rfl, h⟩ := h
    refine J_r1 ?_
    refine J_if_eq aX12_isRow_20 (fun q => ?_) (fun q => ?_)
    · replace h := h.1 q
      refine J_iconst (nI 0) aX12_isRow_27 (by decide +kernel) ?_
      exact J_zret aX12_isRow_28 rfl (by decide +kernel) h
    · replace h := h.2 q
      refine J_iconst (nI 1) aX12_isRow_23 (by decide +kernel) ?_
      refine J_goto aX12_isRow_24 ?_
      exact J_zret aX12_isRow_28 rfl (by decide +kernel) h
theorem aX12_row_0 : decode mX12_row.2.1 0 = .ok (.aload_n 0, 1) ∧ 0 + 1 = 1 := ⟨by decide +kernel, rfl⟩
theorem aX12_row_1 : decode mX12_row.2.1 1 = .ok (.iload_n 1, 1) ∧ 1 + 1 = 2 := ⟨by decide +kernel, rfl⟩
theorem aX12_row_2 : decode mX12_row.2.1 2 = .ok (.iload_n 2, 1) ∧ 2 + 1 = 3 := ⟨by decide +kernel, rfl⟩
theorem aX12_row_3 : decode mX12_row.2.1 3 = .ok (.invokevirtual 325, 3) ∧ 3 + 3 = 6 := ⟨by decide +kernel, rfl⟩
theorem aX12_row_6 : decode mX12_row.2.1 6 = .ok (.ifCond .eq 16, 3) ∧ ((6 : Nat) : Int) + 16 = ((22 : Nat) : Int) ∧ 6 + 3 = 9 := ⟨by decide +kernel, by decide, rfl⟩
theorem aX12_row_9 : decode mX12_row.2.1 9 = .ok (.aload_n 0, 1) ∧ 9 + 1 = 10 := ⟨by decide +kernel, rfl⟩
theorem aX12_row_10 : decode mX12_row.2.1 10 = .ok (.getfield 47, 3) ∧ 10 + 3 = 13 := ⟨by decide +kernel, rfl⟩
theorem aX12_row_13 : decode mX12_row.2.1 13 = .ok (.iconst 3, 1) ∧ 13 + 1 = 14 := ⟨by decide +kernel, rfl⟩
theorem aX12_row_14 : decode mX12_row.2.1 14 = .ok (.iload_n 1, 1) ∧ 14 + 1 = 15 := ⟨by decide +kernel, rfl⟩
theorem aX12_row_15 : decode mX12_row.2.1 15 = .ok (.imul, 1) ∧ 15 + 1 = 16 := ⟨by decide +kernel, rfl⟩
theorem aX12_row_16 : decode mX12_row.2.1 16 = .ok (.iload_n 2, 1) ∧ 16 + 1 = 17 := ⟨by decide +kernel, rfl⟩
theorem aX12_row_17 : decode mX12_row.2.1 17 = .ok (.iadd, 1) ∧ 17 + 1 = 18 := ⟨by decide +kernel, rfl⟩
theorem aX12_row_18 : decode mX12_row.2.1 18 = .ok (.iaload, 1) ∧ 18 + 1 = 19 := ⟨by decide +kernel, rfl⟩
theorem aX12_row_19 : decode mX12_row.2.1 19 = .ok (.goto 5, 3) ∧ ((19 : Nat) : Int) + 5 = ((24 : Nat) : Int) := ⟨by decide +kernel, by decide⟩
theorem aX12_row_22 : decode mX12_row.2.1 22 = .ok (.bipush (-9), 2) ∧ 22 + 2 = 24 := ⟨by decide +kernel, rfl⟩
theorem aX12_row_24 : decode mX12_row.2.1 24 = .ok (.ireturn, 1) := by decide +kernel
theorem S_X12_row {E : EE} {d : Nat} {I : IH} {Q : QT} (x1 : Int32) (x2 : Int32) (h :
(Mt E d mX12_isRow [.ref (eb E + 115), .int x1, .int x2] I (fun rv I1 => ∃ v2 : Int32, rv = some (.int v2) ∧
 ((v2 = 0 → Q (some (.int (-9))) I1) ∧
 (¬ v2 = 0 → (∃ j3 : Nat, (((nI 3) * x1) + x2) = nI j3 ∧ j3 < 12 ∧ Q (some (.int (I1 128 j3))) I1)))))) : Mt E (d + 1) mX12_row [.ref (eb E + 115), .int x1, .int x2] I Q := by
  refine Mt_of [(0, .ref (eb E + 115)), (1, .int x1), (2, .int x2)] (by decide +kernel) (by simp [lg_sl, Value.category, mX12_row]) rfl ?_
  refine J_aload_n 0 aX12_row_0 rfl ?_
  refine J_iload_n 1 aX12_row_1 rfl ?_
  refine J_iload_n 2 aX12_row_2 rfl ?_
  refine J_callV [.int x1, .int x2] [] aX12_row_3 lkX12_325_X12 okX12_isRow sh115 rfl rfl rfl (Nat.le_of_ble_eq_true rfl) (Nat.le_refl _) (Mt_mono h (fun rv I1 h => ?_))
  obtain ⟨v2, rfl, h⟩ := h
  refine J_r1 ?_
  refine J_if_eq aX12_row_6 (fun q => ?_) (fun q => ?_)
  · replace h := h.1 q
    refine J_bipush (-9) aX12_row_22 (by decide +kernel) ?_
    exact J_iret aX12_row_24 rfl h
  · replace h := h.2 q
    refine J_aload_n 0 aX12_row_9 rfl ?_
    refine J_getR aX12_row_10 flX12_47 sh115 rfl ?_
    refine J_iconst (nI 3) aX12_row_13 (by decide +kernel) ?_
    refine J_iload_n 1 aX12_row_14 rfl ?_
    refine J_imul aX12_row_15 ?_
    refine J_iload_n 2 aX12_row_16 rfl ?_
    refine J_iadd aX12_row_17 ?_
    obtain ⟨j3, e4, b5, h⟩ := h
    refine J_iaload j3 aX12_row_18 sh128 e4 b5 (by decide) ?_
    refine J_goto aX12_row_19 ?_
    exact J_iret aX12_row_24 rfl h
theorem aX12_alterRow_0 : decode mX12_alterRow.2.1 0 = .ok (.aload_n 0, 1) ∧ 0 + 1 = 1 := ⟨by decide +kernel, rfl⟩
theorem aX12_alterRow_1 : decode mX12_alterRow.2.1 1 = .ok (.iload_n 1, 1) ∧ 1 + 1 = 2 := ⟨by decide +kernel, rfl⟩
theorem aX12_alterRow_2 : decode mX12_alterRow.2.1 2 = .ok (.iload_n 2, 1) ∧ 2 + 1 = 3 := ⟨by decide +kernel, rfl⟩
theorem aX12_alterRow_3 : decode mX12_alterRow.2.1 3 = .ok (.invokevirtual 325, 3) ∧ 3 + 3 = 6 := ⟨by decide +kernel, rfl⟩
theorem aX12_alterRow_6 : decode mX12_alterRow.2.1 6 = .ok (.ifCond .ne 6, 3) ∧ ((6 : Nat) : Int) + 6 = ((12 : Nat) : Int) ∧ 6 + 3 = 9 := ⟨by decide +kernel, by decide, rfl⟩
theorem aX12_alterRow_9 : decode mX12_alterRow.2.1 9 = .ok (.bipush (-9), 2) ∧ 9 + 2 = 11 := ⟨by decide +kernel, rfl⟩
theorem aX12_alterRow_11 : decode mX12_alterRow.2.1 11 = .ok (.ireturn, 1) := by decide +kernel
theorem aX12_alterRow_12 : decode mX12_alterRow.2.1 12 = .ok (.aload_n 0, 1) ∧ 12 + 1 = 13 := ⟨by decide +kernel, rfl⟩
theorem aX12_alterRow_13 : decode mX12_alterRow.2.1 13 = .ok (.getfield 47, 3) ∧ 13 + 3 = 16 := ⟨by decide +kernel, rfl⟩
theorem aX12_alterRow_16 : decode mX12_alterRow.2.1 16 = .ok (.iconst 3, 1) ∧ 16 + 1 = 17 := ⟨by decide +kernel, rfl⟩
theorem aX12_alterRow_17 : decode mX12_alterRow.2.1 17 = .ok (.iload_n 1, 1) ∧ 17 + 1 = 18 := ⟨by decide +kernel, rfl⟩
theorem aX12_alterRow_18 : decode mX12_alterRow.2.1 18 = .ok (.imul, 1) ∧ 18 + 1 = 19 := ⟨by decide +kernel, rfl⟩
theorem aX12_alterRow_19 : decode mX12_alterRow.2.1 19 = .ok (.iload_n 2, 1) ∧ 19 + 1 = 20 := ⟨by decide +kernel, rfl⟩
theorem aX12_alterRow_20 : decode mX12_alterRow.2.1 20 = .ok (.iadd, 1) ∧ 20 + 1 = 21 := ⟨by decide +kernel, rfl⟩
theorem aX12_alterRow_21 : decode mX12_alterRow.2.1 21 = .ok (.iaload, 1) ∧ 21 + 1 = 22 := ⟨by decide +kernel, rfl⟩
theorem aX12_alterRow_22 : decode mX12_alterRow.2.1 22 = .ok (.istore 4, 2) ∧ 22 + 2 = 24 := ⟨by decide +kernel, rfl⟩
theorem aX12_alterRow_24 : decode mX12_alterRow.2.1 24 = .ok (.aload_n 0, 1) ∧ 24 + 1 = 25 := ⟨by decide +kernel, rfl⟩
theorem aX12_alterRow_25 : decode mX12_alterRow.2.1 25 = .ok (.getfield 47, 3) ∧ 25 + 3 = 28 := ⟨by decide +kernel, rfl⟩
theorem aX12_alterRow_28 : decode mX12_alterRow.2.1 28 = .ok (.iconst 3, 1) ∧ 28 + 1 = 29 := ⟨by decide +kernel, rfl⟩
theorem aX12_alterRow_29 : decode mX12_alterRow.2.1 29 = .ok (.iload_n 1, 1) ∧ 29 + 1 = 30 := ⟨by decide +kernel, rfl⟩
theorem aX12_alterRow_30 : decode mX12_alterRow.2.1 30 = .ok (.imul, 1) ∧ 30 + 1 = 31 := ⟨by decide +kernel, rfl⟩
theorem aX12_alterRow_31 : decode mX12_alterRow.2.1 31 = .ok (.iload_n 2, 1) ∧ 31 + 1 = 32 := ⟨by decide +kernel, rfl⟩
theorem aX12_alterRow_32 : decode mX12_alterRow.2.1 32 = .ok (.iadd, 1) ∧ 32 + 1 = 33 := ⟨by decide +kernel, rfl⟩
theorem aX12_alterRow_33 : decode mX12_alterRow.2.1 33 = .ok (.iload_n 3, 1) ∧ 33 + 1 = 34 := ⟨by decide +kernel, rfl⟩
theorem aX12_alterRow_34 : decode mX12_alterRow.2.1 34 = .ok (.iastore, 1) ∧ 34 + 1 = 35 := ⟨by decide +kernel, rfl⟩
theorem aX12_alterRow_35 : decode mX12_alterRow.2.1 35 = .ok (.iload 4, 2) ∧ 35 + 2 = 37 := ⟨by decide +kernel, rfl⟩
theorem aX12_alterRow_37 : decode mX12_alterRow.2.1 37 = .ok (.ireturn, 1) := by decide +kernel
theorem S_X12_alterRow {E : EE} {d : Nat} {I : IH} {Q : QT} (x1 : Int32) (x2 : Int32) (x3 : Int32) (h :
(Mt E d mX12_isRow [.ref (eb E + 115), .int x1, .int x2] I (fun rv I1 => ∃ v2 : Int32, rv = some (.int v2) ∧
 ((¬ v2 = 0 → (∃ j3 : Nat, (((nI 3) * x1) + x2) = nI j3 ∧ j3 < 12 ∧ (∃ j8 : Nat, (((nI 3) * x1) + x2) = nI j8 ∧ j8 < 12 ∧ (∀ I6 : IH, I6 = stI I1 128 j8 x3 →
 Q (some (.int (I1 128 j3))) I6)))) ∧
 (v2 = 0 → Q (some (.int (-9))) I1))))) : Mt E (d + 1) mX12_alterRow [.ref (eb E + 115), .int x1, .int x2, .int x3] I Q := by
  refine Mt_of [(0, .ref (eb E + 115)), (1, .int x1), (2, .int x2), (3, .int x3)] (by decide +kernel) (by simp [lg_sl, Value.category, mX12_alterRow]) rfl ?_
  refine J_aload_n 0 aX12_alterRow_0 rfl ?_
  refine J_iload_n 1 aX12_alterRow_1 rfl ?_
  refine J_iload_n 2 aX12_alterRow_2 rfl ?_
  refine J_callV [.int x1, .int x2] [] aX12_alterRow_3 lkX12_325_X12 okX12_isRow sh115 rfl rfl rfl (Nat.le_of_ble_eq_true rfl) (Nat.le_refl _) (Mt_mono h (fun rv I1 h => ?_))
  obtain ⟨v2, rfl, h⟩ := h
  refine J_r1 ?_
  refine J_if_ne aX12_alterRow_6 (fun q => ?_) (fun q => ?_)
  · replace h := h.1 q
    refine J_aload_n 0 aX12_alterRow_12 rfl ?_
    refine J_getR aX12_alterRow_13 flX12_47 sh115 rfl ?_
    refine J_iconst (nI 3) aX12_alterRow_16 (by decide +kernel) ?_
    refine J_iload_n 1 aX12_alterRow_17 rfl ?_
    refine J_imul aX12_alterRow_18 ?_
    refine J_iload_n 2 aX12_alterRow_19 rfl ?_
    refine J_iadd aX12_alterRow_20 ?_
    obtain ⟨j3, e4, b5, h⟩ := h
    refine J_iaload j3 aX12_alterRow_21 sh128 e4 b5 (by decide) ?_
    refine J_istore [(4, .int (I1 128 j3)), (0, .ref (eb E + 115)), (1, .int x1), (2, .int x2), (3, .int x3)] aX12_alterRow_22 (by decide) rfl ?_
    refine J_aload_n 1 aX12_alterRow_24 rfl ?_
    refine J_getR aX12_alterRow_25 flX12_47 sh115 rfl ?_
    refine J_iconst (nI 3) aX12_alterRow_28 (by decide +kernel) ?_
    refine J_iload_n 2 aX12_alterRow_29 rfl ?_
    refine J_imul aX12_alterRow_30 ?_
    refine J_iload_n 3 aX12_alterRow_31 rfl ?_
    refine J_iadd aX12_alterRow_32 ?_
    refine J_iload_n 4 aX12_alterRow_33 rfl ?_
    obtain ⟨j8, e9, b10, h⟩ := h
    refine J_iastore j8 aX12_alterRow_34 sh128 e9 b10 (by decide) (fun I6 e7 => ?_)
    replace h := h I6 e7
    refine J_iload 0 aX12_alterRow_35 rfl ?_
    exact J_iret aX12_alterRow_37 rfl h
  · replace h := h.2 q
    refine J_bipush (-9) aX12_alterRow_9 (by decide +kernel) ?_
    exact J_iret aX12_alterRow_11 rfl h
theorem aX12_judge_0 : decode mX12_judge.2.1 0 = .ok (.aload_n 0, 1) ∧ 0 + 1 = 1 := ⟨by decide +kernel, rfl⟩
theorem aX12_judge_1 : decode mX12_judge.2.1 1 = .ok (.invokevirtual 237, 3) ∧ 1 + 3 = 4 := ⟨by decide +kernel, rfl⟩
theorem aX12_judge_4 : decode mX12_judge.2.1 4 = .ok (.iconst 0, 1) ∧ 4 + 1 = 5 := ⟨by decide +kernel, rfl⟩
theorem aX12_judge_5 : decode mX12_judge.2.1 5 = .ok (.istore_n 1, 1) ∧ 5 + 1 = 6 := ⟨by decide +kernel, rfl⟩
theorem aX12_judge_6 : decode mX12_judge.2.1 6 = .ok (.iconst 0, 1) ∧ 6 + 1 = 7 := ⟨by decide +kernel, rfl⟩
theorem aX12_judge_7 : decode mX12_judge.2.1 7 = .ok (.istore_n 2, 1) ∧ 7 + 1 = 8 := ⟨by decide +kernel, rfl⟩
theorem aX12_judge_8 : decode mX12_judge.2.1 8 = .ok (.iload_n 2, 1) ∧ 8 + 1 = 9 := ⟨by decide +kernel, rfl⟩
theorem aX12_judge_9 : decode mX12_judge.2.1 9 = .ok (.aload_n 0, 1) ∧ 9 + 1 = 10 := ⟨by decide +kernel, rfl⟩
theorem aX12_judge_10 : decode mX12_judge.2.1 10 = .ok (.getfield 322, 3) ∧ 10 + 3 = 13 := ⟨by decide +kernel, rfl⟩
theorem aX12_judge_13 : decode mX12_judge.2.1 13 = .ok (.if_icmp .ge 120, 3) ∧ ((13 : Nat) : Int) + 120 = ((133 : Nat) : Int) ∧ 13 + 3 = 16 := ⟨by decide +kernel, by decide, rfl⟩
theorem aX12_judge_16 : decode mX12_judge.2.1 16 = .ok (.iload_n 1, 1) ∧ 16 + 1 = 17 := ⟨by decide +kernel, rfl⟩
theorem aX12_judge_17 : decode mX12_judge.2.1 17 = .ok (.ifCond .ne 116, 3) ∧ ((17 : Nat) : Int) + 116 = ((133 : Nat) : Int) ∧ 17 + 3 = 20 := ⟨by decide +kernel, by decide, rfl⟩
theorem aX12_judge_20 : decode mX12_judge.2.1 20 = .ok (.aload_n 0, 1) ∧ 20 + 1 = 21 := ⟨by decide +kernel, rfl⟩
theorem aX12_judge_21 : decode mX12_judge.2.1 21 = .ok (.aload_n 0, 1) ∧ 21 + 1 = 22 := ⟨by decide +kernel, rfl⟩
theorem aX12_judge_22 : decode mX12_judge.2.1 22 = .ok (.getfield 47, 3) ∧ 22 + 3 = 25 := ⟨by decide +kernel, rfl⟩
theorem aX12_judge_25 : decode mX12_judge.2.1 25 = .ok (.iconst 3, 1) ∧ 25 + 1 = 26 := ⟨by decide +kernel, rfl⟩
theorem aX12_judge_26 : decode mX12_judge.2.1 26 = .ok (.iload_n 2, 1) ∧ 26 + 1 = 27 := ⟨by decide +kernel, rfl⟩
theorem aX12_judge_27 : decode mX12_judge.2.1 27 = .ok (.imul, 1) ∧ 27 + 1 = 28 := ⟨by decide +kernel, rfl⟩
theorem aX12_judge_28 : decode mX12_judge.2.1 28 = .ok (.iaload, 1) ∧ 28 + 1 = 29 := ⟨by decide +kernel, rfl⟩
theorem aX12_judge_29 : decode mX12_judge.2.1 29 = .ok (.invokevirtual 328, 3) ∧ 29 + 3 = 32 := ⟨by decide +kernel, rfl⟩
theorem aX12_judge_32 : decode mX12_judge.2.1 32 = .ok (.ifCond .eq 14, 3) ∧ ((32 : Nat) : Int) + 14 = ((46 : Nat) : Int) ∧ 32 + 3 = 35 := ⟨by decide +kernel, by decide, rfl⟩
theorem aX12_judge_35 : decode mX12_judge.2.1 35 = .ok (.aload_n 0, 1) ∧ 35 + 1 = 36 := ⟨by decide +kernel, rfl⟩
theorem aX12_judge_36 : decode mX12_judge.2.1 36 = .ok (.invokevirtual 228, 3) ∧ 36 + 3 = 39 := ⟨by decide +kernel, rfl⟩
theorem aX12_judge_39 : decode mX12_judge.2.1 39 = .ok (.ifCond .ne 7, 3) ∧ ((39 : Nat) : Int) + 7 = ((46 : Nat) : Int) ∧ 39 + 3 = 42 := ⟨by decide +kernel, by decide, rfl⟩
theorem aX12_judge_42 : decode mX12_judge.2.1 42 = .ok (.iconst 1, 1) ∧ 42 + 1 = 43 := ⟨by decide +kernel, rfl⟩
theorem aX12_judge_43 : decode mX12_judge.2.1 43 = .ok (.goto 4, 3) ∧ ((43 : Nat) : Int) + 4 = ((47 : Nat) : Int) := ⟨by decide +kernel, by decide⟩
theorem aX12_judge_46 : decode mX12_judge.2.1 46 = .ok (.iconst 0, 1) ∧ 46 + 1 = 47 := ⟨by decide +kernel, rfl⟩
theorem aX12_judge_47 : decode mX12_judge.2.1 47 = .ok (.istore_n 3, 1) ∧ 47 + 1 = 48 := ⟨by decide +kernel, rfl⟩
theorem aX12_judge_48 : decode mX12_judge.2.1 48 = .ok (.iload_n 3, 1) ∧ 48 + 1 = 49 := ⟨by decide +kernel, rfl⟩
theorem aX12_judge_49 : decode mX12_judge.2.1 49 = .ok (.ifCond .eq 18, 3) ∧ ((49 : Nat) : Int) + 18 = ((67 : Nat) : Int) ∧ 49 + 3 = 52 := ⟨by decide +kernel, by decide, rfl⟩
theorem aX12_judge_52 : decode mX12_judge.2.1 52 = .ok (.aload_n 0, 1) ∧ 52 + 1 = 53 := ⟨by decide +kernel, rfl⟩
theorem aX12_judge_53 : decode mX12_judge.2.1 53 = .ok (.aload_n 0, 1) ∧ 53 + 1 = 54 := ⟨by decide +kernel, rfl⟩
theorem aX12_judge_54 : decode mX12_judge.2.1 54 = .ok (.getfield 47, 3) ∧ 54 + 3 = 57 := ⟨by decide +kernel, rfl⟩
theorem aX12_judge_57 : decode mX12_judge.2.1 57 = .ok (.iconst 3, 1) ∧ 57 + 1 = 58 := ⟨by decide +kernel, rfl⟩
theorem aX12_judge_58 : decode mX12_judge.2.1 58 = .ok (.iload_n 2, 1) ∧ 58 + 1 = 59 := ⟨by decide +kernel, rfl⟩
theorem aX12_judge_59 : decode mX12_judge.2.1 59 = .ok (.imul, 1) ∧ 59 + 1 = 60 := ⟨by decide +kernel, rfl⟩
theorem aX12_judge_60 : decode mX12_judge.2.1 60 = .ok (.iaload, 1) ∧ 60 + 1 = 61 := ⟨by decide +kernel, rfl⟩
theorem aX12_judge_61 : decode mX12_judge.2.1 61 = .ok (.invokevirtual 234, 3) ∧ 61 + 3 = 64 := ⟨by decide +kernel, rfl⟩
theorem aX12_judge_64 : decode mX12_judge.2.1 64 = .ok (.goto 4, 3) ∧ ((64 : Nat) : Int) + 4 = ((68 : Nat) : Int) := ⟨by decide +kernel, by decide⟩
theorem aX12_judge_67 : decode mX12_judge.2.1 67 = .ok (.iconst 0, 1) ∧ 67 + 1 = 68 := ⟨by decide +kernel, rfl⟩
theorem aX12_judge_68 : decode mX12_judge.2.1 68 = .ok (.istore 4, 2) ∧ 68 + 2 = 70 := ⟨by decide +kernel, rfl⟩
theorem aX12_judge_70 : decode mX12_judge.2.1 70 = .ok (.iload_n 3, 1) ∧ 70 + 1 = 71 := ⟨by decide +kernel, rfl⟩
theorem aX12_judge_71 : decode mX12_judge.2.1 71 = .ok (.ifCond .eq 40, 3) ∧ ((71 : Nat) : Int) + 40 = ((111 : Nat) : Int) ∧ 71 + 3 = 74 := ⟨by decide +kernel, by decide, rfl⟩
theorem aX12_judge_74 : decode mX12_judge.2.1 74 = .ok (.iload 4, 2) ∧ 74 + 2 = 76 := ⟨by decide +kernel, rfl⟩
theorem aX12_judge_76 : decode mX12_judge.2.1 76 = .ok (.aload_n 0, 1) ∧ 76 + 1 = 77 := ⟨by decide +kernel, rfl⟩
theorem aX12_judge_77 : decode mX12_judge.2.1 77 = .ok (.getfield 47, 3) ∧ 77 + 3 = 80 := ⟨by decide +kernel, rfl⟩
theorem aX12_judge_80 : decode mX12_judge.2.1 80 = .ok (.iconst 3, 1) ∧ 80 + 1 = 81 := ⟨by decide +kernel, rfl⟩
theorem aX12_judge_81 : decode mX12_judge.2.1 81 = .ok (.iload_n 2, 1) ∧ 81 + 1 = 82 := ⟨by decide +kernel, rfl⟩
theorem aX12_judge_82 : decode mX12_judge.2.1 82 = .ok (.imul, 1) ∧ 82 + 1 = 83 := ⟨by decide +kernel, rfl⟩
theorem aX12_judge_83 : decode mX12_judge.2.1 83 = .ok (.iconst 1, 1) ∧ 83 + 1 = 84 := ⟨by decide +kernel, rfl⟩
theorem aX12_judge_84 : decode mX12_judge.2.1 84 = .ok (.iadd, 1) ∧ 84 + 1 = 85 := ⟨by decide +kernel, rfl⟩
theorem aX12_judge_85 : decode mX12_judge.2.1 85 = .ok (.iaload, 1) ∧ 85 + 1 = 86 := ⟨by decide +kernel, rfl⟩
theorem aX12_judge_86 : decode mX12_judge.2.1 86 = .ok (.if_icmp .ne 25, 3) ∧ ((86 : Nat) : Int) + 25 = ((111 : Nat) : Int) ∧ 86 + 3 = 89 := ⟨by decide +kernel, by decide, rfl⟩
theorem aX12_judge_89 : decode mX12_judge.2.1 89 = .ok (.aload_n 0, 1) ∧ 89 + 1 = 90 := ⟨by decide +kernel, rfl⟩
theorem aX12_judge_90 : decode mX12_judge.2.1 90 = .ok (.iconst 4, 1) ∧ 90 + 1 = 91 := ⟨by decide +kernel, rfl⟩
theorem aX12_judge_91 : decode mX12_judge.2.1 91 = .ok (.invokevirtual 231, 3) ∧ 91 + 3 = 94 := ⟨by decide +kernel, rfl⟩
theorem aX12_judge_94 : decode mX12_judge.2.1 94 = .ok (.aload_n 0, 1) ∧ 94 + 1 = 95 := ⟨by decide +kernel, rfl⟩
theorem aX12_judge_95 : decode mX12_judge.2.1 95 = .ok (.getfield 47, 3) ∧ 95 + 3 = 98 := ⟨by decide +kernel, rfl⟩
theorem aX12_judge_98 : decode mX12_judge.2.1 98 = .ok (.iconst 3, 1) ∧ 98 + 1 = 99 := ⟨by decide +kernel, rfl⟩
theorem aX12_judge_99 : decode mX12_judge.2.1 99 = .ok (.iload_n 2, 1) ∧ 99 + 1 = 100 := ⟨by decide +kernel, rfl⟩
theorem aX12_judge_100 : decode mX12_judge.2.1 100 = .ok (.imul, 1) ∧ 100 + 1 = 101 := ⟨by decide +kernel, rfl⟩
theorem aX12_judge_101 : decode mX12_judge.2.1 101 = .ok (.iconst 2, 1) ∧ 101 + 1 = 102 := ⟨by decide +kernel, rfl⟩
theorem aX12_judge_102 : decode mX12_judge.2.1 102 = .ok (.iadd, 1) ∧ 102 + 1 = 103 := ⟨by decide +kernel, rfl⟩
theorem aX12_judge_103 : decode mX12_judge.2.1 103 = .ok (.iaload, 1) ∧ 103 + 1 = 104 := ⟨by decide +kernel, rfl⟩
theorem aX12_judge_104 : decode mX12_judge.2.1 104 = .ok (.if_icmp .ne 7, 3) ∧ ((104 : Nat) : Int) + 7 = ((111 : Nat) : Int) ∧ 104 + 3 = 107 := ⟨by decide +kernel, by decide, rfl⟩
theorem aX12_judge_107 : decode mX12_judge.2.1 107 = .ok (.iconst 1, 1) ∧ 107 + 1 = 108 := ⟨by decide +kernel, rfl⟩
theorem aX12_judge_108 : decode mX12_judge.2.1 108 = .ok (.goto 4, 3) ∧ ((108 : Nat) : Int) + 4 = ((112 : Nat) : Int) := ⟨by decide +kernel, by decide⟩
theorem aX12_judge_111 : decode mX12_judge.2.1 111 = .ok (.iconst 0, 1) ∧ 111 + 1 = 112 := ⟨by decide +kernel, rfl⟩
theorem aX12_judge_112 : decode mX12_judge.2.1 112 = .ok (.istore 5, 2) ∧ 112 + 2 = 114 := ⟨by decide +kernel, rfl⟩
theorem aX12_judge_114 : decode mX12_judge.2.1 114 = .ok (.iload 5, 2) ∧ 114 + 2 = 116 := ⟨by decide +kernel, rfl⟩
theorem aX12_judge_116 : decode mX12_judge.2.1 116 = .ok (.ifCond .eq 7, 3) ∧ ((116 : Nat) : Int) + 7 = ((123 : Nat) : Int) ∧ 116 + 3 = 119 := ⟨by decide +kernel, by decide, rfl⟩
theorem aX12_judge_119 : decode mX12_judge.2.1 119 = .ok (.iconst 0, 1) ∧ 119 + 1 = 120 := ⟨by decide +kernel, rfl⟩
theorem aX12_judge_120 : decode mX12_judge.2.1 120 = .ok (.goto 6, 3) ∧ ((120 : Nat) : Int) + 6 = ((126 : Nat) : Int) := ⟨by decide +kernel, by decide⟩
theorem aX12_judge_123 : decode mX12_judge.2.1 123 = .ok (.iconst 1, 1) ∧ 123 + 1 = 124 := ⟨by decide +kernel, rfl⟩
theorem aX12_judge_124 : decode mX12_judge.2.1 124 = .ok (.iload_n 2, 1) ∧ 124 + 1 = 125 := ⟨by decide +kernel, rfl⟩
theorem aX12_judge_125 : decode mX12_judge.2.1 125 = .ok (.iadd, 1) ∧ 125 + 1 = 126 := ⟨by decide +kernel, rfl⟩
theorem aX12_judge_126 : decode mX12_judge.2.1 126 = .ok (.istore_n 1, 1) ∧ 126 + 1 = 127 := ⟨by decide +kernel, rfl⟩
theorem aX12_judge_127 : decode mX12_judge.2.1 127 = .ok (.iinc 2 1, 3) ∧ 127 + 3 = 130 := ⟨by decide +kernel, rfl⟩
theorem aX12_judge_130 : decode mX12_judge.2.1 130 = .ok (.goto (-122), 3) ∧ ((130 : Nat) : Int) + (-122) = ((8 : Nat) : Int) := ⟨by decide +kernel, by decide⟩
theorem aX12_judge_133 : decode mX12_judge.2.1 133 = .ok (.aload_n 0, 1) ∧ 133 + 1 = 134 := ⟨by decide +kernel, rfl⟩
theorem aX12_judge_134 : decode mX12_judge.2.1 134 = .ok (.invokevirtual 243, 3) ∧ 134 + 3 = 137 := ⟨by decide +kernel, rfl⟩
theorem aX12_judge_137 : decode mX12_judge.2.1 137 = .ok (.iload_n 1, 1) ∧ 137 + 1 = 138 := ⟨by decide +kernel, rfl⟩
theorem aX12_judge_138 : decode mX12_judge.2.1 138 = .ok (.ireturn, 1) := by decide +kernel
theorem S_X12_judge {E : EE} {d : Nat} {I : IH} {Q : QT}  (h :
(Mt E d mX12_layDown [.ref (eb E + 115)] I (fun rv I1 => rv = none ∧
 J E (d + 1) mX12_judge 8 [(0, .ref (eb E + 115)), (1, .int (nI 0)), (2, .int (nI 0))] [] I1 Q))) : Mt E (d + 1) mX12_judge [.ref (eb E + 115)] I Q := by
  refine Mt_of [(0, .ref (eb E + 115))] (by decide +kernel) (by simp [lg_sl, Value.category, mX12_judge]) rfl ?_
  refine J_aload_n 0 aX12_judge_0 rfl ?_
  refine J_callV [] [] aX12_judge_1 lkX12_237_X12 okX12_layDown sh115 rfl rfl rfl (Nat.le_of_ble_eq_true rfl) (Nat.le_refl _) (Mt_mono h (fun rv I1 h => ?_))
  obtain ⟨rfl, h⟩ := h
  refine J_r0 ?_
  refine J_iconst (nI 0) aX12_judge_4 (by decide +kernel) ?_
  refine J_istore_n [(1, .int (nI 0)), (0, .ref (eb E + 115))] aX12_judge_5 (by decide) rfl ?_
  refine J_iconst (nI 0) aX12_judge_6 (by decide +kernel) ?_
  refine J_istore_n [(2, .int (nI 0)), (1, .int (nI 0)), (0, .ref (eb E + 115))] aX12_judge_7 (by decide) rfl ?_
  refine J_pick [2, 1, 0] rfl ?_
  exact h
theorem S_X12_judge_8 {E : EE} {d : Nat} {I : IH} {Q : QT} (x1 : Int32) (x2 : Int32) (h :
(((I 115 28) ≤ x2 → J E (d + 1) mX12_judge 133 [(0, .ref (eb E + 115)), (1, .int x1)] [] I Q) ∧
 (¬ (I 115 28) ≤ x2 → ((¬ x1 = 0 → J E (d + 1) mX12_judge 133 [(0, .ref (eb E + 115)), (1, .int x1)] [] I Q) ∧
 (x1 = 0 → (∃ j1 : Nat, ((nI 3) * x2) = nI j1 ∧ j1 < 12 ∧ (Mt E d mX12_isAct [.ref (eb E + 115), .int (I 128 j1)] I (fun rv I4 => ∃ v5 : Int32, rv = some (.int v5) ∧
 ((v5 = 0 → J E (d + 1) mX12_judge 46 [(0, .ref (eb E + 115)), (2, .int x2)] [] I4 Q) ∧
 (¬ v5 = 0 → (Mt E d mX12_isOver [.ref (eb E + 115)] I4 (fun rv I6 => ∃ v7 : Int32, rv = some (.int v7) ∧
 ((¬ v7 = 0 → J E (d + 1) mX12_judge 46 [(0, .ref (eb E + 115)), (2, .int x2)] [] I6 Q) ∧
 (v7 = 0 → J E (d + 1) mX12_judge 47 [(0, .ref (eb E + 115)), (2, .int x2)] [.int (nI 1)] I6 Q)))))))))))))) : J E (d + 1) mX12_judge 8 [(0, .ref (eb E + 115)), (1, .int x1), (2, .int x2)] [] I Q := by
  refine J_iload_n 2 aX12_judge_8 rfl ?_
  refine J_aload_n 0 aX12_judge_9 rfl ?_
  refine J_getI aX12_judge_10 flX12_322 sh115 rfl ?_
  refine J_icmp_ge aX12_judge_13 (fun q => ?_) (fun q => ?_)
  · replace h := h.1 q
    refine J_pick [0, 1] rfl ?_
    exact h
  · replace h := h.2 q
    refine J_iload_n 1 aX12_judge_16 rfl ?_
    refine J_if_ne aX12_judge_17 (fun q => ?_) (fun q => ?_)
    · replace h := h.1 q
      refine J_pick [0, 1] rfl ?_
      exact h
    · replace h := h.2 q
      refine J_aload_n 0 aX12_judge_20 rfl ?_
      refine J_aload_n 0 aX12_judge_21 rfl ?_
      refine J_getR aX12_judge_22 flX12_47 sh115 rfl ?_
      refine J_iconst (nI 3) aX12_judge_25 (by decide +kernel) ?_
      refine J_iload_n 2 aX12_judge_26 rfl ?_
      refine J_imul aX12_judge_27 ?_
      obtain ⟨j1, e2, b3, h⟩ := h
      refine J_iaload j1 aX12_judge_28 sh128 e2 b3 (by decide) ?_
      refine J_callV [.int (I 128 j1)] [] aX12_judge_29 lkX12_328_X12 okX12_isAct sh115 rfl rfl rfl (Nat.le_of_ble_eq_true rfl) (Nat.le_refl _) (Mt_mono h (fun rv I4 h => ?_))
      obtain ⟨v5, rfl, h⟩ := h
      refine J_r1 ?_
      refine J_if_eq aX12_judge_32 (fun q => ?_) (fun q => ?_)
      · replace h := h.1 q
        refine J_pick [0, 2] rfl ?_
        exact h
      · replace h := h.2 q
        refine J_aload_n 0 aX12_judge_35 rfl ?_
        refine J_callV [] [] aX12_judge_36 lkX12_228_X12 okX12_isOver sh115 rfl rfl rfl (Nat.le_of_ble_eq_true rfl) (Nat.le_refl _) (Mt_mono h (fun rv I6 h => ?_))
        obtain ⟨v7, rfl, h⟩ := h
        refine J_r1 ?_
        refine J_if_ne aX12_judge_39 (fun q => ?_) (fun q => ?_)
        · replace h := h.1 q
          refine J_pick [0, 2] rfl ?_
          exact h
        · replace h := h.2 q
          refine J_iconst (nI 1) aX12_judge_42 (by decide +kernel) ?_
          refine J_goto aX12_judge_43 ?_
          refine J_pick [0, 2] rfl ?_
          exact h
theorem S_X12_judge_133 {E : EE} {d : Nat} {I : IH} {Q : QT} (x1 : Int32) (h :
(Mt E d mX12_layBack [.ref (eb E + 115)] I (fun rv I1 => rv = none ∧
 Q (some (.int x1)) I1))) : J E (d + 1) mX12_judge 133 [(0, .ref (eb E + 115)), (1, .int x1)] [] I Q := by
  refine J_aload_n 0 aX12_judge_133 rfl ?_
  refine J_callV [] [] aX12_judge_134 lkX12_243_X12 okX12_layBack sh115 rfl rfl rfl (Nat.le_of_ble_eq_true rfl) (Nat.le_refl _) (Mt_mono h (fun rv I1 h => ?_))
  obtain ⟨rfl, h⟩ := h
  refine J_r0 ?_
  refine J_iload_n 1 aX12_judge_137 rfl ?_
  exact J_iret aX12_judge_138 rfl h
theorem S_X12_judge_46 {E : EE} {d : Nat} {I : IH} {Q : QT} (x2 : Int32) (h :
J E (d + 1) mX12_judge 47 [(0, .ref (eb E + 115)), (2, .int x2)] [.int (nI 0)] I Q) : J E (d + 1) mX12_judge 46 [(0, .ref (eb E + 115)), (2, .int x2)] [] I Q := by
  refine J_iconst (nI 0) aX12_judge_46 (by decide +kernel) ?_
  refine J_pick [0, 1] rfl ?_
  exact h
theorem S_X12_judge_47 {E : EE} {d : Nat} {I : IH} {Q : QT} (x2 : Int32) (t0 : Int32) (h :
((t0 = 0 → J E (d + 1) mX12_judge 68 [(0, .ref (eb E + 115)), (2, .int x2), (3, .int t0)] [.int (nI 0)] I Q) ∧
 (¬ t0 = 0 → (∃ j1 : Nat, ((nI 3) * x2) = nI j1 ∧ j1 < 12 ∧ (Mt E d mX12_goesBy [.ref (eb E + 115), .int (I 128 j1)] I (fun rv I4 => ∃ v5 : Int32, rv = some (.int v5) ∧
 J E (d + 1) mX12_judge 68 [(0, .ref (eb E + 115)), (2, .int x2), (3, .int t0)] [.int v5] I4 Q)))))) : J E (d + 1) mX12_judge 47 [(0, .ref (eb E + 115)), (2, .int x2)] [.int t0] I Q := by
  refine J_istore_n [(3, .int t0), (0, .ref (eb E + 115)), (2, .int x2)] aX12_judge_47 (by decide) rfl ?_
  refine J_iload_n 0 aX12_judge_48 rfl ?_
  refine J_if_eq aX12_judge_49 (fun q => ?_) (fun q => ?_)
  · replace h := h.1 q
    refine J_iconst (nI 0) aX12_judge_67 (by decide +kernel) ?_
    refine J_pick [1, 2, 0] rfl ?_
    exact h
  · replace h := h.2 q
    refine J_aload_n 1 aX12_judge_52 rfl ?_
    refine J_aload_n 1 aX12_judge_53 rfl ?_
    refine J_getR aX12_judge_54 flX12_47 sh115 rfl ?_
    refine J_iconst (nI 3) aX12_judge_57 (by decide +kernel) ?_
    refine J_iload_n 2 aX12_judge_58 rfl ?_
    refine J_imul aX12_judge_59 ?_
    obtain ⟨j1, e2, b3, h⟩ := h
    refine J_iaload j1 aX12_judge_60 sh128 e2 b3 (by decide) ?_
    refine J_callV [.int (I 128 j1)] [] aX12_judge_61 lkX12_234_X12 okX12_goesBy sh115 rfl rfl rfl (Nat.le_of_ble_eq_true rfl) (Nat.le_refl _) (Mt_mono h (fun rv I4 h => ?_))
    obtain ⟨v5, rfl, h⟩ := h
    refine J_r1 ?_
    refine J_goto aX12_judge_64 ?_
    refine J_pick [1, 2, 0] rfl ?_
    exact h
theorem S_X12_judge_68 {E : EE} {d : Nat} {I : IH} {Q : QT} (x2 : Int32) (x3 : Int32) (t0 : Int32) (h :
((x3 = 0 → (((nI 0) = 0 → J E (d + 1) mX12_judge 8 [(0, .ref (eb E + 115)), (1, .int ((nI 1) + x2)), (2, .int (x2 + nI 1))] [] I Q) ∧
 (¬ (nI 0) = 0 → J E (d + 1) mX12_judge 8 [(0, .ref (eb E + 115)), (1, .int (nI 0)), (2, .int (x2 + nI 1))] [] I Q))) ∧
 (¬ x3 = 0 → (∃ j1 : Nat, (((nI 3) * x2) + (nI 1)) = nI j1 ∧ j1 < 12 ∧ ((¬ t0 = (I 128 j1) → (((nI 0) = 0 → J E (d + 1) mX12_judge 8 [(0, .ref (eb E + 115)), (1, .int ((nI 1) + x2)), (2, .int (x2 + nI 1))] [] I Q) ∧
 (¬ (nI 0) = 0 → J E (d + 1) mX12_judge 8 [(0, .ref (eb E + 115)), (1, .int (nI 0)), (2, .int (x2 + nI 1))] [] I Q))) ∧
 (t0 = (I 128 j1) → (Mt E d mX12_those [.ref (eb E + 115), .int (nI 4)] I (fun rv I4 => ∃ v5 : Int32, rv = some (.int v5) ∧
 (∃ j6 : Nat, (((nI 3) * x2) + (nI 2)) = nI j6 ∧ j6 < 12 ∧ ((¬ v5 = (I4 128 j6) → (((nI 0) = 0 → J E (d + 1) mX12_judge 8 [(0, .ref (eb E + 115)), (1, .int ((nI 1) + x2)), (2, .int (x2 + nI 1))] [] I4 Q) ∧
 (¬ (nI 0) = 0 → J E (d + 1) mX12_judge 8 [(0, .ref (eb E + 115)), (1, .int (nI 0)), (2, .int (x2 + nI 1))] [] I4 Q))) ∧
 (v5 = (I4 128 j6) → (((nI 1) = 0 → J E (d + 1) mX12_judge 8 [(0, .ref (eb E + 115)), (1, .int ((nI 1) + x2)), (2, .int (x2 + nI 1))] [] I4 Q) ∧
 (¬ (nI 1) = 0 → J E (d + 1) mX12_judge 8 [(0, .ref (eb E + 115)), (1, .int (nI 0)), (2, .int (x2 + nI 1))] [] I4 Q))))))))))))) : J E (d + 1) mX12_judge 68 [(0, .ref (eb E + 115)), (2, .int x2), (3, .int x3)] [.int t0] I Q := by
  refine J_istore [(4, .int t0), (0, .ref (eb E + 115)), (2, .int x2), (3, .int x3)] aX12_judge_68 (by decide) rfl ?_
  refine J_iload_n 3 aX12_judge_70 rfl ?_
  refine J_if_eq aX12_judge_71 (fun q => ?_) (fun q => ?_)
  · replace h := h.1 q
    refine J_iconst (nI 0) aX12_judge_111 (by decide +kernel) ?_
    refine J_istore [(5, .int (nI 0)), (4, .int t0), (0, .ref (eb E + 115)), (2, .int x2), (3, .int x3)] aX12_judge_112 (by decide) rfl ?_
    refine J_iload 0 aX12_judge_114 rfl ?_
    refine J_if_eq aX12_judge_116 (fun q => ?_) (fun q => ?_)
    · replace h := h.1 q
      refine J_iconst (nI 1) aX12_judge_123 (by decide +kernel) ?_
      refine J_iload_n 3 aX12_judge_124 rfl ?_
      refine J_iadd aX12_judge_125 ?_
      refine J_istore_n [(1, .int ((nI 1) + x2)), (5, .int (nI 0)), (4, .int t0), (0, .ref (eb E + 115)), (2, .int x2), (3, .int x3)] aX12_judge_126 (by decide) rfl ?_
      refine J_iinc (x2 + nI 1) [(2, .int (x2 + nI 1)), (1, .int ((nI 1) + x2)), (5, .int (nI 0)), (4, .int t0), (0, .ref (eb E + 115)), (3, .int x3)] 4 aX12_judge_127 rfl (by first | rfl | (congr 1; decide +kernel)) (by decide) rfl ?_
      refine J_goto aX12_judge_130 ?_
      refine J_pick [4, 1, 0] rfl ?_
      exact h
    · replace h := h.2 q
      refine J_iconst (nI 0) aX12_judge_119 (by decide +kernel) ?_
      refine J_goto aX12_judge_120 ?_
      refine J_istore_n [(1, .int (nI 0)), (5, .int (nI 0)), (4, .int t0), (0, .ref (eb E + 115)), (2, .int x2), (3, .int x3)] aX12_judge_126 (by decide) rfl ?_
      refine J_iinc (x2 + nI 1) [(2, .int (x2 + nI 1)), (1, .int (nI 0)), (5, .int (nI 0)), (4, .int t0), (0, .ref (eb E + 115)), (3, .int x3)] 4 aX12_judge_127 rfl (by first | rfl | (congr 1; decide +kernel)) (by decide) rfl ?_
      refine J_goto aX12_judge_130 ?_
      refine J_pick [4, 1, 0] rfl ?_
      exact h
  · replace h := h.2 q
    refine J_iload 0 aX12_judge_74 rfl ?_
    refine J_aload_n 1 aX12_judge_76 rfl ?_
    refine J_getR aX12_judge_77 flX12_47 sh115 rfl ?_
    refine J_iconst (nI 3) aX12_judge_80 (by decide +kernel) ?_
    refine J_iload_n 2 aX12_judge_81 rfl ?_
    refine J_imul aX12_judge_82 ?_
    refine J_iconst (nI 1) aX12_judge_83 (by decide +kernel) ?_
    refine J_iadd aX12_judge_84 ?_
    obtain ⟨j1, e2, b3, h⟩ := h
    refine J_iaload j1 aX12_judge_85 sh128 e2 b3 (by decide) ?_
    refine J_icmp_ne aX12_judge_86 (fun q => ?_) (fun q => ?_)
    · replace h := h.1 q
      refine J_iconst (nI 0) aX12_judge_111 (by decide +kernel) ?_
      refine J_istore [(5, .int (nI 0)), (4, .int t0), (0, .ref (eb E + 115)), (2, .int x2), (3, .int x3)] aX12_judge_112 (by decide) rfl ?_
      refine J_iload 0 aX12_judge_114 rfl ?_
      refine J_if_eq aX12_judge_116 (fun q => ?_) (fun q => ?_)
      · replace h := h.1 q
        refine J_iconst (nI 1) aX12_judge_123 (by decide +kernel) ?_
        refine J_iload_n 3 aX12_judge_124 rfl ?_
        refine J_iadd aX12_judge_125 ?_
        refine J_istore_n [(1, .int ((nI 1) + x2)), (5, .int (nI 0)), (4, .int t0), (0, .ref (eb E + 115)), (2, .int x2), (3, .int x3)] aX12_judge_126 (by decide) rfl ?_
        refine J_iinc (x2 + nI 1) [(2, .int (x2 + nI 1)), (1, .int ((nI 1) + x2)), (5, .int (nI 0)), (4, .int t0), (0, .ref (eb E + 115)), (3, .int x3)] 4 aX12_judge_127 rfl (by first | rfl | (congr 1; decide +kernel)) (by decide) rfl ?_
        refine J_goto aX12_judge_130 ?_
        refine J_pick [4, 1, 0] rfl ?_
        exact h
      · replace h := h.2 q
        refine J_iconst (nI 0) aX12_judge_119 (by decide +kernel) ?_
        refine J_goto aX12_judge_120 ?_
        refine J_istore_n [(1, .int (nI 0)), (5, .int (nI 0)), (4, .int t0), (0, .ref (eb E + 115)), (2, .int x2), (3, .int x3)] aX12_judge_126 (by decide) rfl ?_
        refine J_iinc (x2 + nI 1) [(2, .int (x2 + nI 1)), (1, .int (nI 0)), (5, .int (nI 0)), (4, .int t0), (0, .ref (eb E + 115)), (3, .int x3)] 4 aX12_judge_127 rfl (by first | rfl | (congr 1; decide +kernel)) (by decide) rfl ?_
        refine J_goto aX12_judge_130 ?_
        refine J_pick [4, 1, 0] rfl ?_
        exact h
    · replace h := h.2 q
      refine J_aload_n 1 aX12_judge_89 rfl ?_
      refine J_iconst (nI 4) aX12_judge_90 (by decide +kernel) ?_
      refine J_callV [.int (nI 4)] [] aX12_judge_91 lkX12_231_X12 okX12_those sh115 rfl rfl rfl (Nat.le_of_ble_eq_true rfl) (Nat.le_refl _) (Mt_mono h (fun rv I4 h => ?_))
      obtain ⟨v5, rfl, h⟩ := h
      refine J_r1 ?_
      refine J_aload_n 1 aX12_judge_94 rfl ?_
      refine J_getR aX12_judge_95 flX12_47 sh115 rfl ?_
      refine J_iconst (nI 3) aX12_judge_98 (by decide +kernel) ?_
      refine J_iload_n 2 aX12_judge_99 rfl ?_
      refine J_imul aX12_judge_100 ?_
      refine J_iconst (nI 2) aX12_judge_101 (by decide +kernel) ?_
      refine J_iadd aX12_judge_102 ?_
      obtain ⟨j6, e7, b8, h⟩ := h
      refine J_iaload j6 aX12_judge_103 sh128 e7 b8 (by decide) ?_
      refine J_icmp_ne aX12_judge_104 (fun q => ?_) (fun q => ?_)
      · replace h := h.1 q
        refine J_iconst (nI 0) aX12_judge_111 (by decide +kernel) ?_
        refine J_istore [(5, .int (nI 0)), (4, .int t0), (0, .ref (eb E + 115)), (2, .int x2), (3, .int x3)] aX12_judge_112 (by decide) rfl ?_
        refine J_iload 0 aX12_judge_114 rfl ?_
        refine J_if_eq aX12_judge_116 (fun q => ?_) (fun q => ?_)
        · replace h := h.1 q
          refine J_iconst (nI 1) aX12_judge_123 (by decide +kernel) ?_
          refine J_iload_n 3 aX12_judge_124 rfl ?_
          refine J_iadd aX12_judge_125 ?_
          refine J_istore_n [(1, .int ((nI 1) + x2)), (5, .int (nI 0)), (4, .int t0), (0, .ref (eb E + 115)), (2, .int x2), (3, .int x3)] aX12_judge_126 (by decide) rfl ?_
          refine J_iinc (x2 + nI 1) [(2, .int (x2 + nI 1)), (1, .int ((nI 1) + x2)), (5, .int (nI 0)), (4, .int t0), (0, .ref (eb E + 115)), (3, .int x3)] 4 aX12_judge_127 rfl (by first | rfl | (congr 1; decide +kernel)) (by decide) rfl ?_
          refine J_goto aX12_judge_130 ?_
          refine J_pick [4, 1, 0] rfl ?_
          exact h
        · replace h := h.2 q
          refine J_iconst (nI 0) aX12_judge_119 (by decide +kernel) ?_
          refine J_goto aX12_judge_120 ?_
          refine J_istore_n [(1, .int (nI 0)), (5, .int (nI 0)), (4, .int t0), (0, .ref (eb E + 115)), (2, .int x2), (3, .int x3)] aX12_judge_126 (by decide) rfl ?_
          refine J_iinc (x2 + nI 1) [(2, .int (x2 + nI 1)), (1, .int (nI 0)), (5, .int (nI 0)), (4, .int t0), (0, .ref (eb E + 115)), (3, .int x3)] 4 aX12_judge_127 rfl (by first | rfl | (congr 1; decide +kernel)) (by decide) rfl ?_
          refine J_goto aX12_judge_130 ?_
          refine J_pick [4, 1, 0] rfl ?_
          exact h
      · replace h := h.2 q
        refine J_iconst (nI 1) aX12_judge_107 (by decide +kernel) ?_
        refine J_goto aX12_judge_108 ?_
        refine J_istore [(5, .int (nI 1)), (4, .int t0), (0, .ref (eb E + 115)), (2, .int x2), (3, .int x3)] aX12_judge_112 (by decide) rfl ?_
        refine J_iload 0 aX12_judge_114 rfl ?_
        refine J_if_eq aX12_judge_116 (fun q => ?_) (fun q => ?_)
        · replace h := h.1 q
          refine J_iconst (nI 1) aX12_judge_123 (by decide +kernel) ?_
          refine J_iload_n 3 aX12_judge_124 rfl ?_
          refine J_iadd aX12_judge_125 ?_
          refine J_istore_n [(1, .int ((nI 1) + x2)), (5, .int (nI 1)), (4, .int t0), (0, .ref (eb E + 115)), (2, .int x2), (3, .int x3)] aX12_judge_126 (by decide) rfl ?_
          refine J_iinc (x2 + nI 1) [(2, .int (x2 + nI 1)), (1, .int ((nI 1) + x2)), (5, .int (nI 1)), (4, .int t0), (0, .ref (eb E + 115)), (3, .int x3)] 4 aX12_judge_127 rfl (by first | rfl | (congr 1; decide +kernel)) (by decide) rfl ?_
          refine J_goto aX12_judge_130 ?_
          refine J_pick [4, 1, 0] rfl ?_
          exact h
        · replace h := h.2 q
          refine J_iconst (nI 0) aX12_judge_119 (by decide +kernel) ?_
          refine J_goto aX12_judge_120 ?_
          refine J_istore_n [(1, .int (nI 0)), (5, .int (nI 1)), (4, .int t0), (0, .ref (eb E + 115)), (2, .int x2), (3, .int x3)] aX12_judge_126 (by decide) rfl ?_
          refine J_iinc (x2 + nI 1) [(2, .int (x2 + nI 1)), (1, .int (nI 0)), (5, .int (nI 1)), (4, .int t0), (0, .ref (eb E + 115)), (3, .int x3)] 4 aX12_judge_127 rfl (by first | rfl | (congr 1; decide +kernel)) (by decide) rfl ?_
          refine J_goto aX12_judge_130 ?_
          refine J_pick [4, 1, 0] rfl ?_
          exact h
theorem aX12_isSheet_0 : decode mX12_isSheet.2.1 0 = .ok (.iload_n 0, 1) ∧ 0 + 1 = 1 := ⟨by decide +kernel, rfl⟩
theorem aX12_isSheet_1 : decode mX12_isSheet.2.1 1 = .ok (.iconst 0, 1) ∧ 1 + 1 = 2 := ⟨by decide +kernel, rfl⟩
theorem aX12_isSheet_2 : decode mX12_isSheet.2.1 2 = .ok (.iconst 3, 1) ∧ 2 + 1 = 3 := ⟨by decide +kernel, rfl⟩
theorem aX12_isSheet_3 : decode mX12_isSheet.2.1 3 = .ok (.invokestatic 68, 3) ∧ 3 + 3 = 6 := ⟨by decide +kernel, rfl⟩
theorem aX12_isSheet_6 : decode mX12_isSheet.2.1 6 = .ok (.ireturn, 1) := by decide +kernel
theorem S_X12_isSheet {E : EE} {d : Nat} {I : IH} {Q : QT} (x0 : Int32) (h :
(Mt E d mX12_in1 [.int x0, .int (nI 0), .int (nI 3)] I (fun rv I1 => ∃ v2 : Int32, rv = some (.int v2) ∧
 ((v2 = 0 ∨ v2 = 1) ∧ Q (some (.int v2)) I1)))) : Mt E (d + 1) mX12_isSheet [.int x0] I Q := by
  refine Mt_of [(0, .int x0)] (by decide +kernel) (by simp [lg_sl, Value.category, mX12_isSheet]) rfl ?_
  refine J_iload_n 0 aX12_isSheet_0 rfl ?_
  refine J_iconst (nI 0) aX12_isSheet_1 (by decide +kernel) ?_
  refine J_iconst (nI 3) aX12_isSheet_2 (by decide +kernel) ?_
  refine J_callS [.int x0, .int (nI 0), .int (nI 3)] [] aX12_isSheet_3 lkX12_68 okX12_in1 rfl rfl (Nat.le_of_ble_eq_true rfl) (Nat.le_refl _) (Mt_mono h (fun rv I1 h => ?_))
  obtain ⟨v2, rfl, h⟩ := h
  refine J_r1 ?_
  exact J_zret aX12_isSheet_6 rfl (nar_bool h.1).1 h.2
theorem aX12_sheet_0 : decode mX12_sheet.2.1 0 = .ok (.iload_n 1, 1) ∧ 0 + 1 = 1 := ⟨by decide +kernel, rfl⟩
theorem aX12_sheet_1 : decode mX12_sheet.2.1 1 = .ok (.invokestatic 331, 3) ∧ 1 + 3 = 4 := ⟨by decide +kernel, rfl⟩
theorem aX12_sheet_4 : decode mX12_sheet.2.1 4 = .ok (.ifCond .eq 22, 3) ∧ ((4 : Nat) : Int) + 22 = ((26 : Nat) : Int) ∧ 4 + 3 = 7 := ⟨by decide +kernel, by decide, rfl⟩
theorem aX12_sheet_7 : decode mX12_sheet.2.1 7 = .ok (.iload_n 2, 1) ∧ 7 + 1 = 8 := ⟨by decide +kernel, rfl⟩
theorem aX12_sheet_8 : decode mX12_sheet.2.1 8 = .ok (.iconst (-1), 1) ∧ 8 + 1 = 9 := ⟨by decide +kernel, rfl⟩
theorem aX12_sheet_9 : decode mX12_sheet.2.1 9 = .ok (.iconst 4, 1) ∧ 9 + 1 = 10 := ⟨by decide +kernel, rfl⟩
theorem aX12_sheet_10 : decode mX12_sheet.2.1 10 = .ok (.invokestatic 68, 3) ∧ 10 + 3 = 13 := ⟨by decide +kernel, rfl⟩
theorem aX12_sheet_13 : decode mX12_sheet.2.1 13 = .ok (.ifCond .eq 13, 3) ∧ ((13 : Nat) : Int) + 13 = ((26 : Nat) : Int) ∧ 13 + 3 = 16 := ⟨by decide +kernel, by decide, rfl⟩
theorem aX12_sheet_16 : decode mX12_sheet.2.1 16 = .ok (.iload_n 2, 1) ∧ 16 + 1 = 17 := ⟨by decide +kernel, rfl⟩
theorem aX12_sheet_17 : decode mX12_sheet.2.1 17 = .ok (.ifCond .lt 11, 3) ∧ ((17 : Nat) : Int) + 11 = ((28 : Nat) : Int) ∧ 17 + 3 = 20 := ⟨by decide +kernel, by decide, rfl⟩
theorem aX12_sheet_20 : decode mX12_sheet.2.1 20 = .ok (.iload_n 3, 1) ∧ 20 + 1 = 21 := ⟨by decide +kernel, rfl⟩
theorem aX12_sheet_21 : decode mX12_sheet.2.1 21 = .ok (.bipush 40, 2) ∧ 21 + 2 = 23 := ⟨by decide +kernel, rfl⟩
theorem aX12_sheet_23 : decode mX12_sheet.2.1 23 = .ok (.if_icmp .le 5, 3) ∧ ((23 : Nat) : Int) + 5 = ((28 : Nat) : Int) ∧ 23 + 3 = 26 := ⟨by decide +kernel, by decide, rfl⟩
theorem aX12_sheet_26 : decode mX12_sheet.2.1 26 = .ok (.iconst (-1), 1) ∧ 26 + 1 = 27 := ⟨by decide +kernel, rfl⟩
theorem aX12_sheet_27 : decode mX12_sheet.2.1 27 = .ok (.ireturn, 1) := by decide +kernel
theorem aX12_sheet_28 : decode mX12_sheet.2.1 28 = .ok (.iload_n 2, 1) ∧ 28 + 1 = 29 := ⟨by decide +kernel, rfl⟩
theorem aX12_sheet_29 : decode mX12_sheet.2.1 29 = .ok (.ifCond .lt 10, 3) ∧ ((29 : Nat) : Int) + 10 = ((39 : Nat) : Int) ∧ 29 + 3 = 32 := ⟨by decide +kernel, by decide, rfl⟩
theorem aX12_sheet_32 : decode mX12_sheet.2.1 32 = .ok (.iload_n 3, 1) ∧ 32 + 1 = 33 := ⟨by decide +kernel, rfl⟩
theorem aX12_sheet_33 : decode mX12_sheet.2.1 33 = .ok (.ifCond .ge 6, 3) ∧ ((33 : Nat) : Int) + 6 = ((39 : Nat) : Int) ∧ 33 + 3 = 36 := ⟨by decide +kernel, by decide, rfl⟩
theorem aX12_sheet_36 : decode mX12_sheet.2.1 36 = .ok (.bipush (-14), 2) ∧ 36 + 2 = 38 := ⟨by decide +kernel, rfl⟩
theorem aX12_sheet_38 : decode mX12_sheet.2.1 38 = .ok (.ireturn, 1) := by decide +kernel
theorem aX12_sheet_39 : decode mX12_sheet.2.1 39 = .ok (.aload_n 0, 1) ∧ 39 + 1 = 40 := ⟨by decide +kernel, rfl⟩
theorem aX12_sheet_40 : decode mX12_sheet.2.1 40 = .ok (.getfield 50, 3) ∧ 40 + 3 = 43 := ⟨by decide +kernel, rfl⟩
theorem aX12_sheet_43 : decode mX12_sheet.2.1 43 = .ok (.iload_n 1, 1) ∧ 43 + 1 = 44 := ⟨by decide +kernel, rfl⟩
theorem aX12_sheet_44 : decode mX12_sheet.2.1 44 = .ok (.iload_n 2, 1) ∧ 44 + 1 = 45 := ⟨by decide +kernel, rfl⟩
theorem aX12_sheet_45 : decode mX12_sheet.2.1 45 = .ok (.iastore, 1) ∧ 45 + 1 = 46 := ⟨by decide +kernel, rfl⟩
theorem aX12_sheet_46 : decode mX12_sheet.2.1 46 = .ok (.aload_n 0, 1) ∧ 46 + 1 = 47 := ⟨by decide +kernel, rfl⟩
theorem aX12_sheet_47 : decode mX12_sheet.2.1 47 = .ok (.getfield 53, 3) ∧ 47 + 3 = 50 := ⟨by decide +kernel, rfl⟩
theorem aX12_sheet_50 : decode mX12_sheet.2.1 50 = .ok (.iload_n 1, 1) ∧ 50 + 1 = 51 := ⟨by decide +kernel, rfl⟩
theorem aX12_sheet_51 : decode mX12_sheet.2.1 51 = .ok (.iload_n 2, 1) ∧ 51 + 1 = 52 := ⟨by decide +kernel, rfl⟩
theorem aX12_sheet_52 : decode mX12_sheet.2.1 52 = .ok (.ifCond .ge 7, 3) ∧ ((52 : Nat) : Int) + 7 = ((59 : Nat) : Int) ∧ 52 + 3 = 55 := ⟨by decide +kernel, by decide, rfl⟩
theorem aX12_sheet_55 : decode mX12_sheet.2.1 55 = .ok (.iconst 0, 1) ∧ 55 + 1 = 56 := ⟨by decide +kernel, rfl⟩
theorem aX12_sheet_56 : decode mX12_sheet.2.1 56 = .ok (.goto 4, 3) ∧ ((56 : Nat) : Int) + 4 = ((60 : Nat) : Int) := ⟨by decide +kernel, by decide⟩
theorem aX12_sheet_59 : decode mX12_sheet.2.1 59 = .ok (.iload_n 3, 1) ∧ 59 + 1 = 60 := ⟨by decide +kernel, rfl⟩
theorem aX12_sheet_60 : decode mX12_sheet.2.1 60 = .ok (.iastore, 1) ∧ 60 + 1 = 61 := ⟨by decide +kernel, rfl⟩
theorem aX12_sheet_61 : decode mX12_sheet.2.1 61 = .ok (.iconst 0, 1) ∧ 61 + 1 = 62 := ⟨by decide +kernel, rfl⟩
theorem aX12_sheet_62 : decode mX12_sheet.2.1 62 = .ok (.istore 4, 2) ∧ 62 + 2 = 64 := ⟨by decide +kernel, rfl⟩
theorem aX12_sheet_64 : decode mX12_sheet.2.1 64 = .ok (.iload 4, 2) ∧ 64 + 2 = 66 := ⟨by decide +kernel, rfl⟩
theorem aX12_sheet_66 : decode mX12_sheet.2.1 66 = .ok (.bipush 40, 2) ∧ 66 + 2 = 68 := ⟨by decide +kernel, rfl⟩
theorem aX12_sheet_68 : decode mX12_sheet.2.1 68 = .ok (.if_icmp .ge 22, 3) ∧ ((68 : Nat) : Int) + 22 = ((90 : Nat) : Int) ∧ 68 + 3 = 71 := ⟨by decide +kernel, by decide, rfl⟩
theorem aX12_sheet_71 : decode mX12_sheet.2.1 71 = .ok (.aload_n 0, 1) ∧ 71 + 1 = 72 := ⟨by decide +kernel, rfl⟩
theorem aX12_sheet_72 : decode mX12_sheet.2.1 72 = .ok (.getfield 56, 3) ∧ 72 + 3 = 75 := ⟨by decide +kernel, rfl⟩
theorem aX12_sheet_75 : decode mX12_sheet.2.1 75 = .ok (.bipush 40, 2) ∧ 75 + 2 = 77 := ⟨by decide +kernel, rfl⟩
theorem aX12_sheet_77 : decode mX12_sheet.2.1 77 = .ok (.iload_n 1, 1) ∧ 77 + 1 = 78 := ⟨by decide +kernel, rfl⟩
theorem aX12_sheet_78 : decode mX12_sheet.2.1 78 = .ok (.imul, 1) ∧ 78 + 1 = 79 := ⟨by decide +kernel, rfl⟩
theorem aX12_sheet_79 : decode mX12_sheet.2.1 79 = .ok (.iload 4, 2) ∧ 79 + 2 = 81 := ⟨by decide +kernel, rfl⟩
theorem aX12_sheet_81 : decode mX12_sheet.2.1 81 = .ok (.iadd, 1) ∧ 81 + 1 = 82 := ⟨by decide +kernel, rfl⟩
theorem aX12_sheet_82 : decode mX12_sheet.2.1 82 = .ok (.iconst 0, 1) ∧ 82 + 1 = 83 := ⟨by decide +kernel, rfl⟩
theorem aX12_sheet_83 : decode mX12_sheet.2.1 83 = .ok (.iastore, 1) ∧ 83 + 1 = 84 := ⟨by decide +kernel, rfl⟩
theorem aX12_sheet_84 : decode mX12_sheet.2.1 84 = .ok (.iinc 4 1, 3) ∧ 84 + 3 = 87 := ⟨by decide +kernel, rfl⟩
theorem aX12_sheet_87 : decode mX12_sheet.2.1 87 = .ok (.goto (-23), 3) ∧ ((87 : Nat) : Int) + (-23) = ((64 : Nat) : Int) := ⟨by decide +kernel, by decide⟩
theorem aX12_sheet_90 : decode mX12_sheet.2.1 90 = .ok (.iconst 1, 1) ∧ 90 + 1 = 91 := ⟨by decide +kernel, rfl⟩
theorem aX12_sheet_91 : decode mX12_sheet.2.1 91 = .ok (.ireturn, 1) := by decide +kernel
theorem S_X12_sheet {E : EE} {d : Nat} {I : IH} {Q : QT} (x1 : Int32) (x2 : Int32) (x3 : Int32) (h :
(Mt E d mX12_isSheet [.int x1] I (fun rv I1 => ∃ v2 : Int32, rv = some (.int v2) ∧
 ((v2 = 0 → Q (some (.int (-1))) I1) ∧
 (¬ v2 = 0 → (Mt E d mX12_in1 [.int x2, .int (-1), .int (nI 4)] I1 (fun rv I3 => ∃ v4 : Int32, rv = some (.int v4) ∧
 ((v4 = 0 → Q (some (.int (-1))) I3) ∧
 (¬ v4 = 0 → ((x2 < 0 → J E (d + 1) mX12_sheet 28 [(0, .ref (eb E + 115)), (1, .int x1), (2, .int x2), (3, .int x3)] [] I3 Q) ∧
 (¬ x2 < 0 → ((x3 ≤ (nI 40) → J E (d + 1) mX12_sheet 28 [(0, .ref (eb E + 115)), (1, .int x1), (2, .int x2), (3, .int x3)] [] I3 Q) ∧
 (¬ x3 ≤ (nI 40) → Q (some (.int (-1))) I3))))))))))))) : Mt E (d + 1) mX12_sheet [.ref (eb E + 115), .int x1, .int x2, .int x3] I Q := by
  refine Mt_of [(0, .ref (eb E + 115)), (1, .int x1), (2, .int x2), (3, .int x3)] (by decide +kernel) (by simp [lg_sl, Value.category, mX12_sheet]) rfl ?_
  refine J_iload_n 1 aX12_sheet_0 rfl ?_
  refine J_callS [.int x1] [] aX12_sheet_1 lkX12_331 okX12_isSheet rfl rfl (Nat.le_of_ble_eq_true rfl) (Nat.le_refl _) (Mt_mono h (fun rv I1 h => ?_))
  obtain ⟨v2, rfl, h⟩ := h
  refine J_r1 ?_
  refine J_if_eq aX12_sheet_4 (fun q => ?_) (fun q => ?_)
  · replace h := h.1 q
    refine J_iconst (-1) aX12_sheet_26 (by decide +kernel) ?_
    exact J_iret aX12_sheet_27 rfl h
  · replace h := h.2 q
    refine J_iload_n 2 aX12_sheet_7 rfl ?_
    refine J_iconst (-1) aX12_sheet_8 (by decide +kernel) ?_
    refine J_iconst (nI 4) aX12_sheet_9 (by decide +kernel) ?_
    refine J_callS [.int x2, .int (-1), .int (nI 4)] [] aX12_sheet_10 lkX12_68 okX12_in1 rfl rfl (Nat.le_of_ble_eq_true rfl) (Nat.le_refl _) (Mt_mono h (fun rv I3 h => ?_))
    obtain ⟨v4, rfl, h⟩ := h
    refine J_r1 ?_
    refine J_if_eq aX12_sheet_13 (fun q => ?_) (fun q => ?_)
    · replace h := h.1 q
      refine J_iconst (-1) aX12_sheet_26 (by decide +kernel) ?_
      exact J_iret aX12_sheet_27 rfl h
    · replace h := h.2 q
      refine J_iload_n 2 aX12_sheet_16 rfl ?_
      refine J_if_lt aX12_sheet_17 (fun q => ?_) (fun q => ?_)
      · replace h := h.1 q
        refine J_pick [0, 1, 2, 3] rfl ?_
        exact h
      · replace h := h.2 q
        refine J_iload_n 3 aX12_sheet_20 rfl ?_
        refine J_bipush (nI 40) aX12_sheet_21 (by decide +kernel) ?_
        refine J_icmp_le aX12_sheet_23 (fun q => ?_) (fun q => ?_)
        · replace h := h.1 q
          refine J_pick [0, 1, 2, 3] rfl ?_
          exact h
        · replace h := h.2 q
          refine J_iconst (-1) aX12_sheet_26 (by decide +kernel) ?_
          exact J_iret aX12_sheet_27 rfl h
theorem S_X12_sheet_28 {E : EE} {d : Nat} {I : IH} {Q : QT} (x1 : Int32) (x2 : Int32) (x3 : Int32) (h :
((x2 < 0 → J E (d + 1) mX12_sheet 39 [(0, .ref (eb E + 115)), (1, .int x1), (2, .int x2), (3, .int x3)] [] I Q) ∧
 (¬ x2 < 0 → ((0 ≤ x3 → J E (d + 1) mX12_sheet 39 [(0, .ref (eb E + 115)), (1, .int x1), (2, .int x2), (3, .int x3)] [] I Q) ∧
 (¬ 0 ≤ x3 → Q (some (.int (-14))) I))))) : J E (d + 1) mX12_sheet 28 [(0, .ref (eb E + 115)), (1, .int x1), (2, .int x2), (3, .int x3)] [] I Q := by
  refine J_iload_n 2 aX12_sheet_28 rfl ?_
  refine J_if_lt aX12_sheet_29 (fun q => ?_) (fun q => ?_)
  · replace h := h.1 q
    refine J_pick [0, 1, 2, 3] rfl ?_
    exact h
  · replace h := h.2 q
    refine J_iload_n 3 aX12_sheet_32 rfl ?_
    refine J_if_ge aX12_sheet_33 (fun q => ?_) (fun q => ?_)
    · replace h := h.1 q
      refine J_pick [0, 1, 2, 3] rfl ?_
      exact h
    · replace h := h.2 q
      refine J_bipush (-14) aX12_sheet_36 (by decide +kernel) ?_
      exact J_iret aX12_sheet_38 rfl h
theorem S_X12_sheet_39 {E : EE} {d : Nat} {I : IH} {Q : QT} (x1 : Int32) (x2 : Int32) (x3 : Int32) (h :
(∃ j3 : Nat, x1 = nI j3 ∧ j3 < 4 ∧ (∀ I1 : IH, I1 = stI I 129 j3 x2 →
 ((0 ≤ x2 → (∃ j8 : Nat, x1 = nI j8 ∧ j8 < 4 ∧ (∀ I6 : IH, I6 = stI I1 130 j8 x3 →
 J E (d + 1) mX12_sheet 64 [(0, .ref (eb E + 115)), (1, .int x1), (4, .int (nI 0))] [] I6 Q))) ∧
 (¬ 0 ≤ x2 → (∃ j13 : Nat, x1 = nI j13 ∧ j13 < 4 ∧ (∀ I11 : IH, I11 = stI I1 130 j13 (nI 0) →
 J E (d + 1) mX12_sheet 64 [(0, .ref (eb E + 115)), (1, .int x1), (4, .int (nI 0))] [] I11 Q))))))) : J E (d + 1) mX12_sheet 39 [(0, .ref (eb E + 115)), (1, .int x1), (2, .int x2), (3, .int x3)] [] I Q := by
  refine J_aload_n 0 aX12_sheet_39 rfl ?_
  refine J_getR aX12_sheet_40 flX12_50 sh115 rfl ?_
  refine J_iload_n 1 aX12_sheet_43 rfl ?_
  refine J_iload_n 2 aX12_sheet_44 rfl ?_
  obtain ⟨j3, e4, b5, h⟩ := h
  refine J_iastore j3 aX12_sheet_45 sh129 e4 b5 (by decide) (fun I1 e2 => ?_)
  replace h := h I1 e2
  refine J_aload_n 0 aX12_sheet_46 rfl ?_
  refine J_getR aX12_sheet_47 flX12_53 sh115 rfl ?_
  refine J_iload_n 1 aX12_sheet_50 rfl ?_
  refine J_iload_n 2 aX12_sheet_51 rfl ?_
  refine J_if_ge aX12_sheet_52 (fun q => ?_) (fun q => ?_)
  · replace h := h.1 q
    refine J_iload_n 3 aX12_sheet_59 rfl ?_
    obtain ⟨j8, e9, b10, h⟩ := h
    refine J_iastore j8 aX12_sheet_60 sh130 e9 b10 (by decide) (fun I6 e7 => ?_)
    replace h := h I6 e7
    refine J_iconst (nI 0) aX12_sheet_61 (by decide +kernel) ?_
    refine J_istore [(4, .int (nI 0)), (0, .ref (eb E + 115)), (1, .int x1), (2, .int x2), (3, .int x3)] aX12_sheet_62 (by decide) rfl ?_
    refine J_pick [1, 2, 0] rfl ?_
    exact h
  · replace h := h.2 q
    refine J_iconst (nI 0) aX12_sheet_55 (by decide +kernel) ?_
    refine J_goto aX12_sheet_56 ?_
    obtain ⟨j13, e14, b15, h⟩ := h
    refine J_iastore j13 aX12_sheet_60 sh130 e14 b15 (by decide) (fun I11 e12 => ?_)
    replace h := h I11 e12
    refine J_iconst (nI 0) aX12_sheet_61 (by decide +kernel) ?_
    refine J_istore [(4, .int (nI 0)), (0, .ref (eb E + 115)), (1, .int x1), (2, .int x2), (3, .int x3)] aX12_sheet_62 (by decide) rfl ?_
    refine J_pick [1, 2, 0] rfl ?_
    exact h
theorem S_X12_sheet_64 {E : EE} {d : Nat} {I : IH} {Q : QT} (x1 : Int32) (x4 : Int32) (h :
(((nI 40) ≤ x4 → Q (some (.int (nI 1))) I) ∧
 (¬ (nI 40) ≤ x4 → (∃ j3 : Nat, (((nI 40) * x1) + x4) = nI j3 ∧ j3 < 160 ∧ (∀ I1 : IH, I1 = stI I 131 j3 (nI 0) →
 J E (d + 1) mX12_sheet 64 [(0, .ref (eb E + 115)), (1, .int x1), (4, .int (x4 + nI 1))] [] I1 Q))))) : J E (d + 1) mX12_sheet 64 [(0, .ref (eb E + 115)), (1, .int x1), (4, .int x4)] [] I Q := by
  refine J_iload 2 aX12_sheet_64 rfl ?_
  refine J_bipush (nI 40) aX12_sheet_66 (by decide +kernel) ?_
  refine J_icmp_ge aX12_sheet_68 (fun q => ?_) (fun q => ?_)
  · replace h := h.1 q
    refine J_iconst (nI 1) aX12_sheet_90 (by decide +kernel) ?_
    exact J_iret aX12_sheet_91 rfl h
  · replace h := h.2 q
    refine J_aload_n 0 aX12_sheet_71 rfl ?_
    refine J_getR aX12_sheet_72 flX12_56 sh115 rfl ?_
    refine J_bipush (nI 40) aX12_sheet_75 (by decide +kernel) ?_
    refine J_iload_n 1 aX12_sheet_77 rfl ?_
    refine J_imul aX12_sheet_78 ?_
    refine J_iload 2 aX12_sheet_79 rfl ?_
    refine J_iadd aX12_sheet_81 ?_
    refine J_iconst (nI 0) aX12_sheet_82 (by decide +kernel) ?_
    obtain ⟨j3, e4, b5, h⟩ := h
    refine J_iastore j3 aX12_sheet_83 sh131 e4 b5 (by decide) (fun I1 e2 => ?_)
    replace h := h I1 e2
    refine J_iinc (x4 + nI 1) [(4, .int (x4 + nI 1)), (0, .ref (eb E + 115)), (1, .int x1)] 2 aX12_sheet_84 rfl (by first | rfl | (congr 1; decide +kernel)) (by decide) rfl ?_
    refine J_goto aX12_sheet_87 ?_
    refine J_pick [1, 2, 0] rfl ?_
    exact h
theorem aX12_narrowed_0 : decode mX12_narrowed.2.1 0 = .ok (.iload_n 1, 1) ∧ 0 + 1 = 1 := ⟨by decide +kernel, rfl⟩
theorem aX12_narrowed_1 : decode mX12_narrowed.2.1 1 = .ok (.ifCond .ne 8, 3) ∧ ((1 : Nat) : Int) + 8 = ((9 : Nat) : Int) ∧ 1 + 3 = 4 := ⟨by decide +kernel, by decide, rfl⟩
theorem aX12_narrowed_4 : decode mX12_narrowed.2.1 4 = .ok (.iload_n 0, 1) ∧ 4 + 1 = 5 := ⟨by decide +kernel, rfl⟩
theorem aX12_narrowed_5 : decode mX12_narrowed.2.1 5 = .ok (.i2b, 1) ∧ 5 + 1 = 6 := ⟨by decide +kernel, rfl⟩
theorem aX12_narrowed_6 : decode mX12_narrowed.2.1 6 = .ok (.goto 31, 3) ∧ ((6 : Nat) : Int) + 31 = ((37 : Nat) : Int) := ⟨by decide +kernel, by decide⟩
theorem aX12_narrowed_9 : decode mX12_narrowed.2.1 9 = .ok (.iload_n 1, 1) ∧ 9 + 1 = 10 := ⟨by decide +kernel, rfl⟩
theorem aX12_narrowed_10 : decode mX12_narrowed.2.1 10 = .ok (.iconst 1, 1) ∧ 10 + 1 = 11 := ⟨by decide +kernel, rfl⟩
theorem aX12_narrowed_11 : decode mX12_narrowed.2.1 11 = .ok (.if_icmp .ne 8, 3) ∧ ((11 : Nat) : Int) + 8 = ((19 : Nat) : Int) ∧ 11 + 3 = 14 := ⟨by decide +kernel, by decide, rfl⟩
theorem aX12_narrowed_14 : decode mX12_narrowed.2.1 14 = .ok (.iload_n 0, 1) ∧ 14 + 1 = 15 := ⟨by decide +kernel, rfl⟩
theorem aX12_narrowed_15 : decode mX12_narrowed.2.1 15 = .ok (.i2s, 1) ∧ 15 + 1 = 16 := ⟨by decide +kernel, rfl⟩
theorem aX12_narrowed_16 : decode mX12_narrowed.2.1 16 = .ok (.goto 21, 3) ∧ ((16 : Nat) : Int) + 21 = ((37 : Nat) : Int) := ⟨by decide +kernel, by decide⟩
theorem aX12_narrowed_19 : decode mX12_narrowed.2.1 19 = .ok (.iload_n 1, 1) ∧ 19 + 1 = 20 := ⟨by decide +kernel, rfl⟩
theorem aX12_narrowed_20 : decode mX12_narrowed.2.1 20 = .ok (.iconst 4, 1) ∧ 20 + 1 = 21 := ⟨by decide +kernel, rfl⟩
theorem aX12_narrowed_21 : decode mX12_narrowed.2.1 21 = .ok (.if_icmp .ne 15, 3) ∧ ((21 : Nat) : Int) + 15 = ((36 : Nat) : Int) ∧ 21 + 3 = 24 := ⟨by decide +kernel, by decide, rfl⟩
theorem aX12_narrowed_24 : decode mX12_narrowed.2.1 24 = .ok (.iload_n 0, 1) ∧ 24 + 1 = 25 := ⟨by decide +kernel, rfl⟩
theorem aX12_narrowed_25 : decode mX12_narrowed.2.1 25 = .ok (.ifCond .eq 7, 3) ∧ ((25 : Nat) : Int) + 7 = ((32 : Nat) : Int) ∧ 25 + 3 = 28 := ⟨by decide +kernel, by decide, rfl⟩
theorem aX12_narrowed_28 : decode mX12_narrowed.2.1 28 = .ok (.iconst 1, 1) ∧ 28 + 1 = 29 := ⟨by decide +kernel, rfl⟩
theorem aX12_narrowed_29 : decode mX12_narrowed.2.1 29 = .ok (.goto 8, 3) ∧ ((29 : Nat) : Int) + 8 = ((37 : Nat) : Int) := ⟨by decide +kernel, by decide⟩
theorem aX12_narrowed_32 : decode mX12_narrowed.2.1 32 = .ok (.iconst 0, 1) ∧ 32 + 1 = 33 := ⟨by decide +kernel, rfl⟩
theorem aX12_narrowed_33 : decode mX12_narrowed.2.1 33 = .ok (.goto 4, 3) ∧ ((33 : Nat) : Int) + 4 = ((37 : Nat) : Int) := ⟨by decide +kernel, by decide⟩
theorem aX12_narrowed_36 : decode mX12_narrowed.2.1 36 = .ok (.iload_n 0, 1) ∧ 36 + 1 = 37 := ⟨by decide +kernel, rfl⟩
theorem aX12_narrowed_37 : decode mX12_narrowed.2.1 37 = .ok (.ireturn, 1) := by decide +kernel
theorem S_X12_narrowed {E : EE} {d : Nat} {I : IH} {Q : QT} (x0 : Int32) (x1 : Int32) (h :
((¬ x1 = 0 → ((¬ x1 = (nI 1) → ((¬ x1 = (nI 4) → Q (some (.int x0)) I) ∧
 (x1 = (nI 4) → ((x0 = 0 → Q (some (.int (nI 0))) I) ∧
 (¬ x0 = 0 → Q (some (.int (nI 1))) I))))) ∧
 (x1 = (nI 1) → Q (some (.int (x0.toInt16.toInt32))) I))) ∧
 (x1 = 0 → Q (some (.int (x0.toInt8.toInt32))) I))) : Mt E d mX12_narrowed [.int x0, .int x1] I Q := by
  refine Mt_of [(0, .int x0), (1, .int x1)] (by decide +kernel) (by simp [lg_sl, Value.category, mX12_narrowed]) rfl ?_
  refine J_iload_n 1 aX12_narrowed_0 rfl ?_
  refine J_if_ne aX12_narrowed_1 (fun q => ?_) (fun q => ?_)
  · replace h := h.1 q
    refine J_iload_n 1 aX12_narrowed_9 rfl ?_
    refine J_iconst (nI 1) aX12_narrowed_10 (by decide +kernel) ?_
    refine J_icmp_ne aX12_narrowed_11 (fun q => ?_) (fun q => ?_)
    · replace h := h.1 q
      refine J_iload_n 1 aX12_narrowed_19 rfl ?_
      refine J_iconst (nI 4) aX12_narrowed_20 (by decide +kernel) ?_
      refine J_icmp_ne aX12_narrowed_21 (fun q => ?_) (fun q => ?_)
      · replace h := h.1 q
        refine J_iload_n 0 aX12_narrowed_36 rfl ?_
        exact J_iret aX12_narrowed_37 rfl h
      · replace h := h.2 q
        refine J_iload_n 0 aX12_narrowed_24 rfl ?_
        refine J_if_eq aX12_narrowed_25 (fun q => ?_) (fun q => ?_)
        · replace h := h.1 q
          refine J_iconst (nI 0) aX12_narrowed_32 (by decide +kernel) ?_
          refine J_goto aX12_narrowed_33 ?_
          exact J_iret aX12_narrowed_37 rfl h
        · replace h := h.2 q
          refine J_iconst (nI 1) aX12_narrowed_28 (by decide +kernel) ?_
          refine J_goto aX12_narrowed_29 ?_
          exact J_iret aX12_narrowed_37 rfl h
    · replace h := h.2 q
      refine J_iload_n 0 aX12_narrowed_14 rfl ?_
      refine J_i2s aX12_narrowed_15 ?_
      refine J_goto aX12_narrowed_16 ?_
      exact J_iret aX12_narrowed_37 rfl h
  · replace h := h.2 q
    refine J_iload_n 0 aX12_narrowed_4 rfl ?_
    refine J_i2b aX12_narrowed_5 ?_
    refine J_goto aX12_narrowed_6 ?_
    exact J_iret aX12_narrowed_37 rfl h
theorem aX12_write_0 : decode mX12_write.2.1 0 = .ok (.iload_n 1, 1) ∧ 0 + 1 = 1 := ⟨by decide +kernel, rfl⟩
theorem aX12_write_1 : decode mX12_write.2.1 1 = .ok (.invokestatic 331, 3) ∧ 1 + 3 = 4 := ⟨by decide +kernel, rfl⟩
theorem aX12_write_4 : decode mX12_write.2.1 4 = .ok (.ifCond .ne 5, 3) ∧ ((4 : Nat) : Int) + 5 = ((9 : Nat) : Int) ∧ 4 + 3 = 7 := ⟨by decide +kernel, by decide, rfl⟩
theorem aX12_write_7 : decode mX12_write.2.1 7 = .ok (.iconst (-1), 1) ∧ 7 + 1 = 8 := ⟨by decide +kernel, rfl⟩
theorem aX12_write_8 : decode mX12_write.2.1 8 = .ok (.ireturn, 1) := by decide +kernel
theorem aX12_write_9 : decode mX12_write.2.1 9 = .ok (.aload_n 0, 1) ∧ 9 + 1 = 10 := ⟨by decide +kernel, rfl⟩
theorem aX12_write_10 : decode mX12_write.2.1 10 = .ok (.getfield 50, 3) ∧ 10 + 3 = 13 := ⟨by decide +kernel, rfl⟩
theorem aX12_write_13 : decode mX12_write.2.1 13 = .ok (.iload_n 1, 1) ∧ 13 + 1 = 14 := ⟨by decide +kernel, rfl⟩
theorem aX12_write_14 : decode mX12_write.2.1 14 = .ok (.iaload, 1) ∧ 14 + 1 = 15 := ⟨by decide +kernel, rfl⟩
theorem aX12_write_15 : decode mX12_write.2.1 15 = .ok (.ifCond .ge 6, 3) ∧ ((15 : Nat) : Int) + 6 = ((21 : Nat) : Int) ∧ 15 + 3 = 18 := ⟨by decide +kernel, by decide, rfl⟩
theorem aX12_write_18 : decode mX12_write.2.1 18 = .ok (.bipush (-11), 2) ∧ 18 + 2 = 20 := ⟨by decide +kernel, rfl⟩
theorem aX12_write_20 : decode mX12_write.2.1 20 = .ok (.ireturn, 1) := by decide +kernel
theorem aX12_write_21 : decode mX12_write.2.1 21 = .ok (.iload_n 2, 1) ∧ 21 + 1 = 22 := ⟨by decide +kernel, rfl⟩
theorem aX12_write_22 : decode mX12_write.2.1 22 = .ok (.iconst 0, 1) ∧ 22 + 1 = 23 := ⟨by decide +kernel, rfl⟩
theorem aX12_write_23 : decode mX12_write.2.1 23 = .ok (.aload_n 0, 1) ∧ 23 + 1 = 24 := ⟨by decide +kernel, rfl⟩
theorem aX12_write_24 : decode mX12_write.2.1 24 = .ok (.getfield 53, 3) ∧ 24 + 3 = 27 := ⟨by decide +kernel, rfl⟩
theorem aX12_write_27 : decode mX12_write.2.1 27 = .ok (.iload_n 1, 1) ∧ 27 + 1 = 28 := ⟨by decide +kernel, rfl⟩
theorem aX12_write_28 : decode mX12_write.2.1 28 = .ok (.iaload, 1) ∧ 28 + 1 = 29 := ⟨by decide +kernel, rfl⟩
theorem aX12_write_29 : decode mX12_write.2.1 29 = .ok (.iconst 1, 1) ∧ 29 + 1 = 30 := ⟨by decide +kernel, rfl⟩
theorem aX12_write_30 : decode mX12_write.2.1 30 = .ok (.isub, 1) ∧ 30 + 1 = 31 := ⟨by decide +kernel, rfl⟩
theorem aX12_write_31 : decode mX12_write.2.1 31 = .ok (.invokestatic 68, 3) ∧ 31 + 3 = 34 := ⟨by decide +kernel, rfl⟩
theorem aX12_write_34 : decode mX12_write.2.1 34 = .ok (.ifCond .ne 6, 3) ∧ ((34 : Nat) : Int) + 6 = ((40 : Nat) : Int) ∧ 34 + 3 = 37 := ⟨by decide +kernel, by decide, rfl⟩
theorem aX12_write_37 : decode mX12_write.2.1 37 = .ok (.bipush (-12), 2) ∧ 37 + 2 = 39 := ⟨by decide +kernel, rfl⟩
theorem aX12_write_39 : decode mX12_write.2.1 39 = .ok (.ireturn, 1) := by decide +kernel
theorem aX12_write_40 : decode mX12_write.2.1 40 = .ok (.aload_n 0, 1) ∧ 40 + 1 = 41 := ⟨by decide +kernel, rfl⟩
theorem aX12_write_41 : decode mX12_write.2.1 41 = .ok (.getfield 56, 3) ∧ 41 + 3 = 44 := ⟨by decide +kernel, rfl⟩
theorem aX12_write_44 : decode mX12_write.2.1 44 = .ok (.bipush 40, 2) ∧ 44 + 2 = 46 := ⟨by decide +kernel, rfl⟩
theorem aX12_write_46 : decode mX12_write.2.1 46 = .ok (.iload_n 1, 1) ∧ 46 + 1 = 47 := ⟨by decide +kernel, rfl⟩
theorem aX12_write_47 : decode mX12_write.2.1 47 = .ok (.imul, 1) ∧ 47 + 1 = 48 := ⟨by decide +kernel, rfl⟩
theorem aX12_write_48 : decode mX12_write.2.1 48 = .ok (.iload_n 2, 1) ∧ 48 + 1 = 49 := ⟨by decide +kernel, rfl⟩
theorem aX12_write_49 : decode mX12_write.2.1 49 = .ok (.iadd, 1) ∧ 49 + 1 = 50 := ⟨by decide +kernel, rfl⟩
theorem aX12_write_50 : decode mX12_write.2.1 50 = .ok (.iload_n 3, 1) ∧ 50 + 1 = 51 := ⟨by decide +kernel, rfl⟩
theorem aX12_write_51 : decode mX12_write.2.1 51 = .ok (.aload_n 0, 1) ∧ 51 + 1 = 52 := ⟨by decide +kernel, rfl⟩
theorem aX12_write_52 : decode mX12_write.2.1 52 = .ok (.getfield 50, 3) ∧ 52 + 3 = 55 := ⟨by decide +kernel, rfl⟩
theorem aX12_write_55 : decode mX12_write.2.1 55 = .ok (.iload_n 1, 1) ∧ 55 + 1 = 56 := ⟨by decide +kernel, rfl⟩
theorem aX12_write_56 : decode mX12_write.2.1 56 = .ok (.iaload, 1) ∧ 56 + 1 = 57 := ⟨by decide +kernel, rfl⟩
theorem aX12_write_57 : decode mX12_write.2.1 57 = .ok (.invokestatic 334, 3) ∧ 57 + 3 = 60 := ⟨by decide +kernel, rfl⟩
theorem aX12_write_60 : decode mX12_write.2.1 60 = .ok (.iastore, 1) ∧ 60 + 1 = 61 := ⟨by decide +kernel, rfl⟩
theorem aX12_write_61 : decode mX12_write.2.1 61 = .ok (.iconst 1, 1) ∧ 61 + 1 = 62 := ⟨by decide +kernel, rfl⟩
theorem aX12_write_62 : decode mX12_write.2.1 62 = .ok (.ireturn, 1) := by decide +kernel
theorem S_X12_write {E : EE} {d : Nat} {I : IH} {Q : QT} (x1 : Int32) (x2 : Int32) (x3 : Int32) (h :
(Mt E d mX12_isSheet [.int x1] I (fun rv I1 => ∃ v2 : Int32, rv = some (.int v2) ∧
 ((¬ v2 = 0 → (∃ j3 : Nat, x1 = nI j3 ∧ j3 < 4 ∧ ((0 ≤ (I1 129 j3) → (∃ j6 : Nat, x1 = nI j6 ∧ j6 < 4 ∧ (Mt E d mX12_in1 [.int x2, .int (nI 0), .int ((I1 130 j6) - (nI 1))] I1 (fun rv I9 => ∃ v10 : Int32, rv = some (.int v10) ∧
 ((¬ v10 = 0 → (∃ j11 : Nat, x1 = nI j11 ∧ j11 < 4 ∧ (Mt E d mX12_narrowed [.int x3, .int (I9 129 j11)] I9 (fun rv I14 => ∃ v15 : Int32, rv = some (.int v15) ∧
 (∃ j18 : Nat, (((nI 40) * x1) + x2) = nI j18 ∧ j18 < 160 ∧ (∀ I16 : IH, I16 = stI I14 131 j18 v15 →
 Q (some (.int (nI 1))) I16)))))) ∧
 (v10 = 0 → Q (some (.int (-12))) I9)))))) ∧
 (¬ 0 ≤ (I1 129 j3) → Q (some (.int (-11))) I1)))) ∧
 (v2 = 0 → Q (some (.int (-1))) I1))))) : Mt E (d + 1) mX12_write [.ref (eb E + 115), .int x1, .int x2, .int x3] I Q := by
  refine Mt_of [(0, .ref (eb E + 115)), (1, .int x1), (2, .int x2), (3, .int x3)] (by decide +kernel) (by simp [lg_sl, Value.category, mX12_write]) rfl ?_
  refine J_iload_n 1 aX12_write_0 rfl ?_
  refine J_callS [.int x1] [] aX12_write_1 lkX12_331 okX12_isSheet rfl rfl (Nat.le_of_ble_eq_true rfl) (Nat.le_refl _) (Mt_mono h (fun rv I1 h => ?_))
  obtain ⟨v2, rfl, h⟩ := h
  refine J_r1 ?_
  refine J_if_ne aX12_write_4 (fun q => ?_) (fun q => ?_)
  · replace h := h.1 q
    refine J_aload_n 0 aX12_write_9 rfl ?_
    refine J_getR aX12_write_10 flX12_50 sh115 rfl ?_
    refine J_iload_n 1 aX12_write_13 rfl ?_
    obtain ⟨j3, e4, b5, h⟩ := h
    refine J_iaload j3 aX12_write_14 sh129 e4 b5 (by decide) ?_
    refine J_if_ge aX12_write_15 (fun q => ?_) (fun q => ?_)
    · replace h := h.1 q
      refine J_iload_n 2 aX12_write_21 rfl ?_
      refine J_iconst (nI 0) aX12_write_22 (by decide +kernel) ?_
      refine J_aload_n 0 aX12_write_23 rfl ?_
      refine J_getR aX12_write_24 flX12_53 sh115 rfl ?_
      refine J_iload_n 1 aX12_write_27 rfl ?_
      obtain ⟨j6, e7, b8, h⟩ := h
      refine J_iaload j6 aX12_write_28 sh130 e7 b8 (by decide) ?_
      refine J_iconst (nI 1) aX12_write_29 (by decide +kernel) ?_
      refine J_isub aX12_write_30 ?_
      refine J_callS [.int x2, .int (nI 0), .int ((I1 130 j6) - (nI 1))] [] aX12_write_31 lkX12_68 okX12_in1 rfl rfl (Nat.le_of_ble_eq_true rfl) (Nat.le_refl _) (Mt_mono h (fun rv I9 h => ?_))
      obtain ⟨v10, rfl, h⟩ := h
      refine J_r1 ?_
      refine J_if_ne aX12_write_34 (fun q => ?_) (fun q => ?_)
      · replace h := h.1 q
        refine J_aload_n 0 aX12_write_40 rfl ?_
        refine J_getR aX12_write_41 flX12_56 sh115 rfl ?_
        refine J_bipush (nI 40) aX12_write_44 (by decide +kernel) ?_
        refine J_iload_n 1 aX12_write_46 rfl ?_
        refine J_imul aX12_write_47 ?_
        refine J_iload_n 2 aX12_write_48 rfl ?_
        refine J_iadd aX12_write_49 ?_
        refine J_iload_n 3 aX12_write_50 rfl ?_
        refine J_aload_n 0 aX12_write_51 rfl ?_
        refine J_getR aX12_write_52 flX12_50 sh115 rfl ?_
        refine J_iload_n 1 aX12_write_55 rfl ?_
        obtain ⟨j11, e12, b13, h⟩ := h
        refine J_iaload j11 aX12_write_56 sh129 e12 b13 (by decide) ?_
        refine J_callS [.int x3, .int (I9 129 j11)] [.int (((nI 40) * x1) + x2), .ref (eb E + 131)] aX12_write_57 lkX12_334 okX12_narrowed rfl rfl (Nat.le_of_ble_eq_true rfl) (Nat.le_refl _) (Mt_mono h (fun rv I14 h => ?_))
        obtain ⟨v15, rfl, h⟩ := h
        refine J_r1 ?_
        obtain ⟨j18, e19, b20, h⟩ := h
        refine J_iastore j18 aX12_write_60 sh131 e19 b20 (by decide) (fun I16 e17 => ?_)
        replace h := h I16 e17
        refine J_iconst (nI 1) aX12_write_61 (by decide +kernel) ?_
        exact J_iret aX12_write_62 rfl h
      · replace h := h.2 q
        refine J_bipush (-12) aX12_write_37 (by decide +kernel) ?_
        exact J_iret aX12_write_39 rfl h
    · replace h := h.2 q
      refine J_bipush (-11) aX12_write_18 (by decide +kernel) ?_
      exact J_iret aX12_write_20 rfl h
  · replace h := h.2 q
    refine J_iconst (-1) aX12_write_7 (by decide +kernel) ?_
    exact J_iret aX12_write_8 rfl h
theorem aX12_lacks_0 : decode mX12_lacks.2.1 0 = .ok (.aload_n 0, 1) ∧ 0 + 1 = 1 := ⟨by decide +kernel, rfl⟩
theorem aX12_lacks_1 : decode mX12_lacks.2.1 1 = .ok (.getfield 50, 3) ∧ 1 + 3 = 4 := ⟨by decide +kernel, rfl⟩
theorem aX12_lacks_4 : decode mX12_lacks.2.1 4 = .ok (.iload_n 1, 1) ∧ 4 + 1 = 5 := ⟨by decide +kernel, rfl⟩
theorem aX12_lacks_5 : decode mX12_lacks.2.1 5 = .ok (.iaload, 1) ∧ 5 + 1 = 6 := ⟨by decide +kernel, rfl⟩
theorem aX12_lacks_6 : decode mX12_lacks.2.1 6 = .ok (.ifCond .ge 8, 3) ∧ ((6 : Nat) : Int) + 8 = ((14 : Nat) : Int) ∧ 6 + 3 = 9 := ⟨by decide +kernel, by decide, rfl⟩
theorem aX12_lacks_9 : decode mX12_lacks.2.1 9 = .ok (.bipush (-11), 2) ∧ 9 + 2 = 11 := ⟨by decide +kernel, rfl⟩
theorem aX12_lacks_11 : decode mX12_lacks.2.1 11 = .ok (.goto 19, 3) ∧ ((11 : Nat) : Int) + 19 = ((30 : Nat) : Int) := ⟨by decide +kernel, by decide⟩
theorem aX12_lacks_14 : decode mX12_lacks.2.1 14 = .ok (.aload_n 0, 1) ∧ 14 + 1 = 15 := ⟨by decide +kernel, rfl⟩
theorem aX12_lacks_15 : decode mX12_lacks.2.1 15 = .ok (.getfield 50, 3) ∧ 15 + 3 = 18 := ⟨by decide +kernel, rfl⟩
theorem aX12_lacks_18 : decode mX12_lacks.2.1 18 = .ok (.iload_n 1, 1) ∧ 18 + 1 = 19 := ⟨by decide +kernel, rfl⟩
theorem aX12_lacks_19 : decode mX12_lacks.2.1 19 = .ok (.iaload, 1) ∧ 19 + 1 = 20 := ⟨by decide +kernel, rfl⟩
theorem aX12_lacks_20 : decode mX12_lacks.2.1 20 = .ok (.iload_n 2, 1) ∧ 20 + 1 = 21 := ⟨by decide +kernel, rfl⟩
theorem aX12_lacks_21 : decode mX12_lacks.2.1 21 = .ok (.if_icmp .eq 8, 3) ∧ ((21 : Nat) : Int) + 8 = ((29 : Nat) : Int) ∧ 21 + 3 = 24 := ⟨by decide +kernel, by decide, rfl⟩
theorem aX12_lacks_24 : decode mX12_lacks.2.1 24 = .ok (.bipush (-13), 2) ∧ 24 + 2 = 26 := ⟨by decide +kernel, rfl⟩
theorem aX12_lacks_26 : decode mX12_lacks.2.1 26 = .ok (.goto 4, 3) ∧ ((26 : Nat) : Int) + 4 = ((30 : Nat) : Int) := ⟨by decide +kernel, by decide⟩
theorem aX12_lacks_29 : decode mX12_lacks.2.1 29 = .ok (.iconst 0, 1) ∧ 29 + 1 = 30 := ⟨by decide +kernel, rfl⟩
theorem aX12_lacks_30 : decode mX12_lacks.2.1 30 = .ok (.ireturn, 1) := by decide +kernel
theorem S_X12_lacks {E : EE} {d : Nat} {I : IH} {Q : QT} (x1 : Int32) (x2 : Int32) (h :
(∃ j1 : Nat, x1 = nI j1 ∧ j1 < 4 ∧ ((0 ≤ (I 129 j1) → (∃ j4 : Nat, x1 = nI j4 ∧ j4 < 4 ∧ (((I 129 j4) = x2 → Q (some (.int (nI 0))) I) ∧
 (¬ (I 129 j4) = x2 → Q (some (.int (-13))) I)))) ∧
 (¬ 0 ≤ (I 129 j1) → Q (some (.int (-11))) I)))) : Mt E d mX12_lacks [.ref (eb E + 115), .int x1, .int x2] I Q := by
  refine Mt_of [(0, .ref (eb E + 115)), (1, .int x1), (2, .int x2)] (by decide +kernel) (by simp [lg_sl, Value.category, mX12_lacks]) rfl ?_
  refine J_aload_n 0 aX12_lacks_0 rfl ?_
  refine J_getR aX12_lacks_1 flX12_50 sh115 rfl ?_
  refine J_iload_n 1 aX12_lacks_4 rfl ?_
  obtain ⟨j1, e2, b3, h⟩ := h
  refine J_iaload j1 aX12_lacks_5 sh129 e2 b3 (by decide) ?_
  refine J_if_ge aX12_lacks_6 (fun q => ?_) (fun q => ?_)
  · replace h := h.1 q
    refine J_aload_n 0 aX12_lacks_14 rfl ?_
    refine J_getR aX12_lacks_15 flX12_50 sh115 rfl ?_
    refine J_iload_n 1 aX12_lacks_18 rfl ?_
    obtain ⟨j4, e5, b6, h⟩ := h
    refine J_iaload j4 aX12_lacks_19 sh129 e5 b6 (by decide) ?_
    refine J_iload_n 2 aX12_lacks_20 rfl ?_
    refine J_icmp_eq aX12_lacks_21 (fun q => ?_) (fun q => ?_)
    · replace h := h.1 q
      refine J_iconst (nI 0) aX12_lacks_29 (by decide +kernel) ?_
      exact J_iret aX12_lacks_30 rfl h
    · replace h := h.2 q
      refine J_bipush (-13) aX12_lacks_24 (by decide +kernel) ?_
      refine J_goto aX12_lacks_26 ?_
      exact J_iret aX12_lacks_30 rfl h
  · replace h := h.2 q
    refine J_bipush (-11) aX12_lacks_9 (by decide +kernel) ?_
    refine J_goto aX12_lacks_11 ?_
    exact J_iret aX12_lacks_30 rfl h
theorem aX12_item_0 : decode mX12_item.2.1 0 = .ok (.iload_n 1, 1) ∧ 0 + 1 = 1 := ⟨by decide +kernel, rfl⟩
theorem aX12_item_1 : decode mX12_item.2.1 1 = .ok (.invokestatic 331, 3) ∧ 1 + 3 = 4 := ⟨by decide +kernel, rfl⟩
theorem aX12_item_4 : decode mX12_item.2.1 4 = .ok (.ifCond .eq 12, 3) ∧ ((4 : Nat) : Int) + 12 = ((16 : Nat) : Int) ∧ 4 + 3 = 7 := ⟨by decide +kernel, by decide, rfl⟩
theorem aX12_item_7 : decode mX12_item.2.1 7 = .ok (.iload_n 2, 1) ∧ 7 + 1 = 8 := ⟨by decide +kernel, rfl⟩
theorem aX12_item_8 : decode mX12_item.2.1 8 = .ok (.iconst 0, 1) ∧ 8 + 1 = 9 := ⟨by decide +kernel, rfl⟩
theorem aX12_item_9 : decode mX12_item.2.1 9 = .ok (.iconst 4, 1) ∧ 9 + 1 = 10 := ⟨by decide +kernel, rfl⟩
theorem aX12_item_10 : decode mX12_item.2.1 10 = .ok (.invokestatic 68, 3) ∧ 10 + 3 = 13 := ⟨by decide +kernel, rfl⟩
theorem aX12_item_13 : decode mX12_item.2.1 13 = .ok (.ifCond .ne 5, 3) ∧ ((13 : Nat) : Int) + 5 = ((18 : Nat) : Int) ∧ 13 + 3 = 16 := ⟨by decide +kernel, by decide, rfl⟩
theorem aX12_item_16 : decode mX12_item.2.1 16 = .ok (.iconst (-1), 1) ∧ 16 + 1 = 17 := ⟨by decide +kernel, rfl⟩
theorem aX12_item_17 : decode mX12_item.2.1 17 = .ok (.ireturn, 1) := by decide +kernel
theorem aX12_item_18 : decode mX12_item.2.1 18 = .ok (.aload_n 0, 1) ∧ 18 + 1 = 19 := ⟨by decide +kernel, rfl⟩
theorem aX12_item_19 : decode mX12_item.2.1 19 = .ok (.iload_n 1, 1) ∧ 19 + 1 = 20 := ⟨by decide +kernel, rfl⟩
theorem aX12_item_20 : decode mX12_item.2.1 20 = .ok (.iload_n 2, 1) ∧ 20 + 1 = 21 := ⟨by decide +kernel, rfl⟩
theorem aX12_item_21 : decode mX12_item.2.1 21 = .ok (.invokevirtual 337, 3) ∧ 21 + 3 = 24 := ⟨by decide +kernel, rfl⟩
theorem aX12_item_24 : decode mX12_item.2.1 24 = .ok (.istore 4, 2) ∧ 24 + 2 = 26 := ⟨by decide +kernel, rfl⟩
theorem aX12_item_26 : decode mX12_item.2.1 26 = .ok (.iload 4, 2) ∧ 26 + 2 = 28 := ⟨by decide +kernel, rfl⟩
theorem aX12_item_28 : decode mX12_item.2.1 28 = .ok (.ifCond .eq 8, 3) ∧ ((28 : Nat) : Int) + 8 = ((36 : Nat) : Int) ∧ 28 + 3 = 31 := ⟨by decide +kernel, by decide, rfl⟩
theorem aX12_item_31 : decode mX12_item.2.1 31 = .ok (.iload 4, 2) ∧ 31 + 2 = 33 := ⟨by decide +kernel, rfl⟩
theorem aX12_item_33 : decode mX12_item.2.1 33 = .ok (.goto 35, 3) ∧ ((33 : Nat) : Int) + 35 = ((68 : Nat) : Int) := ⟨by decide +kernel, by decide⟩
theorem aX12_item_36 : decode mX12_item.2.1 36 = .ok (.iload_n 3, 1) ∧ 36 + 1 = 37 := ⟨by decide +kernel, rfl⟩
theorem aX12_item_37 : decode mX12_item.2.1 37 = .ok (.iconst 0, 1) ∧ 37 + 1 = 38 := ⟨by decide +kernel, rfl⟩
theorem aX12_item_38 : decode mX12_item.2.1 38 = .ok (.aload_n 0, 1) ∧ 38 + 1 = 39 := ⟨by decide +kernel, rfl⟩
theorem aX12_item_39 : decode mX12_item.2.1 39 = .ok (.getfield 53, 3) ∧ 39 + 3 = 42 := ⟨by decide +kernel, rfl⟩
theorem aX12_item_42 : decode mX12_item.2.1 42 = .ok (.iload_n 1, 1) ∧ 42 + 1 = 43 := ⟨by decide +kernel, rfl⟩
theorem aX12_item_43 : decode mX12_item.2.1 43 = .ok (.iaload, 1) ∧ 43 + 1 = 44 := ⟨by decide +kernel, rfl⟩
theorem aX12_item_44 : decode mX12_item.2.1 44 = .ok (.iconst 1, 1) ∧ 44 + 1 = 45 := ⟨by decide +kernel, rfl⟩
theorem aX12_item_45 : decode mX12_item.2.1 45 = .ok (.isub, 1) ∧ 45 + 1 = 46 := ⟨by decide +kernel, rfl⟩
theorem aX12_item_46 : decode mX12_item.2.1 46 = .ok (.invokestatic 68, 3) ∧ 46 + 3 = 49 := ⟨by decide +kernel, rfl⟩
theorem aX12_item_49 : decode mX12_item.2.1 49 = .ok (.ifCond .eq 17, 3) ∧ ((49 : Nat) : Int) + 17 = ((66 : Nat) : Int) ∧ 49 + 3 = 52 := ⟨by decide +kernel, by decide, rfl⟩
theorem aX12_item_52 : decode mX12_item.2.1 52 = .ok (.aload_n 0, 1) ∧ 52 + 1 = 53 := ⟨by decide +kernel, rfl⟩
theorem aX12_item_53 : decode mX12_item.2.1 53 = .ok (.getfield 56, 3) ∧ 53 + 3 = 56 := ⟨by decide +kernel, rfl⟩
theorem aX12_item_56 : decode mX12_item.2.1 56 = .ok (.bipush 40, 2) ∧ 56 + 2 = 58 := ⟨by decide +kernel, rfl⟩
theorem aX12_item_58 : decode mX12_item.2.1 58 = .ok (.iload_n 1, 1) ∧ 58 + 1 = 59 := ⟨by decide +kernel, rfl⟩
theorem aX12_item_59 : decode mX12_item.2.1 59 = .ok (.imul, 1) ∧ 59 + 1 = 60 := ⟨by decide +kernel, rfl⟩
theorem aX12_item_60 : decode mX12_item.2.1 60 = .ok (.iload_n 3, 1) ∧ 60 + 1 = 61 := ⟨by decide +kernel, rfl⟩
theorem aX12_item_61 : decode mX12_item.2.1 61 = .ok (.iadd, 1) ∧ 61 + 1 = 62 := ⟨by decide +kernel, rfl⟩
theorem aX12_item_62 : decode mX12_item.2.1 62 = .ok (.iaload, 1) ∧ 62 + 1 = 63 := ⟨by decide +kernel, rfl⟩
theorem aX12_item_63 : decode mX12_item.2.1 63 = .ok (.goto 5, 3) ∧ ((63 : Nat) : Int) + 5 = ((68 : Nat) : Int) := ⟨by decide +kernel, by decide⟩
theorem aX12_item_66 : decode mX12_item.2.1 66 = .ok (.bipush (-12), 2) ∧ 66 + 2 = 68 := ⟨by decide +kernel, rfl⟩
theorem aX12_item_68 : decode mX12_item.2.1 68 = .ok (.ireturn, 1) := by decide +kernel
theorem S_X12_item {E : EE} {d : Nat} {I : IH} {Q : QT} (x1 : Int32) (x2 : Int32) (x3 : Int32) (h :
(Mt E d mX12_isSheet [.int x1] I (fun rv I1 => ∃ v2 : Int32, rv = some (.int v2) ∧
 ((v2 = 0 → Q (some (.int (-1))) I1) ∧
 (¬ v2 = 0 → (Mt E d mX12_in1 [.int x2, .int (nI 0), .int (nI 4)] I1 (fun rv I3 => ∃ v4 : Int32, rv = some (.int v4) ∧
 ((¬ v4 = 0 → (Mt E d mX12_lacks [.ref (eb E + 115), .int x1, .int x2] I3 (fun rv I5 => ∃ v6 : Int32, rv = some (.int v6) ∧
 ((v6 = 0 → (∃ j7 : Nat, x1 = nI j7 ∧ j7 < 4 ∧ (Mt E d mX12_in1 [.int x3, .int (nI 0), .int ((I5 130 j7) - (nI 1))] I5 (fun rv I10 => ∃ v11 : Int32, rv = some (.int v11) ∧
 ((v11 = 0 → Q (some (.int (-12))) I10) ∧
 (¬ v11 = 0 → (∃ j12 : Nat, (((nI 40) * x1) + x3) = nI j12 ∧ j12 < 160 ∧ Q (some (.int (I10 131 j12))) I10))))))) ∧
 (¬ v6 = 0 → Q (some (.int v6)) I5))))) ∧
 (v4 = 0 → Q (some (.int (-1))) I3))))))))) : Mt E (d + 1) mX12_item [.ref (eb E + 115), .int x1, .int x2, .int x3] I Q := by
  refine Mt_of [(0, .ref (eb E + 115)), (1, .int x1), (2, .int x2), (3, .int x3)] (by decide +kernel) (by simp [lg_sl, Value.category, mX12_item]) rfl ?_
  refine J_iload_n 1 aX12_item_0 rfl ?_
  refine J_callS [.int x1] [] aX12_item_1 lkX12_331 okX12_isSheet rfl rfl (Nat.le_of_ble_eq_true rfl) (Nat.le_refl _) (Mt_mono h (fun rv I1 h => ?_))
  obtain ⟨v2, rfl, h⟩ := h
  refine J_r1 ?_
  refine J_if_eq aX12_item_4 (fun q => ?_) (fun q => ?_)
  · replace h := h.1 q
    refine J_iconst (-1) aX12_item_16 (by decide +kernel) ?_
    exact J_iret aX12_item_17 rfl h
  · replace h := h.2 q
    refine J_iload_n 2 aX12_item_7 rfl ?_
    refine J_iconst (nI 0) aX12_item_8 (by decide +kernel) ?_
    refine J_iconst (nI 4) aX12_item_9 (by decide +kernel) ?_
    refine J_callS [.int x2, .int (nI 0), .int (nI 4)] [] aX12_item_10 lkX12_68 okX12_in1 rfl rfl (Nat.le_of_ble_eq_true rfl) (Nat.le_refl _) (Mt_mono h (fun rv I3 h => ?_))
    obtain ⟨v4, rfl, h⟩ := h
    refine J_r1 ?_
    refine J_if_ne aX12_item_13 (fun q => ?_) (fun q => ?_)
    · replace h := h.1 q
      refine J_aload_n 0 aX12_item_18 rfl ?_
      refine J_iload_n 1 aX12_item_19 rfl ?_
      refine J_iload_n 2 aX12_item_20 rfl ?_
      refine J_callV [.int x1, .int x2] [] aX12_item_21 lkX12_337_X12 okX12_lacks sh115 rfl rfl rfl (Nat.le_of_ble_eq_true rfl) (Nat.le_refl _) (Mt_mono h (fun rv I5 h => ?_))
      obtain ⟨v6, rfl, h⟩ := h
      refine J_r1 ?_
      refine J_istore [(4, .int v6), (0, .ref (eb E + 115)), (1, .int x1), (2, .int x2), (3, .int x3)] aX12_item_24 (by decide) rfl ?_
      refine J_iload 0 aX12_item_26 rfl ?_
      refine J_if_eq aX12_item_28 (fun q => ?_) (fun q => ?_)
      · replace h := h.1 q
        refine J_iload_n 4 aX12_item_36 rfl ?_
        refine J_iconst (nI 0) aX12_item_37 (by decide +kernel) ?_
        refine J_aload_n 1 aX12_item_38 rfl ?_
        refine J_getR aX12_item_39 flX12_53 sh115 rfl ?_
        refine J_iload_n 2 aX12_item_42 rfl ?_
        obtain ⟨j7, e8, b9, h⟩ := h
        refine J_iaload j7 aX12_item_43 sh130 e8 b9 (by decide) ?_
        refine J_iconst (nI 1) aX12_item_44 (by decide +kernel) ?_
        refine J_isub aX12_item_45 ?_
        refine J_callS [.int x3, .int (nI 0), .int ((I5 130 j7) - (nI 1))] [] aX12_item_46 lkX12_68 okX12_in1 rfl rfl (Nat.le_of_ble_eq_true rfl) (Nat.le_refl _) (Mt_mono h (fun rv I10 h => ?_))
        obtain ⟨v11, rfl, h⟩ := h
        refine J_r1 ?_
        refine J_if_eq aX12_item_49 (fun q => ?_) (fun q => ?_)
        · replace h := h.1 q
          refine J_bipush (-12) aX12_item_66 (by decide +kernel) ?_
          exact J_iret aX12_item_68 rfl h
        · replace h := h.2 q
          refine J_aload_n 1 aX12_item_52 rfl ?_
          refine J_getR aX12_item_53 flX12_56 sh115 rfl ?_
          refine J_bipush (nI 40) aX12_item_56 (by decide +kernel) ?_
          refine J_iload_n 2 aX12_item_58 rfl ?_
          refine J_imul aX12_item_59 ?_
          refine J_iload_n 4 aX12_item_60 rfl ?_
          refine J_iadd aX12_item_61 ?_
          obtain ⟨j12, e13, b14, h⟩ := h
          refine J_iaload j12 aX12_item_62 sh131 e13 b14 (by decide) ?_
          refine J_goto aX12_item_63 ?_
          exact J_iret aX12_item_68 rfl h
      · replace h := h.2 q
        refine J_iload 0 aX12_item_31 rfl ?_
        refine J_goto aX12_item_33 ?_
        exact J_iret aX12_item_68 rfl h
    · replace h := h.2 q
      refine J_iconst (-1) aX12_item_16 (by decide +kernel) ?_
      exact J_iret aX12_item_17 rfl h
theorem aX12_isItem_0 : decode mX12_isItem.2.1 0 = .ok (.iload_n 2, 1) ∧ 0 + 1 = 1 := ⟨by decide +kernel, rfl⟩
theorem aX12_isItem_1 : decode mX12_isItem.2.1 1 = .ok (.ifCond .lt 19, 3) ∧ ((1 : Nat) : Int) + 19 = ((20 : Nat) : Int) ∧ 1 + 3 = 4 := ⟨by decide +kernel, by decide, rfl⟩
theorem aX12_isItem_4 : decode mX12_isItem.2.1 4 = .ok (.iload_n 2, 1) ∧ 4 + 1 = 5 := ⟨by decide +kernel, rfl⟩
theorem aX12_isItem_5 : decode mX12_isItem.2.1 5 = .ok (.aload_n 0, 1) ∧ 5 + 1 = 6 := ⟨by decide +kernel, rfl⟩
theorem aX12_isItem_6 : decode mX12_isItem.2.1 6 = .ok (.getfield 53, 3) ∧ 6 + 3 = 9 := ⟨by decide +kernel, rfl⟩
theorem aX12_isItem_9 : decode mX12_isItem.2.1 9 = .ok (.iload_n 1, 1) ∧ 9 + 1 = 10 := ⟨by decide +kernel, rfl⟩
theorem aX12_isItem_10 : decode mX12_isItem.2.1 10 = .ok (.iaload, 1) ∧ 10 + 1 = 11 := ⟨by decide +kernel, rfl⟩
theorem aX12_isItem_11 : decode mX12_isItem.2.1 11 = .ok (.iload_n 3, 1) ∧ 11 + 1 = 12 := ⟨by decide +kernel, rfl⟩
theorem aX12_isItem_12 : decode mX12_isItem.2.1 12 = .ok (.isub, 1) ∧ 12 + 1 = 13 := ⟨by decide +kernel, rfl⟩
theorem aX12_isItem_13 : decode mX12_isItem.2.1 13 = .ok (.if_icmp .ge 7, 3) ∧ ((13 : Nat) : Int) + 7 = ((20 : Nat) : Int) ∧ 13 + 3 = 16 := ⟨by decide +kernel, by decide, rfl⟩
theorem aX12_isItem_16 : decode mX12_isItem.2.1 16 = .ok (.iconst 1, 1) ∧ 16 + 1 = 17 := ⟨by decide +kernel, rfl⟩
theorem aX12_isItem_17 : decode mX12_isItem.2.1 17 = .ok (.goto 4, 3) ∧ ((17 : Nat) : Int) + 4 = ((21 : Nat) : Int) := ⟨by decide +kernel, by decide⟩
theorem aX12_isItem_20 : decode mX12_isItem.2.1 20 = .ok (.iconst 0, 1) ∧ 20 + 1 = 21 := ⟨by decide +kernel, rfl⟩
theorem aX12_isItem_21 : decode mX12_isItem.2.1 21 = .ok (.ireturn, 1) := by decide +kernel
theorem S_X12_isItem {E : EE} {d : Nat} {I : IH} {Q : QT} (x1 : Int32) (x2 : Int32) (x3 : Int32) (h :
((x2 < 0 → Q (some (.int (nI 0))) I) ∧
 (¬ x2 < 0 → (∃ j1 : Nat, x1 = nI j1 ∧ j1 < 4 ∧ ((((I 130 j1) - x3) ≤ x2 → Q (some (.int (nI 0))) I) ∧
 (¬ ((I 130 j1) - x3) ≤ x2 → Q (some (.int (nI 1))) I)))))) : Mt E d mX12_isItem [.ref (eb E + 115), .int x1, .int x2, .int x3] I Q := by
  refine Mt_of [(0, .ref (eb E + 115)), (1, .int x1), (2, .int x2), (3, .int x3)] (by decide +kernel) (by simp [lg_sl, Value.category, mX12_isItem]) rfl ?_
  refine J_iload_n 2 aX12_isItem_0 rfl ?_
  refine J_if_lt aX12_isItem_1 (fun q => ?_) (fun q => ?_)
  · replace h := h.1 q
    refine J_iconst (nI 0) aX12_isItem_20 (by decide +kernel) ?_
    exact J_zret aX12_isItem_21 rfl (by decide +kernel) h
  · replace h := h.2 q
    refine J_iload_n 2 aX12_isItem_4 rfl ?_
    refine J_aload_n 0 aX12_isItem_5 rfl ?_
    refine J_getR aX12_isItem_6 flX12_53 sh115 rfl ?_
    refine J_iload_n 1 aX12_isItem_9 rfl ?_
    obtain ⟨j1, e2, b3, h⟩ := h
    refine J_iaload j1 aX12_isItem_10 sh130 e2 b3 (by decide) ?_
    refine J_iload_n 3 aX12_isItem_11 rfl ?_
    refine J_isub aX12_isItem_12 ?_
    refine J_icmp_ge aX12_isItem_13 (fun q => ?_) (fun q => ?_)
    · replace h := h.1 q
      refine J_iconst (nI 0) aX12_isItem_20 (by decide +kernel) ?_
      exact J_zret aX12_isItem_21 rfl (by decide +kernel) h
    · replace h := h.2 q
      refine J_iconst (nI 1) aX12_isItem_16 (by decide +kernel) ?_
      refine J_goto aX12_isItem_17 ?_
      exact J_zret aX12_isItem_21 rfl (by decide +kernel) h
theorem aX12_goAll_0 : decode mX12_goAll.2.1 0 = .ok (.iload_n 1, 1) ∧ 0 + 1 = 1 := ⟨by decide +kernel, rfl⟩
theorem aX12_goAll_1 : decode mX12_goAll.2.1 1 = .ok (.invokestatic 331, 3) ∧ 1 + 3 = 4 := ⟨by decide +kernel, rfl⟩
theorem aX12_goAll_4 : decode mX12_goAll.2.1 4 = .ok (.ifCond .eq 13, 3) ∧ ((4 : Nat) : Int) + 13 = ((17 : Nat) : Int) ∧ 4 + 3 = 7 := ⟨by decide +kernel, by decide, rfl⟩
theorem aX12_goAll_7 : decode mX12_goAll.2.1 7 = .ok (.iload_n 3, 1) ∧ 7 + 1 = 8 := ⟨by decide +kernel, rfl⟩
theorem aX12_goAll_8 : decode mX12_goAll.2.1 8 = .ok (.iconst 0, 1) ∧ 8 + 1 = 9 := ⟨by decide +kernel, rfl⟩
theorem aX12_goAll_9 : decode mX12_goAll.2.1 9 = .ok (.bipush 20, 2) ∧ 9 + 2 = 11 := ⟨by decide +kernel, rfl⟩
theorem aX12_goAll_11 : decode mX12_goAll.2.1 11 = .ok (.invokestatic 68, 3) ∧ 11 + 3 = 14 := ⟨by decide +kernel, rfl⟩
theorem aX12_goAll_14 : decode mX12_goAll.2.1 14 = .ok (.ifCond .ne 5, 3) ∧ ((14 : Nat) : Int) + 5 = ((19 : Nat) : Int) ∧ 14 + 3 = 17 := ⟨by decide +kernel, by decide, rfl⟩
theorem aX12_goAll_17 : decode mX12_goAll.2.1 17 = .ok (.iconst (-1), 1) ∧ 17 + 1 = 18 := ⟨by decide +kernel, rfl⟩
theorem aX12_goAll_18 : decode mX12_goAll.2.1 18 = .ok (.ireturn, 1) := by decide +kernel
theorem aX12_goAll_19 : decode mX12_goAll.2.1 19 = .ok (.aload_n 0, 1) ∧ 19 + 1 = 20 := ⟨by decide +kernel, rfl⟩
theorem aX12_goAll_20 : decode mX12_goAll.2.1 20 = .ok (.iload_n 1, 1) ∧ 20 + 1 = 21 := ⟨by decide +kernel, rfl⟩
theorem aX12_goAll_21 : decode mX12_goAll.2.1 21 = .ok (.iconst 0, 1) ∧ 21 + 1 = 22 := ⟨by decide +kernel, rfl⟩
theorem aX12_goAll_22 : decode mX12_goAll.2.1 22 = .ok (.invokevirtual 337, 3) ∧ 22 + 3 = 25 := ⟨by decide +kernel, rfl⟩
theorem aX12_goAll_25 : decode mX12_goAll.2.1 25 = .ok (.istore 4, 2) ∧ 25 + 2 = 27 := ⟨by decide +kernel, rfl⟩
theorem aX12_goAll_27 : decode mX12_goAll.2.1 27 = .ok (.iload 4, 2) ∧ 27 + 2 = 29 := ⟨by decide +kernel, rfl⟩
theorem aX12_goAll_29 : decode mX12_goAll.2.1 29 = .ok (.ifCond .eq 6, 3) ∧ ((29 : Nat) : Int) + 6 = ((35 : Nat) : Int) ∧ 29 + 3 = 32 := ⟨by decide +kernel, by decide, rfl⟩
theorem aX12_goAll_32 : decode mX12_goAll.2.1 32 = .ok (.iload 4, 2) ∧ 32 + 2 = 34 := ⟨by decide +kernel, rfl⟩
theorem aX12_goAll_34 : decode mX12_goAll.2.1 34 = .ok (.ireturn, 1) := by decide +kernel
theorem aX12_goAll_35 : decode mX12_goAll.2.1 35 = .ok (.iconst 0, 1) ∧ 35 + 1 = 36 := ⟨by decide +kernel, rfl⟩
theorem aX12_goAll_36 : decode mX12_goAll.2.1 36 = .ok (.istore 5, 2) ∧ 36 + 2 = 38 := ⟨by decide +kernel, rfl⟩
theorem aX12_goAll_38 : decode mX12_goAll.2.1 38 = .ok (.iconst 0, 1) ∧ 38 + 1 = 39 := ⟨by decide +kernel, rfl⟩
theorem aX12_goAll_39 : decode mX12_goAll.2.1 39 = .ok (.istore 6, 2) ∧ 39 + 2 = 41 := ⟨by decide +kernel, rfl⟩
theorem aX12_goAll_41 : decode mX12_goAll.2.1 41 = .ok (.iload 6, 2) ∧ 41 + 2 = 43 := ⟨by decide +kernel, rfl⟩
theorem aX12_goAll_43 : decode mX12_goAll.2.1 43 = .ok (.iload_n 3, 1) ∧ 43 + 1 = 44 := ⟨by decide +kernel, rfl⟩
theorem aX12_goAll_44 : decode mX12_goAll.2.1 44 = .ok (.if_icmp .ge 70, 3) ∧ ((44 : Nat) : Int) + 70 = ((114 : Nat) : Int) ∧ 44 + 3 = 47 := ⟨by decide +kernel, by decide, rfl⟩
theorem aX12_goAll_47 : decode mX12_goAll.2.1 47 = .ok (.aload_n 0, 1) ∧ 47 + 1 = 48 := ⟨by decide +kernel, rfl⟩
theorem aX12_goAll_48 : decode mX12_goAll.2.1 48 = .ok (.iload_n 1, 1) ∧ 48 + 1 = 49 := ⟨by decide +kernel, rfl⟩
theorem aX12_goAll_49 : decode mX12_goAll.2.1 49 = .ok (.iload_n 2, 1) ∧ 49 + 1 = 50 := ⟨by decide +kernel, rfl⟩
theorem aX12_goAll_50 : decode mX12_goAll.2.1 50 = .ok (.iload 6, 2) ∧ 50 + 2 = 52 := ⟨by decide +kernel, rfl⟩
theorem aX12_goAll_52 : decode mX12_goAll.2.1 52 = .ok (.invokevirtual 340, 3) ∧ 52 + 3 = 55 := ⟨by decide +kernel, rfl⟩
theorem aX12_goAll_55 : decode mX12_goAll.2.1 55 = .ok (.ifCond .ne 6, 3) ∧ ((55 : Nat) : Int) + 6 = ((61 : Nat) : Int) ∧ 55 + 3 = 58 := ⟨by decide +kernel, by decide, rfl⟩
theorem aX12_goAll_58 : decode mX12_goAll.2.1 58 = .ok (.bipush (-12), 2) ∧ 58 + 2 = 60 := ⟨by decide +kernel, rfl⟩
theorem aX12_goAll_60 : decode mX12_goAll.2.1 60 = .ok (.ireturn, 1) := by decide +kernel
theorem aX12_goAll_61 : decode mX12_goAll.2.1 61 = .ok (.aload_n 0, 1) ∧ 61 + 1 = 62 := ⟨by decide +kernel, rfl⟩
theorem aX12_goAll_62 : decode mX12_goAll.2.1 62 = .ok (.getfield 56, 3) ∧ 62 + 3 = 65 := ⟨by decide +kernel, rfl⟩
theorem aX12_goAll_65 : decode mX12_goAll.2.1 65 = .ok (.bipush 40, 2) ∧ 65 + 2 = 67 := ⟨by decide +kernel, rfl⟩
theorem aX12_goAll_67 : decode mX12_goAll.2.1 67 = .ok (.iload_n 1, 1) ∧ 67 + 1 = 68 := ⟨by decide +kernel, rfl⟩
theorem aX12_goAll_68 : decode mX12_goAll.2.1 68 = .ok (.imul, 1) ∧ 68 + 1 = 69 := ⟨by decide +kernel, rfl⟩
theorem aX12_goAll_69 : decode mX12_goAll.2.1 69 = .ok (.iload_n 2, 1) ∧ 69 + 1 = 70 := ⟨by decide +kernel, rfl⟩
theorem aX12_goAll_70 : decode mX12_goAll.2.1 70 = .ok (.iadd, 1) ∧ 70 + 1 = 71 := ⟨by decide +kernel, rfl⟩
theorem aX12_goAll_71 : decode mX12_goAll.2.1 71 = .ok (.iload 6, 2) ∧ 71 + 2 = 73 := ⟨by decide +kernel, rfl⟩
theorem aX12_goAll_73 : decode mX12_goAll.2.1 73 = .ok (.iadd, 1) ∧ 73 + 1 = 74 := ⟨by decide +kernel, rfl⟩
theorem aX12_goAll_74 : decode mX12_goAll.2.1 74 = .ok (.iaload, 1) ∧ 74 + 1 = 75 := ⟨by decide +kernel, rfl⟩
theorem aX12_goAll_75 : decode mX12_goAll.2.1 75 = .ok (.istore 7, 2) ∧ 75 + 2 = 77 := ⟨by decide +kernel, rfl⟩
theorem aX12_goAll_77 : decode mX12_goAll.2.1 77 = .ok (.iload 5, 2) ∧ 77 + 2 = 79 := ⟨by decide +kernel, rfl⟩
theorem aX12_goAll_79 : decode mX12_goAll.2.1 79 = .ok (.aload_n 0, 1) ∧ 79 + 1 = 80 := ⟨by decide +kernel, rfl⟩
theorem aX12_goAll_80 : decode mX12_goAll.2.1 80 = .ok (.iload 7, 2) ∧ 80 + 2 = 82 := ⟨by decide +kernel, rfl⟩
theorem aX12_goAll_82 : decode mX12_goAll.2.1 82 = .ok (.invokevirtual 328, 3) ∧ 82 + 3 = 85 := ⟨by decide +kernel, rfl⟩
theorem aX12_goAll_85 : decode mX12_goAll.2.1 85 = .ok (.ifCond .eq 19, 3) ∧ ((85 : Nat) : Int) + 19 = ((104 : Nat) : Int) ∧ 85 + 3 = 88 := ⟨by decide +kernel, by decide, rfl⟩
theorem aX12_goAll_88 : decode mX12_goAll.2.1 88 = .ok (.aload_n 0, 1) ∧ 88 + 1 = 89 := ⟨by decide +kernel, rfl⟩
theorem aX12_goAll_89 : decode mX12_goAll.2.1 89 = .ok (.invokevirtual 228, 3) ∧ 89 + 3 = 92 := ⟨by decide +kernel, rfl⟩
theorem aX12_goAll_92 : decode mX12_goAll.2.1 92 = .ok (.ifCond .ne 12, 3) ∧ ((92 : Nat) : Int) + 12 = ((104 : Nat) : Int) ∧ 92 + 3 = 95 := ⟨by decide +kernel, by decide, rfl⟩
theorem aX12_goAll_95 : decode mX12_goAll.2.1 95 = .ok (.aload_n 0, 1) ∧ 95 + 1 = 96 := ⟨by decide +kernel, rfl⟩
theorem aX12_goAll_96 : decode mX12_goAll.2.1 96 = .ok (.iload 7, 2) ∧ 96 + 2 = 98 := ⟨by decide +kernel, rfl⟩
theorem aX12_goAll_98 : decode mX12_goAll.2.1 98 = .ok (.invokevirtual 234, 3) ∧ 98 + 3 = 101 := ⟨by decide +kernel, rfl⟩
theorem aX12_goAll_101 : decode mX12_goAll.2.1 101 = .ok (.goto 4, 3) ∧ ((101 : Nat) : Int) + 4 = ((105 : Nat) : Int) := ⟨by decide +kernel, by decide⟩
theorem aX12_goAll_104 : decode mX12_goAll.2.1 104 = .ok (.iconst 0, 1) ∧ 104 + 1 = 105 := ⟨by decide +kernel, rfl⟩
theorem aX12_goAll_105 : decode mX12_goAll.2.1 105 = .ok (.iadd, 1) ∧ 105 + 1 = 106 := ⟨by decide +kernel, rfl⟩
theorem aX12_goAll_106 : decode mX12_goAll.2.1 106 = .ok (.istore 5, 2) ∧ 106 + 2 = 108 := ⟨by decide +kernel, rfl⟩
theorem aX12_goAll_108 : decode mX12_goAll.2.1 108 = .ok (.iinc 6 1, 3) ∧ 108 + 3 = 111 := ⟨by decide +kernel, rfl⟩
theorem aX12_goAll_111 : decode mX12_goAll.2.1 111 = .ok (.goto (-70), 3) ∧ ((111 : Nat) : Int) + (-70) = ((41 : Nat) : Int) := ⟨by decide +kernel, by decide⟩
theorem aX12_goAll_114 : decode mX12_goAll.2.1 114 = .ok (.iload 5, 2) ∧ 114 + 2 = 116 := ⟨by decide +kernel, rfl⟩
theorem aX12_goAll_116 : decode mX12_goAll.2.1 116 = .ok (.ireturn, 1) := by decide +kernel
theorem S_X12_goAll {E : EE} {d : Nat} {I : IH} {Q : QT} (x1 : Int32) (x2 : Int32) (x3 : Int32) (h :
(Mt E d mX12_isSheet [.int x1] I (fun rv I1 => ∃ v2 : Int32, rv = some (.int v2) ∧
 ((v2 = 0 → Q (some (.int (-1))) I1) ∧
 (¬ v2 = 0 → (Mt E d mX12_in1 [.int x3, .int (nI 0), .int (nI 20)] I1 (fun rv I3 => ∃ v4 : Int32, rv = some (.int v4) ∧
 ((¬ v4 = 0 → (Mt E d mX12_lacks [.ref (eb E + 115), .int x1, .int (nI 0)] I3 (fun rv I5 => ∃ v6 : Int32, rv = some (.int v6) ∧
 ((v6 = 0 → J E (d + 1) mX12_goAll 41 [(0, .ref (eb E + 115)), (1, .int x1), (2, .int x2), (3, .int x3), (5, .int (nI 0)), (6, .int (nI 0))] [] I5 Q) ∧
 (¬ v6 = 0 → Q (some (.int v6)) I5))))) ∧
 (v4 = 0 → Q (some (.int (-1))) I3))))))))) : Mt E (d + 1) mX12_goAll [.ref (eb E + 115), .int x1, .int x2, .int x3] I Q := by
  refine Mt_of [(0, .ref (eb E + 115)), (1, .int x1), (2, .int x2), (3, .int x3)] (by decide +kernel) (by simp [lg_sl, Value.category, mX12_goAll]) rfl ?_
  refine J_iload_n 1 aX12_goAll_0 rfl ?_
  refine J_callS [.int x1] [] aX12_goAll_1 lkX12_331 okX12_isSheet rfl rfl (Nat.le_of_ble_eq_true rfl) (Nat.le_refl _) (Mt_mono h (fun rv I1 h => ?_))
  obtain ⟨v2, rfl, h⟩ := h
  refine J_r1 ?_
  refine J_if_eq aX12_goAll_4 (fun q => ?_) (fun q => ?_)
  · replace h := h.1 q
    refine J_iconst (-1) aX12_goAll_17 (by decide +kernel) ?_
    exact J_iret aX12_goAll_18 rfl h
  · replace h := h.2 q
    refine J_iload_n 3 aX12_goAll_7 rfl ?_
    refine J_iconst (nI 0) aX12_goAll_8 (by decide +kernel) ?_
    refine J_bipush (nI 20) aX12_goAll_9 (by decide +kernel) ?_
    refine J_callS [.int x3, .int (nI 0), .int (nI 20)] [] aX12_goAll_11 lkX12_68 okX12_in1 rfl rfl (Nat.le_of_ble_eq_true rfl) (Nat.le_refl _) (Mt_mono h (fun rv I3 h => ?_))
    obtain ⟨v4, rfl, h⟩ := h
    refine J_r1 ?_
    refine J_if_ne aX12_goAll_14 (fun q => ?_) (fun q => ?_)
    · replace h := h.1 q
      refine J_aload_n 0 aX12_goAll_19 rfl ?_
      refine J_iload_n 1 aX12_goAll_20 rfl ?_
      refine J_iconst (nI 0) aX12_goAll_21 (by decide +kernel) ?_
      refine J_callV [.int x1, .int (nI 0)] [] aX12_goAll_22 lkX12_337_X12 okX12_lacks sh115 rfl rfl rfl (Nat.le_of_ble_eq_true rfl) (Nat.le_refl _) (Mt_mono h (fun rv I5 h => ?_))
      obtain ⟨v6, rfl, h⟩ := h
      refine J_r1 ?_
      refine J_istore [(4, .int v6), (0, .ref (eb E + 115)), (1, .int x1), (2, .int x2), (3, .int x3)] aX12_goAll_25 (by decide) rfl ?_
      refine J_iload 0 aX12_goAll_27 rfl ?_
      refine J_if_eq aX12_goAll_29 (fun q => ?_) (fun q => ?_)
      · replace h := h.1 q
        refine J_iconst (nI 0) aX12_goAll_35 (by decide +kernel) ?_
        refine J_istore [(5, .int (nI 0)), (4, .int v6), (0, .ref (eb E + 115)), (1, .int x1), (2, .int x2), (3, .int x3)] aX12_goAll_36 (by decide) rfl ?_
        refine J_iconst (nI 0) aX12_goAll_38 (by decide +kernel) ?_
        refine J_istore [(6, .int (nI 0)), (5, .int (nI 0)), (4, .int v6), (0, .ref (eb E + 115)), (1, .int x1), (2, .int x2), (3, .int x3)] aX12_goAll_39 (by decide) rfl ?_
        refine J_pick [3, 4, 5, 6, 1, 0] rfl ?_
        exact h
      · replace h := h.2 q
        refine J_iload 0 aX12_goAll_32 rfl ?_
        exact J_iret aX12_goAll_34 rfl h
    · replace h := h.2 q
      refine J_iconst (-1) aX12_goAll_17 (by decide +kernel) ?_
      exact J_iret aX12_goAll_18 rfl h
theorem S_X12_goAll_41 {E : EE} {d : Nat} {I : IH} {Q : QT} (x1 : Int32) (x2 : Int32) (x3 : Int32) (x5 : Int32) (x6 : Int32) (h :
((x3 ≤ x6 → Q (some (.int x5)) I) ∧
 (¬ x3 ≤ x6 → (Mt E d mX12_isItem [.ref (eb E + 115), .int x1, .int x2, .int x6] I (fun rv I1 => ∃ v2 : Int32, rv = some (.int v2) ∧
 ((¬ v2 = 0 → (∃ j3 : Nat, ((((nI 40) * x1) + x2) + x6) = nI j3 ∧ j3 < 160 ∧ (Mt E d mX12_isAct [.ref (eb E + 115), .int (I1 131 j3)] I1 (fun rv I6 => ∃ v7 : Int32, rv = some (.int v7) ∧
 ((v7 = 0 → J E (d + 1) mX12_goAll 41 [(0, .ref (eb E + 115)), (1, .int x1), (2, .int x2), (3, .int x3), (5, .int (x5 + (nI 0))), (6, .int (x6 + nI 1))] [] I6 Q) ∧
 (¬ v7 = 0 → (Mt E d mX12_isOver [.ref (eb E + 115)] I6 (fun rv I8 => ∃ v9 : Int32, rv = some (.int v9) ∧
 ((¬ v9 = 0 → J E (d + 1) mX12_goAll 41 [(0, .ref (eb E + 115)), (1, .int x1), (2, .int x2), (3, .int x3), (5, .int (x5 + (nI 0))), (6, .int (x6 + nI 1))] [] I8 Q) ∧
 (v9 = 0 → (Mt E d mX12_goesBy [.ref (eb E + 115), .int (I1 131 j3)] I8 (fun rv I10 => ∃ v11 : Int32, rv = some (.int v11) ∧
 J E (d + 1) mX12_goAll 41 [(0, .ref (eb E + 115)), (1, .int x1), (2, .int x2), (3, .int x3), (5, .int (x5 + v11)), (6, .int (x6 + nI 1))] [] I10 Q)))))))))))) ∧
 (v2 = 0 → Q (some (.int (-12))) I1))))))) : J E (d + 1) mX12_goAll 41 [(0, .ref (eb E + 115)), (1, .int x1), (2, .int x2), (3, .int x3), (5, .int x5), (6, .int x6)] [] I Q := by
  refine J_iload 5 aX12_goAll_41 rfl ?_
  refine J_iload_n 3 aX12_goAll_43 rfl ?_
  refine J_icmp_ge aX12_goAll_44 (fun q => ?_) (fun q => ?_)
  · replace h := h.1 q
    refine J_iload 4 aX12_goAll_114 rfl ?_
    exact J_iret aX12_goAll_116 rfl h
  · replace h := h.2 q
    refine J_aload_n 0 aX12_goAll_47 rfl ?_
    refine J_iload_n 1 aX12_goAll_48 rfl ?_
    refine J_iload_n 2 aX12_goAll_49 rfl ?_
    refine J_iload 5 aX12_goAll_50 rfl ?_
    refine J_callV [.int x1, .int x2, .int x6] [] aX12_goAll_52 lkX12_340_X12 okX12_isItem sh115 rfl rfl rfl (Nat.le_of_ble_eq_true rfl) (Nat.le_refl _) (Mt_mono h (fun rv I1 h => ?_))
    obtain ⟨v2, rfl, h⟩ := h
    refine J_r1 ?_
    refine J_if_ne aX12_goAll_55 (fun q => ?_) (fun q => ?_)
    · replace h := h.1 q
      refine J_aload_n 0 aX12_goAll_61 rfl ?_
      refine J_getR aX12_goAll_62 flX12_56 sh115 rfl ?_
      refine J_bipush (nI 40) aX12_goAll_65 (by decide +kernel) ?_
      refine J_iload_n 1 aX12_goAll_67 rfl ?_
      refine J_imul aX12_goAll_68 ?_
      refine J_iload_n 2 aX12_goAll_69 rfl ?_
      refine J_iadd aX12_goAll_70 ?_
      refine J_iload 5 aX12_goAll_71 rfl ?_
      refine J_iadd aX12_goAll_73 ?_
      obtain ⟨j3, e4, b5, h⟩ := h
      refine J_iaload j3 aX12_goAll_74 sh131 e4 b5 (by decide) ?_
      refine J_istore [(7, .int (I1 131 j3)), (0, .ref (eb E + 115)), (1, .int x1), (2, .int x2), (3, .int x3), (5, .int x5), (6, .int x6)] aX12_goAll_75 (by decide) rfl ?_
      refine J_iload 5 aX12_goAll_77 rfl ?_
      refine J_aload_n 1 aX12_goAll_79 rfl ?_
      refine J_iload 0 aX12_goAll_80 rfl ?_
      refine J_callV [.int (I1 131 j3)] [.int x5] aX12_goAll_82 lkX12_328_X12 okX12_isAct sh115 rfl rfl rfl (Nat.le_of_ble_eq_true rfl) (Nat.le_refl _) (Mt_mono h (fun rv I6 h => ?_))
      obtain ⟨v7, rfl, h⟩ := h
      refine J_r1 ?_
      refine J_if_eq aX12_goAll_85 (fun q => ?_) (fun q => ?_)
      · replace h := h.1 q
        refine J_iconst (nI 0) aX12_goAll_104 (by decide +kernel) ?_
        refine J_iadd aX12_goAll_105 ?_
        refine J_istore [(5, .int (x5 + (nI 0))), (7, .int (I1 131 j3)), (0, .ref (eb E + 115)), (1, .int x1), (2, .int x2), (3, .int x3), (6, .int x6)] aX12_goAll_106 (by decide) rfl ?_
        refine J_iinc (x6 + nI 1) [(6, .int (x6 + nI 1)), (5, .int (x5 + (nI 0))), (7, .int (I1 131 j3)), (0, .ref (eb E + 115)), (1, .int x1), (2, .int x2), (3, .int x3)] 6 aX12_goAll_108 rfl (by first | rfl | (congr 1; decide +kernel)) (by decide) rfl ?_
        refine J_goto aX12_goAll_111 ?_
        refine J_pick [3, 4, 5, 6, 1, 0] rfl ?_
        exact h
      · replace h := h.2 q
        refine J_aload_n 1 aX12_goAll_88 rfl ?_
        refine J_callV [] [.int x5] aX12_goAll_89 lkX12_228_X12 okX12_isOver sh115 rfl rfl rfl (Nat.le_of_ble_eq_true rfl) (Nat.le_refl _) (Mt_mono h (fun rv I8 h => ?_))
        obtain ⟨v9, rfl, h⟩ := h
        refine J_r1 ?_
        refine J_if_ne aX12_goAll_92 (fun q => ?_) (fun q => ?_)
        · replace h := h.1 q
          refine J_iconst (nI 0) aX12_goAll_104 (by decide +kernel) ?_
          refine J_iadd aX12_goAll_105 ?_
          refine J_istore [(5, .int (x5 + (nI 0))), (7, .int (I1 131 j3)), (0, .ref (eb E + 115)), (1, .int x1), (2, .int x2), (3, .int x3), (6, .int x6)] aX12_goAll_106 (by decide) rfl ?_
          refine J_iinc (x6 + nI 1) [(6, .int (x6 + nI 1)), (5, .int (x5 + (nI 0))), (7, .int (I1 131 j3)), (0, .ref (eb E + 115)), (1, .int x1), (2, .int x2), (3, .int x3)] 6 aX12_goAll_108 rfl (by first | rfl | (congr 1; decide +kernel)) (by decide) rfl ?_
          refine J_goto aX12_goAll_111 ?_
          refine J_pick [3, 4, 5, 6, 1, 0] rfl ?_
          exact h
        · replace h := h.2 q
          refine J_aload_n 1 aX12_goAll_95 rfl ?_
          refine J_iload 0 aX12_goAll_96 rfl ?_
          refine J_callV [.int (I1 131 j3)] [.int x5] aX12_goAll_98 lkX12_234_X12 okX12_goesBy sh115 rfl rfl rfl (Nat.le_of_ble_eq_true rfl) (Nat.le_refl _) (Mt_mono h (fun rv I10 h => ?_))
          obtain ⟨v11, rfl, h⟩ := h
          refine J_r1 ?_
          refine J_goto aX12_goAll_101 ?_
          refine J_iadd aX12_goAll_105 ?_
          refine J_istore [(5, .int (x5 + v11)), (7, .int (I1 131 j3)), (0, .ref (eb E + 115)), (1, .int x1), (2, .int x2), (3, .int x3), (6, .int x6)] aX12_goAll_106 (by decide) rfl ?_
          refine J_iinc (x6 + nI 1) [(6, .int (x6 + nI 1)), (5, .int (x5 + v11)), (7, .int (I1 131 j3)), (0, .ref (eb E + 115)), (1, .int x1), (2, .int x2), (3, .int x3)] 6 aX12_goAll_108 rfl (by first | rfl | (congr 1; decide +kernel)) (by decide) rfl ?_
          refine J_goto aX12_goAll_111 ?_
          refine J_pick [3, 4, 5, 6, 1, 0] rfl ?_
          exact h
    · replace h := h.2 q
      refine J_bipush (-12) aX12_goAll_58 (by decide +kernel) ?_
      exact J_iret aX12_goAll_60 rfl h
theorem aX12_wouldBe_0 : decode mX12_wouldBe.2.1 0 = .ok (.iload_n 1, 1) ∧ 0 + 1 = 1 := ⟨by decide +kernel, rfl⟩
theorem aX12_wouldBe_1 : decode mX12_wouldBe.2.1 1 = .ok (.invokestatic 331, 3) ∧ 1 + 3 = 4 := ⟨by decide +kernel, rfl⟩
theorem aX12_wouldBe_4 : decode mX12_wouldBe.2.1 4 = .ok (.ifCond .eq 13, 3) ∧ ((4 : Nat) : Int) + 13 = ((17 : Nat) : Int) ∧ 4 + 3 = 7 := ⟨by decide +kernel, by decide, rfl⟩
theorem aX12_wouldBe_7 : decode mX12_wouldBe.2.1 7 = .ok (.iload_n 3, 1) ∧ 7 + 1 = 8 := ⟨by decide +kernel, rfl⟩
theorem aX12_wouldBe_8 : decode mX12_wouldBe.2.1 8 = .ok (.iconst 0, 1) ∧ 8 + 1 = 9 := ⟨by decide +kernel, rfl⟩
theorem aX12_wouldBe_9 : decode mX12_wouldBe.2.1 9 = .ok (.bipush 20, 2) ∧ 9 + 2 = 11 := ⟨by decide +kernel, rfl⟩
theorem aX12_wouldBe_11 : decode mX12_wouldBe.2.1 11 = .ok (.invokestatic 68, 3) ∧ 11 + 3 = 14 := ⟨by decide +kernel, rfl⟩
theorem aX12_wouldBe_14 : decode mX12_wouldBe.2.1 14 = .ok (.ifCond .ne 5, 3) ∧ ((14 : Nat) : Int) + 5 = ((19 : Nat) : Int) ∧ 14 + 3 = 17 := ⟨by decide +kernel, by decide, rfl⟩
theorem aX12_wouldBe_17 : decode mX12_wouldBe.2.1 17 = .ok (.iconst (-1), 1) ∧ 17 + 1 = 18 := ⟨by decide +kernel, rfl⟩
theorem aX12_wouldBe_18 : decode mX12_wouldBe.2.1 18 = .ok (.ireturn, 1) := by decide +kernel
theorem aX12_wouldBe_19 : decode mX12_wouldBe.2.1 19 = .ok (.aload_n 0, 1) ∧ 19 + 1 = 20 := ⟨by decide +kernel, rfl⟩
theorem aX12_wouldBe_20 : decode mX12_wouldBe.2.1 20 = .ok (.iload_n 1, 1) ∧ 20 + 1 = 21 := ⟨by decide +kernel, rfl⟩
theorem aX12_wouldBe_21 : decode mX12_wouldBe.2.1 21 = .ok (.iconst 0, 1) ∧ 21 + 1 = 22 := ⟨by decide +kernel, rfl⟩
theorem aX12_wouldBe_22 : decode mX12_wouldBe.2.1 22 = .ok (.invokevirtual 337, 3) ∧ 22 + 3 = 25 := ⟨by decide +kernel, rfl⟩
theorem aX12_wouldBe_25 : decode mX12_wouldBe.2.1 25 = .ok (.istore 4, 2) ∧ 25 + 2 = 27 := ⟨by decide +kernel, rfl⟩
theorem aX12_wouldBe_27 : decode mX12_wouldBe.2.1 27 = .ok (.iconst 0, 1) ∧ 27 + 1 = 28 := ⟨by decide +kernel, rfl⟩
theorem aX12_wouldBe_28 : decode mX12_wouldBe.2.1 28 = .ok (.istore 5, 2) ∧ 28 + 2 = 30 := ⟨by decide +kernel, rfl⟩
theorem aX12_wouldBe_30 : decode mX12_wouldBe.2.1 30 = .ok (.aload_n 0, 1) ∧ 30 + 1 = 31 := ⟨by decide +kernel, rfl⟩
theorem aX12_wouldBe_31 : decode mX12_wouldBe.2.1 31 = .ok (.invokevirtual 237, 3) ∧ 31 + 3 = 34 := ⟨by decide +kernel, rfl⟩
theorem aX12_wouldBe_34 : decode mX12_wouldBe.2.1 34 = .ok (.iconst 0, 1) ∧ 34 + 1 = 35 := ⟨by decide +kernel, rfl⟩
theorem aX12_wouldBe_35 : decode mX12_wouldBe.2.1 35 = .ok (.istore 6, 2) ∧ 35 + 2 = 37 := ⟨by decide +kernel, rfl⟩
theorem aX12_wouldBe_37 : decode mX12_wouldBe.2.1 37 = .ok (.iload 6, 2) ∧ 37 + 2 = 39 := ⟨by decide +kernel, rfl⟩
theorem aX12_wouldBe_39 : decode mX12_wouldBe.2.1 39 = .ok (.iload_n 3, 1) ∧ 39 + 1 = 40 := ⟨by decide +kernel, rfl⟩
theorem aX12_wouldBe_40 : decode mX12_wouldBe.2.1 40 = .ok (.if_icmp .ge 105, 3) ∧ ((40 : Nat) : Int) + 105 = ((145 : Nat) : Int) ∧ 40 + 3 = 43 := ⟨by decide +kernel, by decide, rfl⟩
theorem aX12_wouldBe_43 : decode mX12_wouldBe.2.1 43 = .ok (.iload 4, 2) ∧ 43 + 2 = 45 := ⟨by decide +kernel, rfl⟩
theorem aX12_wouldBe_45 : decode mX12_wouldBe.2.1 45 = .ok (.ifCond .ne 100, 3) ∧ ((45 : Nat) : Int) + 100 = ((145 : Nat) : Int) ∧ 45 + 3 = 48 := ⟨by decide +kernel, by decide, rfl⟩
theorem aX12_wouldBe_48 : decode mX12_wouldBe.2.1 48 = .ok (.aload_n 0, 1) ∧ 48 + 1 = 49 := ⟨by decide +kernel, rfl⟩
theorem aX12_wouldBe_49 : decode mX12_wouldBe.2.1 49 = .ok (.iload_n 1, 1) ∧ 49 + 1 = 50 := ⟨by decide +kernel, rfl⟩
theorem aX12_wouldBe_50 : decode mX12_wouldBe.2.1 50 = .ok (.iload_n 2, 1) ∧ 50 + 1 = 51 := ⟨by decide +kernel, rfl⟩
theorem aX12_wouldBe_51 : decode mX12_wouldBe.2.1 51 = .ok (.iload 6, 2) ∧ 51 + 2 = 53 := ⟨by decide +kernel, rfl⟩
theorem aX12_wouldBe_53 : decode mX12_wouldBe.2.1 53 = .ok (.invokevirtual 340, 3) ∧ 53 + 3 = 56 := ⟨by decide +kernel, rfl⟩
theorem aX12_wouldBe_56 : decode mX12_wouldBe.2.1 56 = .ok (.ifCond .eq 20, 3) ∧ ((56 : Nat) : Int) + 20 = ((76 : Nat) : Int) ∧ 56 + 3 = 59 := ⟨by decide +kernel, by decide, rfl⟩
theorem aX12_wouldBe_59 : decode mX12_wouldBe.2.1 59 = .ok (.aload_n 0, 1) ∧ 59 + 1 = 60 := ⟨by decide +kernel, rfl⟩
theorem aX12_wouldBe_60 : decode mX12_wouldBe.2.1 60 = .ok (.getfield 56, 3) ∧ 60 + 3 = 63 := ⟨by decide +kernel, rfl⟩
theorem aX12_wouldBe_63 : decode mX12_wouldBe.2.1 63 = .ok (.bipush 40, 2) ∧ 63 + 2 = 65 := ⟨by decide +kernel, rfl⟩
theorem aX12_wouldBe_65 : decode mX12_wouldBe.2.1 65 = .ok (.iload_n 1, 1) ∧ 65 + 1 = 66 := ⟨by decide +kernel, rfl⟩
theorem aX12_wouldBe_66 : decode mX12_wouldBe.2.1 66 = .ok (.imul, 1) ∧ 66 + 1 = 67 := ⟨by decide +kernel, rfl⟩
theorem aX12_wouldBe_67 : decode mX12_wouldBe.2.1 67 = .ok (.iload_n 2, 1) ∧ 67 + 1 = 68 := ⟨by decide +kernel, rfl⟩
theorem aX12_wouldBe_68 : decode mX12_wouldBe.2.1 68 = .ok (.iadd, 1) ∧ 68 + 1 = 69 := ⟨by decide +kernel, rfl⟩
theorem aX12_wouldBe_69 : decode mX12_wouldBe.2.1 69 = .ok (.iload 6, 2) ∧ 69 + 2 = 71 := ⟨by decide +kernel, rfl⟩
theorem aX12_wouldBe_71 : decode mX12_wouldBe.2.1 71 = .ok (.iadd, 1) ∧ 71 + 1 = 72 := ⟨by decide +kernel, rfl⟩
theorem aX12_wouldBe_72 : decode mX12_wouldBe.2.1 72 = .ok (.iaload, 1) ∧ 72 + 1 = 73 := ⟨by decide +kernel, rfl⟩
theorem aX12_wouldBe_73 : decode mX12_wouldBe.2.1 73 = .ok (.goto 4, 3) ∧ ((73 : Nat) : Int) + 4 = ((77 : Nat) : Int) := ⟨by decide +kernel, by decide⟩
theorem aX12_wouldBe_76 : decode mX12_wouldBe.2.1 76 = .ok (.iconst (-1), 1) ∧ 76 + 1 = 77 := ⟨by decide +kernel, rfl⟩
theorem aX12_wouldBe_77 : decode mX12_wouldBe.2.1 77 = .ok (.istore 7, 2) ∧ 77 + 2 = 79 := ⟨by decide +kernel, rfl⟩
theorem aX12_wouldBe_79 : decode mX12_wouldBe.2.1 79 = .ok (.aload_n 0, 1) ∧ 79 + 1 = 80 := ⟨by decide +kernel, rfl⟩
theorem aX12_wouldBe_80 : decode mX12_wouldBe.2.1 80 = .ok (.iload_n 1, 1) ∧ 80 + 1 = 81 := ⟨by decide +kernel, rfl⟩
theorem aX12_wouldBe_81 : decode mX12_wouldBe.2.1 81 = .ok (.iload_n 2, 1) ∧ 81 + 1 = 82 := ⟨by decide +kernel, rfl⟩
theorem aX12_wouldBe_82 : decode mX12_wouldBe.2.1 82 = .ok (.iload 6, 2) ∧ 82 + 2 = 84 := ⟨by decide +kernel, rfl⟩
theorem aX12_wouldBe_84 : decode mX12_wouldBe.2.1 84 = .ok (.invokevirtual 340, 3) ∧ 84 + 3 = 87 := ⟨by decide +kernel, rfl⟩
theorem aX12_wouldBe_87 : decode mX12_wouldBe.2.1 87 = .ok (.ifCond .ne 8, 3) ∧ ((87 : Nat) : Int) + 8 = ((95 : Nat) : Int) ∧ 87 + 3 = 90 := ⟨by decide +kernel, by decide, rfl⟩
theorem aX12_wouldBe_90 : decode mX12_wouldBe.2.1 90 = .ok (.bipush (-12), 2) ∧ 90 + 2 = 92 := ⟨by decide +kernel, rfl⟩
theorem aX12_wouldBe_92 : decode mX12_wouldBe.2.1 92 = .ok (.goto 25, 3) ∧ ((92 : Nat) : Int) + 25 = ((117 : Nat) : Int) := ⟨by decide +kernel, by decide⟩
theorem aX12_wouldBe_95 : decode mX12_wouldBe.2.1 95 = .ok (.aload_n 0, 1) ∧ 95 + 1 = 96 := ⟨by decide +kernel, rfl⟩
theorem aX12_wouldBe_96 : decode mX12_wouldBe.2.1 96 = .ok (.iload 7, 2) ∧ 96 + 2 = 98 := ⟨by decide +kernel, rfl⟩
theorem aX12_wouldBe_98 : decode mX12_wouldBe.2.1 98 = .ok (.invokevirtual 328, 3) ∧ 98 + 3 = 101 := ⟨by decide +kernel, rfl⟩
theorem aX12_wouldBe_101 : decode mX12_wouldBe.2.1 101 = .ok (.ifCond .eq 10, 3) ∧ ((101 : Nat) : Int) + 10 = ((111 : Nat) : Int) ∧ 101 + 3 = 104 := ⟨by decide +kernel, by decide, rfl⟩
theorem aX12_wouldBe_104 : decode mX12_wouldBe.2.1 104 = .ok (.aload_n 0, 1) ∧ 104 + 1 = 105 := ⟨by decide +kernel, rfl⟩
theorem aX12_wouldBe_105 : decode mX12_wouldBe.2.1 105 = .ok (.invokevirtual 228, 3) ∧ 105 + 3 = 108 := ⟨by decide +kernel, rfl⟩
theorem aX12_wouldBe_108 : decode mX12_wouldBe.2.1 108 = .ok (.ifCond .eq 8, 3) ∧ ((108 : Nat) : Int) + 8 = ((116 : Nat) : Int) ∧ 108 + 3 = 111 := ⟨by decide +kernel, by decide, rfl⟩
theorem aX12_wouldBe_111 : decode mX12_wouldBe.2.1 111 = .ok (.bipush (-4), 2) ∧ 111 + 2 = 113 := ⟨by decide +kernel, rfl⟩
theorem aX12_wouldBe_113 : decode mX12_wouldBe.2.1 113 = .ok (.goto 4, 3) ∧ ((113 : Nat) : Int) + 4 = ((117 : Nat) : Int) := ⟨by decide +kernel, by decide⟩
theorem aX12_wouldBe_116 : decode mX12_wouldBe.2.1 116 = .ok (.iconst 0, 1) ∧ 116 + 1 = 117 := ⟨by decide +kernel, rfl⟩
theorem aX12_wouldBe_117 : decode mX12_wouldBe.2.1 117 = .ok (.istore 4, 2) ∧ 117 + 2 = 119 := ⟨by decide +kernel, rfl⟩
theorem aX12_wouldBe_119 : decode mX12_wouldBe.2.1 119 = .ok (.iload 5, 2) ∧ 119 + 2 = 121 := ⟨by decide +kernel, rfl⟩
theorem aX12_wouldBe_121 : decode mX12_wouldBe.2.1 121 = .ok (.iload 4, 2) ∧ 121 + 2 = 123 := ⟨by decide +kernel, rfl⟩
theorem aX12_wouldBe_123 : decode mX12_wouldBe.2.1 123 = .ok (.ifCond .ne 12, 3) ∧ ((123 : Nat) : Int) + 12 = ((135 : Nat) : Int) ∧ 123 + 3 = 126 := ⟨by decide +kernel, by decide, rfl⟩
theorem aX12_wouldBe_126 : decode mX12_wouldBe.2.1 126 = .ok (.aload_n 0, 1) ∧ 126 + 1 = 127 := ⟨by decide +kernel, rfl⟩
theorem aX12_wouldBe_127 : decode mX12_wouldBe.2.1 127 = .ok (.iload 7, 2) ∧ 127 + 2 = 129 := ⟨by decide +kernel, rfl⟩
theorem aX12_wouldBe_129 : decode mX12_wouldBe.2.1 129 = .ok (.invokevirtual 234, 3) ∧ 129 + 3 = 132 := ⟨by decide +kernel, rfl⟩
theorem aX12_wouldBe_132 : decode mX12_wouldBe.2.1 132 = .ok (.goto 4, 3) ∧ ((132 : Nat) : Int) + 4 = ((136 : Nat) : Int) := ⟨by decide +kernel, by decide⟩
theorem aX12_wouldBe_135 : decode mX12_wouldBe.2.1 135 = .ok (.iconst 0, 1) ∧ 135 + 1 = 136 := ⟨by decide +kernel, rfl⟩
theorem aX12_wouldBe_136 : decode mX12_wouldBe.2.1 136 = .ok (.iadd, 1) ∧ 136 + 1 = 137 := ⟨by decide +kernel, rfl⟩
theorem aX12_wouldBe_137 : decode mX12_wouldBe.2.1 137 = .ok (.istore 5, 2) ∧ 137 + 2 = 139 := ⟨by decide +kernel, rfl⟩
theorem aX12_wouldBe_139 : decode mX12_wouldBe.2.1 139 = .ok (.iinc 6 1, 3) ∧ 139 + 3 = 142 := ⟨by decide +kernel, rfl⟩
theorem aX12_wouldBe_142 : decode mX12_wouldBe.2.1 142 = .ok (.goto (-105), 3) ∧ ((142 : Nat) : Int) + (-105) = ((37 : Nat) : Int) := ⟨by decide +kernel, by decide⟩
theorem aX12_wouldBe_145 : decode mX12_wouldBe.2.1 145 = .ok (.aload_n 0, 1) ∧ 145 + 1 = 146 := ⟨by decide +kernel, rfl⟩
theorem aX12_wouldBe_146 : decode mX12_wouldBe.2.1 146 = .ok (.invokevirtual 243, 3) ∧ 146 + 3 = 149 := ⟨by decide +kernel, rfl⟩
theorem aX12_wouldBe_149 : decode mX12_wouldBe.2.1 149 = .ok (.iload 4, 2) ∧ 149 + 2 = 151 := ⟨by decide +kernel, rfl⟩
theorem aX12_wouldBe_151 : decode mX12_wouldBe.2.1 151 = .ok (.ifCond .eq 8, 3) ∧ ((151 : Nat) : Int) + 8 = ((159 : Nat) : Int) ∧ 151 + 3 = 154 := ⟨by decide +kernel, by decide, rfl⟩
theorem aX12_wouldBe_154 : decode mX12_wouldBe.2.1 154 = .ok (.iload 4, 2) ∧ 154 + 2 = 156 := ⟨by decide +kernel, rfl⟩
theorem aX12_wouldBe_156 : decode mX12_wouldBe.2.1 156 = .ok (.goto 5, 3) ∧ ((156 : Nat) : Int) + 5 = ((161 : Nat) : Int) := ⟨by decide +kernel, by decide⟩
theorem aX12_wouldBe_159 : decode mX12_wouldBe.2.1 159 = .ok (.iload 5, 2) ∧ 159 + 2 = 161 := ⟨by decide +kernel, rfl⟩
theorem aX12_wouldBe_161 : decode mX12_wouldBe.2.1 161 = .ok (.ireturn, 1) := by decide +kernel
theorem S_X12_wouldBe {E : EE} {d : Nat} {I : IH} {Q : QT} (x1 : Int32) (x2 : Int32) (x3 : Int32) (h :
(Mt E d mX12_isSheet [.int x1] I (fun rv I1 => ∃ v2 : Int32, rv = some (.int v2) ∧
 ((v2 = 0 → Q (some (.int (-1))) I1) ∧
 (¬ v2 = 0 → (Mt E d mX12_in1 [.int x3, .int (nI 0), .int (nI 20)] I1 (fun rv I3 => ∃ v4 : Int32, rv = some (.int v4) ∧
 ((¬ v4 = 0 → (Mt E d mX12_lacks [.ref (eb E + 115), .int x1, .int (nI 0)] I3 (fun rv I5 => ∃ v6 : Int32, rv = some (.int v6) ∧
 (Mt E d mX12_layDown [.ref (eb E + 115)] I5 (fun rv I7 => rv = none ∧
 J E (d + 1) mX12_wouldBe 37 [(0, .ref (eb E + 115)), (1, .int x1), (2, .int x2), (3, .int x3), (4, .int v6), (5, .int (nI 0)), (6, .int (nI 0))] [] I7 Q))))) ∧
 (v4 = 0 → Q (some (.int (-1))) I3))))))))) : Mt E (d + 1) mX12_wouldBe [.ref (eb E + 115), .int x1, .int x2, .int x3] I Q := by
  refine Mt_of [(0, .ref (eb E + 115)), (1, .int x1), (2, .int x2), (3, .int x3)] (by decide +kernel) (by simp [lg_sl, Value.category, mX12_wouldBe]) rfl ?_
  refine J_iload_n 1 aX12_wouldBe_0 rfl ?_
  refine J_callS [.int x1] [] aX12_wouldBe_1 lkX12_331 okX12_isSheet rfl rfl (Nat.le_of_ble_eq_true rfl) (Nat.le_refl _) (Mt_mono h (fun rv I1 h => ?_))
  obtain ⟨v2, rfl, h⟩ := h
  refine J_r1 ?_
  refine J_if_eq aX12_wouldBe_4 (fun q => ?_) (fun q => ?_)
  · replace h := h.1 q
    refine J_iconst (-1) aX12_wouldBe_17 (by decide +kernel) ?_
    exact J_iret aX12_wouldBe_18 rfl h
  · replace h := h.2 q
    refine J_iload_n 3 aX12_wouldBe_7 rfl ?_
    refine J_iconst (nI 0) aX12_wouldBe_8 (by decide +kernel) ?_
    refine J_bipush (nI 20) aX12_wouldBe_9 (by decide +kernel) ?_
    refine J_callS [.int x3, .int (nI 0), .int (nI 20)] [] aX12_wouldBe_11 lkX12_68 okX12_in1 rfl rfl (Nat.le_of_ble_eq_true rfl) (Nat.le_refl _) (Mt_mono h (fun rv I3 h => ?_))
    obtain ⟨v4, rfl, h⟩ := h
    refine J_r1 ?_
    refine J_if_ne aX12_wouldBe_14 (fun q => ?_) (fun q => ?_)
    · replace h := h.1 q
      refine J_aload_n 0 aX12_wouldBe_19 rfl ?_
      refine J_iload_n 1 aX12_wouldBe_20 rfl ?_
      refine J_iconst (nI 0) aX12_wouldBe_21 (by decide +kernel) ?_
      refine J_callV [.int x1, .int (nI 0)] [] aX12_wouldBe_22 lkX12_337_X12 okX12_lacks sh115 rfl rfl rfl (Nat.le_of_ble_eq_true rfl) (Nat.le_refl _) (Mt_mono h (fun rv I5 h => ?_))
      obtain ⟨v6, rfl, h⟩ := h
      refine J_r1 ?_
      refine J_istore [(4, .int v6), (0, .ref (eb E + 115)), (1, .int x1), (2, .int x2), (3, .int x3)] aX12_wouldBe_25 (by decide) rfl ?_
      refine J_iconst (nI 0) aX12_wouldBe_27 (by decide +kernel) ?_
      refine J_istore [(5, .int (nI 0)), (4, .int v6), (0, .ref (eb E + 115)), (1, .int x1), (2, .int x2), (3, .int x3)] aX12_wouldBe_28 (by decide) rfl ?_
      refine J_aload_n 2 aX12_wouldBe_30 rfl ?_
      refine J_callV [] [] aX12_wouldBe_31 lkX12_237_X12 okX12_layDown sh115 rfl rfl rfl (Nat.le_of_ble_eq_true rfl) (Nat.le_refl _) (Mt_mono h (fun rv I7 h => ?_))
      obtain ⟨rfl, h⟩ := h
      refine J_r0 ?_
      refine J_iconst (nI 0) aX12_wouldBe_34 (by decide +kernel) ?_
      refine J_istore [(6, .int (nI 0)), (5, .int (nI 0)), (4, .int v6), (0, .ref (eb E + 115)), (1, .int x1), (2, .int x2), (3, .int x3)] aX12_wouldBe_35 (by decide) rfl ?_
      refine J_pick [3, 4, 5, 6, 2, 1, 0] rfl ?_
      exact h
    · replace h := h.2 q
      refine J_iconst (-1) aX12_wouldBe_17 (by decide +kernel) ?_
      exact J_iret aX12_wouldBe_18 rfl h
theorem S_X12_wouldBe_37 {E : EE} {d : Nat} {I : IH} {Q : QT} (x1 : Int32) (x2 : Int32) (x3 : Int32) (x4 : Int32) (x5 : Int32) (x6 : Int32) (h :
((x3 ≤ x6 → J E (d + 1) mX12_wouldBe 145 [(0, .ref (eb E + 115)), (4, .int x4), (5, .int x5)] [] I Q) ∧
 (¬ x3 ≤ x6 → ((¬ x4 = 0 → J E (d + 1) mX12_wouldBe 145 [(0, .ref (eb E + 115)), (4, .int x4), (5, .int x5)] [] I Q) ∧
 (x4 = 0 → (Mt E d mX12_isItem [.ref (eb E + 115), .int x1, .int x2, .int x6] I (fun rv I1 => ∃ v2 : Int32, rv = some (.int v2) ∧
 ((v2 = 0 → J E (d + 1) mX12_wouldBe 77 [(0, .ref (eb E + 115)), (1, .int x1), (2, .int x2), (3, .int x3), (5, .int x5), (6, .int x6)] [.int (-1)] I1 Q) ∧
 (¬ v2 = 0 → (∃ j3 : Nat, ((((nI 40) * x1) + x2) + x6) = nI j3 ∧ j3 < 160 ∧ J E (d + 1) mX12_wouldBe 77 [(0, .ref (eb E + 115)), (1, .int x1), (2, .int x2), (3, .int x3), (5, .int x5), (6, .int x6)] [.int (I1 131 j3)] I1 Q)))))))))) : J E (d + 1) mX12_wouldBe 37 [(0, .ref (eb E + 115)), (1, .int x1), (2, .int x2), (3, .int x3), (4, .int x4), (5, .int x5), (6, .int x6)] [] I Q := by
  refine J_iload 6 aX12_wouldBe_37 rfl ?_
  refine J_iload_n 3 aX12_wouldBe_39 rfl ?_
  refine J_icmp_ge aX12_wouldBe_40 (fun q => ?_) (fun q => ?_)
  · replace h := h.1 q
    refine J_pick [0, 4, 5] rfl ?_
    exact h
  · replace h := h.2 q
    refine J_iload 4 aX12_wouldBe_43 rfl ?_
    refine J_if_ne aX12_wouldBe_45 (fun q => ?_) (fun q => ?_)
    · replace h := h.1 q
      refine J_pick [0, 4, 5] rfl ?_
      exact h
    · replace h := h.2 q
      refine J_aload_n 0 aX12_wouldBe_48 rfl ?_
      refine J_iload_n 1 aX12_wouldBe_49 rfl ?_
      refine J_iload_n 2 aX12_wouldBe_50 rfl ?_
      refine J_iload 6 aX12_wouldBe_51 rfl ?_
      refine J_callV [.int x1, .int x2, .int x6] [] aX12_wouldBe_53 lkX12_340_X12 okX12_isItem sh115 rfl rfl rfl (Nat.le_of_ble_eq_true rfl) (Nat.le_refl _) (Mt_mono h (fun rv I1 h => ?_))
      obtain ⟨v2, rfl, h⟩ := h
      refine J_r1 ?_
      refine J_if_eq aX12_wouldBe_56 (fun q => ?_) (fun q => ?_)
      · replace h := h.1 q
        refine J_iconst (-1) aX12_wouldBe_76 (by decide +kernel) ?_
        refine J_pick [0, 1, 2, 3, 5, 6] rfl ?_
        exact h
      · replace h := h.2 q
        refine J_aload_n 0 aX12_wouldBe_59 rfl ?_
        refine J_getR aX12_wouldBe_60 flX12_56 sh115 rfl ?_
        refine J_bipush (nI 40) aX12_wouldBe_63 (by decide +kernel) ?_
        refine J_iload_n 1 aX12_wouldBe_65 rfl ?_
        refine J_imul aX12_wouldBe_66 ?_
        refine J_iload_n 2 aX12_wouldBe_67 rfl ?_
        refine J_iadd aX12_wouldBe_68 ?_
        refine J_iload 6 aX12_wouldBe_69 rfl ?_
        refine J_iadd aX12_wouldBe_71 ?_
        obtain ⟨j3, e4, b5, h⟩ := h
        refine J_iaload j3 aX12_wouldBe_72 sh131 e4 b5 (by decide) ?_
        refine J_goto aX12_wouldBe_73 ?_
        refine J_pick [0, 1, 2, 3, 5, 6] rfl ?_
        exact h
theorem S_X12_wouldBe_145 {E : EE} {d : Nat} {I : IH} {Q : QT} (x4 : Int32) (x5 : Int32) (h :
(Mt E d mX12_layBack [.ref (eb E + 115)] I (fun rv I1 => rv = none ∧
 ((x4 = 0 → Q (some (.int x5)) I1) ∧
 (¬ x4 = 0 → Q (some (.int x4)) I1))))) : J E (d + 1) mX12_wouldBe 145 [(0, .ref (eb E + 115)), (4, .int x4), (5, .int x5)] [] I Q := by
  refine J_aload_n 0 aX12_wouldBe_145 rfl ?_
  refine J_callV [] [] aX12_wouldBe_146 lkX12_243_X12 okX12_layBack sh115 rfl rfl rfl (Nat.le_of_ble_eq_true rfl) (Nat.le_refl _) (Mt_mono h (fun rv I1 h => ?_))
  obtain ⟨rfl, h⟩ := h
  refine J_r0 ?_
  refine J_iload 1 aX12_wouldBe_149 rfl ?_
  refine J_if_eq aX12_wouldBe_151 (fun q => ?_) (fun q => ?_)
  · replace h := h.1 q
    refine J_iload 2 aX12_wouldBe_159 rfl ?_
    exact J_iret aX12_wouldBe_161 rfl h
  · replace h := h.2 q
    refine J_iload 1 aX12_wouldBe_154 rfl ?_
    refine J_goto aX12_wouldBe_156 ?_
    exact J_iret aX12_wouldBe_161 rfl h
theorem S_X12_wouldBe_77 {E : EE} {d : Nat} {I : IH} {Q : QT} (x1 : Int32) (x2 : Int32) (x3 : Int32) (x5 : Int32) (x6 : Int32) (t0 : Int32) (h :
(Mt E d mX12_isItem [.ref (eb E + 115), .int x1, .int x2, .int x6] I (fun rv I1 => ∃ v2 : Int32, rv = some (.int v2) ∧
 ((¬ v2 = 0 → (Mt E d mX12_isAct [.ref (eb E + 115), .int t0] I1 (fun rv I3 => ∃ v4 : Int32, rv = some (.int v4) ∧
 ((v4 = 0 → J E (d + 1) mX12_wouldBe 111 [(0, .ref (eb E + 115)), (1, .int x1), (2, .int x2), (3, .int x3), (5, .int x5), (6, .int x6), (7, .int t0)] [] I3 Q) ∧
 (¬ v4 = 0 → (Mt E d mX12_isOver [.ref (eb E + 115)] I3 (fun rv I5 => ∃ v6 : Int32, rv = some (.int v6) ∧
 ((v6 = 0 → J E (d + 1) mX12_wouldBe 117 [(0, .ref (eb E + 115)), (1, .int x1), (2, .int x2), (3, .int x3), (5, .int x5), (6, .int x6), (7, .int t0)] [.int (nI 0)] I5 Q) ∧
 (¬ v6 = 0 → J E (d + 1) mX12_wouldBe 111 [(0, .ref (eb E + 115)), (1, .int x1), (2, .int x2), (3, .int x3), (5, .int x5), (6, .int x6), (7, .int t0)] [] I5 Q))))))))) ∧
 (v2 = 0 → J E (d + 1) mX12_wouldBe 117 [(0, .ref (eb E + 115)), (1, .int x1), (2, .int x2), (3, .int x3), (5, .int x5), (6, .int x6), (7, .int t0)] [.int (-12)] I1 Q))))) : J E (d + 1) mX12_wouldBe 77 [(0, .ref (eb E + 115)), (1, .int x1), (2, .int x2), (3, .int x3), (5, .int x5), (6, .int x6)] [.int t0] I Q := by
  refine J_istore [(7, .int t0), (0, .ref (eb E + 115)), (1, .int x1), (2, .int x2), (3, .int x3), (5, .int x5), (6, .int x6)] aX12_wouldBe_77 (by decide) rfl ?_
  refine J_aload_n 1 aX12_wouldBe_79 rfl ?_
  refine J_iload_n 2 aX12_wouldBe_80 rfl ?_
  refine J_iload_n 3 aX12_wouldBe_81 rfl ?_
  refine J_iload 6 aX12_wouldBe_82 rfl ?_
  refine J_callV [.int x1, .int x2, .int x6] [] aX12_wouldBe_84 lkX12_340_X12 okX12_isItem sh115 rfl rfl rfl (Nat.le_of_ble_eq_true rfl) (Nat.le_refl _) (Mt_mono h (fun rv I1 h => ?_))
  obtain ⟨v2, rfl, h⟩ := h
  refine J_r1 ?_
  refine J_if_ne aX12_wouldBe_87 (fun q => ?_) (fun q => ?_)
  · replace h := h.1 q
    refine J_aload_n 1 aX12_wouldBe_95 rfl ?_
    refine J_iload 0 aX12_wouldBe_96 rfl ?_
    refine J_callV [.int t0] [] aX12_wouldBe_98 lkX12_328_X12 okX12_isAct sh115 rfl rfl rfl (Nat.le_of_ble_eq_true rfl) (Nat.le_refl _) (Mt_mono h (fun rv I3 h => ?_))
    obtain ⟨v4, rfl, h⟩ := h
    refine J_r1 ?_
    refine J_if_eq aX12_wouldBe_101 (fun q => ?_) (fun q => ?_)
    · replace h := h.1 q
      refine J_pick [1, 2, 3, 4, 5, 6, 0] rfl ?_
      exact h
    · replace h := h.2 q
      refine J_aload_n 1 aX12_wouldBe_104 rfl ?_
      refine J_callV [] [] aX12_wouldBe_105 lkX12_228_X12 okX12_isOver sh115 rfl rfl rfl (Nat.le_of_ble_eq_true rfl) (Nat.le_refl _) (Mt_mono h (fun rv I5 h => ?_))
      obtain ⟨v6, rfl, h⟩ := h
      refine J_r1 ?_
      refine J_if_eq aX12_wouldBe_108 (fun q => ?_) (fun q => ?_)
      · replace h := h.1 q
        refine J_iconst (nI 0) aX12_wouldBe_116 (by decide +kernel) ?_
        refine J_pick [1, 2, 3, 4, 5, 6, 0] rfl ?_
        exact h
      · replace h := h.2 q
        refine J_pick [1, 2, 3, 4, 5, 6, 0] rfl ?_
        exact h
  · replace h := h.2 q
    refine J_bipush (-12) aX12_wouldBe_90 (by decide +kernel) ?_
    refine J_goto aX12_wouldBe_92 ?_
    refine J_pick [1, 2, 3, 4, 5, 6, 0] rfl ?_
    exact h
theorem S_X12_wouldBe_111 {E : EE} {d : Nat} {I : IH} {Q : QT} (x1 : Int32) (x2 : Int32) (x3 : Int32) (x5 : Int32) (x6 : Int32) (x7 : Int32) (h :
J E (d + 1) mX12_wouldBe 117 [(0, .ref (eb E + 115)), (1, .int x1), (2, .int x2), (3, .int x3), (5, .int x5), (6, .int x6), (7, .int x7)] [.int (-4)] I Q) : J E (d + 1) mX12_wouldBe 111 [(0, .ref (eb E + 115)), (1, .int x1), (2, .int x2), (3, .int x3), (5, .int x5), (6, .int x6), (7, .int x7)] [] I Q := by
  refine J_bipush (-4) aX12_wouldBe_111 (by decide +kernel) ?_
  refine J_goto aX12_wouldBe_113 ?_
  refine J_pick [0, 1, 2, 3, 4, 5, 6] rfl ?_
  exact h
theorem S_X12_wouldBe_117 {E : EE} {d : Nat} {I : IH} {Q : QT} (x1 : Int32) (x2 : Int32) (x3 : Int32) (x5 : Int32) (x6 : Int32) (x7 : Int32) (t0 : Int32) (h :
((¬ t0 = 0 → J E (d + 1) mX12_wouldBe 37 [(0, .ref (eb E + 115)), (1, .int x1), (2, .int x2), (3, .int x3), (4, .int t0), (5, .int (x5 + (nI 0))), (6, .int (x6 + nI 1))] [] I Q) ∧
 (t0 = 0 → (Mt E d mX12_goesBy [.ref (eb E + 115), .int x7] I (fun rv I1 => ∃ v2 : Int32, rv = some (.int v2) ∧
 J E (d + 1) mX12_wouldBe 37 [(0, .ref (eb E + 115)), (1, .int x1), (2, .int x2), (3, .int x3), (4, .int t0), (5, .int (x5 + v2)), (6, .int (x6 + nI 1))] [] I1 Q))))) : J E (d + 1) mX12_wouldBe 117 [(0, .ref (eb E + 115)), (1, .int x1), (2, .int x2), (3, .int x3), (5, .int x5), (6, .int x6), (7, .int x7)] [.int t0] I Q := by
  refine J_istore [(4, .int t0), (0, .ref (eb E + 115)), (1, .int x1), (2, .int x2), (3, .int x3), (5, .int x5), (6, .int x6), (7, .int x7)] aX12_wouldBe_117 (by decide) rfl ?_
  refine J_iload 5 aX12_wouldBe_119 rfl ?_
  refine J_iload 0 aX12_wouldBe_121 rfl ?_
  refine J_if_ne aX12_wouldBe_123 (fun q => ?_) (fun q => ?_)
  · replace h := h.1 q
    refine J_iconst (nI 0) aX12_wouldBe_135 (by decide +kernel) ?_
    refine J_iadd aX12_wouldBe_136 ?_
    refine J_istore [(5, .int (x5 + (nI 0))), (4, .int t0), (0, .ref (eb E + 115)), (1, .int x1), (2, .int x2), (3, .int x3), (6, .int x6), (7, .int x7)] aX12_wouldBe_137 (by decide) rfl ?_
    refine J_iinc (x6 + nI 1) [(6, .int (x6 + nI 1)), (5, .int (x5 + (nI 0))), (4, .int t0), (0, .ref (eb E + 115)), (1, .int x1), (2, .int x2), (3, .int x3), (7, .int x7)] 6 aX12_wouldBe_139 rfl (by first | rfl | (congr 1; decide +kernel)) (by decide) rfl ?_
    refine J_goto aX12_wouldBe_142 ?_
    refine J_pick [3, 4, 5, 6, 2, 1, 0] rfl ?_
    exact h
  · replace h := h.2 q
    refine J_aload_n 1 aX12_wouldBe_126 rfl ?_
    refine J_iload 7 aX12_wouldBe_127 rfl ?_
    refine J_callV [.int x7] [.int x5] aX12_wouldBe_129 lkX12_234_X12 okX12_goesBy sh115 rfl rfl rfl (Nat.le_of_ble_eq_true rfl) (Nat.le_refl _) (Mt_mono h (fun rv I1 h => ?_))
    obtain ⟨v2, rfl, h⟩ := h
    refine J_r1 ?_
    refine J_goto aX12_wouldBe_132 ?_
    refine J_iadd aX12_wouldBe_136 ?_
    refine J_istore [(5, .int (x5 + v2)), (4, .int t0), (0, .ref (eb E + 115)), (1, .int x1), (2, .int x2), (3, .int x3), (6, .int x6), (7, .int x7)] aX12_wouldBe_137 (by decide) rfl ?_
    refine J_iinc (x6 + nI 1) [(6, .int (x6 + nI 1)), (5, .int (x5 + v2)), (4, .int t0), (0, .ref (eb E + 115)), (1, .int x1), (2, .int x2), (3, .int x3), (7, .int x7)] 6 aX12_wouldBe_139 rfl (by first | rfl | (congr 1; decide +kernel)) (by decide) rfl ?_
    refine J_goto aX12_wouldBe_142 ?_
    refine J_pick [3, 4, 5, 6, 2, 1, 0] rfl ?_
    exact h
