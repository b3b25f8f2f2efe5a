theorem aX11_seed_0 : decode mX11_seed.2.1 0 = .ok (.aload_n 0, 1) ∧ 0 + 1 = 1 := ⟨by decide +kernel, rfl⟩
theorem aX11_seed_1 : decode mX11_seed.2.1 1 = .ok (.getfield 83, 3) ∧ 1 + 3 = 4 := ⟨by decide +kernel, rfl⟩
theorem aX11_seed_4 : decode mX11_seed.2.1 4 = .ok (.getfield 308, 3) ∧ 4 + 3 = 7 := ⟨by decide +kernel, rfl⟩
theorem aX11_seed_7 : decode mX11_seed.2.1 7 = .ok (.istore_n 2, 1) ∧ 7 + 1 = 8 := ⟨by decide +kernel, rfl⟩
theorem aX11_seed_8 : decode mX11_seed.2.1 8 = .ok (.aload_n 0, 1) ∧ 8 + 1 = 9 := ⟨by decide +kernel, rfl⟩
theorem aX11_seed_9 : decode mX11_seed.2.1 9 = .ok (.getfield 83, 3) ∧ 9 + 3 = 12 := ⟨by decide +kernel, rfl⟩
theorem aX11_seed_12 : decode mX11_seed.2.1 12 = .ok (.iload_n 1, 1) ∧ 12 + 1 = 13 := ⟨by decide +kernel, rfl⟩
theorem aX11_seed_13 : decode mX11_seed.2.1 13 = .ok (.putfield 308, 3) ∧ 13 + 3 = 16 := ⟨by decide +kernel, rfl⟩
theorem aX11_seed_16 : decode mX11_seed.2.1 16 = .ok (.iload_n 2, 1) ∧ 16 + 1 = 17 := ⟨by decide +kernel, rfl⟩
theorem aX11_seed_17 : decode mX11_seed.2.1 17 = .ok (.ireturn, 1) := by decide +kernel
theorem S_X11_seed {E : EE} {d : Nat} {I : IH} {Q : QT} (x1 : Int32) (h :
(∀ I1 : IH, I1 = stI I 33 9 x1 →
 Q (some (.int (I 33 9))) I1)) : Mt E d mX11_seed [.ref (eb E + 0), .int x1] I Q := by
  refine Mt_of [(0, .ref (eb E + 0)), (1, .int x1)] (by decide +kernel) (by simp [lg_sl, Value.category, mX11_seed]) rfl ?_
  refine J_aload_n 0 aX11_seed_0 rfl ?_
  refine J_getR aX11_seed_1 flX11_83 sh0 rfl ?_
  refine J_getI aX11_seed_4 flX11_308 sh33 rfl ?_
  refine J_istore_n [(2, .int (I 33 9)), (0, .ref (eb E + 0)), (1, .int x1)] aX11_seed_7 (by decide) rfl ?_
  refine J_aload_n 1 aX11_seed_8 rfl ?_
  refine J_getR aX11_seed_9 flX11_83 sh0 rfl ?_
  refine J_iload_n 2 aX11_seed_12 rfl ?_
  refine J_putI aX11_seed_13 fpX11_308 sh33 rfl (fun I1 e2 => ?_)
  replace h := h I1 e2
  refine J_iload_n 0 aX11_seed_16 rfl ?_
  exact J_iret aX11_seed_17 rfl h
theorem aX11_lot_0 : decode mX11_lot.2.1 0 = .ok (.aload_n 0, 1) ∧ 0 + 1 = 1 := ⟨by decide +kernel, rfl⟩
theorem aX11_lot_1 : decode mX11_lot.2.1 1 = .ok (.getfield 83, 3) ∧ 1 + 3 = 4 := ⟨by decide +kernel, rfl⟩
theorem aX11_lot_4 : decode mX11_lot.2.1 4 = .ok (.invokevirtual 197, 3) ∧ 4 + 3 = 7 := ⟨by decide +kernel, rfl⟩
theorem aX11_lot_7 : decode mX11_lot.2.1 7 = .ok (.ifCond .eq 6, 3) ∧ ((7 : Nat) : Int) + 6 = ((13 : Nat) : Int) ∧ 7 + 3 = 10 := ⟨by decide +kernel, by decide, rfl⟩
theorem aX11_lot_10 : decode mX11_lot.2.1 10 = .ok (.bipush (-4), 2) ∧ 10 + 2 = 12 := ⟨by decide +kernel, rfl⟩
theorem aX11_lot_12 : decode mX11_lot.2.1 12 = .ok (.ireturn, 1) := by decide +kernel
theorem aX11_lot_13 : decode mX11_lot.2.1 13 = .ok (.aload_n 0, 1) ∧ 13 + 1 = 14 := ⟨by decide +kernel, rfl⟩
theorem aX11_lot_14 : decode mX11_lot.2.1 14 = .ok (.getfield 83, 3) ∧ 14 + 3 = 17 := ⟨by decide +kernel, rfl⟩
theorem aX11_lot_17 : decode mX11_lot.2.1 17 = .ok (.invokevirtual 311, 3) ∧ 17 + 3 = 20 := ⟨by decide +kernel, rfl⟩
theorem aX11_lot_20 : decode mX11_lot.2.1 20 = .ok (.ireturn, 1) := by decide +kernel
theorem S_X11_lot {E : EE} {d : Nat} {I : IH} {Q : QT}  (h :
(Mt E d mX1_isOver [.ref (eb E + 33)] I (fun rv I1 => ∃ v2 : Int32, rv = some (.int v2) ∧
 ((v2 = 0 → (Mt E d mX1_goLot [.ref (eb E + 33)] I1 (fun rv I3 => ∃ v4 : Int32, rv = some (.int v4) ∧
 Q (some (.int v4)) I3))) ∧
 (¬ v2 = 0 → Q (some (.int (-4))) I1))))) : Mt E (d + 1) mX11_lot [.ref (eb E + 0)] I Q := by
  refine Mt_of [(0, .ref (eb E + 0))] (by decide +kernel) (by simp [lg_sl, Value.category, mX11_lot]) rfl ?_
  refine J_aload_n 0 aX11_lot_0 rfl ?_
  refine J_getR aX11_lot_1 flX11_83 sh0 rfl ?_
  refine J_callV [] [] aX11_lot_4 lkX11_197_X1 okX1_isOver sh33 rfl rfl rfl (Nat.le_of_ble_eq_true rfl) (Nat.le_refl _) (Mt_mono h (fun rv I1 h => ?_))
  obtain ⟨v2, rfl, h⟩ := h
  refine J_r1 ?_
  refine J_if_eq aX11_lot_7 (fun q => ?_) (fun q => ?_)
  · replace h := h.1 q
    refine J_aload_n 0 aX11_lot_13 rfl ?_
    refine J_getR aX11_lot_14 flX11_83 sh0 rfl ?_
    refine J_callV [] [] aX11_lot_17 lkX11_311_X1 okX1_goLot sh33 rfl rfl rfl (Nat.le_of_ble_eq_true rfl) (Nat.le_refl _) (Mt_mono h (fun rv I3 h => ?_))
    obtain ⟨v4, rfl, h⟩ := h
    refine J_r1 ?_
    exact J_iret aX11_lot_20 rfl h
  · replace h := h.2 q
    refine J_bipush (-4) aX11_lot_10 (by decide +kernel) ?_
    exact J_iret aX11_lot_12 rfl h
theorem aX11_times_0 : decode mX11_times.2.1 0 = .ok (.iload_n 1, 1) ∧ 0 + 1 = 1 := ⟨by decide +kernel, rfl⟩
theorem aX11_times_1 : decode mX11_times.2.1 1 = .ok (.iconst 1, 1) ∧ 1 + 1 = 2 := ⟨by decide +kernel, rfl⟩
theorem aX11_times_2 : decode mX11_times.2.1 2 = .ok (.if_icmp .lt 19, 3) ∧ ((2 : Nat) : Int) + 19 = ((21 : Nat) : Int) ∧ 2 + 3 = 5 := ⟨by decide +kernel, by decide, rfl⟩
theorem aX11_times_5 : decode mX11_times.2.1 5 = .ok (.iload_n 1, 1) ∧ 5 + 1 = 6 := ⟨by decide +kernel, rfl⟩
theorem aX11_times_6 : decode mX11_times.2.1 6 = .ok (.bipush 40, 2) ∧ 6 + 2 = 8 := ⟨by decide +kernel, rfl⟩
theorem aX11_times_8 : decode mX11_times.2.1 8 = .ok (.if_icmp .gt 13, 3) ∧ ((8 : Nat) : Int) + 13 = ((21 : Nat) : Int) ∧ 8 + 3 = 11 := ⟨by decide +kernel, by decide, rfl⟩
theorem aX11_times_11 : decode mX11_times.2.1 11 = .ok (.iload_n 2, 1) ∧ 11 + 1 = 12 := ⟨by decide +kernel, rfl⟩
theorem aX11_times_12 : decode mX11_times.2.1 12 = .ok (.sipush 999, 3) ∧ 12 + 3 = 15 := ⟨by decide +kernel, rfl⟩
theorem aX11_times_15 : decode mX11_times.2.1 15 = .ok (.invokestatic 110, 3) ∧ 15 + 3 = 18 := ⟨by decide +kernel, rfl⟩
theorem aX11_times_18 : decode mX11_times.2.1 18 = .ok (.ifCond .ne 5, 3) ∧ ((18 : Nat) : Int) + 5 = ((23 : Nat) : Int) ∧ 18 + 3 = 21 := ⟨by decide +kernel, by decide, rfl⟩
theorem aX11_times_21 : decode mX11_times.2.1 21 = .ok (.iconst (-1), 1) ∧ 21 + 1 = 22 := ⟨by decide +kernel, rfl⟩
theorem aX11_times_22 : decode mX11_times.2.1 22 = .ok (.ireturn, 1) := by decide +kernel
theorem aX11_times_23 : decode mX11_times.2.1 23 = .ok (.iconst 0, 1) ∧ 23 + 1 = 24 := ⟨by decide +kernel, rfl⟩
theorem aX11_times_24 : decode mX11_times.2.1 24 = .ok (.istore_n 3, 1) ∧ 24 + 1 = 25 := ⟨by decide +kernel, rfl⟩
theorem aX11_times_25 : decode mX11_times.2.1 25 = .ok (.aload_n 0, 1) ∧ 25 + 1 = 26 := ⟨by decide +kernel, rfl⟩
theorem aX11_times_26 : decode mX11_times.2.1 26 = .ok (.getfield 83, 3) ∧ 26 + 3 = 29 := ⟨by decide +kernel, rfl⟩
theorem aX11_times_29 : decode mX11_times.2.1 29 = .ok (.getfield 308, 3) ∧ 29 + 3 = 32 := ⟨by decide +kernel, rfl⟩
theorem aX11_times_32 : decode mX11_times.2.1 32 = .ok (.istore 4, 2) ∧ 32 + 2 = 34 := ⟨by decide +kernel, rfl⟩
theorem aX11_times_34 : decode mX11_times.2.1 34 = .ok (.iconst 0, 1) ∧ 34 + 1 = 35 := ⟨by decide +kernel, rfl⟩
theorem aX11_times_35 : decode mX11_times.2.1 35 = .ok (.istore 5, 2) ∧ 35 + 2 = 37 := ⟨by decide +kernel, rfl⟩
theorem aX11_times_37 : decode mX11_times.2.1 37 = .ok (.iload 5, 2) ∧ 37 + 2 = 39 := ⟨by decide +kernel, rfl⟩
theorem aX11_times_39 : decode mX11_times.2.1 39 = .ok (.iload_n 1, 1) ∧ 39 + 1 = 40 := ⟨by decide +kernel, rfl⟩
theorem aX11_times_40 : decode mX11_times.2.1 40 = .ok (.if_icmp .ge 89, 3) ∧ ((40 : Nat) : Int) + 89 = ((129 : Nat) : Int) ∧ 40 + 3 = 43 := ⟨by decide +kernel, by decide, rfl⟩
theorem aX11_times_43 : decode mX11_times.2.1 43 = .ok (.aload_n 0, 1) ∧ 43 + 1 = 44 := ⟨by decide +kernel, rfl⟩
theorem aX11_times_44 : decode mX11_times.2.1 44 = .ok (.getfield 90, 3) ∧ 44 + 3 = 47 := ⟨by decide +kernel, rfl⟩
theorem aX11_times_47 : decode mX11_times.2.1 47 = .ok (.aload_n 0, 1) ∧ 47 + 1 = 48 := ⟨by decide +kernel, rfl⟩
theorem aX11_times_48 : decode mX11_times.2.1 48 = .ok (.getfield 83, 3) ∧ 48 + 3 = 51 := ⟨by decide +kernel, rfl⟩
theorem aX11_times_51 : decode mX11_times.2.1 51 = .ok (.invokevirtual 227, 3) ∧ 51 + 3 = 54 := ⟨by decide +kernel, rfl⟩
theorem aX11_times_54 : decode mX11_times.2.1 54 = .ok (.aload_n 0, 1) ∧ 54 + 1 = 55 := ⟨by decide +kernel, rfl⟩
theorem aX11_times_55 : decode mX11_times.2.1 55 = .ok (.getfield 90, 3) ∧ 55 + 3 = 58 := ⟨by decide +kernel, rfl⟩
theorem aX11_times_58 : decode mX11_times.2.1 58 = .ok (.iload 4, 2) ∧ 58 + 2 = 60 := ⟨by decide +kernel, rfl⟩
theorem aX11_times_60 : decode mX11_times.2.1 60 = .ok (.putfield 308, 3) ∧ 60 + 3 = 63 := ⟨by decide +kernel, rfl⟩
theorem aX11_times_63 : decode mX11_times.2.1 63 = .ok (.iconst 0, 1) ∧ 63 + 1 = 64 := ⟨by decide +kernel, rfl⟩
theorem aX11_times_64 : decode mX11_times.2.1 64 = .ok (.istore 6, 2) ∧ 64 + 2 = 66 := ⟨by decide +kernel, rfl⟩
theorem aX11_times_66 : decode mX11_times.2.1 66 = .ok (.aload_n 0, 1) ∧ 66 + 1 = 67 := ⟨by decide +kernel, rfl⟩
theorem aX11_times_67 : decode mX11_times.2.1 67 = .ok (.getfield 83, 3) ∧ 67 + 3 = 70 := ⟨by decide +kernel, rfl⟩
theorem aX11_times_70 : decode mX11_times.2.1 70 = .ok (.getfield 154, 3) ∧ 70 + 3 = 73 := ⟨by decide +kernel, rfl⟩
theorem aX11_times_73 : decode mX11_times.2.1 73 = .ok (.istore 7, 2) ∧ 73 + 2 = 75 := ⟨by decide +kernel, rfl⟩
theorem aX11_times_75 : decode mX11_times.2.1 75 = .ok (.iload 7, 2) ∧ 75 + 2 = 77 := ⟨by decide +kernel, rfl⟩
theorem aX11_times_77 : decode mX11_times.2.1 77 = .ok (.aload_n 0, 1) ∧ 77 + 1 = 78 := ⟨by decide +kernel, rfl⟩
theorem aX11_times_78 : decode mX11_times.2.1 78 = .ok (.getfield 83, 3) ∧ 78 + 3 = 81 := ⟨by decide +kernel, rfl⟩
theorem aX11_times_81 : decode mX11_times.2.1 81 = .ok (.getfield 188, 3) ∧ 81 + 3 = 84 := ⟨by decide +kernel, rfl⟩
theorem aX11_times_84 : decode mX11_times.2.1 84 = .ok (.if_icmp .ge 21, 3) ∧ ((84 : Nat) : Int) + 21 = ((105 : Nat) : Int) ∧ 84 + 3 = 87 := ⟨by decide +kernel, by decide, rfl⟩
theorem aX11_times_87 : decode mX11_times.2.1 87 = .ok (.iload 6, 2) ∧ 87 + 2 = 89 := ⟨by decide +kernel, rfl⟩
theorem aX11_times_89 : decode mX11_times.2.1 89 = .ok (.aload_n 0, 1) ∧ 89 + 1 = 90 := ⟨by decide +kernel, rfl⟩
theorem aX11_times_90 : decode mX11_times.2.1 90 = .ok (.getfield 90, 3) ∧ 90 + 3 = 93 := ⟨by decide +kernel, rfl⟩
theorem aX11_times_93 : decode mX11_times.2.1 93 = .ok (.invokevirtual 311, 3) ∧ 93 + 3 = 96 := ⟨by decide +kernel, rfl⟩
theorem aX11_times_96 : decode mX11_times.2.1 96 = .ok (.iadd, 1) ∧ 96 + 1 = 97 := ⟨by decide +kernel, rfl⟩
theorem aX11_times_97 : decode mX11_times.2.1 97 = .ok (.istore 6, 2) ∧ 97 + 2 = 99 := ⟨by decide +kernel, rfl⟩
theorem aX11_times_99 : decode mX11_times.2.1 99 = .ok (.iinc 7 1, 3) ∧ 99 + 3 = 102 := ⟨by decide +kernel, rfl⟩
theorem aX11_times_102 : decode mX11_times.2.1 102 = .ok (.goto (-27), 3) ∧ ((102 : Nat) : Int) + (-27) = ((75 : Nat) : Int) := ⟨by decide +kernel, by decide⟩
theorem aX11_times_105 : decode mX11_times.2.1 105 = .ok (.aload_n 0, 1) ∧ 105 + 1 = 106 := ⟨by decide +kernel, rfl⟩
theorem aX11_times_106 : decode mX11_times.2.1 106 = .ok (.getfield 90, 3) ∧ 106 + 3 = 109 := ⟨by decide +kernel, rfl⟩
theorem aX11_times_109 : decode mX11_times.2.1 109 = .ok (.getfield 308, 3) ∧ 109 + 3 = 112 := ⟨by decide +kernel, rfl⟩
theorem aX11_times_112 : decode mX11_times.2.1 112 = .ok (.istore 4, 2) ∧ 112 + 2 = 114 := ⟨by decide +kernel, rfl⟩
theorem aX11_times_114 : decode mX11_times.2.1 114 = .ok (.iload 6, 2) ∧ 114 + 2 = 116 := ⟨by decide +kernel, rfl⟩
theorem aX11_times_116 : decode mX11_times.2.1 116 = .ok (.iload_n 2, 1) ∧ 116 + 1 = 117 := ⟨by decide +kernel, rfl⟩
theorem aX11_times_117 : decode mX11_times.2.1 117 = .ok (.if_icmp .lt 6, 3) ∧ ((117 : Nat) : Int) + 6 = ((123 : Nat) : Int) ∧ 117 + 3 = 120 := ⟨by decide +kernel, by decide, rfl⟩
theorem aX11_times_120 : decode mX11_times.2.1 120 = .ok (.iinc 3 1, 3) ∧ 120 + 3 = 123 := ⟨by decide +kernel, rfl⟩
theorem aX11_times_123 : decode mX11_times.2.1 123 = .ok (.iinc 5 1, 3) ∧ 123 + 3 = 126 := ⟨by decide +kernel, rfl⟩
theorem aX11_times_126 : decode mX11_times.2.1 126 = .ok (.goto (-89), 3) ∧ ((126 : Nat) : Int) + (-89) = ((37 : Nat) : Int) := ⟨by decide +kernel, by decide⟩
theorem aX11_times_129 : decode mX11_times.2.1 129 = .ok (.iload_n 3, 1) ∧ 129 + 1 = 130 := ⟨by decide +kernel, rfl⟩
theorem aX11_times_130 : decode mX11_times.2.1 130 = .ok (.ireturn, 1) := by decide +kernel
theorem S_X11_times {E : EE} {d : Nat} {I : IH} {Q : QT} (x1 : Int32) (x2 : Int32) (h :
((x1 < (nI 1) → Q (some (.int (-1))) I) ∧
 (¬ x1 < (nI 1) → (((nI 40) < x1 → Q (some (.int (-1))) I) ∧
 (¬ (nI 40) < x1 → (Mt E d mX11_isWithin [.int x2, .int (nI 999)] I (fun rv I1 => ∃ v2 : Int32, rv = some (.int v2) ∧
 ((¬ v2 = 0 → J E (d + 1) mX11_times 37 [(0, .ref (eb E + 0)), (1, .int x1), (2, .int x2), (3, .int (nI 0)), (4, .int (I1 33 9)), (5, .int (nI 0))] [] I1 Q) ∧
 (v2 = 0 → Q (some (.int (-1))) I1))))))))) : Mt E (d + 1) mX11_times [.ref (eb E + 0), .int x1, .int x2] I Q := by
  refine Mt_of [(0, .ref (eb E + 0)), (1, .int x1), (2, .int x2)] (by decide +kernel) (by simp [lg_sl, Value.category, mX11_times]) rfl ?_
  refine J_iload_n 1 aX11_times_0 rfl ?_
  refine J_iconst (nI 1) aX11_times_1 (by decide +kernel) ?_
  refine J_icmp_lt aX11_times_2 (fun q => ?_) (fun q => ?_)
  · replace h := h.1 q
    refine J_iconst (-1) aX11_times_21 (by decide +kernel) ?_
    exact J_iret aX11_times_22 rfl h
  · replace h := h.2 q
    refine J_iload_n 1 aX11_times_5 rfl ?_
    refine J_bipush (nI 40) aX11_times_6 (by decide +kernel) ?_
    refine J_icmp_gt aX11_times_8 (fun q => ?_) (fun q => ?_)
    · replace h := h.1 q
      refine J_iconst (-1) aX11_times_21 (by decide +kernel) ?_
      exact J_iret aX11_times_22 rfl h
    · replace h := h.2 q
      refine J_iload_n 2 aX11_times_11 rfl ?_
      refine J_sipush (nI 999) aX11_times_12 (by decide +kernel) ?_
      refine J_callS [.int x2, .int (nI 999)] [] aX11_times_15 lkX11_110 okX11_isWithin rfl rfl (Nat.le_of_ble_eq_true rfl) (Nat.le_refl _) (Mt_mono h (fun rv I1 h => ?_))
      obtain ⟨v2, rfl, h⟩ := h
      refine J_r1 ?_
      refine J_if_ne aX11_times_18 (fun q => ?_) (fun q => ?_)
      · replace h := h.1 q
        refine J_iconst (nI 0) aX11_times_23 (by decide +kernel) ?_
        refine J_istore_n [(3, .int (nI 0)), (0, .ref (eb E + 0)), (1, .int x1), (2, .int x2)] aX11_times_24 (by decide) rfl ?_
        refine J_aload_n 1 aX11_times_25 rfl ?_
        refine J_getR aX11_times_26 flX11_83 sh0 rfl ?_
        refine J_getI aX11_times_29 flX11_308 sh33 rfl ?_
        refine J_istore [(4, .int (I1 33 9)), (3, .int (nI 0)), (0, .ref (eb E + 0)), (1, .int x1), (2, .int x2)] aX11_times_32 (by decide) rfl ?_
        refine J_iconst (nI 0) aX11_times_34 (by decide +kernel) ?_
        refine J_istore [(5, .int (nI 0)), (4, .int (I1 33 9)), (3, .int (nI 0)), (0, .ref (eb E + 0)), (1, .int x1), (2, .int x2)] aX11_times_35 (by decide) rfl ?_
        refine J_pick [3, 4, 5, 2, 1, 0] rfl ?_
        exact h
      · replace h := h.2 q
        refine J_iconst (-1) aX11_times_21 (by decide +kernel) ?_
        exact J_iret aX11_times_22 rfl h
theorem S_X11_times_37 {E : EE} {d : Nat} {I : IH} {Q : QT} (x1 : Int32) (x2 : Int32) (x3 : Int32) (x4 : Int32) (x5 : Int32) (h :
((x1 ≤ x5 → Q (some (.int x3)) I) ∧
 (¬ x1 ≤ x5 → (Mt E d mX1_become [.ref (eb E + 57), .ref (eb E + 33)] I (fun rv I1 => rv = none ∧
 (∀ I2 : IH, I2 = stI I1 57 9 x4 →
 J E (d + 1) mX11_times 75 [(0, .ref (eb E + 0)), (1, .int x1), (2, .int x2), (3, .int x3), (5, .int x5), (6, .int (nI 0)), (7, .int (I2 33 3))] [] I2 Q)))))) : J E (d + 1) mX11_times 37 [(0, .ref (eb E + 0)), (1, .int x1), (2, .int x2), (3, .int x3), (4, .int x4), (5, .int x5)] [] I Q := by
  refine J_iload 5 aX11_times_37 rfl ?_
  refine J_iload_n 1 aX11_times_39 rfl ?_
  refine J_icmp_ge aX11_times_40 (fun q => ?_) (fun q => ?_)
  · replace h := h.1 q
    refine J_iload_n 3 aX11_times_129 rfl ?_
    exact J_iret aX11_times_130 rfl h
  · replace h := h.2 q
    refine J_aload_n 0 aX11_times_43 rfl ?_
    refine J_getR aX11_times_44 flX11_90 sh0 rfl ?_
    refine J_aload_n 0 aX11_times_47 rfl ?_
    refine J_getR aX11_times_48 flX11_83 sh0 rfl ?_
    refine J_callV [.ref (eb E + 33)] [] aX11_times_51 lkX11_227_X1 okX1_become sh57 rfl rfl rfl (Nat.le_of_ble_eq_true rfl) (Nat.le_refl _) (Mt_mono h (fun rv I1 h => ?_))
    obtain ⟨rfl, h⟩ := h
    refine J_r0 ?_
    refine J_aload_n 0 aX11_times_54 rfl ?_
    refine J_getR aX11_times_55 flX11_90 sh0 rfl ?_
    refine J_iload 4 aX11_times_58 rfl ?_
    refine J_putI aX11_times_60 fpX11_308 sh57 rfl (fun I2 e3 => ?_)
    replace h := h I2 e3
    refine J_iconst (nI 0) aX11_times_63 (by decide +kernel) ?_
    refine J_istore [(6, .int (nI 0)), (0, .ref (eb E + 0)), (1, .int x1), (2, .int x2), (3, .int x3), (4, .int x4), (5, .int x5)] aX11_times_64 (by decide) rfl ?_
    refine J_aload_n 1 aX11_times_66 rfl ?_
    refine J_getR aX11_times_67 flX11_83 sh0 rfl ?_
    refine J_getI aX11_times_70 flX11_154 sh33 rfl ?_
    refine J_istore [(7, .int (I2 33 3)), (6, .int (nI 0)), (0, .ref (eb E + 0)), (1, .int x1), (2, .int x2), (3, .int x3), (4, .int x4), (5, .int x5)] aX11_times_73 (by decide) rfl ?_
    refine J_pick [2, 3, 4, 5, 7, 1, 0] rfl ?_
    exact h
theorem S_X11_times_75 {E : EE} {d : Nat} {I : IH} {Q : QT} (x1 : Int32) (x2 : Int32) (x3 : Int32) (x5 : Int32) (x6 : Int32) (x7 : Int32) (h :
(((I 33 2) ≤ x7 → ((x6 < x2 → J E (d + 1) mX11_times 37 [(0, .ref (eb E + 0)), (1, .int x1), (2, .int x2), (3, .int x3), (4, .int (I 57 9)), (5, .int (x5 + nI 1))] [] I Q) ∧
 (¬ x6 < x2 → J E (d + 1) mX11_times 37 [(0, .ref (eb E + 0)), (1, .int x1), (2, .int x2), (3, .int (x3 + nI 1)), (4, .int (I 57 9)), (5, .int (x5 + nI 1))] [] I Q))) ∧
 (¬ (I 33 2) ≤ x7 → (Mt E d mX1_goLot [.ref (eb E + 57)] I (fun rv I1 => ∃ v2 : Int32, rv = some (.int v2) ∧
 J E (d + 1) mX11_times 75 [(0, .ref (eb E + 0)), (1, .int x1), (2, .int x2), (3, .int x3), (5, .int x5), (6, .int (x6 + v2)), (7, .int (x7 + nI 1))] [] I1 Q))))) : J E (d + 1) mX11_times 75 [(0, .ref (eb E + 0)), (1, .int x1), (2, .int x2), (3, .int x3), (5, .int x5), (6, .int x6), (7, .int x7)] [] I Q := by
  refine J_iload 6 aX11_times_75 rfl ?_
  refine J_aload_n 0 aX11_times_77 rfl ?_
  refine J_getR aX11_times_78 flX11_83 sh0 rfl ?_
  refine J_getI aX11_times_81 flX11_188 sh33 rfl ?_
  refine J_icmp_ge aX11_times_84 (fun q => ?_) (fun q => ?_)
  · replace h := h.1 q
    refine J_aload_n 0 aX11_times_105 rfl ?_
    refine J_getR aX11_times_106 flX11_90 sh0 rfl ?_
    refine J_getI aX11_times_109 flX11_308 sh57 rfl ?_
    refine J_istore [(4, .int (I 57 9)), (0, .ref (eb E + 0)), (1, .int x1), (2, .int x2), (3, .int x3), (5, .int x5), (6, .int x6), (7, .int x7)] aX11_times_112 (by decide) rfl ?_
    refine J_iload 6 aX11_times_114 rfl ?_
    refine J_iload_n 3 aX11_times_116 rfl ?_
    refine J_icmp_lt aX11_times_117 (fun q => ?_) (fun q => ?_)
    · replace h := h.1 q
      refine J_iinc (x5 + nI 1) [(5, .int (x5 + nI 1)), (4, .int (I 57 9)), (0, .ref (eb E + 0)), (1, .int x1), (2, .int x2), (3, .int x3), (6, .int x6), (7, .int x7)] 5 aX11_times_123 rfl (by first | rfl | (congr 1; decide +kernel)) (by decide) rfl ?_
      refine J_goto aX11_times_126 ?_
      refine J_pick [2, 3, 4, 5, 1, 0] rfl ?_
      exact h
    · replace h := h.2 q
      refine J_iinc (x3 + nI 1) [(3, .int (x3 + nI 1)), (4, .int (I 57 9)), (0, .ref (eb E + 0)), (1, .int x1), (2, .int x2), (5, .int x5), (6, .int x6), (7, .int x7)] 4 aX11_times_120 rfl (by first | rfl | (congr 1; decide +kernel)) (by decide) rfl ?_
      refine J_iinc (x5 + nI 1) [(5, .int (x5 + nI 1)), (3, .int (x3 + nI 1)), (4, .int (I 57 9)), (0, .ref (eb E + 0)), (1, .int x1), (2, .int x2), (6, .int x6), (7, .int x7)] 5 aX11_times_123 rfl (by first | rfl | (congr 1; decide +kernel)) (by decide) rfl ?_
      refine J_goto aX11_times_126 ?_
      refine J_pick [3, 4, 5, 1, 2, 0] rfl ?_
      exact h
  · replace h := h.2 q
    refine J_iload 5 aX11_times_87 rfl ?_
    refine J_aload_n 0 aX11_times_89 rfl ?_
    refine J_getR aX11_times_90 flX11_90 sh0 rfl ?_
    refine J_callV [] [.int x6] aX11_times_93 lkX11_311_X1 okX1_goLot sh57 rfl rfl rfl (Nat.le_of_ble_eq_true rfl) (Nat.le_refl _) (Mt_mono h (fun rv I1 h => ?_))
    obtain ⟨v2, rfl, h⟩ := h
    refine J_r1 ?_
    refine J_iadd aX11_times_96 ?_
    refine J_istore [(6, .int (x6 + v2)), (0, .ref (eb E + 0)), (1, .int x1), (2, .int x2), (3, .int x3), (5, .int x5), (7, .int x7)] aX11_times_97 (by decide) rfl ?_
    refine J_iinc (x7 + nI 1) [(7, .int (x7 + nI 1)), (6, .int (x6 + v2)), (0, .ref (eb E + 0)), (1, .int x1), (2, .int x2), (3, .int x3), (5, .int x5)] 6 aX11_times_99 rfl (by first | rfl | (congr 1; decide +kernel)) (by decide) rfl ?_
    refine J_goto aX11_times_102 ?_
    refine J_pick [2, 3, 4, 5, 6, 1, 0] rfl ?_
    exact h
theorem aX11_prove_0 : decode mX11_prove.2.1 0 = .ok (.iload_n 1, 1) ∧ 0 + 1 = 1 := ⟨by decide +kernel, rfl⟩
theorem aX11_prove_1 : decode mX11_prove.2.1 1 = .ok (.iconst 4, 1) ∧ 1 + 1 = 2 := ⟨by decide +kernel, rfl⟩
theorem aX11_prove_2 : decode mX11_prove.2.1 2 = .ok (.invokestatic 110, 3) ∧ 2 + 3 = 5 := ⟨by decide +kernel, rfl⟩
theorem aX11_prove_5 : decode mX11_prove.2.1 5 = .ok (.ifCond .ne 5, 3) ∧ ((5 : Nat) : Int) + 5 = ((10 : Nat) : Int) ∧ 5 + 3 = 8 := ⟨by decide +kernel, by decide, rfl⟩
theorem aX11_prove_8 : decode mX11_prove.2.1 8 = .ok (.iconst (-1), 1) ∧ 8 + 1 = 9 := ⟨by decide +kernel, rfl⟩
theorem aX11_prove_9 : decode mX11_prove.2.1 9 = .ok (.ireturn, 1) := by decide +kernel
theorem aX11_prove_10 : decode mX11_prove.2.1 10 = .ok (.aload_n 0, 1) ∧ 10 + 1 = 11 := ⟨by decide +kernel, rfl⟩
theorem aX11_prove_11 : decode mX11_prove.2.1 11 = .ok (.getfield 96, 3) ∧ 11 + 3 = 14 := ⟨by decide +kernel, rfl⟩
theorem aX11_prove_14 : decode mX11_prove.2.1 14 = .ok (.aload_n 0, 1) ∧ 14 + 1 = 15 := ⟨by decide +kernel, rfl⟩
theorem aX11_prove_15 : decode mX11_prove.2.1 15 = .ok (.getfield 83, 3) ∧ 15 + 3 = 18 := ⟨by decide +kernel, rfl⟩
theorem aX11_prove_18 : decode mX11_prove.2.1 18 = .ok (.iload_n 1, 1) ∧ 18 + 1 = 19 := ⟨by decide +kernel, rfl⟩
theorem aX11_prove_19 : decode mX11_prove.2.1 19 = .ok (.iconst 0, 1) ∧ 19 + 1 = 20 := ⟨by decide +kernel, rfl⟩
theorem aX11_prove_20 : decode mX11_prove.2.1 20 = .ok (.invokevirtual 265, 3) ∧ 20 + 3 = 23 := ⟨by decide +kernel, rfl⟩
theorem aX11_prove_23 : decode mX11_prove.2.1 23 = .ok (.aload_n 0, 1) ∧ 23 + 1 = 24 := ⟨by decide +kernel, rfl⟩
theorem aX11_prove_24 : decode mX11_prove.2.1 24 = .ok (.getfield 90, 3) ∧ 24 + 3 = 27 := ⟨by decide +kernel, rfl⟩
theorem aX11_prove_27 : decode mX11_prove.2.1 27 = .ok (.aload_n 0, 1) ∧ 27 + 1 = 28 := ⟨by decide +kernel, rfl⟩
theorem aX11_prove_28 : decode mX11_prove.2.1 28 = .ok (.getfield 83, 3) ∧ 28 + 3 = 31 := ⟨by decide +kernel, rfl⟩
theorem aX11_prove_31 : decode mX11_prove.2.1 31 = .ok (.invokevirtual 227, 3) ∧ 31 + 3 = 34 := ⟨by decide +kernel, rfl⟩
theorem aX11_prove_34 : decode mX11_prove.2.1 34 = .ok (.aload_n 0, 1) ∧ 34 + 1 = 35 := ⟨by decide +kernel, rfl⟩
theorem aX11_prove_35 : decode mX11_prove.2.1 35 = .ok (.aload_n 0, 1) ∧ 35 + 1 = 36 := ⟨by decide +kernel, rfl⟩
theorem aX11_prove_36 : decode mX11_prove.2.1 36 = .ok (.getfield 96, 3) ∧ 36 + 3 = 39 := ⟨by decide +kernel, rfl⟩
theorem aX11_prove_39 : decode mX11_prove.2.1 39 = .ok (.getfield 272, 3) ∧ 39 + 3 = 42 := ⟨by decide +kernel, rfl⟩
theorem aX11_prove_42 : decode mX11_prove.2.1 42 = .ok (.putfield 38, 3) ∧ 42 + 3 = 45 := ⟨by decide +kernel, rfl⟩
theorem aX11_prove_45 : decode mX11_prove.2.1 45 = .ok (.iconst 0, 1) ∧ 45 + 1 = 46 := ⟨by decide +kernel, rfl⟩
theorem aX11_prove_46 : decode mX11_prove.2.1 46 = .ok (.istore_n 2, 1) ∧ 46 + 1 = 47 := ⟨by decide +kernel, rfl⟩
theorem aX11_prove_47 : decode mX11_prove.2.1 47 = .ok (.iload_n 2, 1) ∧ 47 + 1 = 48 := ⟨by decide +kernel, rfl⟩
theorem aX11_prove_48 : decode mX11_prove.2.1 48 = .ok (.aload_n 0, 1) ∧ 48 + 1 = 49 := ⟨by decide +kernel, rfl⟩
theorem aX11_prove_49 : decode mX11_prove.2.1 49 = .ok (.getfield 38, 3) ∧ 49 + 3 = 52 := ⟨by decide +kernel, rfl⟩
theorem aX11_prove_52 : decode mX11_prove.2.1 52 = .ok (.if_icmp .ge 63, 3) ∧ ((52 : Nat) : Int) + 63 = ((115 : Nat) : Int) ∧ 52 + 3 = 55 := ⟨by decide +kernel, by decide, rfl⟩
theorem aX11_prove_55 : decode mX11_prove.2.1 55 = .ok (.aload_n 0, 1) ∧ 55 + 1 = 56 := ⟨by decide +kernel, rfl⟩
theorem aX11_prove_56 : decode mX11_prove.2.1 56 = .ok (.getfield 96, 3) ∧ 56 + 3 = 59 := ⟨by decide +kernel, rfl⟩
theorem aX11_prove_59 : decode mX11_prove.2.1 59 = .ok (.getfield 275, 3) ∧ 59 + 3 = 62 := ⟨by decide +kernel, rfl⟩
theorem aX11_prove_62 : decode mX11_prove.2.1 62 = .ok (.iload_n 2, 1) ∧ 62 + 1 = 63 := ⟨by decide +kernel, rfl⟩
theorem aX11_prove_63 : decode mX11_prove.2.1 63 = .ok (.iaload, 1) ∧ 63 + 1 = 64 := ⟨by decide +kernel, rfl⟩
theorem aX11_prove_64 : decode mX11_prove.2.1 64 = .ok (.istore_n 3, 1) ∧ 64 + 1 = 65 := ⟨by decide +kernel, rfl⟩
theorem aX11_prove_65 : decode mX11_prove.2.1 65 = .ok (.aload_n 0, 1) ∧ 65 + 1 = 66 := ⟨by decide +kernel, rfl⟩
theorem aX11_prove_66 : decode mX11_prove.2.1 66 = .ok (.getfield 34, 3) ∧ 66 + 3 = 69 := ⟨by decide +kernel, rfl⟩
theorem aX11_prove_69 : decode mX11_prove.2.1 69 = .ok (.iload_n 2, 1) ∧ 69 + 1 = 70 := ⟨by decide +kernel, rfl⟩
theorem aX11_prove_70 : decode mX11_prove.2.1 70 = .ok (.iconst 3, 1) ∧ 70 + 1 = 71 := ⟨by decide +kernel, rfl⟩
theorem aX11_prove_71 : decode mX11_prove.2.1 71 = .ok (.imul, 1) ∧ 71 + 1 = 72 := ⟨by decide +kernel, rfl⟩
theorem aX11_prove_72 : decode mX11_prove.2.1 72 = .ok (.iload_n 3, 1) ∧ 72 + 1 = 73 := ⟨by decide +kernel, rfl⟩
theorem aX11_prove_73 : decode mX11_prove.2.1 73 = .ok (.iastore, 1) ∧ 73 + 1 = 74 := ⟨by decide +kernel, rfl⟩
theorem aX11_prove_74 : decode mX11_prove.2.1 74 = .ok (.aload_n 0, 1) ∧ 74 + 1 = 75 := ⟨by decide +kernel, rfl⟩
theorem aX11_prove_75 : decode mX11_prove.2.1 75 = .ok (.getfield 34, 3) ∧ 75 + 3 = 78 := ⟨by decide +kernel, rfl⟩
theorem aX11_prove_78 : decode mX11_prove.2.1 78 = .ok (.iload_n 2, 1) ∧ 78 + 1 = 79 := ⟨by decide +kernel, rfl⟩
theorem aX11_prove_79 : decode mX11_prove.2.1 79 = .ok (.iconst 3, 1) ∧ 79 + 1 = 80 := ⟨by decide +kernel, rfl⟩
theorem aX11_prove_80 : decode mX11_prove.2.1 80 = .ok (.imul, 1) ∧ 80 + 1 = 81 := ⟨by decide +kernel, rfl⟩
theorem aX11_prove_81 : decode mX11_prove.2.1 81 = .ok (.iconst 1, 1) ∧ 81 + 1 = 82 := ⟨by decide +kernel, rfl⟩
theorem aX11_prove_82 : decode mX11_prove.2.1 82 = .ok (.iadd, 1) ∧ 82 + 1 = 83 := ⟨by decide +kernel, rfl⟩
theorem aX11_prove_83 : decode mX11_prove.2.1 83 = .ok (.aload_n 0, 1) ∧ 83 + 1 = 84 := ⟨by decide +kernel, rfl⟩
theorem aX11_prove_84 : decode mX11_prove.2.1 84 = .ok (.getfield 90, 3) ∧ 84 + 3 = 87 := ⟨by decide +kernel, rfl⟩
theorem aX11_prove_87 : decode mX11_prove.2.1 87 = .ok (.iload_n 3, 1) ∧ 87 + 1 = 88 := ⟨by decide +kernel, rfl⟩
theorem aX11_prove_88 : decode mX11_prove.2.1 88 = .ok (.invokevirtual 314, 3) ∧ 88 + 3 = 91 := ⟨by decide +kernel, rfl⟩
theorem aX11_prove_91 : decode mX11_prove.2.1 91 = .ok (.iastore, 1) ∧ 91 + 1 = 92 := ⟨by decide +kernel, rfl⟩
theorem aX11_prove_92 : decode mX11_prove.2.1 92 = .ok (.aload_n 0, 1) ∧ 92 + 1 = 93 := ⟨by decide +kernel, rfl⟩
theorem aX11_prove_93 : decode mX11_prove.2.1 93 = .ok (.getfield 34, 3) ∧ 93 + 3 = 96 := ⟨by decide +kernel, rfl⟩
theorem aX11_prove_96 : decode mX11_prove.2.1 96 = .ok (.iload_n 2, 1) ∧ 96 + 1 = 97 := ⟨by decide +kernel, rfl⟩
theorem aX11_prove_97 : decode mX11_prove.2.1 97 = .ok (.iconst 3, 1) ∧ 97 + 1 = 98 := ⟨by decide +kernel, rfl⟩
theorem aX11_prove_98 : decode mX11_prove.2.1 98 = .ok (.imul, 1) ∧ 98 + 1 = 99 := ⟨by decide +kernel, rfl⟩
theorem aX11_prove_99 : decode mX11_prove.2.1 99 = .ok (.iconst 2, 1) ∧ 99 + 1 = 100 := ⟨by decide +kernel, rfl⟩
theorem aX11_prove_100 : decode mX11_prove.2.1 100 = .ok (.iadd, 1) ∧ 100 + 1 = 101 := ⟨by decide +kernel, rfl⟩
theorem aX11_prove_101 : decode mX11_prove.2.1 101 = .ok (.aload_n 0, 1) ∧ 101 + 1 = 102 := ⟨by decide +kernel, rfl⟩
theorem aX11_prove_102 : decode mX11_prove.2.1 102 = .ok (.getfield 90, 3) ∧ 102 + 3 = 105 := ⟨by decide +kernel, rfl⟩
theorem aX11_prove_105 : decode mX11_prove.2.1 105 = .ok (.getfield 143, 3) ∧ 105 + 3 = 108 := ⟨by decide +kernel, rfl⟩
theorem aX11_prove_108 : decode mX11_prove.2.1 108 = .ok (.iastore, 1) ∧ 108 + 1 = 109 := ⟨by decide +kernel, rfl⟩
theorem aX11_prove_109 : decode mX11_prove.2.1 109 = .ok (.iinc 2 1, 3) ∧ 109 + 3 = 112 := ⟨by decide +kernel, rfl⟩
theorem aX11_prove_112 : decode mX11_prove.2.1 112 = .ok (.goto (-65), 3) ∧ ((112 : Nat) : Int) + (-65) = ((47 : Nat) : Int) := ⟨by decide +kernel, by decide⟩
theorem aX11_prove_115 : decode mX11_prove.2.1 115 = .ok (.aload_n 0, 1) ∧ 115 + 1 = 116 := ⟨by decide +kernel, rfl⟩
theorem aX11_prove_116 : decode mX11_prove.2.1 116 = .ok (.getfield 38, 3) ∧ 116 + 3 = 119 := ⟨by decide +kernel, rfl⟩
theorem aX11_prove_119 : decode mX11_prove.2.1 119 = .ok (.ireturn, 1) := by decide +kernel
theorem S_X11_prove {E : EE} {d : Nat} {I : IH} {Q : QT} (x1 : Int32) (h :
(Mt E d mX11_isWithin [.int x1, .int (nI 4)] I (fun rv I1 => ∃ v2 : Int32, rv = some (.int v2) ∧
 ((¬ v2 = 0 → (Mt E d mX5_search [.ref (eb E + 66), .ref (eb E + 33), .int x1, .int (nI 0)] I1 (fun rv I3 => rv = none ∧
 (Mt E d mX1_become [.ref (eb E + 57), .ref (eb E + 33)] I3 (fun rv I4 => rv = none ∧
 (∀ I5 : IH, I5 = stI I4 0 9 (I4 66 3) →
 J E (d + 1) mX11_prove 47 [(0, .ref (eb E + 0)), (2, .int (nI 0))] [] I5 Q)))))) ∧
 (v2 = 0 → Q (some (.int (-1))) I1))))) : Mt E (d + 1) mX11_prove [.ref (eb E + 0), .int x1] I Q := by
  refine Mt_of [(0, .ref (eb E + 0)), (1, .int x1)] (by decide +kernel) (by simp [lg_sl, Value.category, mX11_prove]) rfl ?_
  refine J_iload_n 1 aX11_prove_0 rfl ?_
  refine J_iconst (nI 4) aX11_prove_1 (by decide +kernel) ?_
  refine J_callS [.int x1, .int (nI 4)] [] aX11_prove_2 lkX11_110 okX11_isWithin rfl rfl (Nat.le_of_ble_eq_true rfl) (Nat.le_refl _) (Mt_mono h (fun rv I1 h => ?_))
  obtain ⟨v2, rfl, h⟩ := h
  refine J_r1 ?_
  refine J_if_ne aX11_prove_5 (fun q => ?_) (fun q => ?_)
  · replace h := h.1 q
    refine J_aload_n 0 aX11_prove_10 rfl ?_
    refine J_getR aX11_prove_11 flX11_96 sh0 rfl ?_
    refine J_aload_n 0 aX11_prove_14 rfl ?_
    refine J_getR aX11_prove_15 flX11_83 sh0 rfl ?_
    refine J_iload_n 1 aX11_prove_18 rfl ?_
    refine J_iconst (nI 0) aX11_prove_19 (by decide +kernel) ?_
    refine J_callV [.ref (eb E + 33), .int x1, .int (nI 0)] [] aX11_prove_20 lkX11_265_X5 okX5_search sh66 rfl rfl rfl (Nat.le_of_ble_eq_true rfl) (Nat.le_refl _) (Mt_mono h (fun rv I3 h => ?_))
    obtain ⟨rfl, h⟩ := h
    refine J_r0 ?_
    refine J_aload_n 0 aX11_prove_23 rfl ?_
    refine J_getR aX11_prove_24 flX11_90 sh0 rfl ?_
    refine J_aload_n 0 aX11_prove_27 rfl ?_
    refine J_getR aX11_prove_28 flX11_83 sh0 rfl ?_
    refine J_callV [.ref (eb E + 33)] [] aX11_prove_31 lkX11_227_X1 okX1_become sh57 rfl rfl rfl (Nat.le_of_ble_eq_true rfl) (Nat.le_refl _) (Mt_mono h (fun rv I4 h => ?_))
    obtain ⟨rfl, h⟩ := h
    refine J_r0 ?_
    refine J_aload_n 0 aX11_prove_34 rfl ?_
    refine J_aload_n 0 aX11_prove_35 rfl ?_
    refine J_getR aX11_prove_36 flX11_96 sh0 rfl ?_
    refine J_getI aX11_prove_39 flX11_272 sh66 rfl ?_
    refine J_putI aX11_prove_42 fpX11_38 sh0 rfl (fun I5 e6 => ?_)
    replace h := h I5 e6
    refine J_iconst (nI 0) aX11_prove_45 (by decide +kernel) ?_
    refine J_istore_n [(2, .int (nI 0)), (0, .ref (eb E + 0)), (1, .int x1)] aX11_prove_46 (by decide) rfl ?_
    refine J_pick [1, 0] rfl ?_
    exact h
  · replace h := h.2 q
    refine J_iconst (-1) aX11_prove_8 (by decide +kernel) ?_
    exact J_iret aX11_prove_9 rfl h
theorem S_X11_prove_47 {E : EE} {d : Nat} {I : IH} {Q : QT} (x2 : Int32) (h :
(((I 0 9) ≤ x2 → Q (some (.int (I 0 9))) I) ∧
 (¬ (I 0 9) ≤ x2 → (∃ j1 : Nat, x2 = nI j1 ∧ j1 < 4 ∧ (∃ j6 : Nat, (x2 * (nI 3)) = nI j6 ∧ j6 < 12 ∧ (∀ I4 : IH, I4 = stI I 13 j6 (I 69 j1) →
 (Mt E d mX1_go [.ref (eb E + 57), .int (I 69 j1)] I4 (fun rv I9 => ∃ v10 : Int32, rv = some (.int v10) ∧
 (∃ j13 : Nat, ((x2 * (nI 3)) + (nI 1)) = nI j13 ∧ j13 < 12 ∧ (∀ I11 : IH, I11 = stI I9 13 j13 v10 →
 (∃ j18 : Nat, ((x2 * (nI 3)) + (nI 2)) = nI j18 ∧ j18 < 12 ∧ (∀ I16 : IH, I16 = stI I11 13 j18 (I11 57 8) →
 J E (d + 1) mX11_prove 47 [(0, .ref (eb E + 0)), (2, .int (x2 + nI 1))] [] I16 Q)))))))))))) : J E (d + 1) mX11_prove 47 [(0, .ref (eb E + 0)), (2, .int x2)] [] I Q := by
  refine J_iload_n 1 aX11_prove_47 rfl ?_
  refine J_aload_n 0 aX11_prove_48 rfl ?_
  refine J_getI aX11_prove_49 flX11_38 sh0 rfl ?_
  refine J_icmp_ge aX11_prove_52 (fun q => ?_) (fun q => ?_)
  · replace h := h.1 q
    refine J_aload_n 0 aX11_prove_115 rfl ?_
    refine J_getI aX11_prove_116 flX11_38 sh0 rfl ?_
    exact J_iret aX11_prove_119 rfl h
  · replace h := h.2 q
    refine J_aload_n 0 aX11_prove_55 rfl ?_
    refine J_getR aX11_prove_56 flX11_96 sh0 rfl ?_
    refine J_getR aX11_prove_59 flX11_275 sh66 rfl ?_
    refine J_iload_n 1 aX11_prove_62 rfl ?_
    obtain ⟨j1, e2, b3, h⟩ := h
    refine J_iaload j1 aX11_prove_63 sh69 e2 b3 (by decide) ?_
    refine J_istore_n [(3, .int (I 69 j1)), (0, .ref (eb E + 0)), (2, .int x2)] aX11_prove_64 (by decide) rfl ?_
    refine J_aload_n 1 aX11_prove_65 rfl ?_
    refine J_getR aX11_prove_66 flX11_34 sh0 rfl ?_
    refine J_iload_n 2 aX11_prove_69 rfl ?_
    refine J_iconst (nI 3) aX11_prove_70 (by decide +kernel) ?_
    refine J_imul aX11_prove_71 ?_
    refine J_iload_n 0 aX11_prove_72 rfl ?_
    obtain ⟨j6, e7, b8, h⟩ := h
    refine J_iastore j6 aX11_prove_73 sh13 e7 b8 (by decide) (fun I4 e5 => ?_)
    replace h := h I4 e5
    refine J_aload_n 1 aX11_prove_74 rfl ?_
    refine J_getR aX11_prove_75 flX11_34 sh0 rfl ?_
    refine J_iload_n 2 aX11_prove_78 rfl ?_
    refine J_iconst (nI 3) aX11_prove_79 (by decide +kernel) ?_
    refine J_imul aX11_prove_80 ?_
    refine J_iconst (nI 1) aX11_prove_81 (by decide +kernel) ?_
    refine J_iadd aX11_prove_82 ?_
    refine J_aload_n 1 aX11_prove_83 rfl ?_
    refine J_getR aX11_prove_84 flX11_90 sh0 rfl ?_
    refine J_iload_n 0 aX11_prove_87 rfl ?_
    refine J_callV [.int (I 69 j1)] [.int ((x2 * (nI 3)) + (nI 1)), .ref (eb E + 13)] aX11_prove_88 lkX11_314_X1 okX1_go sh57 rfl rfl rfl (Nat.le_of_ble_eq_true rfl) (Nat.le_refl _) (Mt_mono h (fun rv I9 h => ?_))
    obtain ⟨v10, rfl, h⟩ := h
    refine J_r1 ?_
    obtain ⟨j13, e14, b15, h⟩ := h
    refine J_iastore j13 aX11_prove_91 sh13 e14 b15 (by decide) (fun I11 e12 => ?_)
    replace h := h I11 e12
    refine J_aload_n 1 aX11_prove_92 rfl ?_
    refine J_getR aX11_prove_93 flX11_34 sh0 rfl ?_
    refine J_iload_n 2 aX11_prove_96 rfl ?_
    refine J_iconst (nI 3) aX11_prove_97 (by decide +kernel) ?_
    refine J_imul aX11_prove_98 ?_
    refine J_iconst (nI 2) aX11_prove_99 (by decide +kernel) ?_
    refine J_iadd aX11_prove_100 ?_
    refine J_aload_n 1 aX11_prove_101 rfl ?_
    refine J_getR aX11_prove_102 flX11_90 sh0 rfl ?_
    refine J_getI aX11_prove_105 flX11_143 sh57 rfl ?_
    obtain ⟨j18, e19, b20, h⟩ := h
    refine J_iastore j18 aX11_prove_108 sh13 e19 b20 (by decide) (fun I16 e17 => ?_)
    replace h := h I16 e17
    refine J_iinc (x2 + nI 1) [(2, .int (x2 + nI 1)), (3, .int (I 69 j1)), (0, .ref (eb E + 0))] 2 aX11_prove_109 rfl (by first | rfl | (congr 1; decide +kernel)) (by decide) rfl ?_
    refine J_goto aX11_prove_112 ?_
    refine J_pick [2, 0] rfl ?_
    exact h
theorem aX11_row_0 : decode mX11_row.2.1 0 = .ok (.aload_n 0, 1) ∧ 0 + 1 = 1 := ⟨by decide +kernel, rfl⟩
theorem aX11_row_1 : decode mX11_row.2.1 1 = .ok (.iload_n 1, 1) ∧ 1 + 1 = 2 := ⟨by decide +kernel, rfl⟩
theorem aX11_row_2 : decode mX11_row.2.1 2 = .ok (.iload_n 2, 1) ∧ 2 + 1 = 3 := ⟨by decide +kernel, rfl⟩
theorem aX11_row_3 : decode mX11_row.2.1 3 = .ok (.invokevirtual 317, 3) ∧ 3 + 3 = 6 := ⟨by decide +kernel, rfl⟩
theorem aX11_row_6 : decode mX11_row.2.1 6 = .ok (.ifCond .eq 16, 3) ∧ ((6 : Nat) : Int) + 16 = ((22 : Nat) : Int) ∧ 6 + 3 = 9 := ⟨by decide +kernel, by decide, rfl⟩
theorem aX11_row_9 : decode mX11_row.2.1 9 = .ok (.aload_n 0, 1) ∧ 9 + 1 = 10 := ⟨by decide +kernel, rfl⟩
theorem aX11_row_10 : decode mX11_row.2.1 10 = .ok (.getfield 34, 3) ∧ 10 + 3 = 13 := ⟨by decide +kernel, rfl⟩
theorem aX11_row_13 : decode mX11_row.2.1 13 = .ok (.iload_n 1, 1) ∧ 13 + 1 = 14 := ⟨by decide +kernel, rfl⟩
theorem aX11_row_14 : decode mX11_row.2.1 14 = .ok (.iconst 3, 1) ∧ 14 + 1 = 15 := ⟨by decide +kernel, rfl⟩
theorem aX11_row_15 : decode mX11_row.2.1 15 = .ok (.imul, 1) ∧ 15 + 1 = 16 := ⟨by decide +kernel, rfl⟩
theorem aX11_row_16 : decode mX11_row.2.1 16 = .ok (.iload_n 2, 1) ∧ 16 + 1 = 17 := ⟨by decide +kernel, rfl⟩
theorem aX11_row_17 : decode mX11_row.2.1 17 = .ok (.iadd, 1) ∧ 17 + 1 = 18 := ⟨by decide +kernel, rfl⟩
theorem aX11_row_18 : decode mX11_row.2.1 18 = .ok (.iaload, 1) ∧ 18 + 1 = 19 := ⟨by decide +kernel, rfl⟩
theorem aX11_row_19 : decode mX11_row.2.1 19 = .ok (.goto 5, 3) ∧ ((19 : Nat) : Int) + 5 = ((24 : Nat) : Int) := ⟨by decide +kernel, by decide⟩
theorem aX11_row_22 : decode mX11_row.2.1 22 = .ok (.bipush (-9), 2) ∧ 22 + 2 = 24 := ⟨by decide +kernel, rfl⟩
theorem aX11_row_24 : decode mX11_row.2.1 24 = .ok (.ireturn, 1) := by decide +kernel
theorem S_X11_row {E : EE} {d : Nat} {I : IH} {Q : QT} (x1 : Int32) (x2 : Int32) (h :
(Mt E d mX11_isInRow [.ref (eb E + 0), .int x1, .int x2] I (fun rv I1 => ∃ v2 : Int32, rv = some (.int v2) ∧
 ((v2 = 0 → Q (some (.int (-9))) I1) ∧
 (¬ v2 = 0 → (∃ j3 : Nat, ((x1 * (nI 3)) + x2) = nI j3 ∧ j3 < 12 ∧ Q (some (.int (I1 13 j3))) I1)))))) : Mt E (d + 1) mX11_row [.ref (eb E + 0), .int x1, .int x2] I Q := by
  refine Mt_of [(0, .ref (eb E + 0)), (1, .int x1), (2, .int x2)] (by decide +kernel) (by simp [lg_sl, Value.category, mX11_row]) rfl ?_
  refine J_aload_n 0 aX11_row_0 rfl ?_
  refine J_iload_n 1 aX11_row_1 rfl ?_
  refine J_iload_n 2 aX11_row_2 rfl ?_
  refine J_callV [.int x1, .int x2] [] aX11_row_3 lkX11_317_X11 okX11_isInRow sh0 rfl rfl rfl (Nat.le_of_ble_eq_true rfl) (Nat.le_refl _) (Mt_mono h (fun rv I1 h => ?_))
  obtain ⟨v2, rfl, h⟩ := h
  refine J_r1 ?_
  refine J_if_eq aX11_row_6 (fun q => ?_) (fun q => ?_)
  · replace h := h.1 q
    refine J_bipush (-9) aX11_row_22 (by decide +kernel) ?_
    exact J_iret aX11_row_24 rfl h
  · replace h := h.2 q
    refine J_aload_n 0 aX11_row_9 rfl ?_
    refine J_getR aX11_row_10 flX11_34 sh0 rfl ?_
    refine J_iload_n 1 aX11_row_13 rfl ?_
    refine J_iconst (nI 3) aX11_row_14 (by decide +kernel) ?_
    refine J_imul aX11_row_15 ?_
    refine J_iload_n 2 aX11_row_16 rfl ?_
    refine J_iadd aX11_row_17 ?_
    obtain ⟨j3, e4, b5, h⟩ := h
    refine J_iaload j3 aX11_row_18 sh13 e4 b5 (by decide) ?_
    refine J_goto aX11_row_19 ?_
    exact J_iret aX11_row_24 rfl h
theorem aX11_alterRow_0 : decode mX11_alterRow.2.1 0 = .ok (.aload_n 0, 1) ∧ 0 + 1 = 1 := ⟨by decide +kernel, rfl⟩
theorem aX11_alterRow_1 : decode mX11_alterRow.2.1 1 = .ok (.iload_n 1, 1) ∧ 1 + 1 = 2 := ⟨by decide +kernel, rfl⟩
theorem aX11_alterRow_2 : decode mX11_alterRow.2.1 2 = .ok (.iload_n 2, 1) ∧ 2 + 1 = 3 := ⟨by decide +kernel, rfl⟩
theorem aX11_alterRow_3 : decode mX11_alterRow.2.1 3 = .ok (.invokevirtual 317, 3) ∧ 3 + 3 = 6 := ⟨by decide +kernel, rfl⟩
theorem aX11_alterRow_6 : decode mX11_alterRow.2.1 6 = .ok (.ifCond .ne 6, 3) ∧ ((6 : Nat) : Int) + 6 = ((12 : Nat) : Int) ∧ 6 + 3 = 9 := ⟨by decide +kernel, by decide, rfl⟩
theorem aX11_alterRow_9 : decode mX11_alterRow.2.1 9 = .ok (.bipush (-9), 2) ∧ 9 + 2 = 11 := ⟨by decide +kernel, rfl⟩
theorem aX11_alterRow_11 : decode mX11_alterRow.2.1 11 = .ok (.ireturn, 1) := by decide +kernel
theorem aX11_alterRow_12 : decode mX11_alterRow.2.1 12 = .ok (.aload_n 0, 1) ∧ 12 + 1 = 13 := ⟨by decide +kernel, rfl⟩
theorem aX11_alterRow_13 : decode mX11_alterRow.2.1 13 = .ok (.getfield 34, 3) ∧ 13 + 3 = 16 := ⟨by decide +kernel, rfl⟩
theorem aX11_alterRow_16 : decode mX11_alterRow.2.1 16 = .ok (.iload_n 1, 1) ∧ 16 + 1 = 17 := ⟨by decide +kernel, rfl⟩
theorem aX11_alterRow_17 : decode mX11_alterRow.2.1 17 = .ok (.iconst 3, 1) ∧ 17 + 1 = 18 := ⟨by decide +kernel, rfl⟩
theorem aX11_alterRow_18 : decode mX11_alterRow.2.1 18 = .ok (.imul, 1) ∧ 18 + 1 = 19 := ⟨by decide +kernel, rfl⟩
theorem aX11_alterRow_19 : decode mX11_alterRow.2.1 19 = .ok (.iload_n 2, 1) ∧ 19 + 1 = 20 := ⟨by decide +kernel, rfl⟩
theorem aX11_alterRow_20 : decode mX11_alterRow.2.1 20 = .ok (.iadd, 1) ∧ 20 + 1 = 21 := ⟨by decide +kernel, rfl⟩
theorem aX11_alterRow_21 : decode mX11_alterRow.2.1 21 = .ok (.iaload, 1) ∧ 21 + 1 = 22 := ⟨by decide +kernel, rfl⟩
theorem aX11_alterRow_22 : decode mX11_alterRow.2.1 22 = .ok (.istore 4, 2) ∧ 22 + 2 = 24 := ⟨by decide +kernel, rfl⟩
theorem aX11_alterRow_24 : decode mX11_alterRow.2.1 24 = .ok (.aload_n 0, 1) ∧ 24 + 1 = 25 := ⟨by decide +kernel, rfl⟩
theorem aX11_alterRow_25 : decode mX11_alterRow.2.1 25 = .ok (.getfield 34, 3) ∧ 25 + 3 = 28 := ⟨by decide +kernel, rfl⟩
theorem aX11_alterRow_28 : decode mX11_alterRow.2.1 28 = .ok (.iload_n 1, 1) ∧ 28 + 1 = 29 := ⟨by decide +kernel, rfl⟩
theorem aX11_alterRow_29 : decode mX11_alterRow.2.1 29 = .ok (.iconst 3, 1) ∧ 29 + 1 = 30 := ⟨by decide +kernel, rfl⟩
theorem aX11_alterRow_30 : decode mX11_alterRow.2.1 30 = .ok (.imul, 1) ∧ 30 + 1 = 31 := ⟨by decide +kernel, rfl⟩
theorem aX11_alterRow_31 : decode mX11_alterRow.2.1 31 = .ok (.iload_n 2, 1) ∧ 31 + 1 = 32 := ⟨by decide +kernel, rfl⟩
theorem aX11_alterRow_32 : decode mX11_alterRow.2.1 32 = .ok (.iadd, 1) ∧ 32 + 1 = 33 := ⟨by decide +kernel, rfl⟩
theorem aX11_alterRow_33 : decode mX11_alterRow.2.1 33 = .ok (.iload_n 3, 1) ∧ 33 + 1 = 34 := ⟨by decide +kernel, rfl⟩
theorem aX11_alterRow_34 : decode mX11_alterRow.2.1 34 = .ok (.iastore, 1) ∧ 34 + 1 = 35 := ⟨by decide +kernel, rfl⟩
theorem aX11_alterRow_35 : decode mX11_alterRow.2.1 35 = .ok (.iload 4, 2) ∧ 35 + 2 = 37 := ⟨by decide +kernel, rfl⟩
theorem aX11_alterRow_37 : decode mX11_alterRow.2.1 37 = .ok (.ireturn, 1) := by decide +kernel
theorem S_X11_alterRow {E : EE} {d : Nat} {I : IH} {Q : QT} (x1 : Int32) (x2 : Int32) (x3 : Int32) (h :
(Mt E d mX11_isInRow [.ref (eb E + 0), .int x1, .int x2] I (fun rv I1 => ∃ v2 : Int32, rv = some (.int v2) ∧
 ((¬ v2 = 0 → (∃ j3 : Nat, ((x1 * (nI 3)) + x2) = nI j3 ∧ j3 < 12 ∧ (∃ j8 : Nat, ((x1 * (nI 3)) + x2) = nI j8 ∧ j8 < 12 ∧ (∀ I6 : IH, I6 = stI I1 13 j8 x3 →
 Q (some (.int (I1 13 j3))) I6)))) ∧
 (v2 = 0 → Q (some (.int (-9))) I1))))) : Mt E (d + 1) mX11_alterRow [.ref (eb E + 0), .int x1, .int x2, .int x3] I Q := by
  refine Mt_of [(0, .ref (eb E + 0)), (1, .int x1), (2, .int x2), (3, .int x3)] (by decide +kernel) (by simp [lg_sl, Value.category, mX11_alterRow]) rfl ?_
  refine J_aload_n 0 aX11_alterRow_0 rfl ?_
  refine J_iload_n 1 aX11_alterRow_1 rfl ?_
  refine J_iload_n 2 aX11_alterRow_2 rfl ?_
  refine J_callV [.int x1, .int x2] [] aX11_alterRow_3 lkX11_317_X11 okX11_isInRow sh0 rfl rfl rfl (Nat.le_of_ble_eq_true rfl) (Nat.le_refl _) (Mt_mono h (fun rv I1 h => ?_))
  obtain ⟨v2, rfl, h⟩ := h
  refine J_r1 ?_
  refine J_if_ne aX11_alterRow_6 (fun q => ?_) (fun q => ?_)
  · replace h := h.1 q
    refine J_aload_n 0 aX11_alterRow_12 rfl ?_
    refine J_getR aX11_alterRow_13 flX11_34 sh0 rfl ?_
    refine J_iload_n 1 aX11_alterRow_16 rfl ?_
    refine J_iconst (nI 3) aX11_alterRow_17 (by decide +kernel) ?_
    refine J_imul aX11_alterRow_18 ?_
    refine J_iload_n 2 aX11_alterRow_19 rfl ?_
    refine J_iadd aX11_alterRow_20 ?_
    obtain ⟨j3, e4, b5, h⟩ := h
    refine J_iaload j3 aX11_alterRow_21 sh13 e4 b5 (by decide) ?_
    refine J_istore [(4, .int (I1 13 j3)), (0, .ref (eb E + 0)), (1, .int x1), (2, .int x2), (3, .int x3)] aX11_alterRow_22 (by decide) rfl ?_
    refine J_aload_n 1 aX11_alterRow_24 rfl ?_
    refine J_getR aX11_alterRow_25 flX11_34 sh0 rfl ?_
    refine J_iload_n 2 aX11_alterRow_28 rfl ?_
    refine J_iconst (nI 3) aX11_alterRow_29 (by decide +kernel) ?_
    refine J_imul aX11_alterRow_30 ?_
    refine J_iload_n 3 aX11_alterRow_31 rfl ?_
    refine J_iadd aX11_alterRow_32 ?_
    refine J_iload_n 4 aX11_alterRow_33 rfl ?_
    obtain ⟨j8, e9, b10, h⟩ := h
    refine J_iastore j8 aX11_alterRow_34 sh13 e9 b10 (by decide) (fun I6 e7 => ?_)
    replace h := h I6 e7
    refine J_iload 0 aX11_alterRow_35 rfl ?_
    exact J_iret aX11_alterRow_37 rfl h
  · replace h := h.2 q
    refine J_bipush (-9) aX11_alterRow_9 (by decide +kernel) ?_
    exact J_iret aX11_alterRow_11 rfl h
theorem aX11_isInRow_0 : decode mX11_isInRow.2.1 0 = .ok (.iload_n 1, 1) ∧ 0 + 1 = 1 := ⟨by decide +kernel, rfl⟩
theorem aX11_isInRow_1 : decode mX11_isInRow.2.1 1 = .ok (.ifCond .lt 24, 3) ∧ ((1 : Nat) : Int) + 24 = ((25 : Nat) : Int) ∧ 1 + 3 = 4 := ⟨by decide +kernel, by decide, rfl⟩
theorem aX11_isInRow_4 : decode mX11_isInRow.2.1 4 = .ok (.iload_n 1, 1) ∧ 4 + 1 = 5 := ⟨by decide +kernel, rfl⟩
theorem aX11_isInRow_5 : decode mX11_isInRow.2.1 5 = .ok (.aload_n 0, 1) ∧ 5 + 1 = 6 := ⟨by decide +kernel, rfl⟩
theorem aX11_isInRow_6 : decode mX11_isInRow.2.1 6 = .ok (.getfield 38, 3) ∧ 6 + 3 = 9 := ⟨by decide +kernel, rfl⟩
theorem aX11_isInRow_9 : decode mX11_isInRow.2.1 9 = .ok (.if_icmp .ge 16, 3) ∧ ((9 : Nat) : Int) + 16 = ((25 : Nat) : Int) ∧ 9 + 3 = 12 := ⟨by decide +kernel, by decide, rfl⟩
theorem aX11_isInRow_12 : decode mX11_isInRow.2.1 12 = .ok (.iload_n 2, 1) ∧ 12 + 1 = 13 := ⟨by decide +kernel, rfl⟩
theorem aX11_isInRow_13 : decode mX11_isInRow.2.1 13 = .ok (.ifCond .lt 12, 3) ∧ ((13 : Nat) : Int) + 12 = ((25 : Nat) : Int) ∧ 13 + 3 = 16 := ⟨by decide +kernel, by decide, rfl⟩
theorem aX11_isInRow_16 : decode mX11_isInRow.2.1 16 = .ok (.iload_n 2, 1) ∧ 16 + 1 = 17 := ⟨by decide +kernel, rfl⟩
theorem aX11_isInRow_17 : decode mX11_isInRow.2.1 17 = .ok (.iconst 3, 1) ∧ 17 + 1 = 18 := ⟨by decide +kernel, rfl⟩
theorem aX11_isInRow_18 : decode mX11_isInRow.2.1 18 = .ok (.if_icmp .ge 7, 3) ∧ ((18 : Nat) : Int) + 7 = ((25 : Nat) : Int) ∧ 18 + 3 = 21 := ⟨by decide +kernel, by decide, rfl⟩
theorem aX11_isInRow_21 : decode mX11_isInRow.2.1 21 = .ok (.iconst 1, 1) ∧ 21 + 1 = 22 := ⟨by decide +kernel, rfl⟩
theorem aX11_isInRow_22 : decode mX11_isInRow.2.1 22 = .ok (.goto 4, 3) ∧ ((22 : Nat) : Int) + 4 = ((26 : Nat) : Int) := ⟨by decide +kernel, by decide⟩
theorem aX11_isInRow_25 : decode mX11_isInRow.2.1 25 = .ok (.iconst 0, 1) ∧ 25 + 1 = 26 := ⟨by decide +kernel, rfl⟩
theorem aX11_isInRow_26 : decode mX11_isInRow.2.1 26 = .ok (.ireturn, 1) := by decide +kernel
theorem S_X11_isInRow {E : EE} {d : Nat} {I : IH} {Q : QT} (x1 : Int32) (x2 : Int32) (h :
((x1 < 0 → Q (some (.int (nI 0))) I) ∧
 (¬ x1 < 0 → (((I 0 9) ≤ x1 → Q (some (.int (nI 0))) I) ∧
 (¬ (I 0 9) ≤ x1 → ((x2 < 0 → Q (some (.int (nI 0))) I) ∧
 (¬ x2 < 0 → (((nI 3) ≤ x2 → Q (some (.int (nI 0))) I) ∧
 (¬ (nI 3) ≤ x2 → Q (some (.int (nI 1))) I))))))))) : Mt E d mX11_isInRow [.ref (eb E + 0), .int x1, .int x2] I Q := by
  refine Mt_of [(0, .ref (eb E + 0)), (1, .int x1), (2, .int x2)] (by decide +kernel) (by simp [lg_sl, Value.category, mX11_isInRow]) rfl ?_
  refine J_iload_n 1 aX11_isInRow_0 rfl ?_
  refine J_if_lt aX11_isInRow_1 (fun q => ?_) (fun q => ?_)
  · replace h := h.1 q
    refine J_iconst (nI 0) aX11_isInRow_25 (by decide +kernel) ?_
    exact J_zret aX11_isInRow_26 rfl (by decide +kernel) h
  · replace h := h.2 q
    refine J_iload_n 1 aX11_isInRow_4 rfl ?_
    refine J_aload_n 0 aX11_isInRow_5 rfl ?_
    refine J_getI aX11_isInRow_6 flX11_38 sh0 rfl ?_
    refine J_icmp_ge aX11_isInRow_9 (fun q => ?_) (fun q => ?_)
    · replace h := h.1 q
      refine J_iconst (nI 0) aX11_isInRow_25 (by decide +kernel) ?_
      exact J_zret aX11_isInRow_26 rfl (by decide +kernel) h
    · replace h := h.2 q
      refine J_iload_n 2 aX11_isInRow_12 rfl ?_
      refine J_if_lt aX11_isInRow_13 (fun q => ?_) (fun q => ?_)
      · replace h := h.1 q
        refine J_iconst (nI 0) aX11_isInRow_25 (by decide +kernel) ?_
        exact J_zret aX11_isInRow_26 rfl (by decide +kernel) h
      · replace h := h.2 q
        refine J_iload_n 2 aX11_isInRow_16 rfl ?_
        refine J_iconst (nI 3) aX11_isInRow_17 (by decide +kernel) ?_
        refine J_icmp_ge aX11_isInRow_18 (fun q => ?_) (fun q => ?_)
        · replace h := h.1 q
          refine J_iconst (nI 0) aX11_isInRow_25 (by decide +kernel) ?_
          exact J_zret aX11_isInRow_26 rfl (by decide +kernel) h
        · replace h := h.2 q
          refine J_iconst (nI 1) aX11_isInRow_21 (by decide +kernel) ?_
          refine J_goto aX11_isInRow_22 ?_
          exact J_zret aX11_isInRow_26 rfl (by decide +kernel) h
theorem aX11_judge_0 : decode mX11_judge.2.1 0 = .ok (.aload_n 0, 1) ∧ 0 + 1 = 1 := ⟨by decide +kernel, rfl⟩
theorem aX11_judge_1 : decode mX11_judge.2.1 1 = .ok (.getfield 90, 3) ∧ 1 + 3 = 4 := ⟨by decide +kernel, rfl⟩
theorem aX11_judge_4 : decode mX11_judge.2.1 4 = .ok (.aload_n 0, 1) ∧ 4 + 1 = 5 := ⟨by decide +kernel, rfl⟩
theorem aX11_judge_5 : decode mX11_judge.2.1 5 = .ok (.getfield 83, 3) ∧ 5 + 3 = 8 := ⟨by decide +kernel, rfl⟩
theorem aX11_judge_8 : decode mX11_judge.2.1 8 = .ok (.invokevirtual 227, 3) ∧ 8 + 3 = 11 := ⟨by decide +kernel, rfl⟩
theorem aX11_judge_11 : decode mX11_judge.2.1 11 = .ok (.iconst 0, 1) ∧ 11 + 1 = 12 := ⟨by decide +kernel, rfl⟩
theorem aX11_judge_12 : decode mX11_judge.2.1 12 = .ok (.istore_n 1, 1) ∧ 12 + 1 = 13 := ⟨by decide +kernel, rfl⟩
theorem aX11_judge_13 : decode mX11_judge.2.1 13 = .ok (.iload_n 1, 1) ∧ 13 + 1 = 14 := ⟨by decide +kernel, rfl⟩
theorem aX11_judge_14 : decode mX11_judge.2.1 14 = .ok (.aload_n 0, 1) ∧ 14 + 1 = 15 := ⟨by decide +kernel, rfl⟩
theorem aX11_judge_15 : decode mX11_judge.2.1 15 = .ok (.getfield 38, 3) ∧ 15 + 3 = 18 := ⟨by decide +kernel, rfl⟩
theorem aX11_judge_18 : decode mX11_judge.2.1 18 = .ok (.if_icmp .ge 90, 3) ∧ ((18 : Nat) : Int) + 90 = ((108 : Nat) : Int) ∧ 18 + 3 = 21 := ⟨by decide +kernel, by decide, rfl⟩
theorem aX11_judge_21 : decode mX11_judge.2.1 21 = .ok (.aload_n 0, 1) ∧ 21 + 1 = 22 := ⟨by decide +kernel, rfl⟩
theorem aX11_judge_22 : decode mX11_judge.2.1 22 = .ok (.getfield 34, 3) ∧ 22 + 3 = 25 := ⟨by decide +kernel, rfl⟩
theorem aX11_judge_25 : decode mX11_judge.2.1 25 = .ok (.iload_n 1, 1) ∧ 25 + 1 = 26 := ⟨by decide +kernel, rfl⟩
theorem aX11_judge_26 : decode mX11_judge.2.1 26 = .ok (.iconst 3, 1) ∧ 26 + 1 = 27 := ⟨by decide +kernel, rfl⟩
theorem aX11_judge_27 : decode mX11_judge.2.1 27 = .ok (.imul, 1) ∧ 27 + 1 = 28 := ⟨by decide +kernel, rfl⟩
theorem aX11_judge_28 : decode mX11_judge.2.1 28 = .ok (.iaload, 1) ∧ 28 + 1 = 29 := ⟨by decide +kernel, rfl⟩
theorem aX11_judge_29 : decode mX11_judge.2.1 29 = .ok (.istore_n 2, 1) ∧ 29 + 1 = 30 := ⟨by decide +kernel, rfl⟩
theorem aX11_judge_30 : decode mX11_judge.2.1 30 = .ok (.aload_n 0, 1) ∧ 30 + 1 = 31 := ⟨by decide +kernel, rfl⟩
theorem aX11_judge_31 : decode mX11_judge.2.1 31 = .ok (.getfield 90, 3) ∧ 31 + 3 = 34 := ⟨by decide +kernel, rfl⟩
theorem aX11_judge_34 : decode mX11_judge.2.1 34 = .ok (.invokevirtual 197, 3) ∧ 34 + 3 = 37 := ⟨by decide +kernel, rfl⟩
theorem aX11_judge_37 : decode mX11_judge.2.1 37 = .ok (.ifCond .ne 14, 3) ∧ ((37 : Nat) : Int) + 14 = ((51 : Nat) : Int) ∧ 37 + 3 = 40 := ⟨by decide +kernel, by decide, rfl⟩
theorem aX11_judge_40 : decode mX11_judge.2.1 40 = .ok (.aload_n 0, 1) ∧ 40 + 1 = 41 := ⟨by decide +kernel, rfl⟩
theorem aX11_judge_41 : decode mX11_judge.2.1 41 = .ok (.getfield 90, 3) ∧ 41 + 3 = 44 := ⟨by decide +kernel, rfl⟩
theorem aX11_judge_44 : decode mX11_judge.2.1 44 = .ok (.iload_n 2, 1) ∧ 44 + 1 = 45 := ⟨by decide +kernel, rfl⟩
theorem aX11_judge_45 : decode mX11_judge.2.1 45 = .ok (.invokevirtual 320, 3) ∧ 45 + 3 = 48 := ⟨by decide +kernel, rfl⟩
theorem aX11_judge_48 : decode mX11_judge.2.1 48 = .ok (.ifCond .ne 7, 3) ∧ ((48 : Nat) : Int) + 7 = ((55 : Nat) : Int) ∧ 48 + 3 = 51 := ⟨by decide +kernel, by decide, rfl⟩
theorem aX11_judge_51 : decode mX11_judge.2.1 51 = .ok (.iload_n 1, 1) ∧ 51 + 1 = 52 := ⟨by decide +kernel, rfl⟩
theorem aX11_judge_52 : decode mX11_judge.2.1 52 = .ok (.iconst 1, 1) ∧ 52 + 1 = 53 := ⟨by decide +kernel, rfl⟩
theorem aX11_judge_53 : decode mX11_judge.2.1 53 = .ok (.iadd, 1) ∧ 53 + 1 = 54 := ⟨by decide +kernel, rfl⟩
theorem aX11_judge_54 : decode mX11_judge.2.1 54 = .ok (.ireturn, 1) := by decide +kernel
theorem aX11_judge_55 : decode mX11_judge.2.1 55 = .ok (.aload_n 0, 1) ∧ 55 + 1 = 56 := ⟨by decide +kernel, rfl⟩
theorem aX11_judge_56 : decode mX11_judge.2.1 56 = .ok (.getfield 90, 3) ∧ 56 + 3 = 59 := ⟨by decide +kernel, rfl⟩
theorem aX11_judge_59 : decode mX11_judge.2.1 59 = .ok (.iload_n 2, 1) ∧ 59 + 1 = 60 := ⟨by decide +kernel, rfl⟩
theorem aX11_judge_60 : decode mX11_judge.2.1 60 = .ok (.invokevirtual 314, 3) ∧ 60 + 3 = 63 := ⟨by decide +kernel, rfl⟩
theorem aX11_judge_63 : decode mX11_judge.2.1 63 = .ok (.istore_n 3, 1) ∧ 63 + 1 = 64 := ⟨by decide +kernel, rfl⟩
theorem aX11_judge_64 : decode mX11_judge.2.1 64 = .ok (.iload_n 3, 1) ∧ 64 + 1 = 65 := ⟨by decide +kernel, rfl⟩
theorem aX11_judge_65 : decode mX11_judge.2.1 65 = .ok (.aload_n 0, 1) ∧ 65 + 1 = 66 := ⟨by decide +kernel, rfl⟩
theorem aX11_judge_66 : decode mX11_judge.2.1 66 = .ok (.getfield 34, 3) ∧ 66 + 3 = 69 := ⟨by decide +kernel, rfl⟩
theorem aX11_judge_69 : decode mX11_judge.2.1 69 = .ok (.iload_n 1, 1) ∧ 69 + 1 = 70 := ⟨by decide +kernel, rfl⟩
theorem aX11_judge_70 : decode mX11_judge.2.1 70 = .ok (.iconst 3, 1) ∧ 70 + 1 = 71 := ⟨by decide +kernel, rfl⟩
theorem aX11_judge_71 : decode mX11_judge.2.1 71 = .ok (.imul, 1) ∧ 71 + 1 = 72 := ⟨by decide +kernel, rfl⟩
theorem aX11_judge_72 : decode mX11_judge.2.1 72 = .ok (.iconst 1, 1) ∧ 72 + 1 = 73 := ⟨by decide +kernel, rfl⟩
theorem aX11_judge_73 : decode mX11_judge.2.1 73 = .ok (.iadd, 1) ∧ 73 + 1 = 74 := ⟨by decide +kernel, rfl⟩
theorem aX11_judge_74 : decode mX11_judge.2.1 74 = .ok (.iaload, 1) ∧ 74 + 1 = 75 := ⟨by decide +kernel, rfl⟩
theorem aX11_judge_75 : decode mX11_judge.2.1 75 = .ok (.if_icmp .ne 23, 3) ∧ ((75 : Nat) : Int) + 23 = ((98 : Nat) : Int) ∧ 75 + 3 = 78 := ⟨by decide +kernel, by decide, rfl⟩
theorem aX11_judge_78 : decode mX11_judge.2.1 78 = .ok (.aload_n 0, 1) ∧ 78 + 1 = 79 := ⟨by decide +kernel, rfl⟩
theorem aX11_judge_79 : decode mX11_judge.2.1 79 = .ok (.getfield 90, 3) ∧ 79 + 3 = 82 := ⟨by decide +kernel, rfl⟩
theorem aX11_judge_82 : decode mX11_judge.2.1 82 = .ok (.getfield 143, 3) ∧ 82 + 3 = 85 := ⟨by decide +kernel, rfl⟩
theorem aX11_judge_85 : decode mX11_judge.2.1 85 = .ok (.aload_n 0, 1) ∧ 85 + 1 = 86 := ⟨by decide +kernel, rfl⟩
theorem aX11_judge_86 : decode mX11_judge.2.1 86 = .ok (.getfield 34, 3) ∧ 86 + 3 = 89 := ⟨by decide +kernel, rfl⟩
theorem aX11_judge_89 : decode mX11_judge.2.1 89 = .ok (.iload_n 1, 1) ∧ 89 + 1 = 90 := ⟨by decide +kernel, rfl⟩
theorem aX11_judge_90 : decode mX11_judge.2.1 90 = .ok (.iconst 3, 1) ∧ 90 + 1 = 91 := ⟨by decide +kernel, rfl⟩
theorem aX11_judge_91 : decode mX11_judge.2.1 91 = .ok (.imul, 1) ∧ 91 + 1 = 92 := ⟨by decide +kernel, rfl⟩
theorem aX11_judge_92 : decode mX11_judge.2.1 92 = .ok (.iconst 2, 1) ∧ 92 + 1 = 93 := ⟨by decide +kernel, rfl⟩
theorem aX11_judge_93 : decode mX11_judge.2.1 93 = .ok (.iadd, 1) ∧ 93 + 1 = 94 := ⟨by decide +kernel, rfl⟩
theorem aX11_judge_94 : decode mX11_judge.2.1 94 = .ok (.iaload, 1) ∧ 94 + 1 = 95 := ⟨by decide +kernel, rfl⟩
theorem aX11_judge_95 : decode mX11_judge.2.1 95 = .ok (.if_icmp .eq 7, 3) ∧ ((95 : Nat) : Int) + 7 = ((102 : Nat) : Int) ∧ 95 + 3 = 98 := ⟨by decide +kernel, by decide, rfl⟩
theorem aX11_judge_98 : decode mX11_judge.2.1 98 = .ok (.iload_n 1, 1) ∧ 98 + 1 = 99 := ⟨by decide +kernel, rfl⟩
theorem aX11_judge_99 : decode mX11_judge.2.1 99 = .ok (.iconst 1, 1) ∧ 99 + 1 = 100 := ⟨by decide +kernel, rfl⟩
theorem aX11_judge_100 : decode mX11_judge.2.1 100 = .ok (.iadd, 1) ∧ 100 + 1 = 101 := ⟨by decide +kernel, rfl⟩
theorem aX11_judge_101 : decode mX11_judge.2.1 101 = .ok (.ireturn, 1) := by decide +kernel
theorem aX11_judge_102 : decode mX11_judge.2.1 102 = .ok (.iinc 1 1, 3) ∧ 102 + 3 = 105 := ⟨by decide +kernel, rfl⟩
theorem aX11_judge_105 : decode mX11_judge.2.1 105 = .ok (.goto (-92), 3) ∧ ((105 : Nat) : Int) + (-92) = ((13 : Nat) : Int) := ⟨by decide +kernel, by decide⟩
theorem aX11_judge_108 : decode mX11_judge.2.1 108 = .ok (.iconst 0, 1) ∧ 108 + 1 = 109 := ⟨by decide +kernel, rfl⟩
theorem aX11_judge_109 : decode mX11_judge.2.1 109 = .ok (.ireturn, 1) := by decide +kernel
theorem S_X11_judge {E : EE} {d : Nat} {I : IH} {Q : QT}  (h :
(Mt E d mX1_become [.ref (eb E + 57), .ref (eb E + 33)] I (fun rv I1 => rv = none ∧
 J E (d + 1) mX11_judge 13 [(0, .ref (eb E + 0)), (1, .int (nI 0))] [] I1 Q))) : Mt E (d + 1) mX11_judge [.ref (eb E + 0)] I Q := by
  refine Mt_of [(0, .ref (eb E + 0))] (by decide +kernel) (by simp [lg_sl, Value.category, mX11_judge]) rfl ?_
  refine J_aload_n 0 aX11_judge_0 rfl ?_
  refine J_getR aX11_judge_1 flX11_90 sh0 rfl ?_
  refine J_aload_n 0 aX11_judge_4 rfl ?_
  refine J_getR aX11_judge_5 flX11_83 sh0 rfl ?_
  refine J_callV [.ref (eb E + 33)] [] aX11_judge_8 lkX11_227_X1 okX1_become sh57 rfl rfl rfl (Nat.le_of_ble_eq_true rfl) (Nat.le_refl _) (Mt_mono h (fun rv I1 h => ?_))
  obtain ⟨rfl, h⟩ := h
  refine J_r0 ?_
  refine J_iconst (nI 0) aX11_judge_11 (by decide +kernel) ?_
  refine J_istore_n [(1, .int (nI 0)), (0, .ref (eb E + 0))] aX11_judge_12 (by decide) rfl ?_
  refine J_pick [1, 0] rfl ?_
  exact h
theorem S_X11_judge_13 {E : EE} {d : Nat} {I : IH} {Q : QT} (x1 : Int32) (h :
(((I 0 9) ≤ x1 → Q (some (.int (nI 0))) I) ∧
 (¬ (I 0 9) ≤ x1 → (∃ j1 : Nat, (x1 * (nI 3)) = nI j1 ∧ j1 < 12 ∧ (Mt E d mX1_isOver [.ref (eb E + 57)] I (fun rv I4 => ∃ v5 : Int32, rv = some (.int v5) ∧
 ((¬ v5 = 0 → Q (some (.int (x1 + (nI 1)))) I4) ∧
 (v5 = 0 → (Mt E d mX1_isAct [.ref (eb E + 57), .int (I 13 j1)] I4 (fun rv I6 => ∃ v7 : Int32, rv = some (.int v7) ∧
 ((¬ v7 = 0 → (Mt E d mX1_go [.ref (eb E + 57), .int (I 13 j1)] I6 (fun rv I8 => ∃ v9 : Int32, rv = some (.int v9) ∧
 (∃ j10 : Nat, ((x1 * (nI 3)) + (nI 1)) = nI j10 ∧ j10 < 12 ∧ ((¬ v9 = (I8 13 j10) → Q (some (.int (x1 + (nI 1)))) I8) ∧
 (v9 = (I8 13 j10) → (∃ j13 : Nat, ((x1 * (nI 3)) + (nI 2)) = nI j13 ∧ j13 < 12 ∧ (((I8 57 8) = (I8 13 j13) → J E (d + 1) mX11_judge 13 [(0, .ref (eb E + 0)), (1, .int (x1 + nI 1))] [] I8 Q) ∧
 (¬ (I8 57 8) = (I8 13 j13) → Q (some (.int (x1 + (nI 1)))) I8))))))))) ∧
 (v7 = 0 → Q (some (.int (x1 + (nI 1)))) I6)))))))))))) : J E (d + 1) mX11_judge 13 [(0, .ref (eb E + 0)), (1, .int x1)] [] I Q := by
  refine J_iload_n 1 aX11_judge_13 rfl ?_
  refine J_aload_n 0 aX11_judge_14 rfl ?_
  refine J_getI aX11_judge_15 flX11_38 sh0 rfl ?_
  refine J_icmp_ge aX11_judge_18 (fun q => ?_) (fun q => ?_)
  · replace h := h.1 q
    refine J_iconst (nI 0) aX11_judge_108 (by decide +kernel) ?_
    exact J_iret aX11_judge_109 rfl h
  · replace h := h.2 q
    refine J_aload_n 0 aX11_judge_21 rfl ?_
    refine J_getR aX11_judge_22 flX11_34 sh0 rfl ?_
    refine J_iload_n 1 aX11_judge_25 rfl ?_
    refine J_iconst (nI 3) aX11_judge_26 (by decide +kernel) ?_
    refine J_imul aX11_judge_27 ?_
    obtain ⟨j1, e2, b3, h⟩ := h
    refine J_iaload j1 aX11_judge_28 sh13 e2 b3 (by decide) ?_
    refine J_istore_n [(2, .int (I 13 j1)), (0, .ref (eb E + 0)), (1, .int x1)] aX11_judge_29 (by decide) rfl ?_
    refine J_aload_n 1 aX11_judge_30 rfl ?_
    refine J_getR aX11_judge_31 flX11_90 sh0 rfl ?_
    refine J_callV [] [] aX11_judge_34 lkX11_197_X1 okX1_isOver sh57 rfl rfl rfl (Nat.le_of_ble_eq_true rfl) (Nat.le_refl _) (Mt_mono h (fun rv I4 h => ?_))
    obtain ⟨v5, rfl, h⟩ := h
    refine J_r1 ?_
    refine J_if_ne aX11_judge_37 (fun q => ?_) (fun q => ?_)
    · replace h := h.1 q
      refine J_iload_n 2 aX11_judge_51 rfl ?_
      refine J_iconst (nI 1) aX11_judge_52 (by decide +kernel) ?_
      refine J_iadd aX11_judge_53 ?_
      exact J_iret aX11_judge_54 rfl h
    · replace h := h.2 q
      refine J_aload_n 1 aX11_judge_40 rfl ?_
      refine J_getR aX11_judge_41 flX11_90 sh0 rfl ?_
      refine J_iload_n 0 aX11_judge_44 rfl ?_
      refine J_callV [.int (I 13 j1)] [] aX11_judge_45 lkX11_320_X1 okX1_isAct sh57 rfl rfl rfl (Nat.le_of_ble_eq_true rfl) (Nat.le_refl _) (Mt_mono h (fun rv I6 h => ?_))
      obtain ⟨v7, rfl, h⟩ := h
      refine J_r1 ?_
      refine J_if_ne aX11_judge_48 (fun q => ?_) (fun q => ?_)
      · replace h := h.1 q
        refine J_aload_n 1 aX11_judge_55 rfl ?_
        refine J_getR aX11_judge_56 flX11_90 sh0 rfl ?_
        refine J_iload_n 0 aX11_judge_59 rfl ?_
        refine J_callV [.int (I 13 j1)] [] aX11_judge_60 lkX11_314_X1 okX1_go sh57 rfl rfl rfl (Nat.le_of_ble_eq_true rfl) (Nat.le_refl _) (Mt_mono h (fun rv I8 h => ?_))
        obtain ⟨v9, rfl, h⟩ := h
        refine J_r1 ?_
        refine J_istore_n [(3, .int v9), (2, .int (I 13 j1)), (0, .ref (eb E + 0)), (1, .int x1)] aX11_judge_63 (by decide) rfl ?_
        refine J_iload_n 0 aX11_judge_64 rfl ?_
        refine J_aload_n 2 aX11_judge_65 rfl ?_
        refine J_getR aX11_judge_66 flX11_34 sh0 rfl ?_
        refine J_iload_n 3 aX11_judge_69 rfl ?_
        refine J_iconst (nI 3) aX11_judge_70 (by decide +kernel) ?_
        refine J_imul aX11_judge_71 ?_
        refine J_iconst (nI 1) aX11_judge_72 (by decide +kernel) ?_
        refine J_iadd aX11_judge_73 ?_
        obtain ⟨j10, e11, b12, h⟩ := h
        refine J_iaload j10 aX11_judge_74 sh13 e11 b12 (by decide) ?_
        refine J_icmp_ne aX11_judge_75 (fun q => ?_) (fun q => ?_)
        · replace h := h.1 q
          refine J_iload_n 3 aX11_judge_98 rfl ?_
          refine J_iconst (nI 1) aX11_judge_99 (by decide +kernel) ?_
          refine J_iadd aX11_judge_100 ?_
          exact J_iret aX11_judge_101 rfl h
        · replace h := h.2 q
          refine J_aload_n 2 aX11_judge_78 rfl ?_
          refine J_getR aX11_judge_79 flX11_90 sh0 rfl ?_
          refine J_getI aX11_judge_82 flX11_143 sh57 rfl ?_
          refine J_aload_n 2 aX11_judge_85 rfl ?_
          refine J_getR aX11_judge_86 flX11_34 sh0 rfl ?_
          refine J_iload_n 3 aX11_judge_89 rfl ?_
          refine J_iconst (nI 3) aX11_judge_90 (by decide +kernel) ?_
          refine J_imul aX11_judge_91 ?_
          refine J_iconst (nI 2) aX11_judge_92 (by decide +kernel) ?_
          refine J_iadd aX11_judge_93 ?_
          obtain ⟨j13, e14, b15, h⟩ := h
          refine J_iaload j13 aX11_judge_94 sh13 e14 b15 (by decide) ?_
          refine J_icmp_eq aX11_judge_95 (fun q => ?_) (fun q => ?_)
          · replace h := h.1 q
            refine J_iinc (x1 + nI 1) [(1, .int (x1 + nI 1)), (3, .int v9), (2, .int (I 13 j1)), (0, .ref (eb E + 0))] 3 aX11_judge_102 rfl (by first | rfl | (congr 1; decide +kernel)) (by decide) rfl ?_
            refine J_goto aX11_judge_105 ?_
            refine J_pick [3, 0] rfl ?_
            exact h
          · replace h := h.2 q
            refine J_iload_n 3 aX11_judge_98 rfl ?_
            refine J_iconst (nI 1) aX11_judge_99 (by decide +kernel) ?_
            refine J_iadd aX11_judge_100 ?_
            exact J_iret aX11_judge_101 rfl h
      · replace h := h.2 q
        refine J_iload_n 2 aX11_judge_51 rfl ?_
        refine J_iconst (nI 1) aX11_judge_52 (by decide +kernel) ?_
        refine J_iadd aX11_judge_53 ?_
        exact J_iret aX11_judge_54 rfl h
theorem aX11_sheet_0 : decode mX11_sheet.2.1 0 = .ok (.iload_n 1, 1) ∧ 0 + 1 = 1 := ⟨by decide +kernel, rfl⟩
theorem aX11_sheet_1 : decode mX11_sheet.2.1 1 = .ok (.invokestatic 323, 3) ∧ 1 + 3 = 4 := ⟨by decide +kernel, rfl⟩
theorem aX11_sheet_4 : decode mX11_sheet.2.1 4 = .ok (.ifCond .eq 13, 3) ∧ ((4 : Nat) : Int) + 13 = ((17 : Nat) : Int) ∧ 4 + 3 = 7 := ⟨by decide +kernel, by decide, rfl⟩
theorem aX11_sheet_7 : decode mX11_sheet.2.1 7 = .ok (.iload_n 2, 1) ∧ 7 + 1 = 8 := ⟨by decide +kernel, rfl⟩
theorem aX11_sheet_8 : decode mX11_sheet.2.1 8 = .ok (.iconst (-1), 1) ∧ 8 + 1 = 9 := ⟨by decide +kernel, rfl⟩
theorem aX11_sheet_9 : decode mX11_sheet.2.1 9 = .ok (.if_icmp .lt 8, 3) ∧ ((9 : Nat) : Int) + 8 = ((17 : Nat) : Int) ∧ 9 + 3 = 12 := ⟨by decide +kernel, by decide, rfl⟩
theorem aX11_sheet_12 : decode mX11_sheet.2.1 12 = .ok (.iload_n 2, 1) ∧ 12 + 1 = 13 := ⟨by decide +kernel, rfl⟩
theorem aX11_sheet_13 : decode mX11_sheet.2.1 13 = .ok (.iconst 4, 1) ∧ 13 + 1 = 14 := ⟨by decide +kernel, rfl⟩
theorem aX11_sheet_14 : decode mX11_sheet.2.1 14 = .ok (.if_icmp .le 5, 3) ∧ ((14 : Nat) : Int) + 5 = ((19 : Nat) : Int) ∧ 14 + 3 = 17 := ⟨by decide +kernel, by decide, rfl⟩
theorem aX11_sheet_17 : decode mX11_sheet.2.1 17 = .ok (.iconst (-1), 1) ∧ 17 + 1 = 18 := ⟨by decide +kernel, rfl⟩
theorem aX11_sheet_18 : decode mX11_sheet.2.1 18 = .ok (.ireturn, 1) := by decide +kernel
theorem aX11_sheet_19 : decode mX11_sheet.2.1 19 = .ok (.iload_n 2, 1) ∧ 19 + 1 = 20 := ⟨by decide +kernel, rfl⟩
theorem aX11_sheet_20 : decode mX11_sheet.2.1 20 = .ok (.iconst (-1), 1) ∧ 20 + 1 = 21 := ⟨by decide +kernel, rfl⟩
theorem aX11_sheet_21 : decode mX11_sheet.2.1 21 = .ok (.if_icmp .eq 18, 3) ∧ ((21 : Nat) : Int) + 18 = ((39 : Nat) : Int) ∧ 21 + 3 = 24 := ⟨by decide +kernel, by decide, rfl⟩
theorem aX11_sheet_24 : decode mX11_sheet.2.1 24 = .ok (.iload_n 3, 1) ∧ 24 + 1 = 25 := ⟨by decide +kernel, rfl⟩
theorem aX11_sheet_25 : decode mX11_sheet.2.1 25 = .ok (.bipush 40, 2) ∧ 25 + 2 = 27 := ⟨by decide +kernel, rfl⟩
theorem aX11_sheet_27 : decode mX11_sheet.2.1 27 = .ok (.if_icmp .le 5, 3) ∧ ((27 : Nat) : Int) + 5 = ((32 : Nat) : Int) ∧ 27 + 3 = 30 := ⟨by decide +kernel, by decide, rfl⟩
theorem aX11_sheet_30 : decode mX11_sheet.2.1 30 = .ok (.iconst (-1), 1) ∧ 30 + 1 = 31 := ⟨by decide +kernel, rfl⟩
theorem aX11_sheet_31 : decode mX11_sheet.2.1 31 = .ok (.ireturn, 1) := by decide +kernel
theorem aX11_sheet_32 : decode mX11_sheet.2.1 32 = .ok (.iload_n 3, 1) ∧ 32 + 1 = 33 := ⟨by decide +kernel, rfl⟩
theorem aX11_sheet_33 : decode mX11_sheet.2.1 33 = .ok (.ifCond .ge 6, 3) ∧ ((33 : Nat) : Int) + 6 = ((39 : Nat) : Int) ∧ 33 + 3 = 36 := ⟨by decide +kernel, by decide, rfl⟩
theorem aX11_sheet_36 : decode mX11_sheet.2.1 36 = .ok (.bipush (-14), 2) ∧ 36 + 2 = 38 := ⟨by decide +kernel, rfl⟩
theorem aX11_sheet_38 : decode mX11_sheet.2.1 38 = .ok (.ireturn, 1) := by decide +kernel
theorem aX11_sheet_39 : decode mX11_sheet.2.1 39 = .ok (.aload_n 0, 1) ∧ 39 + 1 = 40 := ⟨by decide +kernel, rfl⟩
theorem aX11_sheet_40 : decode mX11_sheet.2.1 40 = .ok (.getfield 42, 3) ∧ 40 + 3 = 43 := ⟨by decide +kernel, rfl⟩
theorem aX11_sheet_43 : decode mX11_sheet.2.1 43 = .ok (.iload_n 1, 1) ∧ 43 + 1 = 44 := ⟨by decide +kernel, rfl⟩
theorem aX11_sheet_44 : decode mX11_sheet.2.1 44 = .ok (.iload_n 2, 1) ∧ 44 + 1 = 45 := ⟨by decide +kernel, rfl⟩
theorem aX11_sheet_45 : decode mX11_sheet.2.1 45 = .ok (.iastore, 1) ∧ 45 + 1 = 46 := ⟨by decide +kernel, rfl⟩
theorem aX11_sheet_46 : decode mX11_sheet.2.1 46 = .ok (.aload_n 0, 1) ∧ 46 + 1 = 47 := ⟨by decide +kernel, rfl⟩
theorem aX11_sheet_47 : decode mX11_sheet.2.1 47 = .ok (.getfield 45, 3) ∧ 47 + 3 = 50 := ⟨by decide +kernel, rfl⟩
theorem aX11_sheet_50 : decode mX11_sheet.2.1 50 = .ok (.iload_n 1, 1) ∧ 50 + 1 = 51 := ⟨by decide +kernel, rfl⟩
theorem aX11_sheet_51 : decode mX11_sheet.2.1 51 = .ok (.iload_n 2, 1) ∧ 51 + 1 = 52 := ⟨by decide +kernel, rfl⟩
theorem aX11_sheet_52 : decode mX11_sheet.2.1 52 = .ok (.iconst (-1), 1) ∧ 52 + 1 = 53 := ⟨by decide +kernel, rfl⟩
theorem aX11_sheet_53 : decode mX11_sheet.2.1 53 = .ok (.if_icmp .ne 7, 3) ∧ ((53 : Nat) : Int) + 7 = ((60 : Nat) : Int) ∧ 53 + 3 = 56 := ⟨by decide +kernel, by decide, rfl⟩
theorem aX11_sheet_56 : decode mX11_sheet.2.1 56 = .ok (.iconst 0, 1) ∧ 56 + 1 = 57 := ⟨by decide +kernel, rfl⟩
theorem aX11_sheet_57 : decode mX11_sheet.2.1 57 = .ok (.goto 4, 3) ∧ ((57 : Nat) : Int) + 4 = ((61 : Nat) : Int) := ⟨by decide +kernel, by decide⟩
theorem aX11_sheet_60 : decode mX11_sheet.2.1 60 = .ok (.iload_n 3, 1) ∧ 60 + 1 = 61 := ⟨by decide +kernel, rfl⟩
theorem aX11_sheet_61 : decode mX11_sheet.2.1 61 = .ok (.iastore, 1) ∧ 61 + 1 = 62 := ⟨by decide +kernel, rfl⟩
theorem aX11_sheet_62 : decode mX11_sheet.2.1 62 = .ok (.aload_n 0, 1) ∧ 62 + 1 = 63 := ⟨by decide +kernel, rfl⟩
theorem aX11_sheet_63 : decode mX11_sheet.2.1 63 = .ok (.getfield 48, 3) ∧ 63 + 3 = 66 := ⟨by decide +kernel, rfl⟩
theorem aX11_sheet_66 : decode mX11_sheet.2.1 66 = .ok (.iload_n 1, 1) ∧ 66 + 1 = 67 := ⟨by decide +kernel, rfl⟩
theorem aX11_sheet_67 : decode mX11_sheet.2.1 67 = .ok (.bipush 40, 2) ∧ 67 + 2 = 69 := ⟨by decide +kernel, rfl⟩
theorem aX11_sheet_69 : decode mX11_sheet.2.1 69 = .ok (.imul, 1) ∧ 69 + 1 = 70 := ⟨by decide +kernel, rfl⟩
theorem aX11_sheet_70 : decode mX11_sheet.2.1 70 = .ok (.iload_n 1, 1) ∧ 70 + 1 = 71 := ⟨by decide +kernel, rfl⟩
theorem aX11_sheet_71 : decode mX11_sheet.2.1 71 = .ok (.iconst 1, 1) ∧ 71 + 1 = 72 := ⟨by decide +kernel, rfl⟩
theorem aX11_sheet_72 : decode mX11_sheet.2.1 72 = .ok (.iadd, 1) ∧ 72 + 1 = 73 := ⟨by decide +kernel, rfl⟩
theorem aX11_sheet_73 : decode mX11_sheet.2.1 73 = .ok (.bipush 40, 2) ∧ 73 + 2 = 75 := ⟨by decide +kernel, rfl⟩
theorem aX11_sheet_75 : decode mX11_sheet.2.1 75 = .ok (.imul, 1) ∧ 75 + 1 = 76 := ⟨by decide +kernel, rfl⟩
theorem aX11_sheet_76 : decode mX11_sheet.2.1 76 = .ok (.iconst 0, 1) ∧ 76 + 1 = 77 := ⟨by decide +kernel, rfl⟩
theorem aX11_sheet_77 : decode mX11_sheet.2.1 77 = .ok (.invokestatic 326, 3) ∧ 77 + 3 = 80 := ⟨by decide +kernel, rfl⟩
theorem aX11_sheet_80 : decode mX11_sheet.2.1 80 = .ok (.iconst 1, 1) ∧ 80 + 1 = 81 := ⟨by decide +kernel, rfl⟩
theorem aX11_sheet_81 : decode mX11_sheet.2.1 81 = .ok (.ireturn, 1) := by decide +kernel
theorem S_X11_sheet {E : EE} {d : Nat} {I : IH} {Q : QT} (x1 : Int32) (x2 : Int32) (x3 : Int32) (h :
(Mt E d mX11_isSheet [.int x1] I (fun rv I1 => ∃ v2 : Int32, rv = some (.int v2) ∧
 ((v2 = 0 → Q (some (.int (-1))) I1) ∧
 (¬ v2 = 0 → ((x2 < (-1) → Q (some (.int (-1))) I1) ∧
 (¬ x2 < (-1) → ((x2 ≤ (nI 4) → ((x2 = (-1) → J E (d + 1) mX11_sheet 39 [(0, .ref (eb E + 0)), (1, .int x1), (2, .int x2), (3, .int x3)] [] I1 Q) ∧
 (¬ x2 = (-1) → ((x3 ≤ (nI 40) → ((0 ≤ x3 → J E (d + 1) mX11_sheet 39 [(0, .ref (eb E + 0)), (1, .int x1), (2, .int x2), (3, .int x3)] [] I1 Q) ∧
 (¬ 0 ≤ x3 → Q (some (.int (-14))) I1))) ∧
 (¬ x3 ≤ (nI 40) → Q (some (.int (-1))) I1))))) ∧
 (¬ x2 ≤ (nI 4) → Q (some (.int (-1))) I1))))))))) : Mt E (d + 1) mX11_sheet [.ref (eb E + 0), .int x1, .int x2, .int x3] I Q := by
  refine Mt_of [(0, .ref (eb E + 0)), (1, .int x1), (2, .int x2), (3, .int x3)] (by decide +kernel) (by simp [lg_sl, Value.category, mX11_sheet]) rfl ?_
  refine J_iload_n 1 aX11_sheet_0 rfl ?_
  refine J_callS [.int x1] [] aX11_sheet_1 lkX11_323 okX11_isSheet rfl rfl (Nat.le_of_ble_eq_true rfl) (Nat.le_refl _) (Mt_mono h (fun rv I1 h => ?_))
  obtain ⟨v2, rfl, h⟩ := h
  refine J_r1 ?_
  refine J_if_eq aX11_sheet_4 (fun q => ?_) (fun q => ?_)
  · replace h := h.1 q
    refine J_iconst (-1) aX11_sheet_17 (by decide +kernel) ?_
    exact J_iret aX11_sheet_18 rfl h
  · replace h := h.2 q
    refine J_iload_n 2 aX11_sheet_7 rfl ?_
    refine J_iconst (-1) aX11_sheet_8 (by decide +kernel) ?_
    refine J_icmp_lt aX11_sheet_9 (fun q => ?_) (fun q => ?_)
    · replace h := h.1 q
      refine J_iconst (-1) aX11_sheet_17 (by decide +kernel) ?_
      exact J_iret aX11_sheet_18 rfl h
    · replace h := h.2 q
      refine J_iload_n 2 aX11_sheet_12 rfl ?_
      refine J_iconst (nI 4) aX11_sheet_13 (by decide +kernel) ?_
      refine J_icmp_le aX11_sheet_14 (fun q => ?_) (fun q => ?_)
      · replace h := h.1 q
        refine J_iload_n 2 aX11_sheet_19 rfl ?_
        refine J_iconst (-1) aX11_sheet_20 (by decide +kernel) ?_
        refine J_icmp_eq aX11_sheet_21 (fun q => ?_) (fun q => ?_)
        · replace h := h.1 q
          refine J_pick [0, 1, 2, 3] rfl ?_
          exact h
        · replace h := h.2 q
          refine J_iload_n 3 aX11_sheet_24 rfl ?_
          refine J_bipush (nI 40) aX11_sheet_25 (by decide +kernel) ?_
          refine J_icmp_le aX11_sheet_27 (fun q => ?_) (fun q => ?_)
          · replace h := h.1 q
            refine J_iload_n 3 aX11_sheet_32 rfl ?_
            refine J_if_ge aX11_sheet_33 (fun q => ?_) (fun q => ?_)
            · replace h := h.1 q
              refine J_pick [0, 1, 2, 3] rfl ?_
              exact h
            · replace h := h.2 q
              refine J_bipush (-14) aX11_sheet_36 (by decide +kernel) ?_
              exact J_iret aX11_sheet_38 rfl h
          · replace h := h.2 q
            refine J_iconst (-1) aX11_sheet_30 (by decide +kernel) ?_
            exact J_iret aX11_sheet_31 rfl h
      · replace h := h.2 q
        refine J_iconst (-1) aX11_sheet_17 (by decide +kernel) ?_
        exact J_iret aX11_sheet_18 rfl h
theorem S_X11_sheet_39 {E : EE} {d : Nat} {I : IH} {Q : QT} (x1 : Int32) (x2 : Int32) (x3 : Int32) (h :
(∃ j3 : Nat, x1 = nI j3 ∧ j3 < 4 ∧ (∀ I1 : IH, I1 = stI I 14 j3 x2 →
 ((¬ x2 = (-1) → J E (d + 1) mX11_sheet 61 [(0, .ref (eb E + 0)), (1, .int x1)] [.int x3, .int x1, .ref (eb E + 15)] I1 Q) ∧
 (x2 = (-1) → J E (d + 1) mX11_sheet 61 [(0, .ref (eb E + 0)), (1, .int x1)] [.int (nI 0), .int x1, .ref (eb E + 15)] I1 Q))))) : J E (d + 1) mX11_sheet 39 [(0, .ref (eb E + 0)), (1, .int x1), (2, .int x2), (3, .int x3)] [] I Q := by
  refine J_aload_n 0 aX11_sheet_39 rfl ?_
  refine J_getR aX11_sheet_40 flX11_42 sh0 rfl ?_
  refine J_iload_n 1 aX11_sheet_43 rfl ?_
  refine J_iload_n 2 aX11_sheet_44 rfl ?_
  obtain ⟨j3, e4, b5, h⟩ := h
  refine J_iastore j3 aX11_sheet_45 sh14 e4 b5 (by decide) (fun I1 e2 => ?_)
  replace h := h I1 e2
  refine J_aload_n 0 aX11_sheet_46 rfl ?_
  refine J_getR aX11_sheet_47 flX11_45 sh0 rfl ?_
  refine J_iload_n 1 aX11_sheet_50 rfl ?_
  refine J_iload_n 2 aX11_sheet_51 rfl ?_
  refine J_iconst (-1) aX11_sheet_52 (by decide +kernel) ?_
  refine J_icmp_ne aX11_sheet_53 (fun q => ?_) (fun q => ?_)
  · replace h := h.1 q
    refine J_iload_n 3 aX11_sheet_60 rfl ?_
    refine J_pick [0, 1] rfl ?_
    exact h
  · replace h := h.2 q
    refine J_iconst (nI 0) aX11_sheet_56 (by decide +kernel) ?_
    refine J_goto aX11_sheet_57 ?_
    refine J_pick [0, 1] rfl ?_
    exact h
theorem S_X11_sheet_61 {E : EE} {d : Nat} {I : IH} {Q : QT} (x1 : Int32) (t0 : Int32) (t1 : Int32) (h :
(∃ j3 : Nat, t1 = nI j3 ∧ j3 < 4 ∧ (∀ I1 : IH, I1 = stI I 15 j3 t0 →
 (Mt E d mJ7_fill_fda19 [.ref (eb E + 16), .int (x1 * (nI 40)), .int ((x1 + (nI 1)) * (nI 40)), .int (nI 0)] I1 (fun rv I6 => rv = none ∧
 Q (some (.int (nI 1))) I6))))) : J E (d + 1) mX11_sheet 61 [(0, .ref (eb E + 0)), (1, .int x1)] [.int t0, .int t1, .ref (eb E + 15)] I Q := by
  obtain ⟨j3, e4, b5, h⟩ := h
  refine J_iastore j3 aX11_sheet_61 sh15 e4 b5 (by decide) (fun I1 e2 => ?_)
  replace h := h I1 e2
  refine J_aload_n 0 aX11_sheet_62 rfl ?_
  refine J_getR aX11_sheet_63 flX11_48 sh0 rfl ?_
  refine J_iload_n 1 aX11_sheet_66 rfl ?_
  refine J_bipush (nI 40) aX11_sheet_67 (by decide +kernel) ?_
  refine J_imul aX11_sheet_69 ?_
  refine J_iload_n 1 aX11_sheet_70 rfl ?_
  refine J_iconst (nI 1) aX11_sheet_71 (by decide +kernel) ?_
  refine J_iadd aX11_sheet_72 ?_
  refine J_bipush (nI 40) aX11_sheet_73 (by decide +kernel) ?_
  refine J_imul aX11_sheet_75 ?_
  refine J_iconst (nI 0) aX11_sheet_76 (by decide +kernel) ?_
  refine J_callS [.ref (eb E + 16), .int (x1 * (nI 40)), .int ((x1 + (nI 1)) * (nI 40)), .int (nI 0)] [] aX11_sheet_77 lkX11_326 okJ7_fill_fda19 rfl rfl (Nat.le_of_ble_eq_true rfl) (Nat.le_refl _) (Mt_mono h (fun rv I6 h => ?_))
  obtain ⟨rfl, h⟩ := h
  refine J_r0 ?_
  refine J_iconst (nI 1) aX11_sheet_80 (by decide +kernel) ?_
  exact J_iret aX11_sheet_81 rfl h
theorem aX11_write_0 : decode mX11_write.2.1 0 = .ok (.iload_n 1, 1) ∧ 0 + 1 = 1 := ⟨by decide +kernel, rfl⟩
theorem aX11_write_1 : decode mX11_write.2.1 1 = .ok (.invokestatic 323, 3) ∧ 1 + 3 = 4 := ⟨by decide +kernel, rfl⟩
theorem aX11_write_4 : decode mX11_write.2.1 4 = .ok (.ifCond .ne 5, 3) ∧ ((4 : Nat) : Int) + 5 = ((9 : Nat) : Int) ∧ 4 + 3 = 7 := ⟨by decide +kernel, by decide, rfl⟩
theorem aX11_write_7 : decode mX11_write.2.1 7 = .ok (.iconst (-1), 1) ∧ 7 + 1 = 8 := ⟨by decide +kernel, rfl⟩
theorem aX11_write_8 : decode mX11_write.2.1 8 = .ok (.ireturn, 1) := by decide +kernel
theorem aX11_write_9 : decode mX11_write.2.1 9 = .ok (.aload_n 0, 1) ∧ 9 + 1 = 10 := ⟨by decide +kernel, rfl⟩
theorem aX11_write_10 : decode mX11_write.2.1 10 = .ok (.getfield 42, 3) ∧ 10 + 3 = 13 := ⟨by decide +kernel, rfl⟩
theorem aX11_write_13 : decode mX11_write.2.1 13 = .ok (.iload_n 1, 1) ∧ 13 + 1 = 14 := ⟨by decide +kernel, rfl⟩
theorem aX11_write_14 : decode mX11_write.2.1 14 = .ok (.iaload, 1) ∧ 14 + 1 = 15 := ⟨by decide +kernel, rfl⟩
theorem aX11_write_15 : decode mX11_write.2.1 15 = .ok (.iconst (-1), 1) ∧ 15 + 1 = 16 := ⟨by decide +kernel, rfl⟩
theorem aX11_write_16 : decode mX11_write.2.1 16 = .ok (.if_icmp .ne 6, 3) ∧ ((16 : Nat) : Int) + 6 = ((22 : Nat) : Int) ∧ 16 + 3 = 19 := ⟨by decide +kernel, by decide, rfl⟩
theorem aX11_write_19 : decode mX11_write.2.1 19 = .ok (.bipush (-11), 2) ∧ 19 + 2 = 21 := ⟨by decide +kernel, rfl⟩
theorem aX11_write_21 : decode mX11_write.2.1 21 = .ok (.ireturn, 1) := by decide +kernel
theorem aX11_write_22 : decode mX11_write.2.1 22 = .ok (.iload_n 2, 1) ∧ 22 + 1 = 23 := ⟨by decide +kernel, rfl⟩
theorem aX11_write_23 : decode mX11_write.2.1 23 = .ok (.ifCond .lt 13, 3) ∧ ((23 : Nat) : Int) + 13 = ((36 : Nat) : Int) ∧ 23 + 3 = 26 := ⟨by decide +kernel, by decide, rfl⟩
theorem aX11_write_26 : decode mX11_write.2.1 26 = .ok (.iload_n 2, 1) ∧ 26 + 1 = 27 := ⟨by decide +kernel, rfl⟩
theorem aX11_write_27 : decode mX11_write.2.1 27 = .ok (.aload_n 0, 1) ∧ 27 + 1 = 28 := ⟨by decide +kernel, rfl⟩
theorem aX11_write_28 : decode mX11_write.2.1 28 = .ok (.getfield 45, 3) ∧ 28 + 3 = 31 := ⟨by decide +kernel, rfl⟩
theorem aX11_write_31 : decode mX11_write.2.1 31 = .ok (.iload_n 1, 1) ∧ 31 + 1 = 32 := ⟨by decide +kernel, rfl⟩
theorem aX11_write_32 : decode mX11_write.2.1 32 = .ok (.iaload, 1) ∧ 32 + 1 = 33 := ⟨by decide +kernel, rfl⟩
theorem aX11_write_33 : decode mX11_write.2.1 33 = .ok (.if_icmp .lt 6, 3) ∧ ((33 : Nat) : Int) + 6 = ((39 : Nat) : Int) ∧ 33 + 3 = 36 := ⟨by decide +kernel, by decide, rfl⟩
theorem aX11_write_36 : decode mX11_write.2.1 36 = .ok (.bipush (-12), 2) ∧ 36 + 2 = 38 := ⟨by decide +kernel, rfl⟩
theorem aX11_write_38 : decode mX11_write.2.1 38 = .ok (.ireturn, 1) := by decide +kernel
theorem aX11_write_39 : decode mX11_write.2.1 39 = .ok (.aload_n 0, 1) ∧ 39 + 1 = 40 := ⟨by decide +kernel, rfl⟩
theorem aX11_write_40 : decode mX11_write.2.1 40 = .ok (.getfield 48, 3) ∧ 40 + 3 = 43 := ⟨by decide +kernel, rfl⟩
theorem aX11_write_43 : decode mX11_write.2.1 43 = .ok (.iload_n 1, 1) ∧ 43 + 1 = 44 := ⟨by decide +kernel, rfl⟩
theorem aX11_write_44 : decode mX11_write.2.1 44 = .ok (.bipush 40, 2) ∧ 44 + 2 = 46 := ⟨by decide +kernel, rfl⟩
theorem aX11_write_46 : decode mX11_write.2.1 46 = .ok (.imul, 1) ∧ 46 + 1 = 47 := ⟨by decide +kernel, rfl⟩
theorem aX11_write_47 : decode mX11_write.2.1 47 = .ok (.iload_n 2, 1) ∧ 47 + 1 = 48 := ⟨by decide +kernel, rfl⟩
theorem aX11_write_48 : decode mX11_write.2.1 48 = .ok (.iadd, 1) ∧ 48 + 1 = 49 := ⟨by decide +kernel, rfl⟩
theorem aX11_write_49 : decode mX11_write.2.1 49 = .ok (.iload_n 3, 1) ∧ 49 + 1 = 50 := ⟨by decide +kernel, rfl⟩
theorem aX11_write_50 : decode mX11_write.2.1 50 = .ok (.aload_n 0, 1) ∧ 50 + 1 = 51 := ⟨by decide +kernel, rfl⟩
theorem aX11_write_51 : decode mX11_write.2.1 51 = .ok (.getfield 42, 3) ∧ 51 + 3 = 54 := ⟨by decide +kernel, rfl⟩
theorem aX11_write_54 : decode mX11_write.2.1 54 = .ok (.iload_n 1, 1) ∧ 54 + 1 = 55 := ⟨by decide +kernel, rfl⟩
theorem aX11_write_55 : decode mX11_write.2.1 55 = .ok (.iaload, 1) ∧ 55 + 1 = 56 := ⟨by decide +kernel, rfl⟩
theorem aX11_write_56 : decode mX11_write.2.1 56 = .ok (.invokestatic 329, 3) ∧ 56 + 3 = 59 := ⟨by decide +kernel, rfl⟩
theorem aX11_write_59 : decode mX11_write.2.1 59 = .ok (.iastore, 1) ∧ 59 + 1 = 60 := ⟨by decide +kernel, rfl⟩
theorem aX11_write_60 : decode mX11_write.2.1 60 = .ok (.iconst 1, 1) ∧ 60 + 1 = 61 := ⟨by decide +kernel, rfl⟩
theorem aX11_write_61 : decode mX11_write.2.1 61 = .ok (.ireturn, 1) := by decide +kernel
theorem S_X11_write {E : EE} {d : Nat} {I : IH} {Q : QT} (x1 : Int32) (x2 : Int32) (x3 : Int32) (h :
(Mt E d mX11_isSheet [.int x1] I (fun rv I1 => ∃ v2 : Int32, rv = some (.int v2) ∧
 ((¬ v2 = 0 → (∃ j3 : Nat, x1 = nI j3 ∧ j3 < 4 ∧ ((¬ (I1 14 j3) = (-1) → ((x2 < 0 → Q (some (.int (-12))) I1) ∧
 (¬ x2 < 0 → (∃ j6 : Nat, x1 = nI j6 ∧ j6 < 4 ∧ ((x2 < (I1 15 j6) → (∃ j9 : Nat, x1 = nI j9 ∧ j9 < 4 ∧ (Mt E d mX11_narrowed [.int x3, .int (I1 14 j9)] I1 (fun rv I12 => ∃ v13 : Int32, rv = some (.int v13) ∧
 (∃ j16 : Nat, ((x1 * (nI 40)) + x2) = nI j16 ∧ j16 < 160 ∧ (∀ I14 : IH, I14 = stI I12 16 j16 v13 →
 Q (some (.int (nI 1))) I14)))))) ∧
 (¬ x2 < (I1 15 j6) → Q (some (.int (-12))) I1)))))) ∧
 ((I1 14 j3) = (-1) → Q (some (.int (-11))) I1)))) ∧
 (v2 = 0 → Q (some (.int (-1))) I1))))) : Mt E (d + 1) mX11_write [.ref (eb E + 0), .int x1, .int x2, .int x3] I Q := by
  refine Mt_of [(0, .ref (eb E + 0)), (1, .int x1), (2, .int x2), (3, .int x3)] (by decide +kernel) (by simp [lg_sl, Value.category, mX11_write]) rfl ?_
  refine J_iload_n 1 aX11_write_0 rfl ?_
  refine J_callS [.int x1] [] aX11_write_1 lkX11_323 okX11_isSheet rfl rfl (Nat.le_of_ble_eq_true rfl) (Nat.le_refl _) (Mt_mono h (fun rv I1 h => ?_))
  obtain ⟨v2, rfl, h⟩ := h
  refine J_r1 ?_
  refine J_if_ne aX11_write_4 (fun q => ?_) (fun q => ?_)
  · replace h := h.1 q
    refine J_aload_n 0 aX11_write_9 rfl ?_
    refine J_getR aX11_write_10 flX11_42 sh0 rfl ?_
    refine J_iload_n 1 aX11_write_13 rfl ?_
    obtain ⟨j3, e4, b5, h⟩ := h
    refine J_iaload j3 aX11_write_14 sh14 e4 b5 (by decide) ?_
    refine J_iconst (-1) aX11_write_15 (by decide +kernel) ?_
    refine J_icmp_ne aX11_write_16 (fun q => ?_) (fun q => ?_)
    · replace h := h.1 q
      refine J_iload_n 2 aX11_write_22 rfl ?_
      refine J_if_lt aX11_write_23 (fun q => ?_) (fun q => ?_)
      · replace h := h.1 q
        refine J_bipush (-12) aX11_write_36 (by decide +kernel) ?_
        exact J_iret aX11_write_38 rfl h
      · replace h := h.2 q
        refine J_iload_n 2 aX11_write_26 rfl ?_
        refine J_aload_n 0 aX11_write_27 rfl ?_
        refine J_getR aX11_write_28 flX11_45 sh0 rfl ?_
        refine J_iload_n 1 aX11_write_31 rfl ?_
        obtain ⟨j6, e7, b8, h⟩ := h
        refine J_iaload j6 aX11_write_32 sh15 e7 b8 (by decide) ?_
        refine J_icmp_lt aX11_write_33 (fun q => ?_) (fun q => ?_)
        · replace h := h.1 q
          refine J_aload_n 0 aX11_write_39 rfl ?_
          refine J_getR aX11_write_40 flX11_48 sh0 rfl ?_
          refine J_iload_n 1 aX11_write_43 rfl ?_
          refine J_bipush (nI 40) aX11_write_44 (by decide +kernel) ?_
          refine J_imul aX11_write_46 ?_
          refine J_iload_n 2 aX11_write_47 rfl ?_
          refine J_iadd aX11_write_48 ?_
          refine J_iload_n 3 aX11_write_49 rfl ?_
          refine J_aload_n 0 aX11_write_50 rfl ?_
          refine J_getR aX11_write_51 flX11_42 sh0 rfl ?_
          refine J_iload_n 1 aX11_write_54 rfl ?_
          obtain ⟨j9, e10, b11, h⟩ := h
          refine J_iaload j9 aX11_write_55 sh14 e10 b11 (by decide) ?_
          refine J_callS [.int x3, .int (I1 14 j9)] [.int ((x1 * (nI 40)) + x2), .ref (eb E + 16)] aX11_write_56 lkX11_329 okX11_narrowed rfl rfl (Nat.le_of_ble_eq_true rfl) (Nat.le_refl _) (Mt_mono h (fun rv I12 h => ?_))
          obtain ⟨v13, rfl, h⟩ := h
          refine J_r1 ?_
          obtain ⟨j16, e17, b18, h⟩ := h
          refine J_iastore j16 aX11_write_59 sh16 e17 b18 (by decide) (fun I14 e15 => ?_)
          replace h := h I14 e15
          refine J_iconst (nI 1) aX11_write_60 (by decide +kernel) ?_
          exact J_iret aX11_write_61 rfl h
        · replace h := h.2 q
          refine J_bipush (-12) aX11_write_36 (by decide +kernel) ?_
          exact J_iret aX11_write_38 rfl h
    · replace h := h.2 q
      refine J_bipush (-11) aX11_write_19 (by decide +kernel) ?_
      exact J_iret aX11_write_21 rfl h
  · replace h := h.2 q
    refine J_iconst (-1) aX11_write_7 (by decide +kernel) ?_
    exact J_iret aX11_write_8 rfl h
theorem aX11_narrowed_0 : decode mX11_narrowed.2.1 0 = .ok (.iload_n 1, 1) ∧ 0 + 1 = 1 := ⟨by decide +kernel, rfl⟩
theorem aX11_narrowed_1 : decode mX11_narrowed.2.1 1 = .ok (.tableswitch 51 0 4 #[35, 38, 51, 51, 41], 35) := by decide +kernel
theorem aX11_narrowed_36 : decode mX11_narrowed.2.1 36 = .ok (.iload_n 0, 1) ∧ 36 + 1 = 37 := ⟨by decide +kernel, rfl⟩
theorem aX11_narrowed_37 : decode mX11_narrowed.2.1 37 = .ok (.i2b, 1) ∧ 37 + 1 = 38 := ⟨by decide +kernel, rfl⟩
theorem aX11_narrowed_38 : decode mX11_narrowed.2.1 38 = .ok (.ireturn, 1) := by decide +kernel
theorem aX11_narrowed_39 : decode mX11_narrowed.2.1 39 = .ok (.iload_n 0, 1) ∧ 39 + 1 = 40 := ⟨by decide +kernel, rfl⟩
theorem aX11_narrowed_40 : decode mX11_narrowed.2.1 40 = .ok (.i2s, 1) ∧ 40 + 1 = 41 := ⟨by decide +kernel, rfl⟩
theorem aX11_narrowed_41 : decode mX11_narrowed.2.1 41 = .ok (.ireturn, 1) := by decide +kernel
theorem aX11_narrowed_42 : decode mX11_narrowed.2.1 42 = .ok (.iload_n 0, 1) ∧ 42 + 1 = 43 := ⟨by decide +kernel, rfl⟩
theorem aX11_narrowed_43 : decode mX11_narrowed.2.1 43 = .ok (.ifCond .eq 7, 3) ∧ ((43 : Nat) : Int) + 7 = ((50 : Nat) : Int) ∧ 43 + 3 = 46 := ⟨by decide +kernel, by decide, rfl⟩
theorem aX11_narrowed_46 : decode mX11_narrowed.2.1 46 = .ok (.iconst 1, 1) ∧ 46 + 1 = 47 := ⟨by decide +kernel, rfl⟩
theorem aX11_narrowed_47 : decode mX11_narrowed.2.1 47 = .ok (.goto 4, 3) ∧ ((47 : Nat) : Int) + 4 = ((51 : Nat) : Int) := ⟨by decide +kernel, by decide⟩
theorem aX11_narrowed_50 : decode mX11_narrowed.2.1 50 = .ok (.iconst 0, 1) ∧ 50 + 1 = 51 := ⟨by decide +kernel, rfl⟩
theorem aX11_narrowed_51 : decode mX11_narrowed.2.1 51 = .ok (.ireturn, 1) := by decide +kernel
theorem aX11_narrowed_52 : decode mX11_narrowed.2.1 52 = .ok (.iload_n 0, 1) ∧ 52 + 1 = 53 := ⟨by decide +kernel, rfl⟩
theorem aX11_narrowed_53 : decode mX11_narrowed.2.1 53 = .ok (.ireturn, 1) := by decide +kernel
theorem S_X11_narrowed {E : EE} {d : Nat} {I : IH} {Q : QT} (x0 : Int32) (x1 : Int32) (h :
((x1 = (nI 0) → Q (some (.int (x0.toInt8.toInt32))) I) ∧
 ((x1 = (nI 1) → Q (some (.int (x0.toInt16.toInt32))) I) ∧
 ((x1 = (nI 2) → Q (some (.int x0)) I) ∧
 ((x1 = (nI 3) → Q (some (.int x0)) I) ∧
 ((x1 = (nI 4) → ((x0 = 0 → Q (some (.int (nI 0))) I) ∧
 (¬ x0 = 0 → Q (some (.int (nI 1))) I))) ∧
 (¬ x1 = (nI 0) ∧ ¬ x1 = (nI 1) ∧ ¬ x1 = (nI 2) ∧ ¬ x1 = (nI 3) ∧ ¬ x1 = (nI 4) → Q (some (.int x0)) I))))))) : Mt E d mX11_narrowed [.int x0, .int x1] I Q := by
  refine Mt_of [(0, .int x0), (1, .int x1)] (by decide +kernel) (by simp [lg_sl, Value.category, mX11_narrowed]) rfl ?_
  refine J_iload_n 1 aX11_narrowed_0 rfl ?_
  by_cases q0 : x1 = (nI 0)
  · replace h := h.1 q0
    refine J_tswIn (nI 0) aX11_narrowed_1 (off := 35) (tgt := 36) (by decide +kernel) q0 ?_
    refine J_iload_n 0 aX11_narrowed_36 rfl ?_
    refine J_i2b aX11_narrowed_37 ?_
    exact J_iret aX11_narrowed_38 rfl h
  replace h := h.2
  by_cases q1 : x1 = (nI 1)
  · replace h := h.1 q1
    refine J_tswIn (nI 1) aX11_narrowed_1 (off := 38) (tgt := 39) (by decide +kernel) q1 ?_
    refine J_iload_n 0 aX11_narrowed_39 rfl ?_
    refine J_i2s aX11_narrowed_40 ?_
    exact J_iret aX11_narrowed_41 rfl h
  replace h := h.2
  by_cases q2 : x1 = (nI 2)
  · replace h := h.1 q2
    refine J_tswIn (nI 2) aX11_narrowed_1 (off := 51) (tgt := 52) (by decide +kernel) q2 ?_
    refine J_iload_n 0 aX11_narrowed_52 rfl ?_
    exact J_iret aX11_narrowed_53 rfl h
  replace h := h.2
  by_cases q3 : x1 = (nI 3)
  · replace h := h.1 q3
    refine J_tswIn (nI 3) aX11_narrowed_1 (off := 51) (tgt := 52) (by decide +kernel) q3 ?_
    refine J_iload_n 0 aX11_narrowed_52 rfl ?_
    exact J_iret aX11_narrowed_53 rfl h
  replace h := h.2
  by_cases q4 : x1 = (nI 4)
  · replace h := h.1 q4
    refine J_tswIn (nI 4) aX11_narrowed_1 (off := 41) (tgt := 42) (by decide +kernel) q4 ?_
    refine J_iload_n 0 aX11_narrowed_42 rfl ?_
    refine J_if_eq aX11_narrowed_43 (fun q => ?_) (fun q => ?_)
    · replace h := h.1 q
      refine J_iconst (nI 0) aX11_narrowed_50 (by decide +kernel) ?_
      exact J_iret aX11_narrowed_51 rfl h
    · replace h := h.2 q
      refine J_iconst (nI 1) aX11_narrowed_46 (by decide +kernel) ?_
      refine J_goto aX11_narrowed_47 ?_
      exact J_iret aX11_narrowed_51 rfl h
  replace h := h.2
  replace h := h ⟨q0, q1, q2, q3, q4⟩
  refine J_tswOut aX11_narrowed_1 (tgt := 52) (by decide) (tsw_out (fun k h1 h2 hk => by
    have hh : k = 0 ∨ k = 1 ∨ k = 2 ∨ k = 3 ∨ k = 4 := by omega
    rcases hh with rfl | rfl | rfl | rfl | rfl
    · exact q0 (Int32.toInt_inj.mp (hk.trans (by decide +kernel)))
    · exact q1 (Int32.toInt_inj.mp (hk.trans (by decide +kernel)))
    · exact q2 (Int32.toInt_inj.mp (hk.trans (by decide +kernel)))
    · exact q3 (Int32.toInt_inj.mp (hk.trans (by decide +kernel)))
    · exact q4 (Int32.toInt_inj.mp (hk.trans (by decide +kernel)))
    )) ?_
  refine J_iload_n 0 aX11_narrowed_52 rfl ?_
  exact J_iret aX11_narrowed_53 rfl h
theorem aX11_item_0 : decode mX11_item.2.1 0 = .ok (.iload_n 1, 1) ∧ 0 + 1 = 1 := ⟨by decide +kernel, rfl⟩
theorem aX11_item_1 : decode mX11_item.2.1 1 = .ok (.invokestatic 323, 3) ∧ 1 + 3 = 4 := ⟨by decide +kernel, rfl⟩
theorem aX11_item_4 : decode mX11_item.2.1 4 = .ok (.ifCond .eq 11, 3) ∧ ((4 : Nat) : Int) + 11 = ((15 : Nat) : Int) ∧ 4 + 3 = 7 := ⟨by decide +kernel, by decide, rfl⟩
theorem aX11_item_7 : decode mX11_item.2.1 7 = .ok (.iload_n 2, 1) ∧ 7 + 1 = 8 := ⟨by decide +kernel, rfl⟩
theorem aX11_item_8 : decode mX11_item.2.1 8 = .ok (.iconst 4, 1) ∧ 8 + 1 = 9 := ⟨by decide +kernel, rfl⟩
theorem aX11_item_9 : decode mX11_item.2.1 9 = .ok (.invokestatic 110, 3) ∧ 9 + 3 = 12 := ⟨by decide +kernel, rfl⟩
theorem aX11_item_12 : decode mX11_item.2.1 12 = .ok (.ifCond .ne 5, 3) ∧ ((12 : Nat) : Int) + 5 = ((17 : Nat) : Int) ∧ 12 + 3 = 15 := ⟨by decide +kernel, by decide, rfl⟩
theorem aX11_item_15 : decode mX11_item.2.1 15 = .ok (.iconst (-1), 1) ∧ 15 + 1 = 16 := ⟨by decide +kernel, rfl⟩
theorem aX11_item_16 : decode mX11_item.2.1 16 = .ok (.ireturn, 1) := by decide +kernel
theorem aX11_item_17 : decode mX11_item.2.1 17 = .ok (.aload_n 0, 1) ∧ 17 + 1 = 18 := ⟨by decide +kernel, rfl⟩
theorem aX11_item_18 : decode mX11_item.2.1 18 = .ok (.iload_n 1, 1) ∧ 18 + 1 = 19 := ⟨by decide +kernel, rfl⟩
theorem aX11_item_19 : decode mX11_item.2.1 19 = .ok (.iload_n 2, 1) ∧ 19 + 1 = 20 := ⟨by decide +kernel, rfl⟩
theorem aX11_item_20 : decode mX11_item.2.1 20 = .ok (.invokevirtual 332, 3) ∧ 20 + 3 = 23 := ⟨by decide +kernel, rfl⟩
theorem aX11_item_23 : decode mX11_item.2.1 23 = .ok (.istore 4, 2) ∧ 23 + 2 = 25 := ⟨by decide +kernel, rfl⟩
theorem aX11_item_25 : decode mX11_item.2.1 25 = .ok (.iload 4, 2) ∧ 25 + 2 = 27 := ⟨by decide +kernel, rfl⟩
theorem aX11_item_27 : decode mX11_item.2.1 27 = .ok (.ifCond .ge 6, 3) ∧ ((27 : Nat) : Int) + 6 = ((33 : Nat) : Int) ∧ 27 + 3 = 30 := ⟨by decide +kernel, by decide, rfl⟩
theorem aX11_item_30 : decode mX11_item.2.1 30 = .ok (.iload 4, 2) ∧ 30 + 2 = 32 := ⟨by decide +kernel, rfl⟩
theorem aX11_item_32 : decode mX11_item.2.1 32 = .ok (.ireturn, 1) := by decide +kernel
theorem aX11_item_33 : decode mX11_item.2.1 33 = .ok (.iload_n 3, 1) ∧ 33 + 1 = 34 := ⟨by decide +kernel, rfl⟩
theorem aX11_item_34 : decode mX11_item.2.1 34 = .ok (.ifCond .lt 13, 3) ∧ ((34 : Nat) : Int) + 13 = ((47 : Nat) : Int) ∧ 34 + 3 = 37 := ⟨by decide +kernel, by decide, rfl⟩
theorem aX11_item_37 : decode mX11_item.2.1 37 = .ok (.iload_n 3, 1) ∧ 37 + 1 = 38 := ⟨by decide +kernel, rfl⟩
theorem aX11_item_38 : decode mX11_item.2.1 38 = .ok (.aload_n 0, 1) ∧ 38 + 1 = 39 := ⟨by decide +kernel, rfl⟩
theorem aX11_item_39 : decode mX11_item.2.1 39 = .ok (.getfield 45, 3) ∧ 39 + 3 = 42 := ⟨by decide +kernel, rfl⟩
theorem aX11_item_42 : decode mX11_item.2.1 42 = .ok (.iload_n 1, 1) ∧ 42 + 1 = 43 := ⟨by decide +kernel, rfl⟩
theorem aX11_item_43 : decode mX11_item.2.1 43 = .ok (.iaload, 1) ∧ 43 + 1 = 44 := ⟨by decide +kernel, rfl⟩
theorem aX11_item_44 : decode mX11_item.2.1 44 = .ok (.if_icmp .lt 6, 3) ∧ ((44 : Nat) : Int) + 6 = ((50 : Nat) : Int) ∧ 44 + 3 = 47 := ⟨by decide +kernel, by decide, rfl⟩
theorem aX11_item_47 : decode mX11_item.2.1 47 = .ok (.bipush (-12), 2) ∧ 47 + 2 = 49 := ⟨by decide +kernel, rfl⟩
theorem aX11_item_49 : decode mX11_item.2.1 49 = .ok (.ireturn, 1) := by decide +kernel
theorem aX11_item_50 : decode mX11_item.2.1 50 = .ok (.aload_n 0, 1) ∧ 50 + 1 = 51 := ⟨by decide +kernel, rfl⟩
theorem aX11_item_51 : decode mX11_item.2.1 51 = .ok (.getfield 48, 3) ∧ 51 + 3 = 54 := ⟨by decide +kernel, rfl⟩
theorem aX11_item_54 : decode mX11_item.2.1 54 = .ok (.iload_n 1, 1) ∧ 54 + 1 = 55 := ⟨by decide +kernel, rfl⟩
theorem aX11_item_55 : decode mX11_item.2.1 55 = .ok (.bipush 40, 2) ∧ 55 + 2 = 57 := ⟨by decide +kernel, rfl⟩
theorem aX11_item_57 : decode mX11_item.2.1 57 = .ok (.imul, 1) ∧ 57 + 1 = 58 := ⟨by decide +kernel, rfl⟩
theorem aX11_item_58 : decode mX11_item.2.1 58 = .ok (.iload_n 3, 1) ∧ 58 + 1 = 59 := ⟨by decide +kernel, rfl⟩
theorem aX11_item_59 : decode mX11_item.2.1 59 = .ok (.iadd, 1) ∧ 59 + 1 = 60 := ⟨by decide +kernel, rfl⟩
theorem aX11_item_60 : decode mX11_item.2.1 60 = .ok (.iaload, 1) ∧ 60 + 1 = 61 := ⟨by decide +kernel, rfl⟩
theorem aX11_item_61 : decode mX11_item.2.1 61 = .ok (.ireturn, 1) := by decide +kernel
theorem S_X11_item {E : EE} {d : Nat} {I : IH} {Q : QT} (x1 : Int32) (x2 : Int32) (x3 : Int32) (h :
(Mt E d mX11_isSheet [.int x1] I (fun rv I1 => ∃ v2 : Int32, rv = some (.int v2) ∧
 ((v2 = 0 → Q (some (.int (-1))) I1) ∧
 (¬ v2 = 0 → (Mt E d mX11_isWithin [.int x2, .int (nI 4)] I1 (fun rv I3 => ∃ v4 : Int32, rv = some (.int v4) ∧
 ((¬ v4 = 0 → (Mt E d mX11_refusalAs [.ref (eb E + 0), .int x1, .int x2] I3 (fun rv I5 => ∃ v6 : Int32, rv = some (.int v6) ∧
 ((0 ≤ v6 → ((x3 < 0 → Q (some (.int (-12))) I5) ∧
 (¬ x3 < 0 → (∃ j7 : Nat, x1 = nI j7 ∧ j7 < 4 ∧ ((x3 < (I5 15 j7) → (∃ j10 : Nat, ((x1 * (nI 40)) + x3) = nI j10 ∧ j10 < 160 ∧ Q (some (.int (I5 16 j10))) I5)) ∧
 (¬ x3 < (I5 15 j7) → Q (some (.int (-12))) I5)))))) ∧
 (¬ 0 ≤ v6 → Q (some (.int v6)) I5))))) ∧
 (v4 = 0 → Q (some (.int (-1))) I3))))))))) : Mt E (d + 1) mX11_item [.ref (eb E + 0), .int x1, .int x2, .int x3] I Q := by
  refine Mt_of [(0, .ref (eb E + 0)), (1, .int x1), (2, .int x2), (3, .int x3)] (by decide +kernel) (by simp [lg_sl, Value.category, mX11_item]) rfl ?_
  refine J_iload_n 1 aX11_item_0 rfl ?_
  refine J_callS [.int x1] [] aX11_item_1 lkX11_323 okX11_isSheet rfl rfl (Nat.le_of_ble_eq_true rfl) (Nat.le_refl _) (Mt_mono h (fun rv I1 h => ?_))
  obtain ⟨v2, rfl, h⟩ := h
  refine J_r1 ?_
  refine J_if_eq aX11_item_4 (fun q => ?_) (fun q => ?_)
  · replace h := h.1 q
    refine J_iconst (-1) aX11_item_15 (by decide +kernel) ?_
    exact J_iret aX11_item_16 rfl h
  · replace h := h.2 q
    refine J_iload_n 2 aX11_item_7 rfl ?_
    refine J_iconst (nI 4) aX11_item_8 (by decide +kernel) ?_
    refine J_callS [.int x2, .int (nI 4)] [] aX11_item_9 lkX11_110 okX11_isWithin rfl rfl (Nat.le_of_ble_eq_true rfl) (Nat.le_refl _) (Mt_mono h (fun rv I3 h => ?_))
    obtain ⟨v4, rfl, h⟩ := h
    refine J_r1 ?_
    refine J_if_ne aX11_item_12 (fun q => ?_) (fun q => ?_)
    · replace h := h.1 q
      refine J_aload_n 0 aX11_item_17 rfl ?_
      refine J_iload_n 1 aX11_item_18 rfl ?_
      refine J_iload_n 2 aX11_item_19 rfl ?_
      refine J_callV [.int x1, .int x2] [] aX11_item_20 lkX11_332_X11 okX11_refusalAs sh0 rfl rfl rfl (Nat.le_of_ble_eq_true rfl) (Nat.le_refl _) (Mt_mono h (fun rv I5 h => ?_))
      obtain ⟨v6, rfl, h⟩ := h
      refine J_r1 ?_
      refine J_istore [(4, .int v6), (0, .ref (eb E + 0)), (1, .int x1), (2, .int x2), (3, .int x3)] aX11_item_23 (by decide) rfl ?_
      refine J_iload 0 aX11_item_25 rfl ?_
      refine J_if_ge aX11_item_27 (fun q => ?_) (fun q => ?_)
      · replace h := h.1 q
        refine J_iload_n 4 aX11_item_33 rfl ?_
        refine J_if_lt aX11_item_34 (fun q => ?_) (fun q => ?_)
        · replace h := h.1 q
          refine J_bipush (-12) aX11_item_47 (by decide +kernel) ?_
          exact J_iret aX11_item_49 rfl h
        · replace h := h.2 q
          refine J_iload_n 4 aX11_item_37 rfl ?_
          refine J_aload_n 1 aX11_item_38 rfl ?_
          refine J_getR aX11_item_39 flX11_45 sh0 rfl ?_
          refine J_iload_n 2 aX11_item_42 rfl ?_
          obtain ⟨j7, e8, b9, h⟩ := h
          refine J_iaload j7 aX11_item_43 sh15 e8 b9 (by decide) ?_
          refine J_icmp_lt aX11_item_44 (fun q => ?_) (fun q => ?_)
          · replace h := h.1 q
            refine J_aload_n 1 aX11_item_50 rfl ?_
            refine J_getR aX11_item_51 flX11_48 sh0 rfl ?_
            refine J_iload_n 2 aX11_item_54 rfl ?_
            refine J_bipush (nI 40) aX11_item_55 (by decide +kernel) ?_
            refine J_imul aX11_item_57 ?_
            refine J_iload_n 4 aX11_item_58 rfl ?_
            refine J_iadd aX11_item_59 ?_
            obtain ⟨j10, e11, b12, h⟩ := h
            refine J_iaload j10 aX11_item_60 sh16 e11 b12 (by decide) ?_
            exact J_iret aX11_item_61 rfl h
          · replace h := h.2 q
            refine J_bipush (-12) aX11_item_47 (by decide +kernel) ?_
            exact J_iret aX11_item_49 rfl h
      · replace h := h.2 q
        refine J_iload 0 aX11_item_30 rfl ?_
        exact J_iret aX11_item_32 rfl h
    · replace h := h.2 q
      refine J_iconst (-1) aX11_item_15 (by decide +kernel) ?_
      exact J_iret aX11_item_16 rfl h
theorem aX11_goAll_0 : decode mX11_goAll.2.1 0 = .ok (.aload_n 0, 1) ∧ 0 + 1 = 1 := ⟨by decide +kernel, rfl⟩
theorem aX11_goAll_1 : decode mX11_goAll.2.1 1 = .ok (.iload_n 1, 1) ∧ 1 + 1 = 2 := ⟨by decide +kernel, rfl⟩
theorem aX11_goAll_2 : decode mX11_goAll.2.1 2 = .ok (.iload_n 3, 1) ∧ 2 + 1 = 3 := ⟨by decide +kernel, rfl⟩
theorem aX11_goAll_3 : decode mX11_goAll.2.1 3 = .ok (.invokevirtual 335, 3) ∧ 3 + 3 = 6 := ⟨by decide +kernel, rfl⟩
theorem aX11_goAll_6 : decode mX11_goAll.2.1 6 = .ok (.istore 4, 2) ∧ 6 + 2 = 8 := ⟨by decide +kernel, rfl⟩
theorem aX11_goAll_8 : decode mX11_goAll.2.1 8 = .ok (.iload 4, 2) ∧ 8 + 2 = 10 := ⟨by decide +kernel, rfl⟩
theorem aX11_goAll_10 : decode mX11_goAll.2.1 10 = .ok (.ifCond .ge 6, 3) ∧ ((10 : Nat) : Int) + 6 = ((16 : Nat) : Int) ∧ 10 + 3 = 13 := ⟨by decide +kernel, by decide, rfl⟩
theorem aX11_goAll_13 : decode mX11_goAll.2.1 13 = .ok (.iload 4, 2) ∧ 13 + 2 = 15 := ⟨by decide +kernel, rfl⟩
theorem aX11_goAll_15 : decode mX11_goAll.2.1 15 = .ok (.ireturn, 1) := by decide +kernel
theorem aX11_goAll_16 : decode mX11_goAll.2.1 16 = .ok (.iconst 0, 1) ∧ 16 + 1 = 17 := ⟨by decide +kernel, rfl⟩
theorem aX11_goAll_17 : decode mX11_goAll.2.1 17 = .ok (.istore 5, 2) ∧ 17 + 2 = 19 := ⟨by decide +kernel, rfl⟩
theorem aX11_goAll_19 : decode mX11_goAll.2.1 19 = .ok (.iconst 0, 1) ∧ 19 + 1 = 20 := ⟨by decide +kernel, rfl⟩
theorem aX11_goAll_20 : decode mX11_goAll.2.1 20 = .ok (.istore 6, 2) ∧ 20 + 2 = 22 := ⟨by decide +kernel, rfl⟩
theorem aX11_goAll_22 : decode mX11_goAll.2.1 22 = .ok (.iload 6, 2) ∧ 22 + 2 = 24 := ⟨by decide +kernel, rfl⟩
theorem aX11_goAll_24 : decode mX11_goAll.2.1 24 = .ok (.iload_n 3, 1) ∧ 24 + 1 = 25 := ⟨by decide +kernel, rfl⟩
theorem aX11_goAll_25 : decode mX11_goAll.2.1 25 = .ok (.if_icmp .ge 81, 3) ∧ ((25 : Nat) : Int) + 81 = ((106 : Nat) : Int) ∧ 25 + 3 = 28 := ⟨by decide +kernel, by decide, rfl⟩
theorem aX11_goAll_28 : decode mX11_goAll.2.1 28 = .ok (.iload_n 2, 1) ∧ 28 + 1 = 29 := ⟨by decide +kernel, rfl⟩
theorem aX11_goAll_29 : decode mX11_goAll.2.1 29 = .ok (.ifCond .lt 16, 3) ∧ ((29 : Nat) : Int) + 16 = ((45 : Nat) : Int) ∧ 29 + 3 = 32 := ⟨by decide +kernel, by decide, rfl⟩
theorem aX11_goAll_32 : decode mX11_goAll.2.1 32 = .ok (.iload_n 2, 1) ∧ 32 + 1 = 33 := ⟨by decide +kernel, rfl⟩
theorem aX11_goAll_33 : decode mX11_goAll.2.1 33 = .ok (.aload_n 0, 1) ∧ 33 + 1 = 34 := ⟨by decide +kernel, rfl⟩
theorem aX11_goAll_34 : decode mX11_goAll.2.1 34 = .ok (.getfield 45, 3) ∧ 34 + 3 = 37 := ⟨by decide +kernel, rfl⟩
theorem aX11_goAll_37 : decode mX11_goAll.2.1 37 = .ok (.iload_n 1, 1) ∧ 37 + 1 = 38 := ⟨by decide +kernel, rfl⟩
theorem aX11_goAll_38 : decode mX11_goAll.2.1 38 = .ok (.iaload, 1) ∧ 38 + 1 = 39 := ⟨by decide +kernel, rfl⟩
theorem aX11_goAll_39 : decode mX11_goAll.2.1 39 = .ok (.iload 6, 2) ∧ 39 + 2 = 41 := ⟨by decide +kernel, rfl⟩
theorem aX11_goAll_41 : decode mX11_goAll.2.1 41 = .ok (.isub, 1) ∧ 41 + 1 = 42 := ⟨by decide +kernel, rfl⟩
theorem aX11_goAll_42 : decode mX11_goAll.2.1 42 = .ok (.if_icmp .lt 6, 3) ∧ ((42 : Nat) : Int) + 6 = ((48 : Nat) : Int) ∧ 42 + 3 = 45 := ⟨by decide +kernel, by decide, rfl⟩
theorem aX11_goAll_45 : decode mX11_goAll.2.1 45 = .ok (.bipush (-12), 2) ∧ 45 + 2 = 47 := ⟨by decide +kernel, rfl⟩
theorem aX11_goAll_47 : decode mX11_goAll.2.1 47 = .ok (.ireturn, 1) := by decide +kernel
theorem aX11_goAll_48 : decode mX11_goAll.2.1 48 = .ok (.aload_n 0, 1) ∧ 48 + 1 = 49 := ⟨by decide +kernel, rfl⟩
theorem aX11_goAll_49 : decode mX11_goAll.2.1 49 = .ok (.getfield 48, 3) ∧ 49 + 3 = 52 := ⟨by decide +kernel, rfl⟩
theorem aX11_goAll_52 : decode mX11_goAll.2.1 52 = .ok (.iload_n 1, 1) ∧ 52 + 1 = 53 := ⟨by decide +kernel, rfl⟩
theorem aX11_goAll_53 : decode mX11_goAll.2.1 53 = .ok (.bipush 40, 2) ∧ 53 + 2 = 55 := ⟨by decide +kernel, rfl⟩
theorem aX11_goAll_55 : decode mX11_goAll.2.1 55 = .ok (.imul, 1) ∧ 55 + 1 = 56 := ⟨by decide +kernel, rfl⟩
theorem aX11_goAll_56 : decode mX11_goAll.2.1 56 = .ok (.iload_n 2, 1) ∧ 56 + 1 = 57 := ⟨by decide +kernel, rfl⟩
theorem aX11_goAll_57 : decode mX11_goAll.2.1 57 = .ok (.iadd, 1) ∧ 57 + 1 = 58 := ⟨by decide +kernel, rfl⟩
theorem aX11_goAll_58 : decode mX11_goAll.2.1 58 = .ok (.iload 6, 2) ∧ 58 + 2 = 60 := ⟨by decide +kernel, rfl⟩
theorem aX11_goAll_60 : decode mX11_goAll.2.1 60 = .ok (.iadd, 1) ∧ 60 + 1 = 61 := ⟨by decide +kernel, rfl⟩
theorem aX11_goAll_61 : decode mX11_goAll.2.1 61 = .ok (.iaload, 1) ∧ 61 + 1 = 62 := ⟨by decide +kernel, rfl⟩
theorem aX11_goAll_62 : decode mX11_goAll.2.1 62 = .ok (.istore 7, 2) ∧ 62 + 2 = 64 := ⟨by decide +kernel, rfl⟩
theorem aX11_goAll_64 : decode mX11_goAll.2.1 64 = .ok (.aload_n 0, 1) ∧ 64 + 1 = 65 := ⟨by decide +kernel, rfl⟩
theorem aX11_goAll_65 : decode mX11_goAll.2.1 65 = .ok (.getfield 83, 3) ∧ 65 + 3 = 68 := ⟨by decide +kernel, rfl⟩
theorem aX11_goAll_68 : decode mX11_goAll.2.1 68 = .ok (.invokevirtual 197, 3) ∧ 68 + 3 = 71 := ⟨by decide +kernel, rfl⟩
theorem aX11_goAll_71 : decode mX11_goAll.2.1 71 = .ok (.ifCond .ne 29, 3) ∧ ((71 : Nat) : Int) + 29 = ((100 : Nat) : Int) ∧ 71 + 3 = 74 := ⟨by decide +kernel, by decide, rfl⟩
theorem aX11_goAll_74 : decode mX11_goAll.2.1 74 = .ok (.aload_n 0, 1) ∧ 74 + 1 = 75 := ⟨by decide +kernel, rfl⟩
theorem aX11_goAll_75 : decode mX11_goAll.2.1 75 = .ok (.getfield 83, 3) ∧ 75 + 3 = 78 := ⟨by decide +kernel, rfl⟩
theorem aX11_goAll_78 : decode mX11_goAll.2.1 78 = .ok (.iload 7, 2) ∧ 78 + 2 = 80 := ⟨by decide +kernel, rfl⟩
theorem aX11_goAll_80 : decode mX11_goAll.2.1 80 = .ok (.invokevirtual 320, 3) ∧ 80 + 3 = 83 := ⟨by decide +kernel, rfl⟩
theorem aX11_goAll_83 : decode mX11_goAll.2.1 83 = .ok (.ifCond .eq 17, 3) ∧ ((83 : Nat) : Int) + 17 = ((100 : Nat) : Int) ∧ 83 + 3 = 86 := ⟨by decide +kernel, by decide, rfl⟩
theorem aX11_goAll_86 : decode mX11_goAll.2.1 86 = .ok (.iload 5, 2) ∧ 86 + 2 = 88 := ⟨by decide +kernel, rfl⟩
theorem aX11_goAll_88 : decode mX11_goAll.2.1 88 = .ok (.aload_n 0, 1) ∧ 88 + 1 = 89 := ⟨by decide +kernel, rfl⟩
theorem aX11_goAll_89 : decode mX11_goAll.2.1 89 = .ok (.getfield 83, 3) ∧ 89 + 3 = 92 := ⟨by decide +kernel, rfl⟩
theorem aX11_goAll_92 : decode mX11_goAll.2.1 92 = .ok (.iload 7, 2) ∧ 92 + 2 = 94 := ⟨by decide +kernel, rfl⟩
theorem aX11_goAll_94 : decode mX11_goAll.2.1 94 = .ok (.invokevirtual 314, 3) ∧ 94 + 3 = 97 := ⟨by decide +kernel, rfl⟩
theorem aX11_goAll_97 : decode mX11_goAll.2.1 97 = .ok (.iadd, 1) ∧ 97 + 1 = 98 := ⟨by decide +kernel, rfl⟩
theorem aX11_goAll_98 : decode mX11_goAll.2.1 98 = .ok (.istore 5, 2) ∧ 98 + 2 = 100 := ⟨by decide +kernel, rfl⟩
theorem aX11_goAll_100 : decode mX11_goAll.2.1 100 = .ok (.iinc 6 1, 3) ∧ 100 + 3 = 103 := ⟨by decide +kernel, rfl⟩
theorem aX11_goAll_103 : decode mX11_goAll.2.1 103 = .ok (.goto (-81), 3) ∧ ((103 : Nat) : Int) + (-81) = ((22 : Nat) : Int) := ⟨by decide +kernel, by decide⟩
theorem aX11_goAll_106 : decode mX11_goAll.2.1 106 = .ok (.iload 5, 2) ∧ 106 + 2 = 108 := ⟨by decide +kernel, rfl⟩
theorem aX11_goAll_108 : decode mX11_goAll.2.1 108 = .ok (.ireturn, 1) := by decide +kernel
theorem S_X11_goAll {E : EE} {d : Nat} {I : IH} {Q : QT} (x1 : Int32) (x2 : Int32) (x3 : Int32) (h :
(Mt E d mX11_refusalOfActs [.ref (eb E + 0), .int x1, .int x3] I (fun rv I1 => ∃ v2 : Int32, rv = some (.int v2) ∧
 ((0 ≤ v2 → J E (d + 1) mX11_goAll 22 [(0, .ref (eb E + 0)), (1, .int x1), (2, .int x2), (3, .int x3), (5, .int (nI 0)), (6, .int (nI 0))] [] I1 Q) ∧
 (¬ 0 ≤ v2 → Q (some (.int v2)) I1))))) : Mt E (d + 1) mX11_goAll [.ref (eb E + 0), .int x1, .int x2, .int x3] I Q := by
  refine Mt_of [(0, .ref (eb E + 0)), (1, .int x1), (2, .int x2), (3, .int x3)] (by decide +kernel) (by simp [lg_sl, Value.category, mX11_goAll]) rfl ?_
  refine J_aload_n 0 aX11_goAll_0 rfl ?_
  refine J_iload_n 1 aX11_goAll_1 rfl ?_
  refine J_iload_n 3 aX11_goAll_2 rfl ?_
  refine J_callV [.int x1, .int x3] [] aX11_goAll_3 lkX11_335_X11 okX11_refusalOfActs sh0 rfl rfl rfl (Nat.le_of_ble_eq_true rfl) (Nat.le_refl _) (Mt_mono h (fun rv I1 h => ?_))
  obtain ⟨v2, rfl, h⟩ := h
  refine J_r1 ?_
  refine J_istore [(4, .int v2), (0, .ref (eb E + 0)), (1, .int x1), (2, .int x2), (3, .int x3)] aX11_goAll_6 (by decide) rfl ?_
  refine J_iload 0 aX11_goAll_8 rfl ?_
  refine J_if_ge aX11_goAll_10 (fun q => ?_) (fun q => ?_)
  · replace h := h.1 q
    refine J_iconst (nI 0) aX11_goAll_16 (by decide +kernel) ?_
    refine J_istore [(5, .int (nI 0)), (4, .int v2), (0, .ref (eb E + 0)), (1, .int x1), (2, .int x2), (3, .int x3)] aX11_goAll_17 (by decide) rfl ?_
    refine J_iconst (nI 0) aX11_goAll_19 (by decide +kernel) ?_
    refine J_istore [(6, .int (nI 0)), (5, .int (nI 0)), (4, .int v2), (0, .ref (eb E + 0)), (1, .int x1), (2, .int x2), (3, .int x3)] aX11_goAll_20 (by decide) rfl ?_
    refine J_pick [3, 4, 5, 6, 1, 0] rfl ?_
    exact h
  · replace h := h.2 q
    refine J_iload 0 aX11_goAll_13 rfl ?_
    exact J_iret aX11_goAll_15 rfl h
theorem S_X11_goAll_22 {E : EE} {d : Nat} {I : IH} {Q : QT} (x1 : Int32) (x2 : Int32) (x3 : Int32) (x5 : Int32) (x6 : Int32) (h :
((x3 ≤ x6 → Q (some (.int x5)) I) ∧
 (¬ x3 ≤ x6 → ((x2 < 0 → Q (some (.int (-12))) I) ∧
 (¬ x2 < 0 → (∃ j1 : Nat, x1 = nI j1 ∧ j1 < 4 ∧ ((x2 < ((I 15 j1) - x6) → (∃ j4 : Nat, (((x1 * (nI 40)) + x2) + x6) = nI j4 ∧ j4 < 160 ∧ (Mt E d mX1_isOver [.ref (eb E + 33)] I (fun rv I7 => ∃ v8 : Int32, rv = some (.int v8) ∧
 ((¬ v8 = 0 → J E (d + 1) mX11_goAll 22 [(0, .ref (eb E + 0)), (1, .int x1), (2, .int x2), (3, .int x3), (5, .int x5), (6, .int (x6 + nI 1))] [] I7 Q) ∧
 (v8 = 0 → (Mt E d mX1_isAct [.ref (eb E + 33), .int (I 16 j4)] I7 (fun rv I9 => ∃ v10 : Int32, rv = some (.int v10) ∧
 ((v10 = 0 → J E (d + 1) mX11_goAll 22 [(0, .ref (eb E + 0)), (1, .int x1), (2, .int x2), (3, .int x3), (5, .int x5), (6, .int (x6 + nI 1))] [] I9 Q) ∧
 (¬ v10 = 0 → (Mt E d mX1_go [.ref (eb E + 33), .int (I 16 j4)] I9 (fun rv I11 => ∃ v12 : Int32, rv = some (.int v12) ∧
 J E (d + 1) mX11_goAll 22 [(0, .ref (eb E + 0)), (1, .int x1), (2, .int x2), (3, .int x3), (5, .int (x5 + v12)), (6, .int (x6 + nI 1))] [] I11 Q)))))))))))) ∧
 (¬ x2 < ((I 15 j1) - x6) → Q (some (.int (-12))) I)))))))) : J E (d + 1) mX11_goAll 22 [(0, .ref (eb E + 0)), (1, .int x1), (2, .int x2), (3, .int x3), (5, .int x5), (6, .int x6)] [] I Q := by
  refine J_iload 5 aX11_goAll_22 rfl ?_
  refine J_iload_n 3 aX11_goAll_24 rfl ?_
  refine J_icmp_ge aX11_goAll_25 (fun q => ?_) (fun q => ?_)
  · replace h := h.1 q
    refine J_iload 4 aX11_goAll_106 rfl ?_
    exact J_iret aX11_goAll_108 rfl h
  · replace h := h.2 q
    refine J_iload_n 2 aX11_goAll_28 rfl ?_
    refine J_if_lt aX11_goAll_29 (fun q => ?_) (fun q => ?_)
    · replace h := h.1 q
      refine J_bipush (-12) aX11_goAll_45 (by decide +kernel) ?_
      exact J_iret aX11_goAll_47 rfl h
    · replace h := h.2 q
      refine J_iload_n 2 aX11_goAll_32 rfl ?_
      refine J_aload_n 0 aX11_goAll_33 rfl ?_
      refine J_getR aX11_goAll_34 flX11_45 sh0 rfl ?_
      refine J_iload_n 1 aX11_goAll_37 rfl ?_
      obtain ⟨j1, e2, b3, h⟩ := h
      refine J_iaload j1 aX11_goAll_38 sh15 e2 b3 (by decide) ?_
      refine J_iload 5 aX11_goAll_39 rfl ?_
      refine J_isub aX11_goAll_41 ?_
      refine J_icmp_lt aX11_goAll_42 (fun q => ?_) (fun q => ?_)
      · replace h := h.1 q
        refine J_aload_n 0 aX11_goAll_48 rfl ?_
        refine J_getR aX11_goAll_49 flX11_48 sh0 rfl ?_
        refine J_iload_n 1 aX11_goAll_52 rfl ?_
        refine J_bipush (nI 40) aX11_goAll_53 (by decide +kernel) ?_
        refine J_imul aX11_goAll_55 ?_
        refine J_iload_n 2 aX11_goAll_56 rfl ?_
        refine J_iadd aX11_goAll_57 ?_
        refine J_iload 5 aX11_goAll_58 rfl ?_
        refine J_iadd aX11_goAll_60 ?_
        obtain ⟨j4, e5, b6, h⟩ := h
        refine J_iaload j4 aX11_goAll_61 sh16 e5 b6 (by decide) ?_
        refine J_istore [(7, .int (I 16 j4)), (0, .ref (eb E + 0)), (1, .int x1), (2, .int x2), (3, .int x3), (5, .int x5), (6, .int x6)] aX11_goAll_62 (by decide) rfl ?_
        refine J_aload_n 1 aX11_goAll_64 rfl ?_
        refine J_getR aX11_goAll_65 flX11_83 sh0 rfl ?_
        refine J_callV [] [] aX11_goAll_68 lkX11_197_X1 okX1_isOver sh33 rfl rfl rfl (Nat.le_of_ble_eq_true rfl) (Nat.le_refl _) (Mt_mono h (fun rv I7 h => ?_))
        obtain ⟨v8, rfl, h⟩ := h
        refine J_r1 ?_
        refine J_if_ne aX11_goAll_71 (fun q => ?_) (fun q => ?_)
        · replace h := h.1 q
          refine J_iinc (x6 + nI 1) [(6, .int (x6 + nI 1)), (7, .int (I 16 j4)), (0, .ref (eb E + 0)), (1, .int x1), (2, .int x2), (3, .int x3), (5, .int x5)] 6 aX11_goAll_100 rfl (by first | rfl | (congr 1; decide +kernel)) (by decide) rfl ?_
          refine J_goto aX11_goAll_103 ?_
          refine J_pick [2, 3, 4, 5, 6, 0] rfl ?_
          exact h
        · replace h := h.2 q
          refine J_aload_n 1 aX11_goAll_74 rfl ?_
          refine J_getR aX11_goAll_75 flX11_83 sh0 rfl ?_
          refine J_iload 0 aX11_goAll_78 rfl ?_
          refine J_callV [.int (I 16 j4)] [] aX11_goAll_80 lkX11_320_X1 okX1_isAct sh33 rfl rfl rfl (Nat.le_of_ble_eq_true rfl) (Nat.le_refl _) (Mt_mono h (fun rv I9 h => ?_))
          obtain ⟨v10, rfl, h⟩ := h
          refine J_r1 ?_
          refine J_if_eq aX11_goAll_83 (fun q => ?_) (fun q => ?_)
          · replace h := h.1 q
            refine J_iinc (x6 + nI 1) [(6, .int (x6 + nI 1)), (7, .int (I 16 j4)), (0, .ref (eb E + 0)), (1, .int x1), (2, .int x2), (3, .int x3), (5, .int x5)] 6 aX11_goAll_100 rfl (by first | rfl | (congr 1; decide +kernel)) (by decide) rfl ?_
            refine J_goto aX11_goAll_103 ?_
            refine J_pick [2, 3, 4, 5, 6, 0] rfl ?_
            exact h
          · replace h := h.2 q
            refine J_iload 5 aX11_goAll_86 rfl ?_
            refine J_aload_n 1 aX11_goAll_88 rfl ?_
            refine J_getR aX11_goAll_89 flX11_83 sh0 rfl ?_
            refine J_iload 0 aX11_goAll_92 rfl ?_
            refine J_callV [.int (I 16 j4)] [.int x5] aX11_goAll_94 lkX11_314_X1 okX1_go sh33 rfl rfl rfl (Nat.le_of_ble_eq_true rfl) (Nat.le_refl _) (Mt_mono h (fun rv I11 h => ?_))
            obtain ⟨v12, rfl, h⟩ := h
            refine J_r1 ?_
            refine J_iadd aX11_goAll_97 ?_
            refine J_istore [(5, .int (x5 + v12)), (7, .int (I 16 j4)), (0, .ref (eb E + 0)), (1, .int x1), (2, .int x2), (3, .int x3), (6, .int x6)] aX11_goAll_98 (by decide) rfl ?_
            refine J_iinc (x6 + nI 1) [(6, .int (x6 + nI 1)), (5, .int (x5 + v12)), (7, .int (I 16 j4)), (0, .ref (eb E + 0)), (1, .int x1), (2, .int x2), (3, .int x3)] 6 aX11_goAll_100 rfl (by first | rfl | (congr 1; decide +kernel)) (by decide) rfl ?_
            refine J_goto aX11_goAll_103 ?_
            refine J_pick [3, 4, 5, 6, 1, 0] rfl ?_
            exact h
      · replace h := h.2 q
        refine J_bipush (-12) aX11_goAll_45 (by decide +kernel) ?_
        exact J_iret aX11_goAll_47 rfl h
theorem aX11_wouldBe_0 : decode mX11_wouldBe.2.1 0 = .ok (.aload_n 0, 1) ∧ 0 + 1 = 1 := ⟨by decide +kernel, rfl⟩
theorem aX11_wouldBe_1 : decode mX11_wouldBe.2.1 1 = .ok (.iload_n 1, 1) ∧ 1 + 1 = 2 := ⟨by decide +kernel, rfl⟩
theorem aX11_wouldBe_2 : decode mX11_wouldBe.2.1 2 = .ok (.iload_n 3, 1) ∧ 2 + 1 = 3 := ⟨by decide +kernel, rfl⟩
theorem aX11_wouldBe_3 : decode mX11_wouldBe.2.1 3 = .ok (.invokevirtual 335, 3) ∧ 3 + 3 = 6 := ⟨by decide +kernel, rfl⟩
theorem aX11_wouldBe_6 : decode mX11_wouldBe.2.1 6 = .ok (.istore 4, 2) ∧ 6 + 2 = 8 := ⟨by decide +kernel, rfl⟩
theorem aX11_wouldBe_8 : decode mX11_wouldBe.2.1 8 = .ok (.iload 4, 2) ∧ 8 + 2 = 10 := ⟨by decide +kernel, rfl⟩
theorem aX11_wouldBe_10 : decode mX11_wouldBe.2.1 10 = .ok (.ifCond .ge 6, 3) ∧ ((10 : Nat) : Int) + 6 = ((16 : Nat) : Int) ∧ 10 + 3 = 13 := ⟨by decide +kernel, by decide, rfl⟩
theorem aX11_wouldBe_13 : decode mX11_wouldBe.2.1 13 = .ok (.iload 4, 2) ∧ 13 + 2 = 15 := ⟨by decide +kernel, rfl⟩
theorem aX11_wouldBe_15 : decode mX11_wouldBe.2.1 15 = .ok (.ireturn, 1) := by decide +kernel
theorem aX11_wouldBe_16 : decode mX11_wouldBe.2.1 16 = .ok (.aload_n 0, 1) ∧ 16 + 1 = 17 := ⟨by decide +kernel, rfl⟩
theorem aX11_wouldBe_17 : decode mX11_wouldBe.2.1 17 = .ok (.getfield 90, 3) ∧ 17 + 3 = 20 := ⟨by decide +kernel, rfl⟩
theorem aX11_wouldBe_20 : decode mX11_wouldBe.2.1 20 = .ok (.aload_n 0, 1) ∧ 20 + 1 = 21 := ⟨by decide +kernel, rfl⟩
theorem aX11_wouldBe_21 : decode mX11_wouldBe.2.1 21 = .ok (.getfield 83, 3) ∧ 21 + 3 = 24 := ⟨by decide +kernel, rfl⟩
theorem aX11_wouldBe_24 : decode mX11_wouldBe.2.1 24 = .ok (.invokevirtual 227, 3) ∧ 24 + 3 = 27 := ⟨by decide +kernel, rfl⟩
theorem aX11_wouldBe_27 : decode mX11_wouldBe.2.1 27 = .ok (.iconst 0, 1) ∧ 27 + 1 = 28 := ⟨by decide +kernel, rfl⟩
theorem aX11_wouldBe_28 : decode mX11_wouldBe.2.1 28 = .ok (.istore 5, 2) ∧ 28 + 2 = 30 := ⟨by decide +kernel, rfl⟩
theorem aX11_wouldBe_30 : decode mX11_wouldBe.2.1 30 = .ok (.iconst 0, 1) ∧ 30 + 1 = 31 := ⟨by decide +kernel, rfl⟩
theorem aX11_wouldBe_31 : decode mX11_wouldBe.2.1 31 = .ok (.istore 6, 2) ∧ 31 + 2 = 33 := ⟨by decide +kernel, rfl⟩
theorem aX11_wouldBe_33 : decode mX11_wouldBe.2.1 33 = .ok (.iload 6, 2) ∧ 33 + 2 = 35 := ⟨by decide +kernel, rfl⟩
theorem aX11_wouldBe_35 : decode mX11_wouldBe.2.1 35 = .ok (.iload_n 3, 1) ∧ 35 + 1 = 36 := ⟨by decide +kernel, rfl⟩
theorem aX11_wouldBe_36 : decode mX11_wouldBe.2.1 36 = .ok (.if_icmp .ge 84, 3) ∧ ((36 : Nat) : Int) + 84 = ((120 : Nat) : Int) ∧ 36 + 3 = 39 := ⟨by decide +kernel, by decide, rfl⟩
theorem aX11_wouldBe_39 : decode mX11_wouldBe.2.1 39 = .ok (.iload_n 2, 1) ∧ 39 + 1 = 40 := ⟨by decide +kernel, rfl⟩
theorem aX11_wouldBe_40 : decode mX11_wouldBe.2.1 40 = .ok (.ifCond .lt 16, 3) ∧ ((40 : Nat) : Int) + 16 = ((56 : Nat) : Int) ∧ 40 + 3 = 43 := ⟨by decide +kernel, by decide, rfl⟩
theorem aX11_wouldBe_43 : decode mX11_wouldBe.2.1 43 = .ok (.iload_n 2, 1) ∧ 43 + 1 = 44 := ⟨by decide +kernel, rfl⟩
theorem aX11_wouldBe_44 : decode mX11_wouldBe.2.1 44 = .ok (.aload_n 0, 1) ∧ 44 + 1 = 45 := ⟨by decide +kernel, rfl⟩
theorem aX11_wouldBe_45 : decode mX11_wouldBe.2.1 45 = .ok (.getfield 45, 3) ∧ 45 + 3 = 48 := ⟨by decide +kernel, rfl⟩
theorem aX11_wouldBe_48 : decode mX11_wouldBe.2.1 48 = .ok (.iload_n 1, 1) ∧ 48 + 1 = 49 := ⟨by decide +kernel, rfl⟩
theorem aX11_wouldBe_49 : decode mX11_wouldBe.2.1 49 = .ok (.iaload, 1) ∧ 49 + 1 = 50 := ⟨by decide +kernel, rfl⟩
theorem aX11_wouldBe_50 : decode mX11_wouldBe.2.1 50 = .ok (.iload 6, 2) ∧ 50 + 2 = 52 := ⟨by decide +kernel, rfl⟩
theorem aX11_wouldBe_52 : decode mX11_wouldBe.2.1 52 = .ok (.isub, 1) ∧ 52 + 1 = 53 := ⟨by decide +kernel, rfl⟩
theorem aX11_wouldBe_53 : decode mX11_wouldBe.2.1 53 = .ok (.if_icmp .lt 6, 3) ∧ ((53 : Nat) : Int) + 6 = ((59 : Nat) : Int) ∧ 53 + 3 = 56 := ⟨by decide +kernel, by decide, rfl⟩
theorem aX11_wouldBe_56 : decode mX11_wouldBe.2.1 56 = .ok (.bipush (-12), 2) ∧ 56 + 2 = 58 := ⟨by decide +kernel, rfl⟩
theorem aX11_wouldBe_58 : decode mX11_wouldBe.2.1 58 = .ok (.ireturn, 1) := by decide +kernel
theorem aX11_wouldBe_59 : decode mX11_wouldBe.2.1 59 = .ok (.aload_n 0, 1) ∧ 59 + 1 = 60 := ⟨by decide +kernel, rfl⟩
theorem aX11_wouldBe_60 : decode mX11_wouldBe.2.1 60 = .ok (.getfield 48, 3) ∧ 60 + 3 = 63 := ⟨by decide +kernel, rfl⟩
theorem aX11_wouldBe_63 : decode mX11_wouldBe.2.1 63 = .ok (.iload_n 1, 1) ∧ 63 + 1 = 64 := ⟨by decide +kernel, rfl⟩
theorem aX11_wouldBe_64 : decode mX11_wouldBe.2.1 64 = .ok (.bipush 40, 2) ∧ 64 + 2 = 66 := ⟨by decide +kernel, rfl⟩
theorem aX11_wouldBe_66 : decode mX11_wouldBe.2.1 66 = .ok (.imul, 1) ∧ 66 + 1 = 67 := ⟨by decide +kernel, rfl⟩
theorem aX11_wouldBe_67 : decode mX11_wouldBe.2.1 67 = .ok (.iload_n 2, 1) ∧ 67 + 1 = 68 := ⟨by decide +kernel, rfl⟩
theorem aX11_wouldBe_68 : decode mX11_wouldBe.2.1 68 = .ok (.iadd, 1) ∧ 68 + 1 = 69 := ⟨by decide +kernel, rfl⟩
theorem aX11_wouldBe_69 : decode mX11_wouldBe.2.1 69 = .ok (.iload 6, 2) ∧ 69 + 2 = 71 := ⟨by decide +kernel, rfl⟩
theorem aX11_wouldBe_71 : decode mX11_wouldBe.2.1 71 = .ok (.iadd, 1) ∧ 71 + 1 = 72 := ⟨by decide +kernel, rfl⟩
theorem aX11_wouldBe_72 : decode mX11_wouldBe.2.1 72 = .ok (.iaload, 1) ∧ 72 + 1 = 73 := ⟨by decide +kernel, rfl⟩
theorem aX11_wouldBe_73 : decode mX11_wouldBe.2.1 73 = .ok (.istore 7, 2) ∧ 73 + 2 = 75 := ⟨by decide +kernel, rfl⟩
theorem aX11_wouldBe_75 : decode mX11_wouldBe.2.1 75 = .ok (.aload_n 0, 1) ∧ 75 + 1 = 76 := ⟨by decide +kernel, rfl⟩
theorem aX11_wouldBe_76 : decode mX11_wouldBe.2.1 76 = .ok (.getfield 90, 3) ∧ 76 + 3 = 79 := ⟨by decide +kernel, rfl⟩
theorem aX11_wouldBe_79 : decode mX11_wouldBe.2.1 79 = .ok (.invokevirtual 197, 3) ∧ 79 + 3 = 82 := ⟨by decide +kernel, rfl⟩
theorem aX11_wouldBe_82 : decode mX11_wouldBe.2.1 82 = .ok (.ifCond .ne 15, 3) ∧ ((82 : Nat) : Int) + 15 = ((97 : Nat) : Int) ∧ 82 + 3 = 85 := ⟨by decide +kernel, by decide, rfl⟩
theorem aX11_wouldBe_85 : decode mX11_wouldBe.2.1 85 = .ok (.aload_n 0, 1) ∧ 85 + 1 = 86 := ⟨by decide +kernel, rfl⟩
theorem aX11_wouldBe_86 : decode mX11_wouldBe.2.1 86 = .ok (.getfield 90, 3) ∧ 86 + 3 = 89 := ⟨by decide +kernel, rfl⟩
theorem aX11_wouldBe_89 : decode mX11_wouldBe.2.1 89 = .ok (.iload 7, 2) ∧ 89 + 2 = 91 := ⟨by decide +kernel, rfl⟩
theorem aX11_wouldBe_91 : decode mX11_wouldBe.2.1 91 = .ok (.invokevirtual 320, 3) ∧ 91 + 3 = 94 := ⟨by decide +kernel, rfl⟩
theorem aX11_wouldBe_94 : decode mX11_wouldBe.2.1 94 = .ok (.ifCond .ne 6, 3) ∧ ((94 : Nat) : Int) + 6 = ((100 : Nat) : Int) ∧ 94 + 3 = 97 := ⟨by decide +kernel, by decide, rfl⟩
theorem aX11_wouldBe_97 : decode mX11_wouldBe.2.1 97 = .ok (.bipush (-4), 2) ∧ 97 + 2 = 99 := ⟨by decide +kernel, rfl⟩
theorem aX11_wouldBe_99 : decode mX11_wouldBe.2.1 99 = .ok (.ireturn, 1) := by decide +kernel
theorem aX11_wouldBe_100 : decode mX11_wouldBe.2.1 100 = .ok (.iload 5, 2) ∧ 100 + 2 = 102 := ⟨by decide +kernel, rfl⟩
theorem aX11_wouldBe_102 : decode mX11_wouldBe.2.1 102 = .ok (.aload_n 0, 1) ∧ 102 + 1 = 103 := ⟨by decide +kernel, rfl⟩
theorem aX11_wouldBe_103 : decode mX11_wouldBe.2.1 103 = .ok (.getfield 90, 3) ∧ 103 + 3 = 106 := ⟨by decide +kernel, rfl⟩
theorem aX11_wouldBe_106 : decode mX11_wouldBe.2.1 106 = .ok (.iload 7, 2) ∧ 106 + 2 = 108 := ⟨by decide +kernel, rfl⟩
theorem aX11_wouldBe_108 : decode mX11_wouldBe.2.1 108 = .ok (.invokevirtual 314, 3) ∧ 108 + 3 = 111 := ⟨by decide +kernel, rfl⟩
theorem aX11_wouldBe_111 : decode mX11_wouldBe.2.1 111 = .ok (.iadd, 1) ∧ 111 + 1 = 112 := ⟨by decide +kernel, rfl⟩
theorem aX11_wouldBe_112 : decode mX11_wouldBe.2.1 112 = .ok (.istore 5, 2) ∧ 112 + 2 = 114 := ⟨by decide +kernel, rfl⟩
theorem aX11_wouldBe_114 : decode mX11_wouldBe.2.1 114 = .ok (.iinc 6 1, 3) ∧ 114 + 3 = 117 := ⟨by decide +kernel, rfl⟩
theorem aX11_wouldBe_117 : decode mX11_wouldBe.2.1 117 = .ok (.goto (-84), 3) ∧ ((117 : Nat) : Int) + (-84) = ((33 : Nat) : Int) := ⟨by decide +kernel, by decide⟩
theorem aX11_wouldBe_120 : decode mX11_wouldBe.2.1 120 = .ok (.iload 5, 2) ∧ 120 + 2 = 122 := ⟨by decide +kernel, rfl⟩
theorem aX11_wouldBe_122 : decode mX11_wouldBe.2.1 122 = .ok (.ireturn, 1) := by decide +kernel
theorem S_X11_wouldBe {E : EE} {d : Nat} {I : IH} {Q : QT} (x1 : Int32) (x2 : Int32) (x3 : Int32) (h :
(Mt E d mX11_refusalOfActs [.ref (eb E + 0), .int x1, .int x3] I (fun rv I1 => ∃ v2 : Int32, rv = some (.int v2) ∧
 ((0 ≤ v2 → (Mt E d mX1_become [.ref (eb E + 57), .ref (eb E + 33)] I1 (fun rv I3 => rv = none ∧
 J E (d + 1) mX11_wouldBe 33 [(0, .ref (eb E + 0)), (1, .int x1), (2, .int x2), (3, .int x3), (5, .int (nI 0)), (6, .int (nI 0))] [] I3 Q))) ∧
 (¬ 0 ≤ v2 → Q (some (.int v2)) I1))))) : Mt E (d + 1) mX11_wouldBe [.ref (eb E + 0), .int x1, .int x2, .int x3] I Q := by
  refine Mt_of [(0, .ref (eb E + 0)), (1, .int x1), (2, .int x2), (3, .int x3)] (by decide +kernel) (by simp [lg_sl, Value.category, mX11_wouldBe]) rfl ?_
  refine J_aload_n 0 aX11_wouldBe_0 rfl ?_
  refine J_iload_n 1 aX11_wouldBe_1 rfl ?_
  refine J_iload_n 3 aX11_wouldBe_2 rfl ?_
  refine J_callV [.int x1, .int x3] [] aX11_wouldBe_3 lkX11_335_X11 okX11_refusalOfActs sh0 rfl rfl rfl (Nat.le_of_ble_eq_true rfl) (Nat.le_refl _) (Mt_mono h (fun rv I1 h => ?_))
  obtain ⟨v2, rfl, h⟩ := h
  refine J_r1 ?_
  refine J_istore [(4, .int v2), (0, .ref (eb E + 0)), (1, .int x1), (2, .int x2), (3, .int x3)] aX11_wouldBe_6 (by decide) rfl ?_
  refine J_iload 0 aX11_wouldBe_8 rfl ?_
  refine J_if_ge aX11_wouldBe_10 (fun q => ?_) (fun q => ?_)
  · replace h := h.1 q
    refine J_aload_n 1 aX11_wouldBe_16 rfl ?_
    refine J_getR aX11_wouldBe_17 flX11_90 sh0 rfl ?_
    refine J_aload_n 1 aX11_wouldBe_20 rfl ?_
    refine J_getR aX11_wouldBe_21 flX11_83 sh0 rfl ?_
    refine J_callV [.ref (eb E + 33)] [] aX11_wouldBe_24 lkX11_227_X1 okX1_become sh57 rfl rfl rfl (Nat.le_of_ble_eq_true rfl) (Nat.le_refl _) (Mt_mono h (fun rv I3 h => ?_))
    obtain ⟨rfl, h⟩ := h
    refine J_r0 ?_
    refine J_iconst (nI 0) aX11_wouldBe_27 (by decide +kernel) ?_
    refine J_istore [(5, .int (nI 0)), (4, .int v2), (0, .ref (eb E + 0)), (1, .int x1), (2, .int x2), (3, .int x3)] aX11_wouldBe_28 (by decide) rfl ?_
    refine J_iconst (nI 0) aX11_wouldBe_30 (by decide +kernel) ?_
    refine J_istore [(6, .int (nI 0)), (5, .int (nI 0)), (4, .int v2), (0, .ref (eb E + 0)), (1, .int x1), (2, .int x2), (3, .int x3)] aX11_wouldBe_31 (by decide) rfl ?_
    refine J_pick [3, 4, 5, 6, 1, 0] rfl ?_
    exact h
  · replace h := h.2 q
    refine J_iload 0 aX11_wouldBe_13 rfl ?_
    exact J_iret aX11_wouldBe_15 rfl h
theorem S_X11_wouldBe_33 {E : EE} {d : Nat} {I : IH} {Q : QT} (x1 : Int32) (x2 : Int32) (x3 : Int32) (x5 : Int32) (x6 : Int32) (h :
((x3 ≤ x6 → Q (some (.int x5)) I) ∧
 (¬ x3 ≤ x6 → ((x2 < 0 → Q (some (.int (-12))) I) ∧
 (¬ x2 < 0 → (∃ j1 : Nat, x1 = nI j1 ∧ j1 < 4 ∧ ((x2 < ((I 15 j1) - x6) → (∃ j4 : Nat, (((x1 * (nI 40)) + x2) + x6) = nI j4 ∧ j4 < 160 ∧ (Mt E d mX1_isOver [.ref (eb E + 57)] I (fun rv I7 => ∃ v8 : Int32, rv = some (.int v8) ∧
 ((¬ v8 = 0 → Q (some (.int (-4))) I7) ∧
 (v8 = 0 → (Mt E d mX1_isAct [.ref (eb E + 57), .int (I 16 j4)] I7 (fun rv I9 => ∃ v10 : Int32, rv = some (.int v10) ∧
 ((¬ v10 = 0 → (Mt E d mX1_go [.ref (eb E + 57), .int (I 16 j4)] I9 (fun rv I11 => ∃ v12 : Int32, rv = some (.int v12) ∧
 J E (d + 1) mX11_wouldBe 33 [(0, .ref (eb E + 0)), (1, .int x1), (2, .int x2), (3, .int x3), (5, .int (x5 + v12)), (6, .int (x6 + nI 1))] [] I11 Q))) ∧
 (v10 = 0 → Q (some (.int (-4))) I9)))))))))) ∧
 (¬ x2 < ((I 15 j1) - x6) → Q (some (.int (-12))) I)))))))) : J E (d + 1) mX11_wouldBe 33 [(0, .ref (eb E + 0)), (1, .int x1), (2, .int x2), (3, .int x3), (5, .int x5), (6, .int x6)] [] I Q := by
  refine J_iload 5 aX11_wouldBe_33 rfl ?_
  refine J_iload_n 3 aX11_wouldBe_35 rfl ?_
  refine J_icmp_ge aX11_wouldBe_36 (fun q => ?_) (fun q => ?_)
  · replace h := h.1 q
    refine J_iload 4 aX11_wouldBe_120 rfl ?_
    exact J_iret aX11_wouldBe_122 rfl h
  · replace h := h.2 q
    refine J_iload_n 2 aX11_wouldBe_39 rfl ?_
    refine J_if_lt aX11_wouldBe_40 (fun q => ?_) (fun q => ?_)
    · replace h := h.1 q
      refine J_bipush (-12) aX11_wouldBe_56 (by decide +kernel) ?_
      exact J_iret aX11_wouldBe_58 rfl h
    · replace h := h.2 q
      refine J_iload_n 2 aX11_wouldBe_43 rfl ?_
      refine J_aload_n 0 aX11_wouldBe_44 rfl ?_
      refine J_getR aX11_wouldBe_45 flX11_45 sh0 rfl ?_
      refine J_iload_n 1 aX11_wouldBe_48 rfl ?_
      obtain ⟨j1, e2, b3, h⟩ := h
      refine J_iaload j1 aX11_wouldBe_49 sh15 e2 b3 (by decide) ?_
      refine J_iload 5 aX11_wouldBe_50 rfl ?_
      refine J_isub aX11_wouldBe_52 ?_
      refine J_icmp_lt aX11_wouldBe_53 (fun q => ?_) (fun q => ?_)
      · replace h := h.1 q
        refine J_aload_n 0 aX11_wouldBe_59 rfl ?_
        refine J_getR aX11_wouldBe_60 flX11_48 sh0 rfl ?_
        refine J_iload_n 1 aX11_wouldBe_63 rfl ?_
        refine J_bipush (nI 40) aX11_wouldBe_64 (by decide +kernel) ?_
        refine J_imul aX11_wouldBe_66 ?_
        refine J_iload_n 2 aX11_wouldBe_67 rfl ?_
        refine J_iadd aX11_wouldBe_68 ?_
        refine J_iload 5 aX11_wouldBe_69 rfl ?_
        refine J_iadd aX11_wouldBe_71 ?_
        obtain ⟨j4, e5, b6, h⟩ := h
        refine J_iaload j4 aX11_wouldBe_72 sh16 e5 b6 (by decide) ?_
        refine J_istore [(7, .int (I 16 j4)), (0, .ref (eb E + 0)), (1, .int x1), (2, .int x2), (3, .int x3), (5, .int x5), (6, .int x6)] aX11_wouldBe_73 (by decide) rfl ?_
        refine J_aload_n 1 aX11_wouldBe_75 rfl ?_
        refine J_getR aX11_wouldBe_76 flX11_90 sh0 rfl ?_
        refine J_callV [] [] aX11_wouldBe_79 lkX11_197_X1 okX1_isOver sh57 rfl rfl rfl (Nat.le_of_ble_eq_true rfl) (Nat.le_refl _) (Mt_mono h (fun rv I7 h => ?_))
        obtain ⟨v8, rfl, h⟩ := h
        refine J_r1 ?_
        refine J_if_ne aX11_wouldBe_82 (fun q => ?_) (fun q => ?_)
        · replace h := h.1 q
          refine J_bipush (-4) aX11_wouldBe_97 (by decide +kernel) ?_
          exact J_iret aX11_wouldBe_99 rfl h
        · replace h := h.2 q
          refine J_aload_n 1 aX11_wouldBe_85 rfl ?_
          refine J_getR aX11_wouldBe_86 flX11_90 sh0 rfl ?_
          refine J_iload 0 aX11_wouldBe_89 rfl ?_
          refine J_callV [.int (I 16 j4)] [] aX11_wouldBe_91 lkX11_320_X1 okX1_isAct sh57 rfl rfl rfl (Nat.le_of_ble_eq_true rfl) (Nat.le_refl _) (Mt_mono h (fun rv I9 h => ?_))
          obtain ⟨v10, rfl, h⟩ := h
          refine J_r1 ?_
          refine J_if_ne aX11_wouldBe_94 (fun q => ?_) (fun q => ?_)
          · replace h := h.1 q
            refine J_iload 5 aX11_wouldBe_100 rfl ?_
            refine J_aload_n 1 aX11_wouldBe_102 rfl ?_
            refine J_getR aX11_wouldBe_103 flX11_90 sh0 rfl ?_
            refine J_iload 0 aX11_wouldBe_106 rfl ?_
            refine J_callV [.int (I 16 j4)] [.int x5] aX11_wouldBe_108 lkX11_314_X1 okX1_go sh57 rfl rfl rfl (Nat.le_of_ble_eq_true rfl) (Nat.le_refl _) (Mt_mono h (fun rv I11 h => ?_))
            obtain ⟨v12, rfl, h⟩ := h
            refine J_r1 ?_
            refine J_iadd aX11_wouldBe_111 ?_
            refine J_istore [(5, .int (x5 + v12)), (7, .int (I 16 j4)), (0, .ref (eb E + 0)), (1, .int x1), (2, .int x2), (3, .int x3), (6, .int x6)] aX11_wouldBe_112 (by decide) rfl ?_
            refine J_iinc (x6 + nI 1) [(6, .int (x6 + nI 1)), (5, .int (x5 + v12)), (7, .int (I 16 j4)), (0, .ref (eb E + 0)), (1, .int x1), (2, .int x2), (3, .int x3)] 6 aX11_wouldBe_114 rfl (by first | rfl | (congr 1; decide +kernel)) (by decide) rfl ?_
            refine J_goto aX11_wouldBe_117 ?_
            refine J_pick [3, 4, 5, 6, 1, 0] rfl ?_
            exact h
          · replace h := h.2 q
            refine J_bipush (-4) aX11_wouldBe_97 (by decide +kernel) ?_
            exact J_iret aX11_wouldBe_99 rfl h
      · replace h := h.2 q
        refine J_bipush (-12) aX11_wouldBe_56 (by decide +kernel) ?_
        exact J_iret aX11_wouldBe_58 rfl h
theorem aX11_refusalOfActs_0 : decode mX11_refusalOfActs.2.1 0 = .ok (.iload_n 1, 1) ∧ 0 + 1 = 1 := ⟨by decide +kernel, rfl⟩
theorem aX11_refusalOfActs_1 : decode mX11_refusalOfActs.2.1 1 = .ok (.invokestatic 323, 3) ∧ 1 + 3 = 4 := ⟨by decide +kernel, rfl⟩
theorem aX11_refusalOfActs_4 : decode mX11_refusalOfActs.2.1 4 = .ok (.ifCond .eq 21, 3) ∧ ((4 : Nat) : Int) + 21 = ((25 : Nat) : Int) ∧ 4 + 3 = 7 := ⟨by decide +kernel, by decide, rfl⟩
theorem aX11_refusalOfActs_7 : decode mX11_refusalOfActs.2.1 7 = .ok (.iload_n 2, 1) ∧ 7 + 1 = 8 := ⟨by decide +kernel, rfl⟩
theorem aX11_refusalOfActs_8 : decode mX11_refusalOfActs.2.1 8 = .ok (.bipush 20, 2) ∧ 8 + 2 = 10 := ⟨by decide +kernel, rfl⟩
theorem aX11_refusalOfActs_10 : decode mX11_refusalOfActs.2.1 10 = .ok (.invokestatic 110, 3) ∧ 10 + 3 = 13 := ⟨by decide +kernel, rfl⟩
theorem aX11_refusalOfActs_13 : decode mX11_refusalOfActs.2.1 13 = .ok (.ifCond .eq 12, 3) ∧ ((13 : Nat) : Int) + 12 = ((25 : Nat) : Int) ∧ 13 + 3 = 16 := ⟨by decide +kernel, by decide, rfl⟩
theorem aX11_refusalOfActs_16 : decode mX11_refusalOfActs.2.1 16 = .ok (.aload_n 0, 1) ∧ 16 + 1 = 17 := ⟨by decide +kernel, rfl⟩
theorem aX11_refusalOfActs_17 : decode mX11_refusalOfActs.2.1 17 = .ok (.iload_n 1, 1) ∧ 17 + 1 = 18 := ⟨by decide +kernel, rfl⟩
theorem aX11_refusalOfActs_18 : decode mX11_refusalOfActs.2.1 18 = .ok (.iconst 0, 1) ∧ 18 + 1 = 19 := ⟨by decide +kernel, rfl⟩
theorem aX11_refusalOfActs_19 : decode mX11_refusalOfActs.2.1 19 = .ok (.invokevirtual 332, 3) ∧ 19 + 3 = 22 := ⟨by decide +kernel, rfl⟩
theorem aX11_refusalOfActs_22 : decode mX11_refusalOfActs.2.1 22 = .ok (.goto 4, 3) ∧ ((22 : Nat) : Int) + 4 = ((26 : Nat) : Int) := ⟨by decide +kernel, by decide⟩
theorem aX11_refusalOfActs_25 : decode mX11_refusalOfActs.2.1 25 = .ok (.iconst (-1), 1) ∧ 25 + 1 = 26 := ⟨by decide +kernel, rfl⟩
theorem aX11_refusalOfActs_26 : decode mX11_refusalOfActs.2.1 26 = .ok (.ireturn, 1) := by decide +kernel
theorem S_X11_refusalOfActs {E : EE} {d : Nat} {I : IH} {Q : QT} (x1 : Int32) (x2 : Int32) (h :
(Mt E d mX11_isSheet [.int x1] I (fun rv I1 => ∃ v2 : Int32, rv = some (.int v2) ∧
 ((v2 = 0 → Q (some (.int (-1))) I1) ∧
 (¬ v2 = 0 → (Mt E d mX11_isWithin [.int x2, .int (nI 20)] I1 (fun rv I3 => ∃ v4 : Int32, rv = some (.int v4) ∧
 ((v4 = 0 → Q (some (.int (-1))) I3) ∧
 (¬ v4 = 0 → (Mt E d mX11_refusalAs [.ref (eb E + 0), .int x1, .int (nI 0)] I3 (fun rv I5 => ∃ v6 : Int32, rv = some (.int v6) ∧
 Q (some (.int v6)) I5))))))))))) : Mt E (d + 1) mX11_refusalOfActs [.ref (eb E + 0), .int x1, .int x2] I Q := by
  refine Mt_of [(0, .ref (eb E + 0)), (1, .int x1), (2, .int x2)] (by decide +kernel) (by simp [lg_sl, Value.category, mX11_refusalOfActs]) rfl ?_
  refine J_iload_n 1 aX11_refusalOfActs_0 rfl ?_
  refine J_callS [.int x1] [] aX11_refusalOfActs_1 lkX11_323 okX11_isSheet rfl rfl (Nat.le_of_ble_eq_true rfl) (Nat.le_refl _) (Mt_mono h (fun rv I1 h => ?_))
  obtain ⟨v2, rfl, h⟩ := h
  refine J_r1 ?_
  refine J_if_eq aX11_refusalOfActs_4 (fun q => ?_) (fun q => ?_)
  · replace h := h.1 q
    refine J_iconst (-1) aX11_refusalOfActs_25 (by decide +kernel) ?_
    exact J_iret aX11_refusalOfActs_26 rfl h
  · replace h := h.2 q
    refine J_iload_n 2 aX11_refusalOfActs_7 rfl ?_
    refine J_bipush (nI 20) aX11_refusalOfActs_8 (by decide +kernel) ?_
    refine J_callS [.int x2, .int (nI 20)] [] aX11_refusalOfActs_10 lkX11_110 okX11_isWithin rfl rfl (Nat.le_of_ble_eq_true rfl) (Nat.le_refl _) (Mt_mono h (fun rv I3 h => ?_))
    obtain ⟨v4, rfl, h⟩ := h
    refine J_r1 ?_
    refine J_if_eq aX11_refusalOfActs_13 (fun q => ?_) (fun q => ?_)
    · replace h := h.1 q
      refine J_iconst (-1) aX11_refusalOfActs_25 (by decide +kernel) ?_
      exact J_iret aX11_refusalOfActs_26 rfl h
    · replace h := h.2 q
      refine J_aload_n 0 aX11_refusalOfActs_16 rfl ?_
      refine J_iload_n 1 aX11_refusalOfActs_17 rfl ?_
      refine J_iconst (nI 0) aX11_refusalOfActs_18 (by decide +kernel) ?_
      refine J_callV [.int x1, .int (nI 0)] [] aX11_refusalOfActs_19 lkX11_332_X11 okX11_refusalAs sh0 rfl rfl rfl (Nat.le_of_ble_eq_true rfl) (Nat.le_refl _) (Mt_mono h (fun rv I5 h => ?_))
      obtain ⟨v6, rfl, h⟩ := h
      refine J_r1 ?_
      refine J_goto aX11_refusalOfActs_22 ?_
      exact J_iret aX11_refusalOfActs_26 rfl h
theorem aX11_isSheet_0 : decode mX11_isSheet.2.1 0 = .ok (.iload_n 0, 1) ∧ 0 + 1 = 1 := ⟨by decide +kernel, rfl⟩
theorem aX11_isSheet_1 : decode mX11_isSheet.2.1 1 = .ok (.ifCond .lt 12, 3) ∧ ((1 : Nat) : Int) + 12 = ((13 : Nat) : Int) ∧ 1 + 3 = 4 := ⟨by decide +kernel, by decide, rfl⟩
theorem aX11_isSheet_4 : decode mX11_isSheet.2.1 4 = .ok (.iload_n 0, 1) ∧ 4 + 1 = 5 := ⟨by decide +kernel, rfl⟩
theorem aX11_isSheet_5 : decode mX11_isSheet.2.1 5 = .ok (.iconst 4, 1) ∧ 5 + 1 = 6 := ⟨by decide +kernel, rfl⟩
theorem aX11_isSheet_6 : decode mX11_isSheet.2.1 6 = .ok (.if_icmp .ge 7, 3) ∧ ((6 : Nat) : Int) + 7 = ((13 : Nat) : Int) ∧ 6 + 3 = 9 := ⟨by decide +kernel, by decide, rfl⟩
theorem aX11_isSheet_9 : decode mX11_isSheet.2.1 9 = .ok (.iconst 1, 1) ∧ 9 + 1 = 10 := ⟨by decide +kernel, rfl⟩
theorem aX11_isSheet_10 : decode mX11_isSheet.2.1 10 = .ok (.goto 4, 3) ∧ ((10 : Nat) : Int) + 4 = ((14 : Nat) : Int) := ⟨by decide +kernel, by decide⟩
theorem aX11_isSheet_13 : decode mX11_isSheet.2.1 13 = .ok (.iconst 0, 1) ∧ 13 + 1 = 14 := ⟨by decide +kernel, rfl⟩
theorem aX11_isSheet_14 : decode mX11_isSheet.2.1 14 = .ok (.ireturn, 1) := by decide +kernel
theorem S_X11_isSheet {E : EE} {d : Nat} {I : IH} {Q : QT} (x0 : Int32) (h :
((x0 < 0 → Q (some (.int (nI 0))) I) ∧
 (¬ x0 < 0 → (((nI 4) ≤ x0 → Q (some (.int (nI 0))) I) ∧
 (¬ (nI 4) ≤ x0 → Q (some (.int (nI 1))) I))))) : Mt E d mX11_isSheet [.int x0] I Q := by
  refine Mt_of [(0, .int x0)] (by decide +kernel) (by simp [lg_sl, Value.category, mX11_isSheet]) rfl ?_
  refine J_iload_n 0 aX11_isSheet_0 rfl ?_
  refine J_if_lt aX11_isSheet_1 (fun q => ?_) (fun q => ?_)
  · replace h := h.1 q
    refine J_iconst (nI 0) aX11_isSheet_13 (by decide +kernel) ?_
    exact J_zret aX11_isSheet_14 rfl (by decide +kernel) h
  · replace h := h.2 q
    refine J_iload_n 0 aX11_isSheet_4 rfl ?_
    refine J_iconst (nI 4) aX11_isSheet_5 (by decide +kernel) ?_
    refine J_icmp_ge aX11_isSheet_6 (fun q => ?_) (fun q => ?_)
    · replace h := h.1 q
      refine J_iconst (nI 0) aX11_isSheet_13 (by decide +kernel) ?_
      exact J_zret aX11_isSheet_14 rfl (by decide +kernel) h
    · replace h := h.2 q
      refine J_iconst (nI 1) aX11_isSheet_9 (by decide +kernel) ?_
      refine J_goto aX11_isSheet_10 ?_
      exact J_zret aX11_isSheet_14 rfl (by decide +kernel) h
theorem aX11_refusalAs_0 : decode mX11_refusalAs.2.1 0 = .ok (.aload_n 0, 1) ∧ 0 + 1 = 1 := ⟨by decide +kernel, rfl⟩
theorem aX11_refusalAs_1 : decode mX11_refusalAs.2.1 1 = .ok (.getfield 42, 3) ∧ 1 + 3 = 4 := ⟨by decide +kernel, rfl⟩
theorem aX11_refusalAs_4 : decode mX11_refusalAs.2.1 4 = .ok (.iload_n 1, 1) ∧ 4 + 1 = 5 := ⟨by decide +kernel, rfl⟩
theorem aX11_refusalAs_5 : decode mX11_refusalAs.2.1 5 = .ok (.iaload, 1) ∧ 5 + 1 = 6 := ⟨by decide +kernel, rfl⟩
theorem aX11_refusalAs_6 : decode mX11_refusalAs.2.1 6 = .ok (.iconst (-1), 1) ∧ 6 + 1 = 7 := ⟨by decide +kernel, rfl⟩
theorem aX11_refusalAs_7 : decode mX11_refusalAs.2.1 7 = .ok (.if_icmp .ne 6, 3) ∧ ((7 : Nat) : Int) + 6 = ((13 : Nat) : Int) ∧ 7 + 3 = 10 := ⟨by decide +kernel, by decide, rfl⟩
theorem aX11_refusalAs_10 : decode mX11_refusalAs.2.1 10 = .ok (.bipush (-11), 2) ∧ 10 + 2 = 12 := ⟨by decide +kernel, rfl⟩
theorem aX11_refusalAs_12 : decode mX11_refusalAs.2.1 12 = .ok (.ireturn, 1) := by decide +kernel
theorem aX11_refusalAs_13 : decode mX11_refusalAs.2.1 13 = .ok (.aload_n 0, 1) ∧ 13 + 1 = 14 := ⟨by decide +kernel, rfl⟩
theorem aX11_refusalAs_14 : decode mX11_refusalAs.2.1 14 = .ok (.getfield 42, 3) ∧ 14 + 3 = 17 := ⟨by decide +kernel, rfl⟩
theorem aX11_refusalAs_17 : decode mX11_refusalAs.2.1 17 = .ok (.iload_n 1, 1) ∧ 17 + 1 = 18 := ⟨by decide +kernel, rfl⟩
theorem aX11_refusalAs_18 : decode mX11_refusalAs.2.1 18 = .ok (.iaload, 1) ∧ 18 + 1 = 19 := ⟨by decide +kernel, rfl⟩
theorem aX11_refusalAs_19 : decode mX11_refusalAs.2.1 19 = .ok (.iload_n 2, 1) ∧ 19 + 1 = 20 := ⟨by decide +kernel, rfl⟩
theorem aX11_refusalAs_20 : decode mX11_refusalAs.2.1 20 = .ok (.if_icmp .ne 7, 3) ∧ ((20 : Nat) : Int) + 7 = ((27 : Nat) : Int) ∧ 20 + 3 = 23 := ⟨by decide +kernel, by decide, rfl⟩
theorem aX11_refusalAs_23 : decode mX11_refusalAs.2.1 23 = .ok (.iconst 0, 1) ∧ 23 + 1 = 24 := ⟨by decide +kernel, rfl⟩
theorem aX11_refusalAs_24 : decode mX11_refusalAs.2.1 24 = .ok (.goto 5, 3) ∧ ((24 : Nat) : Int) + 5 = ((29 : Nat) : Int) := ⟨by decide +kernel, by decide⟩
theorem aX11_refusalAs_27 : decode mX11_refusalAs.2.1 27 = .ok (.bipush (-13), 2) ∧ 27 + 2 = 29 := ⟨by decide +kernel, rfl⟩
theorem aX11_refusalAs_29 : decode mX11_refusalAs.2.1 29 = .ok (.ireturn, 1) := by decide +kernel
theorem S_X11_refusalAs {E : EE} {d : Nat} {I : IH} {Q : QT} (x1 : Int32) (x2 : Int32) (h :
(∃ j1 : Nat, x1 = nI j1 ∧ j1 < 4 ∧ ((¬ (I 14 j1) = (-1) → (∃ j4 : Nat, x1 = nI j4 ∧ j4 < 4 ∧ ((¬ (I 14 j4) = x2 → Q (some (.int (-13))) I) ∧
 ((I 14 j4) = x2 → Q (some (.int (nI 0))) I)))) ∧
 ((I 14 j1) = (-1) → Q (some (.int (-11))) I)))) : Mt E d mX11_refusalAs [.ref (eb E + 0), .int x1, .int x2] I Q := by
  refine Mt_of [(0, .ref (eb E + 0)), (1, .int x1), (2, .int x2)] (by decide +kernel) (by simp [lg_sl, Value.category, mX11_refusalAs]) rfl ?_
  refine J_aload_n 0 aX11_refusalAs_0 rfl ?_
  refine J_getR aX11_refusalAs_1 flX11_42 sh0 rfl ?_
  refine J_iload_n 1 aX11_refusalAs_4 rfl ?_
  obtain ⟨j1, e2, b3, h⟩ := h
  refine J_iaload j1 aX11_refusalAs_5 sh14 e2 b3 (by decide) ?_
  refine J_iconst (-1) aX11_refusalAs_6 (by decide +kernel) ?_
  refine J_icmp_ne aX11_refusalAs_7 (fun q => ?_) (fun q => ?_)
  · replace h := h.1 q
    refine J_aload_n 0 aX11_refusalAs_13 rfl ?_
    refine J_getR aX11_refusalAs_14 flX11_42 sh0 rfl ?_
    refine J_iload_n 1 aX11_refusalAs_17 rfl ?_
    obtain ⟨j4, e5, b6, h⟩ := h
    refine J_iaload j4 aX11_refusalAs_18 sh14 e5 b6 (by decide) ?_
    refine J_iload_n 2 aX11_refusalAs_19 rfl ?_
    refine J_icmp_ne aX11_refusalAs_20 (fun q => ?_) (fun q => ?_)
    · replace h := h.1 q
      refine J_bipush (-13) aX11_refusalAs_27 (by decide +kernel) ?_
      exact J_iret aX11_refusalAs_29 rfl h
    · replace h := h.2 q
      refine J_iconst (nI 0) aX11_refusalAs_23 (by decide +kernel) ?_
      refine J_goto aX11_refusalAs_24 ?_
      exact J_iret aX11_refusalAs_29 rfl h
  · replace h := h.2 q
    refine J_bipush (-11) aX11_refusalAs_10 (by decide +kernel) ?_
    exact J_iret aX11_refusalAs_12 rfl h
theorem aX11_shelf_0 : decode mX11_shelf.2.1 0 = .ok (.iload_n 1, 1) ∧ 0 + 1 = 1 := ⟨by decide +kernel, rfl⟩
theorem aX11_shelf_1 : decode mX11_shelf.2.1 1 = .ok (.invokestatic 338, 3) ∧ 1 + 3 = 4 := ⟨by decide +kernel, rfl⟩
theorem aX11_shelf_4 : decode mX11_shelf.2.1 4 = .ok (.ifCond .ne 5, 3) ∧ ((4 : Nat) : Int) + 5 = ((9 : Nat) : Int) ∧ 4 + 3 = 7 := ⟨by decide +kernel, by decide, rfl⟩
theorem aX11_shelf_7 : decode mX11_shelf.2.1 7 = .ok (.iconst (-1), 1) ∧ 7 + 1 = 8 := ⟨by decide +kernel, rfl⟩
theorem aX11_shelf_8 : decode mX11_shelf.2.1 8 = .ok (.ireturn, 1) := by decide +kernel
theorem aX11_shelf_9 : decode mX11_shelf.2.1 9 = .ok (.iload_n 2, 1) ∧ 9 + 1 = 10 := ⟨by decide +kernel, rfl⟩
theorem aX11_shelf_10 : decode mX11_shelf.2.1 10 = .ok (.tableswitch 74 0 2 #[26, 47, 65], 26) := by decide +kernel
theorem aX11_shelf_36 : decode mX11_shelf.2.1 36 = .ok (.aload_n 0, 1) ∧ 36 + 1 = 37 := ⟨by decide +kernel, rfl⟩
theorem aX11_shelf_37 : decode mX11_shelf.2.1 37 = .ok (.iload_n 3, 1) ∧ 37 + 1 = 38 := ⟨by decide +kernel, rfl⟩
theorem aX11_shelf_38 : decode mX11_shelf.2.1 38 = .ok (.invokevirtual 124, 3) ∧ 38 + 3 = 41 := ⟨by decide +kernel, rfl⟩
theorem aX11_shelf_41 : decode mX11_shelf.2.1 41 = .ok (.ifCond .eq 14, 3) ∧ ((41 : Nat) : Int) + 14 = ((55 : Nat) : Int) ∧ 41 + 3 = 44 := ⟨by decide +kernel, by decide, rfl⟩
theorem aX11_shelf_44 : decode mX11_shelf.2.1 44 = .ok (.aload_n 0, 1) ∧ 44 + 1 = 45 := ⟨by decide +kernel, rfl⟩
theorem aX11_shelf_45 : decode mX11_shelf.2.1 45 = .ok (.iload_n 1, 1) ∧ 45 + 1 = 46 := ⟨by decide +kernel, rfl⟩
theorem aX11_shelf_46 : decode mX11_shelf.2.1 46 = .ok (.iconst 1, 1) ∧ 46 + 1 = 47 := ⟨by decide +kernel, rfl⟩
theorem aX11_shelf_47 : decode mX11_shelf.2.1 47 = .ok (.iload_n 3, 1) ∧ 47 + 1 = 48 := ⟨by decide +kernel, rfl⟩
theorem aX11_shelf_48 : decode mX11_shelf.2.1 48 = .ok (.iconst 0, 1) ∧ 48 + 1 = 49 := ⟨by decide +kernel, rfl⟩
theorem aX11_shelf_49 : decode mX11_shelf.2.1 49 = .ok (.invokevirtual 341, 3) ∧ 49 + 3 = 52 := ⟨by decide +kernel, rfl⟩
theorem aX11_shelf_52 : decode mX11_shelf.2.1 52 = .ok (.goto 4, 3) ∧ ((52 : Nat) : Int) + 4 = ((56 : Nat) : Int) := ⟨by decide +kernel, by decide⟩
theorem aX11_shelf_55 : decode mX11_shelf.2.1 55 = .ok (.iconst (-1), 1) ∧ 55 + 1 = 56 := ⟨by decide +kernel, rfl⟩
theorem aX11_shelf_56 : decode mX11_shelf.2.1 56 = .ok (.ireturn, 1) := by decide +kernel
theorem aX11_shelf_57 : decode mX11_shelf.2.1 57 = .ok (.iload_n 3, 1) ∧ 57 + 1 = 58 := ⟨by decide +kernel, rfl⟩
theorem aX11_shelf_58 : decode mX11_shelf.2.1 58 = .ok (.invokestatic 323, 3) ∧ 58 + 3 = 61 := ⟨by decide +kernel, rfl⟩
theorem aX11_shelf_61 : decode mX11_shelf.2.1 61 = .ok (.ifCond .eq 12, 3) ∧ ((61 : Nat) : Int) + 12 = ((73 : Nat) : Int) ∧ 61 + 3 = 64 := ⟨by decide +kernel, by decide, rfl⟩
theorem aX11_shelf_64 : decode mX11_shelf.2.1 64 = .ok (.aload_n 0, 1) ∧ 64 + 1 = 65 := ⟨by decide +kernel, rfl⟩
theorem aX11_shelf_65 : decode mX11_shelf.2.1 65 = .ok (.iload_n 1, 1) ∧ 65 + 1 = 66 := ⟨by decide +kernel, rfl⟩
theorem aX11_shelf_66 : decode mX11_shelf.2.1 66 = .ok (.iload_n 3, 1) ∧ 66 + 1 = 67 := ⟨by decide +kernel, rfl⟩
theorem aX11_shelf_67 : decode mX11_shelf.2.1 67 = .ok (.invokevirtual 344, 3) ∧ 67 + 3 = 70 := ⟨by decide +kernel, rfl⟩
theorem aX11_shelf_70 : decode mX11_shelf.2.1 70 = .ok (.goto 4, 3) ∧ ((70 : Nat) : Int) + 4 = ((74 : Nat) : Int) := ⟨by decide +kernel, by decide⟩
theorem aX11_shelf_73 : decode mX11_shelf.2.1 73 = .ok (.iconst (-1), 1) ∧ 73 + 1 = 74 := ⟨by decide +kernel, rfl⟩
theorem aX11_shelf_74 : decode mX11_shelf.2.1 74 = .ok (.ireturn, 1) := by decide +kernel
theorem aX11_shelf_75 : decode mX11_shelf.2.1 75 = .ok (.aload_n 0, 1) ∧ 75 + 1 = 76 := ⟨by decide +kernel, rfl⟩
theorem aX11_shelf_76 : decode mX11_shelf.2.1 76 = .ok (.iload_n 1, 1) ∧ 76 + 1 = 77 := ⟨by decide +kernel, rfl⟩
theorem aX11_shelf_77 : decode mX11_shelf.2.1 77 = .ok (.iconst 0, 1) ∧ 77 + 1 = 78 := ⟨by decide +kernel, rfl⟩
theorem aX11_shelf_78 : decode mX11_shelf.2.1 78 = .ok (.iconst 0, 1) ∧ 78 + 1 = 79 := ⟨by decide +kernel, rfl⟩
theorem aX11_shelf_79 : decode mX11_shelf.2.1 79 = .ok (.iconst 0, 1) ∧ 79 + 1 = 80 := ⟨by decide +kernel, rfl⟩
theorem aX11_shelf_80 : decode mX11_shelf.2.1 80 = .ok (.invokevirtual 341, 3) ∧ 80 + 3 = 83 := ⟨by decide +kernel, rfl⟩
theorem aX11_shelf_83 : decode mX11_shelf.2.1 83 = .ok (.ireturn, 1) := by decide +kernel
theorem aX11_shelf_84 : decode mX11_shelf.2.1 84 = .ok (.iconst (-1), 1) ∧ 84 + 1 = 85 := ⟨by decide +kernel, rfl⟩
theorem aX11_shelf_85 : decode mX11_shelf.2.1 85 = .ok (.ireturn, 1) := by decide +kernel
theorem S_X11_shelf {E : EE} {d : Nat} {I : IH} {Q : QT} (x1 : Int32) (x2 : Int32) (x3 : Int32) (h :
(Mt E d mX11_isShelf [.int x1] I (fun rv I1 => ∃ v2 : Int32, rv = some (.int v2) ∧
 ((¬ v2 = 0 → ((x2 = (nI 0) → (Mt E d mX11_isPane [.ref (eb E + 0), .int x3] I1 (fun rv I3 => ∃ v4 : Int32, rv = some (.int v4) ∧
 ((v4 = 0 → Q (some (.int (-1))) I3) ∧
 (¬ v4 = 0 → (Mt E d mX11_hold [.ref (eb E + 0), .int x1, .int (nI 1), .int x3, .int (nI 0)] I3 (fun rv I5 => ∃ v6 : Int32, rv = some (.int v6) ∧
 Q (some (.int v6)) I5))))))) ∧
 ((x2 = (nI 1) → (Mt E d mX11_isSheet [.int x3] I1 (fun rv I7 => ∃ v8 : Int32, rv = some (.int v8) ∧
 ((v8 = 0 → Q (some (.int (-1))) I7) ∧
 (¬ v8 = 0 → (Mt E d mX11_holdSheet [.ref (eb E + 0), .int x1, .int x3] I7 (fun rv I9 => ∃ v10 : Int32, rv = some (.int v10) ∧
 Q (some (.int v10)) I9))))))) ∧
 ((x2 = (nI 2) → (Mt E d mX11_hold [.ref (eb E + 0), .int x1, .int (nI 0), .int (nI 0), .int (nI 0)] I1 (fun rv I11 => ∃ v12 : Int32, rv = some (.int v12) ∧
 Q (some (.int v12)) I11))) ∧
 (¬ x2 = (nI 0) ∧ ¬ x2 = (nI 1) ∧ ¬ x2 = (nI 2) → Q (some (.int (-1))) I1))))) ∧
 (v2 = 0 → Q (some (.int (-1))) I1))))) : Mt E (d + 1) mX11_shelf [.ref (eb E + 0), .int x1, .int x2, .int x3] I Q := by
  refine Mt_of [(0, .ref (eb E + 0)), (1, .int x1), (2, .int x2), (3, .int x3)] (by decide +kernel) (by simp [lg_sl, Value.category, mX11_shelf]) rfl ?_
  refine J_iload_n 1 aX11_shelf_0 rfl ?_
  refine J_callS [.int x1] [] aX11_shelf_1 lkX11_338 okX11_isShelf rfl rfl (Nat.le_of_ble_eq_true rfl) (Nat.le_refl _) (Mt_mono h (fun rv I1 h => ?_))
  obtain ⟨v2, rfl, h⟩ := h
  refine J_r1 ?_
  refine J_if_ne aX11_shelf_4 (fun q => ?_) (fun q => ?_)
  · replace h := h.1 q
    refine J_iload_n 2 aX11_shelf_9 rfl ?_
    by_cases q0 : x2 = (nI 0)
    · replace h := h.1 q0
      refine J_tswIn (nI 0) aX11_shelf_10 (off := 26) (tgt := 36) (by decide +kernel) q0 ?_
      refine J_aload_n 0 aX11_shelf_36 rfl ?_
      refine J_iload_n 3 aX11_shelf_37 rfl ?_
      refine J_callV [.int x3] [] aX11_shelf_38 lkX11_124_X11 okX11_isPane sh0 rfl rfl rfl (Nat.le_of_ble_eq_true rfl) (Nat.le_refl _) (Mt_mono h (fun rv I3 h => ?_))
      obtain ⟨v4, rfl, h⟩ := h
      refine J_r1 ?_
      refine J_if_eq aX11_shelf_41 (fun q => ?_) (fun q => ?_)
      · replace h := h.1 q
        refine J_iconst (-1) aX11_shelf_55 (by decide +kernel) ?_
        exact J_iret aX11_shelf_56 rfl h
      · replace h := h.2 q
        refine J_aload_n 0 aX11_shelf_44 rfl ?_
        refine J_iload_n 1 aX11_shelf_45 rfl ?_
        refine J_iconst (nI 1) aX11_shelf_46 (by decide +kernel) ?_
        refine J_iload_n 3 aX11_shelf_47 rfl ?_
        refine J_iconst (nI 0) aX11_shelf_48 (by decide +kernel) ?_
        refine J_callV [.int x1, .int (nI 1), .int x3, .int (nI 0)] [] aX11_shelf_49 lkX11_341_X11 okX11_hold sh0 rfl rfl rfl (Nat.le_of_ble_eq_true rfl) (Nat.le_refl _) (Mt_mono h (fun rv I5 h => ?_))
        obtain ⟨v6, rfl, h⟩ := h
        refine J_r1 ?_
        refine J_goto aX11_shelf_52 ?_
        exact J_iret aX11_shelf_56 rfl h
    replace h := h.2
    by_cases q1 : x2 = (nI 1)
    · replace h := h.1 q1
      refine J_tswIn (nI 1) aX11_shelf_10 (off := 47) (tgt := 57) (by decide +kernel) q1 ?_
      refine J_iload_n 3 aX11_shelf_57 rfl ?_
      refine J_callS [.int x3] [] aX11_shelf_58 lkX11_323 okX11_isSheet rfl rfl (Nat.le_of_ble_eq_true rfl) (Nat.le_refl _) (Mt_mono h (fun rv I7 h => ?_))
      obtain ⟨v8, rfl, h⟩ := h
      refine J_r1 ?_
      refine J_if_eq aX11_shelf_61 (fun q => ?_) (fun q => ?_)
      · replace h := h.1 q
        refine J_iconst (-1) aX11_shelf_73 (by decide +kernel) ?_
        exact J_iret aX11_shelf_74 rfl h
      · replace h := h.2 q
        refine J_aload_n 0 aX11_shelf_64 rfl ?_
        refine J_iload_n 1 aX11_shelf_65 rfl ?_
        refine J_iload_n 3 aX11_shelf_66 rfl ?_
        refine J_callV [.int x1, .int x3] [] aX11_shelf_67 lkX11_344_X11 okX11_holdSheet sh0 rfl rfl rfl (Nat.le_of_ble_eq_true rfl) (Nat.le_refl _) (Mt_mono h (fun rv I9 h => ?_))
        obtain ⟨v10, rfl, h⟩ := h
        refine J_r1 ?_
        refine J_goto aX11_shelf_70 ?_
        exact J_iret aX11_shelf_74 rfl h
    replace h := h.2
    by_cases q2 : x2 = (nI 2)
    · replace h := h.1 q2
      refine J_tswIn (nI 2) aX11_shelf_10 (off := 65) (tgt := 75) (by decide +kernel) q2 ?_
      refine J_aload_n 0 aX11_shelf_75 rfl ?_
      refine J_iload_n 1 aX11_shelf_76 rfl ?_
      refine J_iconst (nI 0) aX11_shelf_77 (by decide +kernel) ?_
      refine J_iconst (nI 0) aX11_shelf_78 (by decide +kernel) ?_
      refine J_iconst (nI 0) aX11_shelf_79 (by decide +kernel) ?_
      refine J_callV [.int x1, .int (nI 0), .int (nI 0), .int (nI 0)] [] aX11_shelf_80 lkX11_341_X11 okX11_hold sh0 rfl rfl rfl (Nat.le_of_ble_eq_true rfl) (Nat.le_refl _) (Mt_mono h (fun rv I11 h => ?_))
      obtain ⟨v12, rfl, h⟩ := h
      refine J_r1 ?_
      exact J_iret aX11_shelf_83 rfl h
    replace h := h.2
    replace h := h ⟨q0, q1, q2⟩
    refine J_tswOut aX11_shelf_10 (tgt := 84) (by decide) (tsw_out (fun k h1 h2 hk => by
      have hh : k = 0 ∨ k = 1 ∨ k = 2 := by omega
      rcases hh with rfl | rfl | rfl
      · exact q0 (Int32.toInt_inj.mp (hk.trans (by decide +kernel)))
      · exact q1 (Int32.toInt_inj.mp (hk.trans (by decide +kernel)))
      · exact q2 (Int32.toInt_inj.mp (hk.trans (by decide +kernel)))
      )) ?_
    refine J_iconst (-1) aX11_shelf_84 (by decide +kernel) ?_
    exact J_iret aX11_shelf_85 rfl h
  · replace h := h.2 q
    refine J_iconst (-1) aX11_shelf_7 (by decide +kernel) ?_
    exact J_iret aX11_shelf_8 rfl h
theorem aX11_holdSheet_0 : decode mX11_holdSheet.2.1 0 = .ok (.aload_n 0, 1) ∧ 0 + 1 = 1 := ⟨by decide +kernel, rfl⟩
theorem aX11_holdSheet_1 : decode mX11_holdSheet.2.1 1 = .ok (.getfield 42, 3) ∧ 1 + 3 = 4 := ⟨by decide +kernel, rfl⟩
theorem aX11_holdSheet_4 : decode mX11_holdSheet.2.1 4 = .ok (.iload_n 2, 1) ∧ 4 + 1 = 5 := ⟨by decide +kernel, rfl⟩
theorem aX11_holdSheet_5 : decode mX11_holdSheet.2.1 5 = .ok (.iaload, 1) ∧ 5 + 1 = 6 := ⟨by decide +kernel, rfl⟩
theorem aX11_holdSheet_6 : decode mX11_holdSheet.2.1 6 = .ok (.iconst (-1), 1) ∧ 6 + 1 = 7 := ⟨by decide +kernel, rfl⟩
theorem aX11_holdSheet_7 : decode mX11_holdSheet.2.1 7 = .ok (.if_icmp .ne 12, 3) ∧ ((7 : Nat) : Int) + 12 = ((19 : Nat) : Int) ∧ 7 + 3 = 10 := ⟨by decide +kernel, by decide, rfl⟩
theorem aX11_holdSheet_10 : decode mX11_holdSheet.2.1 10 = .ok (.aload_n 0, 1) ∧ 10 + 1 = 11 := ⟨by decide +kernel, rfl⟩
theorem aX11_holdSheet_11 : decode mX11_holdSheet.2.1 11 = .ok (.iload_n 1, 1) ∧ 11 + 1 = 12 := ⟨by decide +kernel, rfl⟩
theorem aX11_holdSheet_12 : decode mX11_holdSheet.2.1 12 = .ok (.iconst 0, 1) ∧ 12 + 1 = 13 := ⟨by decide +kernel, rfl⟩
theorem aX11_holdSheet_13 : decode mX11_holdSheet.2.1 13 = .ok (.iconst 0, 1) ∧ 13 + 1 = 14 := ⟨by decide +kernel, rfl⟩
theorem aX11_holdSheet_14 : decode mX11_holdSheet.2.1 14 = .ok (.iconst 0, 1) ∧ 14 + 1 = 15 := ⟨by decide +kernel, rfl⟩
theorem aX11_holdSheet_15 : decode mX11_holdSheet.2.1 15 = .ok (.invokevirtual 341, 3) ∧ 15 + 3 = 18 := ⟨by decide +kernel, rfl⟩
theorem aX11_holdSheet_18 : decode mX11_holdSheet.2.1 18 = .ok (.ireturn, 1) := by decide +kernel
theorem aX11_holdSheet_19 : decode mX11_holdSheet.2.1 19 = .ok (.aload_n 0, 1) ∧ 19 + 1 = 20 := ⟨by decide +kernel, rfl⟩
theorem aX11_holdSheet_20 : decode mX11_holdSheet.2.1 20 = .ok (.iload_n 1, 1) ∧ 20 + 1 = 21 := ⟨by decide +kernel, rfl⟩
theorem aX11_holdSheet_21 : decode mX11_holdSheet.2.1 21 = .ok (.iconst 2, 1) ∧ 21 + 1 = 22 := ⟨by decide +kernel, rfl⟩
theorem aX11_holdSheet_22 : decode mX11_holdSheet.2.1 22 = .ok (.aload_n 0, 1) ∧ 22 + 1 = 23 := ⟨by decide +kernel, rfl⟩
theorem aX11_holdSheet_23 : decode mX11_holdSheet.2.1 23 = .ok (.getfield 42, 3) ∧ 23 + 3 = 26 := ⟨by decide +kernel, rfl⟩
theorem aX11_holdSheet_26 : decode mX11_holdSheet.2.1 26 = .ok (.iload_n 2, 1) ∧ 26 + 1 = 27 := ⟨by decide +kernel, rfl⟩
theorem aX11_holdSheet_27 : decode mX11_holdSheet.2.1 27 = .ok (.iaload, 1) ∧ 27 + 1 = 28 := ⟨by decide +kernel, rfl⟩
theorem aX11_holdSheet_28 : decode mX11_holdSheet.2.1 28 = .ok (.aload_n 0, 1) ∧ 28 + 1 = 29 := ⟨by decide +kernel, rfl⟩
theorem aX11_holdSheet_29 : decode mX11_holdSheet.2.1 29 = .ok (.getfield 45, 3) ∧ 29 + 3 = 32 := ⟨by decide +kernel, rfl⟩
theorem aX11_holdSheet_32 : decode mX11_holdSheet.2.1 32 = .ok (.iload_n 2, 1) ∧ 32 + 1 = 33 := ⟨by decide +kernel, rfl⟩
theorem aX11_holdSheet_33 : decode mX11_holdSheet.2.1 33 = .ok (.iaload, 1) ∧ 33 + 1 = 34 := ⟨by decide +kernel, rfl⟩
theorem aX11_holdSheet_34 : decode mX11_holdSheet.2.1 34 = .ok (.invokevirtual 341, 3) ∧ 34 + 3 = 37 := ⟨by decide +kernel, rfl⟩
theorem aX11_holdSheet_37 : decode mX11_holdSheet.2.1 37 = .ok (.ireturn, 1) := by decide +kernel
theorem S_X11_holdSheet {E : EE} {d : Nat} {I : IH} {Q : QT} (x1 : Int32) (x2 : Int32) (h :
(∃ j1 : Nat, x2 = nI j1 ∧ j1 < 4 ∧ ((¬ (I 14 j1) = (-1) → (∃ j4 : Nat, x2 = nI j4 ∧ j4 < 4 ∧ (∃ j7 : Nat, x2 = nI j7 ∧ j7 < 4 ∧ (Mt E d mX11_hold [.ref (eb E + 0), .int x1, .int (nI 2), .int (I 14 j4), .int (I 15 j7)] I (fun rv I10 => ∃ v11 : Int32, rv = some (.int v11) ∧
 Q (some (.int v11)) I10))))) ∧
 ((I 14 j1) = (-1) → (Mt E d mX11_hold [.ref (eb E + 0), .int x1, .int (nI 0), .int (nI 0), .int (nI 0)] I (fun rv I12 => ∃ v13 : Int32, rv = some (.int v13) ∧
 Q (some (.int v13)) I12)))))) : Mt E (d + 1) mX11_holdSheet [.ref (eb E + 0), .int x1, .int x2] I Q := by
  refine Mt_of [(0, .ref (eb E + 0)), (1, .int x1), (2, .int x2)] (by decide +kernel) (by simp [lg_sl, Value.category, mX11_holdSheet]) rfl ?_
  refine J_aload_n 0 aX11_holdSheet_0 rfl ?_
  refine J_getR aX11_holdSheet_1 flX11_42 sh0 rfl ?_
  refine J_iload_n 2 aX11_holdSheet_4 rfl ?_
  obtain ⟨j1, e2, b3, h⟩ := h
  refine J_iaload j1 aX11_holdSheet_5 sh14 e2 b3 (by decide) ?_
  refine J_iconst (-1) aX11_holdSheet_6 (by decide +kernel) ?_
  refine J_icmp_ne aX11_holdSheet_7 (fun q => ?_) (fun q => ?_)
  · replace h := h.1 q
    refine J_aload_n 0 aX11_holdSheet_19 rfl ?_
    refine J_iload_n 1 aX11_holdSheet_20 rfl ?_
    refine J_iconst (nI 2) aX11_holdSheet_21 (by decide +kernel) ?_
    refine J_aload_n 0 aX11_holdSheet_22 rfl ?_
    refine J_getR aX11_holdSheet_23 flX11_42 sh0 rfl ?_
    refine J_iload_n 2 aX11_holdSheet_26 rfl ?_
    obtain ⟨j4, e5, b6, h⟩ := h
    refine J_iaload j4 aX11_holdSheet_27 sh14 e5 b6 (by decide) ?_
    refine J_aload_n 0 aX11_holdSheet_28 rfl ?_
    refine J_getR aX11_holdSheet_29 flX11_45 sh0 rfl ?_
    refine J_iload_n 2 aX11_holdSheet_32 rfl ?_
    obtain ⟨j7, e8, b9, h⟩ := h
    refine J_iaload j7 aX11_holdSheet_33 sh15 e8 b9 (by decide) ?_
    refine J_callV [.int x1, .int (nI 2), .int (I 14 j4), .int (I 15 j7)] [] aX11_holdSheet_34 lkX11_341_X11 okX11_hold sh0 rfl rfl rfl (Nat.le_of_ble_eq_true rfl) (Nat.le_refl _) (Mt_mono h (fun rv I10 h => ?_))
    obtain ⟨v11, rfl, h⟩ := h
    refine J_r1 ?_
    exact J_iret aX11_holdSheet_37 rfl h
  · replace h := h.2 q
    refine J_aload_n 0 aX11_holdSheet_10 rfl ?_
    refine J_iload_n 1 aX11_holdSheet_11 rfl ?_
    refine J_iconst (nI 0) aX11_holdSheet_12 (by decide +kernel) ?_
    refine J_iconst (nI 0) aX11_holdSheet_13 (by decide +kernel) ?_
    refine J_iconst (nI 0) aX11_holdSheet_14 (by decide +kernel) ?_
    refine J_callV [.int x1, .int (nI 0), .int (nI 0), .int (nI 0)] [] aX11_holdSheet_15 lkX11_341_X11 okX11_hold sh0 rfl rfl rfl (Nat.le_of_ble_eq_true rfl) (Nat.le_refl _) (Mt_mono h (fun rv I12 h => ?_))
    obtain ⟨v13, rfl, h⟩ := h
    refine J_r1 ?_
    exact J_iret aX11_holdSheet_18 rfl h
