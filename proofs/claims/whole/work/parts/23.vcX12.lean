theorem aX12_goesPlans_0 : decode mX12_goesPlans.2.1 0 = .ok (.iload_n 1, 1) ∧ 0 + 1 = 1 := ⟨by decide +kernel, rfl⟩
theorem aX12_goesPlans_1 : decode mX12_goesPlans.2.1 1 = .ok (.iload_n 2, 1) ∧ 1 + 1 = 2 := ⟨by decide +kernel, rfl⟩
theorem aX12_goesPlans_2 : decode mX12_goesPlans.2.1 2 = .ok (.if_icmp .ne 14, 3) ∧ ((2 : Nat) : Int) + 14 = ((16 : Nat) : Int) ∧ 2 + 3 = 5 := ⟨by decide +kernel, by decide, rfl⟩
theorem aX12_goesPlans_5 : decode mX12_goesPlans.2.1 5 = .ok (.aload_n 0, 1) ∧ 5 + 1 = 6 := ⟨by decide +kernel, rfl⟩
theorem aX12_goesPlans_6 : decode mX12_goesPlans.2.1 6 = .ok (.iload_n 2, 1) ∧ 6 + 1 = 7 := ⟨by decide +kernel, rfl⟩
theorem aX12_goesPlans_7 : decode mX12_goesPlans.2.1 7 = .ok (.iload_n 3, 1) ∧ 7 + 1 = 8 := ⟨by decide +kernel, rfl⟩
theorem aX12_goesPlans_8 : decode mX12_goesPlans.2.1 8 = .ok (.iload 4, 2) ∧ 8 + 2 = 10 := ⟨by decide +kernel, rfl⟩
theorem aX12_goesPlans_10 : decode mX12_goesPlans.2.1 10 = .ok (.iload 5, 2) ∧ 10 + 2 = 12 := ⟨by decide +kernel, rfl⟩
theorem aX12_goesPlans_12 : decode mX12_goesPlans.2.1 12 = .ok (.invokevirtual 277, 3) ∧ 12 + 3 = 15 := ⟨by decide +kernel, rfl⟩
theorem aX12_goesPlans_15 : decode mX12_goesPlans.2.1 15 = .ok (.return_, 1) := by decide +kernel
theorem aX12_goesPlans_16 : decode mX12_goesPlans.2.1 16 = .ok (.aload_n 0, 1) ∧ 16 + 1 = 17 := ⟨by decide +kernel, rfl⟩
theorem aX12_goesPlans_17 : decode mX12_goesPlans.2.1 17 = .ok (.iload_n 1, 1) ∧ 17 + 1 = 18 := ⟨by decide +kernel, rfl⟩
theorem aX12_goesPlans_18 : decode mX12_goesPlans.2.1 18 = .ok (.invokevirtual 280, 3) ∧ 18 + 3 = 21 := ⟨by decide +kernel, rfl⟩
theorem aX12_goesPlans_21 : decode mX12_goesPlans.2.1 21 = .ok (.iconst 0, 1) ∧ 21 + 1 = 22 := ⟨by decide +kernel, rfl⟩
theorem aX12_goesPlans_22 : decode mX12_goesPlans.2.1 22 = .ok (.istore 6, 2) ∧ 22 + 2 = 24 := ⟨by decide +kernel, rfl⟩
theorem aX12_goesPlans_24 : decode mX12_goesPlans.2.1 24 = .ok (.iload 6, 2) ∧ 24 + 2 = 26 := ⟨by decide +kernel, rfl⟩
theorem aX12_goesPlans_26 : decode mX12_goesPlans.2.1 26 = .ok (.aload_n 0, 1) ∧ 26 + 1 = 27 := ⟨by decide +kernel, rfl⟩
theorem aX12_goesPlans_27 : decode mX12_goesPlans.2.1 27 = .ok (.getfield 9, 3) ∧ 27 + 3 = 30 := ⟨by decide +kernel, rfl⟩
theorem aX12_goesPlans_30 : decode mX12_goesPlans.2.1 30 = .ok (.bipush 6, 2) ∧ 30 + 2 = 32 := ⟨by decide +kernel, rfl⟩
theorem aX12_goesPlans_32 : decode mX12_goesPlans.2.1 32 = .ok (.iaload, 1) ∧ 32 + 1 = 33 := ⟨by decide +kernel, rfl⟩
theorem aX12_goesPlans_33 : decode mX12_goesPlans.2.1 33 = .ok (.if_icmp .gt 58, 3) ∧ ((33 : Nat) : Int) + 58 = ((91 : Nat) : Int) ∧ 33 + 3 = 36 := ⟨by decide +kernel, by decide, rfl⟩
theorem aX12_goesPlans_36 : decode mX12_goesPlans.2.1 36 = .ok (.aload_n 0, 1) ∧ 36 + 1 = 37 := ⟨by decide +kernel, rfl⟩
theorem aX12_goesPlans_37 : decode mX12_goesPlans.2.1 37 = .ok (.getfield 38, 3) ∧ 37 + 3 = 40 := ⟨by decide +kernel, rfl⟩
theorem aX12_goesPlans_40 : decode mX12_goesPlans.2.1 40 = .ok (.iload_n 1, 1) ∧ 40 + 1 = 41 := ⟨by decide +kernel, rfl⟩
theorem aX12_goesPlans_41 : decode mX12_goesPlans.2.1 41 = .ok (.iload 6, 2) ∧ 41 + 2 = 43 := ⟨by decide +kernel, rfl⟩
theorem aX12_goesPlans_43 : decode mX12_goesPlans.2.1 43 = .ok (.iastore, 1) ∧ 43 + 1 = 44 := ⟨by decide +kernel, rfl⟩
theorem aX12_goesPlans_44 : decode mX12_goesPlans.2.1 44 = .ok (.aload_n 0, 1) ∧ 44 + 1 = 45 := ⟨by decide +kernel, rfl⟩
theorem aX12_goesPlans_45 : decode mX12_goesPlans.2.1 45 = .ok (.iload 6, 2) ∧ 45 + 2 = 47 := ⟨by decide +kernel, rfl⟩
theorem aX12_goesPlans_47 : decode mX12_goesPlans.2.1 47 = .ok (.invokevirtual 234, 3) ∧ 47 + 3 = 50 := ⟨by decide +kernel, rfl⟩
theorem aX12_goesPlans_50 : decode mX12_goesPlans.2.1 50 = .ok (.istore 7, 2) ∧ 50 + 2 = 52 := ⟨by decide +kernel, rfl⟩
theorem aX12_goesPlans_52 : decode mX12_goesPlans.2.1 52 = .ok (.aload_n 0, 1) ∧ 52 + 1 = 53 := ⟨by decide +kernel, rfl⟩
theorem aX12_goesPlans_53 : decode mX12_goesPlans.2.1 53 = .ok (.iload_n 1, 1) ∧ 53 + 1 = 54 := ⟨by decide +kernel, rfl⟩
theorem aX12_goesPlans_54 : decode mX12_goesPlans.2.1 54 = .ok (.iconst 1, 1) ∧ 54 + 1 = 55 := ⟨by decide +kernel, rfl⟩
theorem aX12_goesPlans_55 : decode mX12_goesPlans.2.1 55 = .ok (.iadd, 1) ∧ 55 + 1 = 56 := ⟨by decide +kernel, rfl⟩
theorem aX12_goesPlans_56 : decode mX12_goesPlans.2.1 56 = .ok (.iload_n 2, 1) ∧ 56 + 1 = 57 := ⟨by decide +kernel, rfl⟩
theorem aX12_goesPlans_57 : decode mX12_goesPlans.2.1 57 = .ok (.iload_n 3, 1) ∧ 57 + 1 = 58 := ⟨by decide +kernel, rfl⟩
theorem aX12_goesPlans_58 : decode mX12_goesPlans.2.1 58 = .ok (.iload 7, 2) ∧ 58 + 2 = 60 := ⟨by decide +kernel, rfl⟩
theorem aX12_goesPlans_60 : decode mX12_goesPlans.2.1 60 = .ok (.iadd, 1) ∧ 60 + 1 = 61 := ⟨by decide +kernel, rfl⟩
theorem aX12_goesPlans_61 : decode mX12_goesPlans.2.1 61 = .ok (.iload 6, 2) ∧ 61 + 2 = 63 := ⟨by decide +kernel, rfl⟩
theorem aX12_goesPlans_63 : decode mX12_goesPlans.2.1 63 = .ok (.ifCond .le 10, 3) ∧ ((63 : Nat) : Int) + 10 = ((73 : Nat) : Int) ∧ 63 + 3 = 66 := ⟨by decide +kernel, by decide, rfl⟩
theorem aX12_goesPlans_66 : decode mX12_goesPlans.2.1 66 = .ok (.iload 4, 2) ∧ 66 + 2 = 68 := ⟨by decide +kernel, rfl⟩
theorem aX12_goesPlans_68 : decode mX12_goesPlans.2.1 68 = .ok (.iconst 1, 1) ∧ 68 + 1 = 69 := ⟨by decide +kernel, rfl⟩
theorem aX12_goesPlans_69 : decode mX12_goesPlans.2.1 69 = .ok (.iadd, 1) ∧ 69 + 1 = 70 := ⟨by decide +kernel, rfl⟩
theorem aX12_goesPlans_70 : decode mX12_goesPlans.2.1 70 = .ok (.goto 5, 3) ∧ ((70 : Nat) : Int) + 5 = ((75 : Nat) : Int) := ⟨by decide +kernel, by decide⟩
theorem aX12_goesPlans_73 : decode mX12_goesPlans.2.1 73 = .ok (.iload 4, 2) ∧ 73 + 2 = 75 := ⟨by decide +kernel, rfl⟩
theorem aX12_goesPlans_75 : decode mX12_goesPlans.2.1 75 = .ok (.iload 5, 2) ∧ 75 + 2 = 77 := ⟨by decide +kernel, rfl⟩
theorem aX12_goesPlans_77 : decode mX12_goesPlans.2.1 77 = .ok (.invokevirtual 283, 3) ∧ 77 + 3 = 80 := ⟨by decide +kernel, rfl⟩
theorem aX12_goesPlans_80 : decode mX12_goesPlans.2.1 80 = .ok (.aload_n 0, 1) ∧ 80 + 1 = 81 := ⟨by decide +kernel, rfl⟩
theorem aX12_goesPlans_81 : decode mX12_goesPlans.2.1 81 = .ok (.iload_n 1, 1) ∧ 81 + 1 = 82 := ⟨by decide +kernel, rfl⟩
theorem aX12_goesPlans_82 : decode mX12_goesPlans.2.1 82 = .ok (.invokevirtual 287, 3) ∧ 82 + 3 = 85 := ⟨by decide +kernel, rfl⟩
theorem aX12_goesPlans_85 : decode mX12_goesPlans.2.1 85 = .ok (.iinc 6 1, 3) ∧ 85 + 3 = 88 := ⟨by decide +kernel, rfl⟩
theorem aX12_goesPlans_88 : decode mX12_goesPlans.2.1 88 = .ok (.goto (-64), 3) ∧ ((88 : Nat) : Int) + (-64) = ((24 : Nat) : Int) := ⟨by decide +kernel, by decide⟩
theorem aX12_goesPlans_91 : decode mX12_goesPlans.2.1 91 = .ok (.return_, 1) := by decide +kernel
theorem S_X12_goesPlans {E : EE} {d : Nat} {I : IH} {Q : QT} (x1 : Int32) (x2 : Int32) (x3 : Int32) (x4 : Int32) (x5 : Int32) (h :
((¬ x1 = x2 → (Mt E d mX12_saves [.ref (eb E + 115), .int x1] I (fun rv I1 => rv = none ∧
 J E (d + 1) mX12_goesPlans 24 [(0, .ref (eb E + 115)), (1, .int x1), (2, .int x2), (3, .int x3), (4, .int x4), (5, .int x5), (6, .int (nI 0))] [] I1 Q))) ∧
 (x1 = x2 → (Mt E d mX12_endsPlan [.ref (eb E + 115), .int x2, .int x3, .int x4, .int x5] I (fun rv I2 => rv = none ∧
 Q none I2))))) : Mt E (d + 1) mX12_goesPlans [.ref (eb E + 115), .int x1, .int x2, .int x3, .int x4, .int x5] I Q := by
  refine Mt_of [(0, .ref (eb E + 115)), (1, .int x1), (2, .int x2), (3, .int x3), (4, .int x4), (5, .int x5)] (by decide +kernel) (by simp [lg_sl, Value.category, mX12_goesPlans]) rfl ?_
  refine J_iload_n 1 aX12_goesPlans_0 rfl ?_
  refine J_iload_n 2 aX12_goesPlans_1 rfl ?_
  refine J_icmp_ne aX12_goesPlans_2 (fun q => ?_) (fun q => ?_)
  · replace h := h.1 q
    refine J_aload_n 0 aX12_goesPlans_16 rfl ?_
    refine J_iload_n 1 aX12_goesPlans_17 rfl ?_
    refine J_callV [.int x1] [] aX12_goesPlans_18 lkX12_280_X12 okX12_saves sh115 rfl rfl rfl (Nat.le_of_ble_eq_true rfl) (Nat.le_refl _) (Mt_mono h (fun rv I1 h => ?_))
    obtain ⟨rfl, h⟩ := h
    refine J_r0 ?_
    refine J_iconst (nI 0) aX12_goesPlans_21 (by decide +kernel) ?_
    refine J_istore [(6, .int (nI 0)), (0, .ref (eb E + 115)), (1, .int x1), (2, .int x2), (3, .int x3), (4, .int x4), (5, .int x5)] aX12_goesPlans_22 (by decide) rfl ?_
    refine J_pick [1, 2, 3, 4, 5, 6, 0] rfl ?_
    exact h
  · replace h := h.2 q
    refine J_aload_n 0 aX12_goesPlans_5 rfl ?_
    refine J_iload_n 2 aX12_goesPlans_6 rfl ?_
    refine J_iload_n 3 aX12_goesPlans_7 rfl ?_
    refine J_iload 4 aX12_goesPlans_8 rfl ?_
    refine J_iload 5 aX12_goesPlans_10 rfl ?_
    refine J_callV [.int x2, .int x3, .int x4, .int x5] [] aX12_goesPlans_12 lkX12_277_X12 okX12_endsPlan sh115 rfl rfl rfl (Nat.le_of_ble_eq_true rfl) (Nat.le_refl _) (Mt_mono h (fun rv I2 h => ?_))
    obtain ⟨rfl, h⟩ := h
    refine J_r0 ?_
    exact J_vret aX12_goesPlans_15 rfl h
theorem S_X12_goesPlans_24 {E : EE} {d : Nat} {I : IH} {Q : QT} (x1 : Int32) (x2 : Int32) (x3 : Int32) (x4 : Int32) (x5 : Int32) (x6 : Int32) (h :
(((I 116 6) < x6 → Q none I) ∧
 (¬ (I 116 6) < x6 → (∃ j3 : Nat, x1 = nI j3 ∧ j3 < 4 ∧ (∀ I1 : IH, I1 = stI I 125 j3 x6 →
 (Mt E d mX12_goesBy [.ref (eb E + 115), .int x6] I1 (fun rv I6 => ∃ v7 : Int32, rv = some (.int v7) ∧
 ((x6 ≤ 0 → J E (d + 1) mX12_goesPlans 75 [(0, .ref (eb E + 115)), (1, .int x1), (2, .int x2), (3, .int x3), (4, .int x4), (5, .int x5), (6, .int x6)] [.int x4, .int (x3 + v7), .int x2, .int (x1 + (nI 1)), .ref (eb E + 115)] I6 Q) ∧
 (¬ x6 ≤ 0 → J E (d + 1) mX12_goesPlans 75 [(0, .ref (eb E + 115)), (1, .int x1), (2, .int x2), (3, .int x3), (4, .int x4), (5, .int x5), (6, .int x6)] [.int (x4 + (nI 1)), .int (x3 + v7), .int x2, .int (x1 + (nI 1)), .ref (eb E + 115)] I6 Q))))))))) : J E (d + 1) mX12_goesPlans 24 [(0, .ref (eb E + 115)), (1, .int x1), (2, .int x2), (3, .int x3), (4, .int x4), (5, .int x5), (6, .int x6)] [] I Q := by
  refine J_iload 6 aX12_goesPlans_24 rfl ?_
  refine J_aload_n 0 aX12_goesPlans_26 rfl ?_
  refine J_getR aX12_goesPlans_27 flX12_9 sh115 rfl ?_
  refine J_bipush (nI 6) aX12_goesPlans_30 (by decide +kernel) ?_
  refine J_iaload 6 aX12_goesPlans_32 sh116 rfl (by decide) (by decide) ?_
  refine J_icmp_gt aX12_goesPlans_33 (fun q => ?_) (fun q => ?_)
  · replace h := h.1 q
    exact J_vret aX12_goesPlans_91 rfl h
  · replace h := h.2 q
    refine J_aload_n 0 aX12_goesPlans_36 rfl ?_
    refine J_getR aX12_goesPlans_37 flX12_38 sh115 rfl ?_
    refine J_iload_n 1 aX12_goesPlans_40 rfl ?_
    refine J_iload 6 aX12_goesPlans_41 rfl ?_
    obtain ⟨j3, e4, b5, h⟩ := h
    refine J_iastore j3 aX12_goesPlans_43 sh125 e4 b5 (by decide) (fun I1 e2 => ?_)
    replace h := h I1 e2
    refine J_aload_n 0 aX12_goesPlans_44 rfl ?_
    refine J_iload 6 aX12_goesPlans_45 rfl ?_
    refine J_callV [.int x6] [] aX12_goesPlans_47 lkX12_234_X12 okX12_goesBy sh115 rfl rfl rfl (Nat.le_of_ble_eq_true rfl) (Nat.le_refl _) (Mt_mono h (fun rv I6 h => ?_))
    obtain ⟨v7, rfl, h⟩ := h
    refine J_r1 ?_
    refine J_istore [(7, .int v7), (0, .ref (eb E + 115)), (1, .int x1), (2, .int x2), (3, .int x3), (4, .int x4), (5, .int x5), (6, .int x6)] aX12_goesPlans_50 (by decide) rfl ?_
    refine J_aload_n 1 aX12_goesPlans_52 rfl ?_
    refine J_iload_n 2 aX12_goesPlans_53 rfl ?_
    refine J_iconst (nI 1) aX12_goesPlans_54 (by decide +kernel) ?_
    refine J_iadd aX12_goesPlans_55 ?_
    refine J_iload_n 3 aX12_goesPlans_56 rfl ?_
    refine J_iload_n 4 aX12_goesPlans_57 rfl ?_
    refine J_iload 0 aX12_goesPlans_58 rfl ?_
    refine J_iadd aX12_goesPlans_60 ?_
    refine J_iload 7 aX12_goesPlans_61 rfl ?_
    refine J_if_le aX12_goesPlans_63 (fun q => ?_) (fun q => ?_)
    · replace h := h.1 q
      refine J_iload 5 aX12_goesPlans_73 rfl ?_
      refine J_pick [1, 2, 3, 4, 5, 6, 7] rfl ?_
      exact h
    · replace h := h.2 q
      refine J_iload 5 aX12_goesPlans_66 rfl ?_
      refine J_iconst (nI 1) aX12_goesPlans_68 (by decide +kernel) ?_
      refine J_iadd aX12_goesPlans_69 ?_
      refine J_goto aX12_goesPlans_70 ?_
      refine J_pick [1, 2, 3, 4, 5, 6, 7] rfl ?_
      exact h
theorem S_X12_goesPlans_75 {E : EE} {d : Nat} {I : IH} {Q : QT} (x1 : Int32) (x2 : Int32) (x3 : Int32) (x4 : Int32) (x5 : Int32) (x6 : Int32) (t0 : Int32) (t1 : Int32) (t2 : Int32) (t3 : Int32) (h :
(Mt E d mX12_goesPlans [.ref (eb E + 115), .int t3, .int t2, .int t1, .int t0, .int x5] I (fun rv I1 => rv = none ∧
 (Mt E d mX12_restores [.ref (eb E + 115), .int x1] I1 (fun rv I2 => rv = none ∧
 J E (d + 1) mX12_goesPlans 24 [(0, .ref (eb E + 115)), (1, .int x1), (2, .int x2), (3, .int x3), (4, .int x4), (5, .int x5), (6, .int (x6 + nI 1))] [] I2 Q))))) : J E (d + 1) mX12_goesPlans 75 [(0, .ref (eb E + 115)), (1, .int x1), (2, .int x2), (3, .int x3), (4, .int x4), (5, .int x5), (6, .int x6)] [.int t0, .int t1, .int t2, .int t3, .ref (eb E + 115)] I Q := by
  refine J_iload 5 aX12_goesPlans_75 rfl ?_
  refine J_callV [.int t3, .int t2, .int t1, .int t0, .int x5] [] aX12_goesPlans_77 lkX12_283_X12 okX12_goesPlans sh115 rfl rfl rfl (Nat.le_of_ble_eq_true rfl) (Nat.le_refl _) (Mt_mono h (fun rv I1 h => ?_))
  obtain ⟨rfl, h⟩ := h
  refine J_r0 ?_
  refine J_aload_n 0 aX12_goesPlans_80 rfl ?_
  refine J_iload_n 1 aX12_goesPlans_81 rfl ?_
  refine J_callV [.int x1] [] aX12_goesPlans_82 lkX12_287_X12 okX12_restores sh115 rfl rfl rfl (Nat.le_of_ble_eq_true rfl) (Nat.le_refl _) (Mt_mono h (fun rv I2 h => ?_))
  obtain ⟨rfl, h⟩ := h
  refine J_r0 ?_
  refine J_iinc (x6 + nI 1) [(6, .int (x6 + nI 1)), (0, .ref (eb E + 115)), (1, .int x1), (2, .int x2), (3, .int x3), (4, .int x4), (5, .int x5)] 6 aX12_goesPlans_85 rfl (by first | rfl | (congr 1; decide +kernel)) (by decide) rfl ?_
  refine J_goto aX12_goesPlans_88 ?_
  refine J_pick [1, 2, 3, 4, 5, 6, 0] rfl ?_
  exact h
theorem aX12_triesAll_0 : decode mX12_triesAll.2.1 0 = .ok (.aload_n 0, 1) ∧ 0 + 1 = 1 := ⟨by decide +kernel, rfl⟩
theorem aX12_triesAll_1 : decode mX12_triesAll.2.1 1 = .ok (.iconst (-1), 1) ∧ 1 + 1 = 2 := ⟨by decide +kernel, rfl⟩
theorem aX12_triesAll_2 : decode mX12_triesAll.2.1 2 = .ok (.putfield 265, 3) ∧ 2 + 3 = 5 := ⟨by decide +kernel, rfl⟩
theorem aX12_triesAll_5 : decode mX12_triesAll.2.1 5 = .ok (.aload_n 0, 1) ∧ 5 + 1 = 6 := ⟨by decide +kernel, rfl⟩
theorem aX12_triesAll_6 : decode mX12_triesAll.2.1 6 = .ok (.iconst 0, 1) ∧ 6 + 1 = 7 := ⟨by decide +kernel, rfl⟩
theorem aX12_triesAll_7 : decode mX12_triesAll.2.1 7 = .ok (.putfield 268, 3) ∧ 7 + 3 = 10 := ⟨by decide +kernel, rfl⟩
theorem aX12_triesAll_10 : decode mX12_triesAll.2.1 10 = .ok (.aload_n 0, 1) ∧ 10 + 1 = 11 := ⟨by decide +kernel, rfl⟩
theorem aX12_triesAll_11 : decode mX12_triesAll.2.1 11 = .ok (.iconst 5, 1) ∧ 11 + 1 = 12 := ⟨by decide +kernel, rfl⟩
theorem aX12_triesAll_12 : decode mX12_triesAll.2.1 12 = .ok (.putfield 271, 3) ∧ 12 + 3 = 15 := ⟨by decide +kernel, rfl⟩
theorem aX12_triesAll_15 : decode mX12_triesAll.2.1 15 = .ok (.aload_n 0, 1) ∧ 15 + 1 = 16 := ⟨by decide +kernel, rfl⟩
theorem aX12_triesAll_16 : decode mX12_triesAll.2.1 16 = .ok (.iconst 0, 1) ∧ 16 + 1 = 17 := ⟨by decide +kernel, rfl⟩
theorem aX12_triesAll_17 : decode mX12_triesAll.2.1 17 = .ok (.putfield 274, 3) ∧ 17 + 3 = 20 := ⟨by decide +kernel, rfl⟩
theorem aX12_triesAll_20 : decode mX12_triesAll.2.1 20 = .ok (.aload_n 0, 1) ∧ 20 + 1 = 21 := ⟨by decide +kernel, rfl⟩
theorem aX12_triesAll_21 : decode mX12_triesAll.2.1 21 = .ok (.iconst 0, 1) ∧ 21 + 1 = 22 := ⟨by decide +kernel, rfl⟩
theorem aX12_triesAll_22 : decode mX12_triesAll.2.1 22 = .ok (.aload_n 0, 1) ∧ 22 + 1 = 23 := ⟨by decide +kernel, rfl⟩
theorem aX12_triesAll_23 : decode mX12_triesAll.2.1 23 = .ok (.iload_n 1, 1) ∧ 23 + 1 = 24 := ⟨by decide +kernel, rfl⟩
theorem aX12_triesAll_24 : decode mX12_triesAll.2.1 24 = .ok (.invokevirtual 290, 3) ∧ 24 + 3 = 27 := ⟨by decide +kernel, rfl⟩
theorem aX12_triesAll_27 : decode mX12_triesAll.2.1 27 = .ok (.iconst 0, 1) ∧ 27 + 1 = 28 := ⟨by decide +kernel, rfl⟩
theorem aX12_triesAll_28 : decode mX12_triesAll.2.1 28 = .ok (.iconst 0, 1) ∧ 28 + 1 = 29 := ⟨by decide +kernel, rfl⟩
theorem aX12_triesAll_29 : decode mX12_triesAll.2.1 29 = .ok (.iload_n 2, 1) ∧ 29 + 1 = 30 := ⟨by decide +kernel, rfl⟩
theorem aX12_triesAll_30 : decode mX12_triesAll.2.1 30 = .ok (.invokevirtual 283, 3) ∧ 30 + 3 = 33 := ⟨by decide +kernel, rfl⟩
theorem aX12_triesAll_33 : decode mX12_triesAll.2.1 33 = .ok (.return_, 1) := by decide +kernel
theorem S_X12_triesAll {E : EE} {d : Nat} {I : IH} {Q : QT} (x1 : Int32) (x2 : Int32) (h :
(∀ I1 : IH, I1 = stI I 115 21 (-1) →
 (∀ I3 : IH, I3 = stI I1 115 22 (nI 0) →
 (∀ I5 : IH, I5 = stI I3 115 23 (nI 5) →
 (∀ I7 : IH, I7 = stI I5 115 24 (nI 0) →
 (Mt E d mX12_daysOf [.ref (eb E + 115), .int x1] I7 (fun rv I9 => ∃ v10 : Int32, rv = some (.int v10) ∧
 (Mt E d mX12_goesPlans [.ref (eb E + 115), .int (nI 0), .int v10, .int (nI 0), .int (nI 0), .int x2] I9 (fun rv I11 => rv = none ∧
 Q none I11))))))))) : Mt E (d + 1) mX12_triesAll [.ref (eb E + 115), .int x1, .int x2] I Q := by
  refine Mt_of [(0, .ref (eb E + 115)), (1, .int x1), (2, .int x2)] (by decide +kernel) (by simp [lg_sl, Value.category, mX12_triesAll]) rfl ?_
  refine J_aload_n 0 aX12_triesAll_0 rfl ?_
  refine J_iconst (-1) aX12_triesAll_1 (by decide +kernel) ?_
  refine J_putI aX12_triesAll_2 fpX12_265 sh115 rfl (fun I1 e2 => ?_)
  replace h := h I1 e2
  refine J_aload_n 0 aX12_triesAll_5 rfl ?_
  refine J_iconst (nI 0) aX12_triesAll_6 (by decide +kernel) ?_
  refine J_putI aX12_triesAll_7 fpX12_268 sh115 rfl (fun I3 e4 => ?_)
  replace h := h I3 e4
  refine J_aload_n 0 aX12_triesAll_10 rfl ?_
  refine J_iconst (nI 5) aX12_triesAll_11 (by decide +kernel) ?_
  refine J_putI aX12_triesAll_12 fpX12_271 sh115 rfl (fun I5 e6 => ?_)
  replace h := h I5 e6
  refine J_aload_n 0 aX12_triesAll_15 rfl ?_
  refine J_iconst (nI 0) aX12_triesAll_16 (by decide +kernel) ?_
  refine J_putI aX12_triesAll_17 fpX12_274 sh115 rfl (fun I7 e8 => ?_)
  replace h := h I7 e8
  refine J_aload_n 0 aX12_triesAll_20 rfl ?_
  refine J_iconst (nI 0) aX12_triesAll_21 (by decide +kernel) ?_
  refine J_aload_n 0 aX12_triesAll_22 rfl ?_
  refine J_iload_n 1 aX12_triesAll_23 rfl ?_
  refine J_callV [.int x1] [.int (nI 0), .ref (eb E + 115)] aX12_triesAll_24 lkX12_290_X12 okX12_daysOf sh115 rfl rfl rfl (Nat.le_of_ble_eq_true rfl) (Nat.le_refl _) (Mt_mono h (fun rv I9 h => ?_))
  obtain ⟨v10, rfl, h⟩ := h
  refine J_r1 ?_
  refine J_iconst (nI 0) aX12_triesAll_27 (by decide +kernel) ?_
  refine J_iconst (nI 0) aX12_triesAll_28 (by decide +kernel) ?_
  refine J_iload_n 2 aX12_triesAll_29 rfl ?_
  refine J_callV [.int (nI 0), .int v10, .int (nI 0), .int (nI 0), .int x2] [] aX12_triesAll_30 lkX12_283_X12 okX12_goesPlans sh115 rfl rfl rfl (Nat.le_of_ble_eq_true rfl) (Nat.le_refl _) (Mt_mono h (fun rv I11 h => ?_))
  obtain ⟨rfl, h⟩ := h
  refine J_r0 ?_
  exact J_vret aX12_triesAll_33 rfl h
theorem aX12_isPlan_0 : decode mX12_isPlan.2.1 0 = .ok (.iload_n 0, 1) ∧ 0 + 1 = 1 := ⟨by decide +kernel, rfl⟩
theorem aX12_isPlan_1 : decode mX12_isPlan.2.1 1 = .ok (.iconst 0, 1) ∧ 1 + 1 = 2 := ⟨by decide +kernel, rfl⟩
theorem aX12_isPlan_2 : decode mX12_isPlan.2.1 2 = .ok (.iconst 4, 1) ∧ 2 + 1 = 3 := ⟨by decide +kernel, rfl⟩
theorem aX12_isPlan_3 : decode mX12_isPlan.2.1 3 = .ok (.invokestatic 68, 3) ∧ 3 + 3 = 6 := ⟨by decide +kernel, rfl⟩
theorem aX12_isPlan_6 : decode mX12_isPlan.2.1 6 = .ok (.ireturn, 1) := by decide +kernel
theorem S_X12_isPlan {E : EE} {d : Nat} {I : IH} {Q : QT} (x0 : Int32) (h :
(Mt E d mX12_in1 [.int x0, .int (nI 0), .int (nI 4)] I (fun rv I1 => ∃ v2 : Int32, rv = some (.int v2) ∧
 ((v2 = 0 ∨ v2 = 1) ∧ Q (some (.int v2)) I1)))) : Mt E (d + 1) mX12_isPlan [.int x0] I Q := by
  refine Mt_of [(0, .int x0)] (by decide +kernel) (by simp [lg_sl, Value.category, mX12_isPlan]) rfl ?_
  refine J_iload_n 0 aX12_isPlan_0 rfl ?_
  refine J_iconst (nI 0) aX12_isPlan_1 (by decide +kernel) ?_
  refine J_iconst (nI 4) aX12_isPlan_2 (by decide +kernel) ?_
  refine J_callS [.int x0, .int (nI 0), .int (nI 4)] [] aX12_isPlan_3 lkX12_68 okX12_in1 rfl rfl (Nat.le_of_ble_eq_true rfl) (Nat.le_refl _) (Mt_mono h (fun rv I1 h => ?_))
  obtain ⟨v2, rfl, h⟩ := h
  refine J_r1 ?_
  exact J_zret aX12_isPlan_6 rfl (nar_bool h.1).1 h.2
theorem aX12_best_0 : decode mX12_best.2.1 0 = .ok (.iload_n 1, 1) ∧ 0 + 1 = 1 := ⟨by decide +kernel, rfl⟩
theorem aX12_best_1 : decode mX12_best.2.1 1 = .ok (.invokestatic 293, 3) ∧ 1 + 3 = 4 := ⟨by decide +kernel, rfl⟩
theorem aX12_best_4 : decode mX12_best.2.1 4 = .ok (.ifCond .ne 5, 3) ∧ ((4 : Nat) : Int) + 5 = ((9 : Nat) : Int) ∧ 4 + 3 = 7 := ⟨by decide +kernel, by decide, rfl⟩
theorem aX12_best_7 : decode mX12_best.2.1 7 = .ok (.iconst (-1), 1) ∧ 7 + 1 = 8 := ⟨by decide +kernel, rfl⟩
theorem aX12_best_8 : decode mX12_best.2.1 8 = .ok (.ireturn, 1) := by decide +kernel
theorem aX12_best_9 : decode mX12_best.2.1 9 = .ok (.aload_n 0, 1) ∧ 9 + 1 = 10 := ⟨by decide +kernel, rfl⟩
theorem aX12_best_10 : decode mX12_best.2.1 10 = .ok (.iload_n 1, 1) ∧ 10 + 1 = 11 := ⟨by decide +kernel, rfl⟩
theorem aX12_best_11 : decode mX12_best.2.1 11 = .ok (.iconst 0, 1) ∧ 11 + 1 = 12 := ⟨by decide +kernel, rfl⟩
theorem aX12_best_12 : decode mX12_best.2.1 12 = .ok (.invokevirtual 296, 3) ∧ 12 + 3 = 15 := ⟨by decide +kernel, rfl⟩
theorem aX12_best_15 : decode mX12_best.2.1 15 = .ok (.aload_n 0, 1) ∧ 15 + 1 = 16 := ⟨by decide +kernel, rfl⟩
theorem aX12_best_16 : decode mX12_best.2.1 16 = .ok (.getfield 265, 3) ∧ 16 + 3 = 19 := ⟨by decide +kernel, rfl⟩
theorem aX12_best_19 : decode mX12_best.2.1 19 = .ok (.ireturn, 1) := by decide +kernel
theorem S_X12_best {E : EE} {d : Nat} {I : IH} {Q : QT} (x1 : Int32) (h :
(Mt E d mX12_isPlan [.int x1] I (fun rv I1 => ∃ v2 : Int32, rv = some (.int v2) ∧
 ((¬ v2 = 0 → (Mt E d mX12_triesAll [.ref (eb E + 115), .int x1, .int (nI 0)] I1 (fun rv I3 => rv = none ∧
 Q (some (.int (I3 115 21))) I3))) ∧
 (v2 = 0 → Q (some (.int (-1))) I1))))) : Mt E (d + 1) mX12_best [.ref (eb E + 115), .int x1] I Q := by
  refine Mt_of [(0, .ref (eb E + 115)), (1, .int x1)] (by decide +kernel) (by simp [lg_sl, Value.category, mX12_best]) rfl ?_
  refine J_iload_n 1 aX12_best_0 rfl ?_
  refine J_callS [.int x1] [] aX12_best_1 lkX12_293 okX12_isPlan rfl rfl (Nat.le_of_ble_eq_true rfl) (Nat.le_refl _) (Mt_mono h (fun rv I1 h => ?_))
  obtain ⟨v2, rfl, h⟩ := h
  refine J_r1 ?_
  refine J_if_ne aX12_best_4 (fun q => ?_) (fun q => ?_)
  · replace h := h.1 q
    refine J_aload_n 0 aX12_best_9 rfl ?_
    refine J_iload_n 1 aX12_best_10 rfl ?_
    refine J_iconst (nI 0) aX12_best_11 (by decide +kernel) ?_
    refine J_callV [.int x1, .int (nI 0)] [] aX12_best_12 lkX12_296_X12 okX12_triesAll sh115 rfl rfl rfl (Nat.le_of_ble_eq_true rfl) (Nat.le_refl _) (Mt_mono h (fun rv I3 h => ?_))
    obtain ⟨rfl, h⟩ := h
    refine J_r0 ?_
    refine J_aload_n 0 aX12_best_15 rfl ?_
    refine J_getI aX12_best_16 flX12_265 sh115 rfl ?_
    exact J_iret aX12_best_19 rfl h
  · replace h := h.2 q
    refine J_iconst (-1) aX12_best_7 (by decide +kernel) ?_
    exact J_iret aX12_best_8 rfl h
theorem aX12_ith_0 : decode mX12_ith.2.1 0 = .ok (.iload_n 1, 1) ∧ 0 + 1 = 1 := ⟨by decide +kernel, rfl⟩
theorem aX12_ith_1 : decode mX12_ith.2.1 1 = .ok (.invokestatic 293, 3) ∧ 1 + 3 = 4 := ⟨by decide +kernel, rfl⟩
theorem aX12_ith_4 : decode mX12_ith.2.1 4 = .ok (.ifCond .eq 12, 3) ∧ ((4 : Nat) : Int) + 12 = ((16 : Nat) : Int) ∧ 4 + 3 = 7 := ⟨by decide +kernel, by decide, rfl⟩
theorem aX12_ith_7 : decode mX12_ith.2.1 7 = .ok (.iload_n 2, 1) ∧ 7 + 1 = 8 := ⟨by decide +kernel, rfl⟩
theorem aX12_ith_8 : decode mX12_ith.2.1 8 = .ok (.iconst 0, 1) ∧ 8 + 1 = 9 := ⟨by decide +kernel, rfl⟩
theorem aX12_ith_9 : decode mX12_ith.2.1 9 = .ok (.iconst 3, 1) ∧ 9 + 1 = 10 := ⟨by decide +kernel, rfl⟩
theorem aX12_ith_10 : decode mX12_ith.2.1 10 = .ok (.invokestatic 68, 3) ∧ 10 + 3 = 13 := ⟨by decide +kernel, rfl⟩
theorem aX12_ith_13 : decode mX12_ith.2.1 13 = .ok (.ifCond .ne 5, 3) ∧ ((13 : Nat) : Int) + 5 = ((18 : Nat) : Int) ∧ 13 + 3 = 16 := ⟨by decide +kernel, by decide, rfl⟩
theorem aX12_ith_16 : decode mX12_ith.2.1 16 = .ok (.iconst (-1), 1) ∧ 16 + 1 = 17 := ⟨by decide +kernel, rfl⟩
theorem aX12_ith_17 : decode mX12_ith.2.1 17 = .ok (.ireturn, 1) := by decide +kernel
theorem aX12_ith_18 : decode mX12_ith.2.1 18 = .ok (.aload_n 0, 1) ∧ 18 + 1 = 19 := ⟨by decide +kernel, rfl⟩
theorem aX12_ith_19 : decode mX12_ith.2.1 19 = .ok (.iload_n 1, 1) ∧ 19 + 1 = 20 := ⟨by decide +kernel, rfl⟩
theorem aX12_ith_20 : decode mX12_ith.2.1 20 = .ok (.iconst 0, 1) ∧ 20 + 1 = 21 := ⟨by decide +kernel, rfl⟩
theorem aX12_ith_21 : decode mX12_ith.2.1 21 = .ok (.invokevirtual 296, 3) ∧ 21 + 3 = 24 := ⟨by decide +kernel, rfl⟩
theorem aX12_ith_24 : decode mX12_ith.2.1 24 = .ok (.iload_n 2, 1) ∧ 24 + 1 = 25 := ⟨by decide +kernel, rfl⟩
theorem aX12_ith_25 : decode mX12_ith.2.1 25 = .ok (.aload_n 0, 1) ∧ 25 + 1 = 26 := ⟨by decide +kernel, rfl⟩
theorem aX12_ith_26 : decode mX12_ith.2.1 26 = .ok (.iload_n 1, 1) ∧ 26 + 1 = 27 := ⟨by decide +kernel, rfl⟩
theorem aX12_ith_27 : decode mX12_ith.2.1 27 = .ok (.invokevirtual 290, 3) ∧ 27 + 3 = 30 := ⟨by decide +kernel, rfl⟩
theorem aX12_ith_30 : decode mX12_ith.2.1 30 = .ok (.if_icmp .ge 12, 3) ∧ ((30 : Nat) : Int) + 12 = ((42 : Nat) : Int) ∧ 30 + 3 = 33 := ⟨by decide +kernel, by decide, rfl⟩
theorem aX12_ith_33 : decode mX12_ith.2.1 33 = .ok (.aload_n 0, 1) ∧ 33 + 1 = 34 := ⟨by decide +kernel, rfl⟩
theorem aX12_ith_34 : decode mX12_ith.2.1 34 = .ok (.getfield 41, 3) ∧ 34 + 3 = 37 := ⟨by decide +kernel, rfl⟩
theorem aX12_ith_37 : decode mX12_ith.2.1 37 = .ok (.iload_n 2, 1) ∧ 37 + 1 = 38 := ⟨by decide +kernel, rfl⟩
theorem aX12_ith_38 : decode mX12_ith.2.1 38 = .ok (.iaload, 1) ∧ 38 + 1 = 39 := ⟨by decide +kernel, rfl⟩
theorem aX12_ith_39 : decode mX12_ith.2.1 39 = .ok (.goto 5, 3) ∧ ((39 : Nat) : Int) + 5 = ((44 : Nat) : Int) := ⟨by decide +kernel, by decide⟩
theorem aX12_ith_42 : decode mX12_ith.2.1 42 = .ok (.bipush (-3), 2) ∧ 42 + 2 = 44 := ⟨by decide +kernel, rfl⟩
theorem aX12_ith_44 : decode mX12_ith.2.1 44 = .ok (.ireturn, 1) := by decide +kernel
theorem S_X12_ith {E : EE} {d : Nat} {I : IH} {Q : QT} (x1 : Int32) (x2 : Int32) (h :
(Mt E d mX12_isPlan [.int x1] I (fun rv I1 => ∃ v2 : Int32, rv = some (.int v2) ∧
 ((v2 = 0 → Q (some (.int (-1))) I1) ∧
 (¬ v2 = 0 → (Mt E d mX12_in1 [.int x2, .int (nI 0), .int (nI 3)] I1 (fun rv I3 => ∃ v4 : Int32, rv = some (.int v4) ∧
 ((¬ v4 = 0 → (Mt E d mX12_triesAll [.ref (eb E + 115), .int x1, .int (nI 0)] I3 (fun rv I5 => rv = none ∧
 (Mt E d mX12_daysOf [.ref (eb E + 115), .int x1] I5 (fun rv I6 => ∃ v7 : Int32, rv = some (.int v7) ∧
 ((v7 ≤ x2 → Q (some (.int (-3))) I6) ∧
 (¬ v7 ≤ x2 → (∃ j8 : Nat, x2 = nI j8 ∧ j8 < 4 ∧ Q (some (.int (I6 126 j8))) I6)))))))) ∧
 (v4 = 0 → Q (some (.int (-1))) I3))))))))) : Mt E (d + 1) mX12_ith [.ref (eb E + 115), .int x1, .int x2] I Q := by
  refine Mt_of [(0, .ref (eb E + 115)), (1, .int x1), (2, .int x2)] (by decide +kernel) (by simp [lg_sl, Value.category, mX12_ith]) rfl ?_
  refine J_iload_n 1 aX12_ith_0 rfl ?_
  refine J_callS [.int x1] [] aX12_ith_1 lkX12_293 okX12_isPlan rfl rfl (Nat.le_of_ble_eq_true rfl) (Nat.le_refl _) (Mt_mono h (fun rv I1 h => ?_))
  obtain ⟨v2, rfl, h⟩ := h
  refine J_r1 ?_
  refine J_if_eq aX12_ith_4 (fun q => ?_) (fun q => ?_)
  · replace h := h.1 q
    refine J_iconst (-1) aX12_ith_16 (by decide +kernel) ?_
    exact J_iret aX12_ith_17 rfl h
  · replace h := h.2 q
    refine J_iload_n 2 aX12_ith_7 rfl ?_
    refine J_iconst (nI 0) aX12_ith_8 (by decide +kernel) ?_
    refine J_iconst (nI 3) aX12_ith_9 (by decide +kernel) ?_
    refine J_callS [.int x2, .int (nI 0), .int (nI 3)] [] aX12_ith_10 lkX12_68 okX12_in1 rfl rfl (Nat.le_of_ble_eq_true rfl) (Nat.le_refl _) (Mt_mono h (fun rv I3 h => ?_))
    obtain ⟨v4, rfl, h⟩ := h
    refine J_r1 ?_
    refine J_if_ne aX12_ith_13 (fun q => ?_) (fun q => ?_)
    · replace h := h.1 q
      refine J_aload_n 0 aX12_ith_18 rfl ?_
      refine J_iload_n 1 aX12_ith_19 rfl ?_
      refine J_iconst (nI 0) aX12_ith_20 (by decide +kernel) ?_
      refine J_callV [.int x1, .int (nI 0)] [] aX12_ith_21 lkX12_296_X12 okX12_triesAll sh115 rfl rfl rfl (Nat.le_of_ble_eq_true rfl) (Nat.le_refl _) (Mt_mono h (fun rv I5 h => ?_))
      obtain ⟨rfl, h⟩ := h
      refine J_r0 ?_
      refine J_iload_n 2 aX12_ith_24 rfl ?_
      refine J_aload_n 0 aX12_ith_25 rfl ?_
      refine J_iload_n 1 aX12_ith_26 rfl ?_
      refine J_callV [.int x1] [.int x2] aX12_ith_27 lkX12_290_X12 okX12_daysOf sh115 rfl rfl rfl (Nat.le_of_ble_eq_true rfl) (Nat.le_refl _) (Mt_mono h (fun rv I6 h => ?_))
      obtain ⟨v7, rfl, h⟩ := h
      refine J_r1 ?_
      refine J_icmp_ge aX12_ith_30 (fun q => ?_) (fun q => ?_)
      · replace h := h.1 q
        refine J_bipush (-3) aX12_ith_42 (by decide +kernel) ?_
        exact J_iret aX12_ith_44 rfl h
      · replace h := h.2 q
        refine J_aload_n 0 aX12_ith_33 rfl ?_
        refine J_getR aX12_ith_34 flX12_41 sh115 rfl ?_
        refine J_iload_n 2 aX12_ith_37 rfl ?_
        obtain ⟨j8, e9, b10, h⟩ := h
        refine J_iaload j8 aX12_ith_38 sh126 e9 b10 (by decide) ?_
        refine J_goto aX12_ith_39 ?_
        exact J_iret aX12_ith_44 rfl h
    · replace h := h.2 q
      refine J_iconst (-1) aX12_ith_16 (by decide +kernel) ?_
      exact J_iret aX12_ith_17 rfl h
theorem aX12_ways_0 : decode mX12_ways.2.1 0 = .ok (.iload_n 1, 1) ∧ 0 + 1 = 1 := ⟨by decide +kernel, rfl⟩
theorem aX12_ways_1 : decode mX12_ways.2.1 1 = .ok (.invokestatic 293, 3) ∧ 1 + 3 = 4 := ⟨by decide +kernel, rfl⟩
theorem aX12_ways_4 : decode mX12_ways.2.1 4 = .ok (.ifCond .ne 5, 3) ∧ ((4 : Nat) : Int) + 5 = ((9 : Nat) : Int) ∧ 4 + 3 = 7 := ⟨by decide +kernel, by decide, rfl⟩
theorem aX12_ways_7 : decode mX12_ways.2.1 7 = .ok (.iconst (-1), 1) ∧ 7 + 1 = 8 := ⟨by decide +kernel, rfl⟩
theorem aX12_ways_8 : decode mX12_ways.2.1 8 = .ok (.ireturn, 1) := by decide +kernel
theorem aX12_ways_9 : decode mX12_ways.2.1 9 = .ok (.aload_n 0, 1) ∧ 9 + 1 = 10 := ⟨by decide +kernel, rfl⟩
theorem aX12_ways_10 : decode mX12_ways.2.1 10 = .ok (.iload_n 1, 1) ∧ 10 + 1 = 11 := ⟨by decide +kernel, rfl⟩
theorem aX12_ways_11 : decode mX12_ways.2.1 11 = .ok (.iconst 0, 1) ∧ 11 + 1 = 12 := ⟨by decide +kernel, rfl⟩
theorem aX12_ways_12 : decode mX12_ways.2.1 12 = .ok (.invokevirtual 296, 3) ∧ 12 + 3 = 15 := ⟨by decide +kernel, rfl⟩
theorem aX12_ways_15 : decode mX12_ways.2.1 15 = .ok (.aload_n 0, 1) ∧ 15 + 1 = 16 := ⟨by decide +kernel, rfl⟩
theorem aX12_ways_16 : decode mX12_ways.2.1 16 = .ok (.getfield 268, 3) ∧ 16 + 3 = 19 := ⟨by decide +kernel, rfl⟩
theorem aX12_ways_19 : decode mX12_ways.2.1 19 = .ok (.ireturn, 1) := by decide +kernel
theorem S_X12_ways {E : EE} {d : Nat} {I : IH} {Q : QT} (x1 : Int32) (h :
(Mt E d mX12_isPlan [.int x1] I (fun rv I1 => ∃ v2 : Int32, rv = some (.int v2) ∧
 ((¬ v2 = 0 → (Mt E d mX12_triesAll [.ref (eb E + 115), .int x1, .int (nI 0)] I1 (fun rv I3 => rv = none ∧
 Q (some (.int (I3 115 22))) I3))) ∧
 (v2 = 0 → Q (some (.int (-1))) I1))))) : Mt E (d + 1) mX12_ways [.ref (eb E + 115), .int x1] I Q := by
  refine Mt_of [(0, .ref (eb E + 115)), (1, .int x1)] (by decide +kernel) (by simp [lg_sl, Value.category, mX12_ways]) rfl ?_
  refine J_iload_n 1 aX12_ways_0 rfl ?_
  refine J_callS [.int x1] [] aX12_ways_1 lkX12_293 okX12_isPlan rfl rfl (Nat.le_of_ble_eq_true rfl) (Nat.le_refl _) (Mt_mono h (fun rv I1 h => ?_))
  obtain ⟨v2, rfl, h⟩ := h
  refine J_r1 ?_
  refine J_if_ne aX12_ways_4 (fun q => ?_) (fun q => ?_)
  · replace h := h.1 q
    refine J_aload_n 0 aX12_ways_9 rfl ?_
    refine J_iload_n 1 aX12_ways_10 rfl ?_
    refine J_iconst (nI 0) aX12_ways_11 (by decide +kernel) ?_
    refine J_callV [.int x1, .int (nI 0)] [] aX12_ways_12 lkX12_296_X12 okX12_triesAll sh115 rfl rfl rfl (Nat.le_of_ble_eq_true rfl) (Nat.le_refl _) (Mt_mono h (fun rv I3 h => ?_))
    obtain ⟨rfl, h⟩ := h
    refine J_r0 ?_
    refine J_aload_n 0 aX12_ways_15 rfl ?_
    refine J_getI aX12_ways_16 flX12_268 sh115 rfl ?_
    exact J_iret aX12_ways_19 rfl h
  · replace h := h.2 q
    refine J_iconst (-1) aX12_ways_7 (by decide +kernel) ?_
    exact J_iret aX12_ways_8 rfl h
theorem aX12_isSet_0 : decode mX12_isSet.2.1 0 = .ok (.iload_n 1, 1) ∧ 0 + 1 = 1 := ⟨by decide +kernel, rfl⟩
theorem aX12_isSet_1 : decode mX12_isSet.2.1 1 = .ok (.iconst 0, 1) ∧ 1 + 1 = 2 := ⟨by decide +kernel, rfl⟩
theorem aX12_isSet_2 : decode mX12_isSet.2.1 2 = .ok (.iconst 1, 1) ∧ 2 + 1 = 3 := ⟨by decide +kernel, rfl⟩
theorem aX12_isSet_3 : decode mX12_isSet.2.1 3 = .ok (.aload_n 0, 1) ∧ 3 + 1 = 4 := ⟨by decide +kernel, rfl⟩
theorem aX12_isSet_4 : decode mX12_isSet.2.1 4 = .ok (.getfield 9, 3) ∧ 4 + 3 = 7 := ⟨by decide +kernel, rfl⟩
theorem aX12_isSet_7 : decode mX12_isSet.2.1 7 = .ok (.bipush 6, 2) ∧ 7 + 2 = 9 := ⟨by decide +kernel, rfl⟩
theorem aX12_isSet_9 : decode mX12_isSet.2.1 9 = .ok (.iaload, 1) ∧ 9 + 1 = 10 := ⟨by decide +kernel, rfl⟩
theorem aX12_isSet_10 : decode mX12_isSet.2.1 10 = .ok (.ishl, 1) ∧ 10 + 1 = 11 := ⟨by decide +kernel, rfl⟩
theorem aX12_isSet_11 : decode mX12_isSet.2.1 11 = .ok (.iconst 1, 1) ∧ 11 + 1 = 12 := ⟨by decide +kernel, rfl⟩
theorem aX12_isSet_12 : decode mX12_isSet.2.1 12 = .ok (.isub, 1) ∧ 12 + 1 = 13 := ⟨by decide +kernel, rfl⟩
theorem aX12_isSet_13 : decode mX12_isSet.2.1 13 = .ok (.invokestatic 68, 3) ∧ 13 + 3 = 16 := ⟨by decide +kernel, rfl⟩
theorem aX12_isSet_16 : decode mX12_isSet.2.1 16 = .ok (.ireturn, 1) := by decide +kernel
theorem S_X12_isSet {E : EE} {d : Nat} {I : IH} {Q : QT} (x1 : Int32) (h :
(Mt E d mX12_in1 [.int x1, .int (nI 0), .int (((nI 1) <<< ((I 116 6) &&& 31)) - (nI 1))] I (fun rv I1 => ∃ v2 : Int32, rv = some (.int v2) ∧
 ((v2 = 0 ∨ v2 = 1) ∧ Q (some (.int v2)) I1)))) : Mt E (d + 1) mX12_isSet [.ref (eb E + 115), .int x1] I Q := by
  refine Mt_of [(0, .ref (eb E + 115)), (1, .int x1)] (by decide +kernel) (by simp [lg_sl, Value.category, mX12_isSet]) rfl ?_
  refine J_iload_n 1 aX12_isSet_0 rfl ?_
  refine J_iconst (nI 0) aX12_isSet_1 (by decide +kernel) ?_
  refine J_iconst (nI 1) aX12_isSet_2 (by decide +kernel) ?_
  refine J_aload_n 0 aX12_isSet_3 rfl ?_
  refine J_getR aX12_isSet_4 flX12_9 sh115 rfl ?_
  refine J_bipush (nI 6) aX12_isSet_7 (by decide +kernel) ?_
  refine J_iaload 6 aX12_isSet_9 sh116 rfl (by decide) (by decide) ?_
  refine J_ishl aX12_isSet_10 ?_
  refine J_iconst (nI 1) aX12_isSet_11 (by decide +kernel) ?_
  refine J_isub aX12_isSet_12 ?_
  refine J_callS [.int x1, .int (nI 0), .int (((nI 1) <<< ((I 116 6) &&& 31)) - (nI 1))] [] aX12_isSet_13 lkX12_68 okX12_in1 rfl rfl (Nat.le_of_ble_eq_true rfl) (Nat.le_refl _) (Mt_mono h (fun rv I1 h => ?_))
  obtain ⟨v2, rfl, h⟩ := h
  refine J_r1 ?_
  exact J_zret aX12_isSet_16 rfl (nar_bool h.1).1 h.2
theorem aX12_visit_0 : decode mX12_visit.2.1 0 = .ok (.iload_n 1, 1) ∧ 0 + 1 = 1 := ⟨by decide +kernel, rfl⟩
theorem aX12_visit_1 : decode mX12_visit.2.1 1 = .ok (.invokestatic 293, 3) ∧ 1 + 3 = 4 := ⟨by decide +kernel, rfl⟩
theorem aX12_visit_4 : decode mX12_visit.2.1 4 = .ok (.ifCond .eq 11, 3) ∧ ((4 : Nat) : Int) + 11 = ((15 : Nat) : Int) ∧ 4 + 3 = 7 := ⟨by decide +kernel, by decide, rfl⟩
theorem aX12_visit_7 : decode mX12_visit.2.1 7 = .ok (.aload_n 0, 1) ∧ 7 + 1 = 8 := ⟨by decide +kernel, rfl⟩
theorem aX12_visit_8 : decode mX12_visit.2.1 8 = .ok (.iload_n 2, 1) ∧ 8 + 1 = 9 := ⟨by decide +kernel, rfl⟩
theorem aX12_visit_9 : decode mX12_visit.2.1 9 = .ok (.invokevirtual 300, 3) ∧ 9 + 3 = 12 := ⟨by decide +kernel, rfl⟩
theorem aX12_visit_12 : decode mX12_visit.2.1 12 = .ok (.ifCond .ne 5, 3) ∧ ((12 : Nat) : Int) + 5 = ((17 : Nat) : Int) ∧ 12 + 3 = 15 := ⟨by decide +kernel, by decide, rfl⟩
theorem aX12_visit_15 : decode mX12_visit.2.1 15 = .ok (.iconst (-1), 1) ∧ 15 + 1 = 16 := ⟨by decide +kernel, rfl⟩
theorem aX12_visit_16 : decode mX12_visit.2.1 16 = .ok (.ireturn, 1) := by decide +kernel
theorem aX12_visit_17 : decode mX12_visit.2.1 17 = .ok (.aload_n 0, 1) ∧ 17 + 1 = 18 := ⟨by decide +kernel, rfl⟩
theorem aX12_visit_18 : decode mX12_visit.2.1 18 = .ok (.iload_n 1, 1) ∧ 18 + 1 = 19 := ⟨by decide +kernel, rfl⟩
theorem aX12_visit_19 : decode mX12_visit.2.1 19 = .ok (.iload_n 2, 1) ∧ 19 + 1 = 20 := ⟨by decide +kernel, rfl⟩
theorem aX12_visit_20 : decode mX12_visit.2.1 20 = .ok (.invokevirtual 296, 3) ∧ 20 + 3 = 23 := ⟨by decide +kernel, rfl⟩
theorem aX12_visit_23 : decode mX12_visit.2.1 23 = .ok (.aload_n 0, 1) ∧ 23 + 1 = 24 := ⟨by decide +kernel, rfl⟩
theorem aX12_visit_24 : decode mX12_visit.2.1 24 = .ok (.getfield 271, 3) ∧ 24 + 3 = 27 := ⟨by decide +kernel, rfl⟩
theorem aX12_visit_27 : decode mX12_visit.2.1 27 = .ok (.iconst 4, 1) ∧ 27 + 1 = 28 := ⟨by decide +kernel, rfl⟩
theorem aX12_visit_28 : decode mX12_visit.2.1 28 = .ok (.if_icmp .le 8, 3) ∧ ((28 : Nat) : Int) + 8 = ((36 : Nat) : Int) ∧ 28 + 3 = 31 := ⟨by decide +kernel, by decide, rfl⟩
theorem aX12_visit_31 : decode mX12_visit.2.1 31 = .ok (.bipush (-3), 2) ∧ 31 + 2 = 33 := ⟨by decide +kernel, rfl⟩
theorem aX12_visit_33 : decode mX12_visit.2.1 33 = .ok (.goto 7, 3) ∧ ((33 : Nat) : Int) + 7 = ((40 : Nat) : Int) := ⟨by decide +kernel, by decide⟩
theorem aX12_visit_36 : decode mX12_visit.2.1 36 = .ok (.aload_n 0, 1) ∧ 36 + 1 = 37 := ⟨by decide +kernel, rfl⟩
theorem aX12_visit_37 : decode mX12_visit.2.1 37 = .ok (.getfield 271, 3) ∧ 37 + 3 = 40 := ⟨by decide +kernel, rfl⟩
theorem aX12_visit_40 : decode mX12_visit.2.1 40 = .ok (.ireturn, 1) := by decide +kernel
theorem S_X12_visit {E : EE} {d : Nat} {I : IH} {Q : QT} (x1 : Int32) (x2 : Int32) (h :
(Mt E d mX12_isPlan [.int x1] I (fun rv I1 => ∃ v2 : Int32, rv = some (.int v2) ∧
 ((v2 = 0 → Q (some (.int (-1))) I1) ∧
 (¬ v2 = 0 → (Mt E d mX12_isSet [.ref (eb E + 115), .int x2] I1 (fun rv I3 => ∃ v4 : Int32, rv = some (.int v4) ∧
 ((¬ v4 = 0 → (Mt E d mX12_triesAll [.ref (eb E + 115), .int x1, .int x2] I3 (fun rv I5 => rv = none ∧
 (((I5 115 23) ≤ (nI 4) → Q (some (.int (I5 115 23))) I5) ∧
 (¬ (I5 115 23) ≤ (nI 4) → Q (some (.int (-3))) I5))))) ∧
 (v4 = 0 → Q (some (.int (-1))) I3))))))))) : Mt E (d + 1) mX12_visit [.ref (eb E + 115), .int x1, .int x2] I Q := by
  refine Mt_of [(0, .ref (eb E + 115)), (1, .int x1), (2, .int x2)] (by decide +kernel) (by simp [lg_sl, Value.category, mX12_visit]) rfl ?_
  refine J_iload_n 1 aX12_visit_0 rfl ?_
  refine J_callS [.int x1] [] aX12_visit_1 lkX12_293 okX12_isPlan rfl rfl (Nat.le_of_ble_eq_true rfl) (Nat.le_refl _) (Mt_mono h (fun rv I1 h => ?_))
  obtain ⟨v2, rfl, h⟩ := h
  refine J_r1 ?_
  refine J_if_eq aX12_visit_4 (fun q => ?_) (fun q => ?_)
  · replace h := h.1 q
    refine J_iconst (-1) aX12_visit_15 (by decide +kernel) ?_
    exact J_iret aX12_visit_16 rfl h
  · replace h := h.2 q
    refine J_aload_n 0 aX12_visit_7 rfl ?_
    refine J_iload_n 2 aX12_visit_8 rfl ?_
    refine J_callV [.int x2] [] aX12_visit_9 lkX12_300_X12 okX12_isSet sh115 rfl rfl rfl (Nat.le_of_ble_eq_true rfl) (Nat.le_refl _) (Mt_mono h (fun rv I3 h => ?_))
    obtain ⟨v4, rfl, h⟩ := h
    refine J_r1 ?_
    refine J_if_ne aX12_visit_12 (fun q => ?_) (fun q => ?_)
    · replace h := h.1 q
      refine J_aload_n 0 aX12_visit_17 rfl ?_
      refine J_iload_n 1 aX12_visit_18 rfl ?_
      refine J_iload_n 2 aX12_visit_19 rfl ?_
      refine J_callV [.int x1, .int x2] [] aX12_visit_20 lkX12_296_X12 okX12_triesAll sh115 rfl rfl rfl (Nat.le_of_ble_eq_true rfl) (Nat.le_refl _) (Mt_mono h (fun rv I5 h => ?_))
      obtain ⟨rfl, h⟩ := h
      refine J_r0 ?_
      refine J_aload_n 0 aX12_visit_23 rfl ?_
      refine J_getI aX12_visit_24 flX12_271 sh115 rfl ?_
      refine J_iconst (nI 4) aX12_visit_27 (by decide +kernel) ?_
      refine J_icmp_le aX12_visit_28 (fun q => ?_) (fun q => ?_)
      · replace h := h.1 q
        refine J_aload_n 0 aX12_visit_36 rfl ?_
        refine J_getI aX12_visit_37 flX12_271 sh115 rfl ?_
        exact J_iret aX12_visit_40 rfl h
      · replace h := h.2 q
        refine J_bipush (-3) aX12_visit_31 (by decide +kernel) ?_
        refine J_goto aX12_visit_33 ?_
        exact J_iret aX12_visit_40 rfl h
    · replace h := h.2 q
      refine J_iconst (-1) aX12_visit_15 (by decide +kernel) ?_
      exact J_iret aX12_visit_16 rfl h
theorem aX12_bars_0 : decode mX12_bars.2.1 0 = .ok (.iload_n 1, 1) ∧ 0 + 1 = 1 := ⟨by decide +kernel, rfl⟩
theorem aX12_bars_1 : decode mX12_bars.2.1 1 = .ok (.invokestatic 293, 3) ∧ 1 + 3 = 4 := ⟨by decide +kernel, rfl⟩
theorem aX12_bars_4 : decode mX12_bars.2.1 4 = .ok (.ifCond .eq 11, 3) ∧ ((4 : Nat) : Int) + 11 = ((15 : Nat) : Int) ∧ 4 + 3 = 7 := ⟨by decide +kernel, by decide, rfl⟩
theorem aX12_bars_7 : decode mX12_bars.2.1 7 = .ok (.aload_n 0, 1) ∧ 7 + 1 = 8 := ⟨by decide +kernel, rfl⟩
theorem aX12_bars_8 : decode mX12_bars.2.1 8 = .ok (.iload_n 2, 1) ∧ 8 + 1 = 9 := ⟨by decide +kernel, rfl⟩
theorem aX12_bars_9 : decode mX12_bars.2.1 9 = .ok (.invokevirtual 300, 3) ∧ 9 + 3 = 12 := ⟨by decide +kernel, rfl⟩
theorem aX12_bars_12 : decode mX12_bars.2.1 12 = .ok (.ifCond .ne 5, 3) ∧ ((12 : Nat) : Int) + 5 = ((17 : Nat) : Int) ∧ 12 + 3 = 15 := ⟨by decide +kernel, by decide, rfl⟩
theorem aX12_bars_15 : decode mX12_bars.2.1 15 = .ok (.iconst (-1), 1) ∧ 15 + 1 = 16 := ⟨by decide +kernel, rfl⟩
theorem aX12_bars_16 : decode mX12_bars.2.1 16 = .ok (.ireturn, 1) := by decide +kernel
theorem aX12_bars_17 : decode mX12_bars.2.1 17 = .ok (.aload_n 0, 1) ∧ 17 + 1 = 18 := ⟨by decide +kernel, rfl⟩
theorem aX12_bars_18 : decode mX12_bars.2.1 18 = .ok (.iload_n 1, 1) ∧ 18 + 1 = 19 := ⟨by decide +kernel, rfl⟩
theorem aX12_bars_19 : decode mX12_bars.2.1 19 = .ok (.iload_n 2, 1) ∧ 19 + 1 = 20 := ⟨by decide +kernel, rfl⟩
theorem aX12_bars_20 : decode mX12_bars.2.1 20 = .ok (.invokevirtual 296, 3) ∧ 20 + 3 = 23 := ⟨by decide +kernel, rfl⟩
theorem aX12_bars_23 : decode mX12_bars.2.1 23 = .ok (.iload_n 2, 1) ∧ 23 + 1 = 24 := ⟨by decide +kernel, rfl⟩
theorem aX12_bars_24 : decode mX12_bars.2.1 24 = .ok (.aload_n 0, 1) ∧ 24 + 1 = 25 := ⟨by decide +kernel, rfl⟩
theorem aX12_bars_25 : decode mX12_bars.2.1 25 = .ok (.getfield 274, 3) ∧ 25 + 3 = 28 := ⟨by decide +kernel, rfl⟩
theorem aX12_bars_28 : decode mX12_bars.2.1 28 = .ok (.iconst (-1), 1) ∧ 28 + 1 = 29 := ⟨by decide +kernel, rfl⟩
theorem aX12_bars_29 : decode mX12_bars.2.1 29 = .ok (.ixor, 1) ∧ 29 + 1 = 30 := ⟨by decide +kernel, rfl⟩
theorem aX12_bars_30 : decode mX12_bars.2.1 30 = .ok (.iand, 1) ∧ 30 + 1 = 31 := ⟨by decide +kernel, rfl⟩
theorem aX12_bars_31 : decode mX12_bars.2.1 31 = .ok (.istore_n 3, 1) ∧ 31 + 1 = 32 := ⟨by decide +kernel, rfl⟩
theorem aX12_bars_32 : decode mX12_bars.2.1 32 = .ok (.iconst 0, 1) ∧ 32 + 1 = 33 := ⟨by decide +kernel, rfl⟩
theorem aX12_bars_33 : decode mX12_bars.2.1 33 = .ok (.istore 4, 2) ∧ 33 + 2 = 35 := ⟨by decide +kernel, rfl⟩
theorem aX12_bars_35 : decode mX12_bars.2.1 35 = .ok (.iload 4, 2) ∧ 35 + 2 = 37 := ⟨by decide +kernel, rfl⟩
theorem aX12_bars_37 : decode mX12_bars.2.1 37 = .ok (.aload_n 0, 1) ∧ 37 + 1 = 38 := ⟨by decide +kernel, rfl⟩
theorem aX12_bars_38 : decode mX12_bars.2.1 38 = .ok (.getfield 9, 3) ∧ 38 + 3 = 41 := ⟨by decide +kernel, rfl⟩
theorem aX12_bars_41 : decode mX12_bars.2.1 41 = .ok (.bipush 6, 2) ∧ 41 + 2 = 43 := ⟨by decide +kernel, rfl⟩
theorem aX12_bars_43 : decode mX12_bars.2.1 43 = .ok (.iaload, 1) ∧ 43 + 1 = 44 := ⟨by decide +kernel, rfl⟩
theorem aX12_bars_44 : decode mX12_bars.2.1 44 = .ok (.if_icmp .ge 18, 3) ∧ ((44 : Nat) : Int) + 18 = ((62 : Nat) : Int) ∧ 44 + 3 = 47 := ⟨by decide +kernel, by decide, rfl⟩
theorem aX12_bars_47 : decode mX12_bars.2.1 47 = .ok (.iload_n 3, 1) ∧ 47 + 1 = 48 := ⟨by decide +kernel, rfl⟩
theorem aX12_bars_48 : decode mX12_bars.2.1 48 = .ok (.iload 4, 2) ∧ 48 + 2 = 50 := ⟨by decide +kernel, rfl⟩
theorem aX12_bars_50 : decode mX12_bars.2.1 50 = .ok (.ishr, 1) ∧ 50 + 1 = 51 := ⟨by decide +kernel, rfl⟩
theorem aX12_bars_51 : decode mX12_bars.2.1 51 = .ok (.iconst 1, 1) ∧ 51 + 1 = 52 := ⟨by decide +kernel, rfl⟩
theorem aX12_bars_52 : decode mX12_bars.2.1 52 = .ok (.iand, 1) ∧ 52 + 1 = 53 := ⟨by decide +kernel, rfl⟩
theorem aX12_bars_53 : decode mX12_bars.2.1 53 = .ok (.ifCond .ne 9, 3) ∧ ((53 : Nat) : Int) + 9 = ((62 : Nat) : Int) ∧ 53 + 3 = 56 := ⟨by decide +kernel, by decide, rfl⟩
theorem aX12_bars_56 : decode mX12_bars.2.1 56 = .ok (.iinc 4 1, 3) ∧ 56 + 3 = 59 := ⟨by decide +kernel, rfl⟩
theorem aX12_bars_59 : decode mX12_bars.2.1 59 = .ok (.goto (-24), 3) ∧ ((59 : Nat) : Int) + (-24) = ((35 : Nat) : Int) := ⟨by decide +kernel, by decide⟩
theorem aX12_bars_62 : decode mX12_bars.2.1 62 = .ok (.iload 4, 2) ∧ 62 + 2 = 64 := ⟨by decide +kernel, rfl⟩
theorem aX12_bars_64 : decode mX12_bars.2.1 64 = .ok (.aload_n 0, 1) ∧ 64 + 1 = 65 := ⟨by decide +kernel, rfl⟩
theorem aX12_bars_65 : decode mX12_bars.2.1 65 = .ok (.getfield 9, 3) ∧ 65 + 3 = 68 := ⟨by decide +kernel, rfl⟩
theorem aX12_bars_68 : decode mX12_bars.2.1 68 = .ok (.bipush 6, 2) ∧ 68 + 2 = 70 := ⟨by decide +kernel, rfl⟩
theorem aX12_bars_70 : decode mX12_bars.2.1 70 = .ok (.iaload, 1) ∧ 70 + 1 = 71 := ⟨by decide +kernel, rfl⟩
theorem aX12_bars_71 : decode mX12_bars.2.1 71 = .ok (.if_icmp .ge 8, 3) ∧ ((71 : Nat) : Int) + 8 = ((79 : Nat) : Int) ∧ 71 + 3 = 74 := ⟨by decide +kernel, by decide, rfl⟩
theorem aX12_bars_74 : decode mX12_bars.2.1 74 = .ok (.iload 4, 2) ∧ 74 + 2 = 76 := ⟨by decide +kernel, rfl⟩
theorem aX12_bars_76 : decode mX12_bars.2.1 76 = .ok (.goto 5, 3) ∧ ((76 : Nat) : Int) + 5 = ((81 : Nat) : Int) := ⟨by decide +kernel, by decide⟩
theorem aX12_bars_79 : decode mX12_bars.2.1 79 = .ok (.bipush (-3), 2) ∧ 79 + 2 = 81 := ⟨by decide +kernel, rfl⟩
theorem aX12_bars_81 : decode mX12_bars.2.1 81 = .ok (.ireturn, 1) := by decide +kernel
theorem S_X12_bars {E : EE} {d : Nat} {I : IH} {Q : QT} (x1 : Int32) (x2 : Int32) (h :
(Mt E d mX12_isPlan [.int x1] I (fun rv I1 => ∃ v2 : Int32, rv = some (.int v2) ∧
 ((v2 = 0 → Q (some (.int (-1))) I1) ∧
 (¬ v2 = 0 → (Mt E d mX12_isSet [.ref (eb E + 115), .int x2] I1 (fun rv I3 => ∃ v4 : Int32, rv = some (.int v4) ∧
 ((¬ v4 = 0 → (Mt E d mX12_triesAll [.ref (eb E + 115), .int x1, .int x2] I3 (fun rv I5 => rv = none ∧
 J E (d + 1) mX12_bars 35 [(0, .ref (eb E + 115)), (3, .int (x2 &&& ((I5 115 24) ^^^ (-1)))), (4, .int (nI 0))] [] I5 Q))) ∧
 (v4 = 0 → Q (some (.int (-1))) I3))))))))) : Mt E (d + 1) mX12_bars [.ref (eb E + 115), .int x1, .int x2] I Q := by
  refine Mt_of [(0, .ref (eb E + 115)), (1, .int x1), (2, .int x2)] (by decide +kernel) (by simp [lg_sl, Value.category, mX12_bars]) rfl ?_
  refine J_iload_n 1 aX12_bars_0 rfl ?_
  refine J_callS [.int x1] [] aX12_bars_1 lkX12_293 okX12_isPlan rfl rfl (Nat.le_of_ble_eq_true rfl) (Nat.le_refl _) (Mt_mono h (fun rv I1 h => ?_))
  obtain ⟨v2, rfl, h⟩ := h
  refine J_r1 ?_
  refine J_if_eq aX12_bars_4 (fun q => ?_) (fun q => ?_)
  · replace h := h.1 q
    refine J_iconst (-1) aX12_bars_15 (by decide +kernel) ?_
    exact J_iret aX12_bars_16 rfl h
  · replace h := h.2 q
    refine J_aload_n 0 aX12_bars_7 rfl ?_
    refine J_iload_n 2 aX12_bars_8 rfl ?_
    refine J_callV [.int x2] [] aX12_bars_9 lkX12_300_X12 okX12_isSet sh115 rfl rfl rfl (Nat.le_of_ble_eq_true rfl) (Nat.le_refl _) (Mt_mono h (fun rv I3 h => ?_))
    obtain ⟨v4, rfl, h⟩ := h
    refine J_r1 ?_
    refine J_if_ne aX12_bars_12 (fun q => ?_) (fun q => ?_)
    · replace h := h.1 q
      refine J_aload_n 0 aX12_bars_17 rfl ?_
      refine J_iload_n 1 aX12_bars_18 rfl ?_
      refine J_iload_n 2 aX12_bars_19 rfl ?_
      refine J_callV [.int x1, .int x2] [] aX12_bars_20 lkX12_296_X12 okX12_triesAll sh115 rfl rfl rfl (Nat.le_of_ble_eq_true rfl) (Nat.le_refl _) (Mt_mono h (fun rv I5 h => ?_))
      obtain ⟨rfl, h⟩ := h
      refine J_r0 ?_
      refine J_iload_n 2 aX12_bars_23 rfl ?_
      refine J_aload_n 0 aX12_bars_24 rfl ?_
      refine J_getI aX12_bars_25 flX12_274 sh115 rfl ?_
      refine J_iconst (-1) aX12_bars_28 (by decide +kernel) ?_
      refine J_ixor aX12_bars_29 ?_
      refine J_iand aX12_bars_30 ?_
      refine J_istore_n [(3, .int (x2 &&& ((I5 115 24) ^^^ (-1)))), (0, .ref (eb E + 115)), (1, .int x1), (2, .int x2)] aX12_bars_31 (by decide) rfl ?_
      refine J_iconst (nI 0) aX12_bars_32 (by decide +kernel) ?_
      refine J_istore [(4, .int (nI 0)), (3, .int (x2 &&& ((I5 115 24) ^^^ (-1)))), (0, .ref (eb E + 115)), (1, .int x1), (2, .int x2)] aX12_bars_33 (by decide) rfl ?_
      refine J_pick [2, 1, 0] rfl ?_
      exact h
    · replace h := h.2 q
      refine J_iconst (-1) aX12_bars_15 (by decide +kernel) ?_
      exact J_iret aX12_bars_16 rfl h
theorem S_X12_bars_35 {E : EE} {d : Nat} {I : IH} {Q : QT} (x3 : Int32) (x4 : Int32) (h :
(((I 116 6) ≤ x4 → (((I 116 6) ≤ x4 → Q (some (.int (-3))) I) ∧
 (¬ (I 116 6) ≤ x4 → Q (some (.int x4)) I))) ∧
 (¬ (I 116 6) ≤ x4 → ((¬ ((x3 >>> (x4 &&& 31)) &&& (nI 1)) = 0 → (((I 116 6) ≤ x4 → Q (some (.int (-3))) I) ∧
 (¬ (I 116 6) ≤ x4 → Q (some (.int x4)) I))) ∧
 (((x3 >>> (x4 &&& 31)) &&& (nI 1)) = 0 → J E (d + 1) mX12_bars 35 [(0, .ref (eb E + 115)), (3, .int x3), (4, .int (x4 + nI 1))] [] I Q))))) : J E (d + 1) mX12_bars 35 [(0, .ref (eb E + 115)), (3, .int x3), (4, .int x4)] [] I Q := by
  refine J_iload 2 aX12_bars_35 rfl ?_
  refine J_aload_n 0 aX12_bars_37 rfl ?_
  refine J_getR aX12_bars_38 flX12_9 sh115 rfl ?_
  refine J_bipush (nI 6) aX12_bars_41 (by decide +kernel) ?_
  refine J_iaload 6 aX12_bars_43 sh116 rfl (by decide) (by decide) ?_
  refine J_icmp_ge aX12_bars_44 (fun q => ?_) (fun q => ?_)
  · replace h := h.1 q
    refine J_iload 2 aX12_bars_62 rfl ?_
    refine J_aload_n 0 aX12_bars_64 rfl ?_
    refine J_getR aX12_bars_65 flX12_9 sh115 rfl ?_
    refine J_bipush (nI 6) aX12_bars_68 (by decide +kernel) ?_
    refine J_iaload 6 aX12_bars_70 sh116 rfl (by decide) (by decide) ?_
    refine J_icmp_ge aX12_bars_71 (fun q => ?_) (fun q => ?_)
    · replace h := h.1 q
      refine J_bipush (-3) aX12_bars_79 (by decide +kernel) ?_
      exact J_iret aX12_bars_81 rfl h
    · replace h := h.2 q
      refine J_iload 2 aX12_bars_74 rfl ?_
      refine J_goto aX12_bars_76 ?_
      exact J_iret aX12_bars_81 rfl h
  · replace h := h.2 q
    refine J_iload_n 1 aX12_bars_47 rfl ?_
    refine J_iload 2 aX12_bars_48 rfl ?_
    refine J_ishr aX12_bars_50 ?_
    refine J_iconst (nI 1) aX12_bars_51 (by decide +kernel) ?_
    refine J_iand aX12_bars_52 ?_
    refine J_if_ne aX12_bars_53 (fun q => ?_) (fun q => ?_)
    · replace h := h.1 q
      refine J_iload 2 aX12_bars_62 rfl ?_
      refine J_aload_n 0 aX12_bars_64 rfl ?_
      refine J_getR aX12_bars_65 flX12_9 sh115 rfl ?_
      refine J_bipush (nI 6) aX12_bars_68 (by decide +kernel) ?_
      refine J_iaload 6 aX12_bars_70 sh116 rfl (by decide) (by decide) ?_
      refine J_icmp_ge aX12_bars_71 (fun q => ?_) (fun q => ?_)
      · replace h := h.1 q
        refine J_bipush (-3) aX12_bars_79 (by decide +kernel) ?_
        exact J_iret aX12_bars_81 rfl h
      · replace h := h.2 q
        refine J_iload 2 aX12_bars_74 rfl ?_
        refine J_goto aX12_bars_76 ?_
        exact J_iret aX12_bars_81 rfl h
    · replace h := h.2 q
      refine J_iinc (x4 + nI 1) [(4, .int (x4 + nI 1)), (0, .ref (eb E + 115)), (3, .int x3)] 2 aX12_bars_56 rfl (by first | rfl | (congr 1; decide +kernel)) (by decide) rfl ?_
      refine J_goto aX12_bars_59 ?_
      refine J_pick [1, 2, 0] rfl ?_
      exact h
theorem aX12_playedFrom_0 : decode mX12_playedFrom.2.1 0 = .ok (.iload_n 1, 1) ∧ 0 + 1 = 1 := ⟨by decide +kernel, rfl⟩
theorem aX12_playedFrom_1 : decode mX12_playedFrom.2.1 1 = .ok (.iload_n 2, 1) ∧ 1 + 1 = 2 := ⟨by decide +kernel, rfl⟩
theorem aX12_playedFrom_2 : decode mX12_playedFrom.2.1 2 = .ok (.if_icmp .ne 5, 3) ∧ ((2 : Nat) : Int) + 5 = ((7 : Nat) : Int) ∧ 2 + 3 = 5 := ⟨by decide +kernel, by decide, rfl⟩
theorem aX12_playedFrom_5 : decode mX12_playedFrom.2.1 5 = .ok (.iconst 0, 1) ∧ 5 + 1 = 6 := ⟨by decide +kernel, rfl⟩
theorem aX12_playedFrom_6 : decode mX12_playedFrom.2.1 6 = .ok (.ireturn, 1) := by decide +kernel
theorem aX12_playedFrom_7 : decode mX12_playedFrom.2.1 7 = .ok (.aload_n 0, 1) ∧ 7 + 1 = 8 := ⟨by decide +kernel, rfl⟩
theorem aX12_playedFrom_8 : decode mX12_playedFrom.2.1 8 = .ok (.iload_n 1, 1) ∧ 8 + 1 = 9 := ⟨by decide +kernel, rfl⟩
theorem aX12_playedFrom_9 : decode mX12_playedFrom.2.1 9 = .ok (.invokevirtual 280, 3) ∧ 9 + 3 = 12 := ⟨by decide +kernel, rfl⟩
theorem aX12_playedFrom_12 : decode mX12_playedFrom.2.1 12 = .ok (.iconst 0, 1) ∧ 12 + 1 = 13 := ⟨by decide +kernel, rfl⟩
theorem aX12_playedFrom_13 : decode mX12_playedFrom.2.1 13 = .ok (.istore_n 3, 1) ∧ 13 + 1 = 14 := ⟨by decide +kernel, rfl⟩
theorem aX12_playedFrom_14 : decode mX12_playedFrom.2.1 14 = .ok (.iconst (-1), 1) ∧ 14 + 1 = 15 := ⟨by decide +kernel, rfl⟩
theorem aX12_playedFrom_15 : decode mX12_playedFrom.2.1 15 = .ok (.istore 4, 2) ∧ 15 + 2 = 17 := ⟨by decide +kernel, rfl⟩
theorem aX12_playedFrom_17 : decode mX12_playedFrom.2.1 17 = .ok (.iconst 0, 1) ∧ 17 + 1 = 18 := ⟨by decide +kernel, rfl⟩
theorem aX12_playedFrom_18 : decode mX12_playedFrom.2.1 18 = .ok (.istore 5, 2) ∧ 18 + 2 = 20 := ⟨by decide +kernel, rfl⟩
theorem aX12_playedFrom_20 : decode mX12_playedFrom.2.1 20 = .ok (.iload 5, 2) ∧ 20 + 2 = 22 := ⟨by decide +kernel, rfl⟩
theorem aX12_playedFrom_22 : decode mX12_playedFrom.2.1 22 = .ok (.aload_n 0, 1) ∧ 22 + 1 = 23 := ⟨by decide +kernel, rfl⟩
theorem aX12_playedFrom_23 : decode mX12_playedFrom.2.1 23 = .ok (.getfield 9, 3) ∧ 23 + 3 = 26 := ⟨by decide +kernel, rfl⟩
theorem aX12_playedFrom_26 : decode mX12_playedFrom.2.1 26 = .ok (.bipush 6, 2) ∧ 26 + 2 = 28 := ⟨by decide +kernel, rfl⟩
theorem aX12_playedFrom_28 : decode mX12_playedFrom.2.1 28 = .ok (.iaload, 1) ∧ 28 + 1 = 29 := ⟨by decide +kernel, rfl⟩
theorem aX12_playedFrom_29 : decode mX12_playedFrom.2.1 29 = .ok (.if_icmp .gt 94, 3) ∧ ((29 : Nat) : Int) + 94 = ((123 : Nat) : Int) ∧ 29 + 3 = 32 := ⟨by decide +kernel, by decide, rfl⟩
theorem aX12_playedFrom_32 : decode mX12_playedFrom.2.1 32 = .ok (.aload_n 0, 1) ∧ 32 + 1 = 33 := ⟨by decide +kernel, rfl⟩
theorem aX12_playedFrom_33 : decode mX12_playedFrom.2.1 33 = .ok (.iload 5, 2) ∧ 33 + 2 = 35 := ⟨by decide +kernel, rfl⟩
theorem aX12_playedFrom_35 : decode mX12_playedFrom.2.1 35 = .ok (.invokevirtual 234, 3) ∧ 35 + 3 = 38 := ⟨by decide +kernel, rfl⟩
theorem aX12_playedFrom_38 : decode mX12_playedFrom.2.1 38 = .ok (.istore 6, 2) ∧ 38 + 2 = 40 := ⟨by decide +kernel, rfl⟩
theorem aX12_playedFrom_40 : decode mX12_playedFrom.2.1 40 = .ok (.iload 6, 2) ∧ 40 + 2 = 42 := ⟨by decide +kernel, rfl⟩
theorem aX12_playedFrom_42 : decode mX12_playedFrom.2.1 42 = .ok (.aload_n 0, 1) ∧ 42 + 1 = 43 := ⟨by decide +kernel, rfl⟩
theorem aX12_playedFrom_43 : decode mX12_playedFrom.2.1 43 = .ok (.iload_n 1, 1) ∧ 43 + 1 = 44 := ⟨by decide +kernel, rfl⟩
theorem aX12_playedFrom_44 : decode mX12_playedFrom.2.1 44 = .ok (.iconst 1, 1) ∧ 44 + 1 = 45 := ⟨by decide +kernel, rfl⟩
theorem aX12_playedFrom_45 : decode mX12_playedFrom.2.1 45 = .ok (.iadd, 1) ∧ 45 + 1 = 46 := ⟨by decide +kernel, rfl⟩
theorem aX12_playedFrom_46 : decode mX12_playedFrom.2.1 46 = .ok (.iload_n 2, 1) ∧ 46 + 1 = 47 := ⟨by decide +kernel, rfl⟩
theorem aX12_playedFrom_47 : decode mX12_playedFrom.2.1 47 = .ok (.invokevirtual 303, 3) ∧ 47 + 3 = 50 := ⟨by decide +kernel, rfl⟩
theorem aX12_playedFrom_50 : decode mX12_playedFrom.2.1 50 = .ok (.iadd, 1) ∧ 50 + 1 = 51 := ⟨by decide +kernel, rfl⟩
theorem aX12_playedFrom_51 : decode mX12_playedFrom.2.1 51 = .ok (.istore 7, 2) ∧ 51 + 2 = 53 := ⟨by decide +kernel, rfl⟩
theorem aX12_playedFrom_53 : decode mX12_playedFrom.2.1 53 = .ok (.aload_n 0, 1) ∧ 53 + 1 = 54 := ⟨by decide +kernel, rfl⟩
theorem aX12_playedFrom_54 : decode mX12_playedFrom.2.1 54 = .ok (.iload_n 1, 1) ∧ 54 + 1 = 55 := ⟨by decide +kernel, rfl⟩
theorem aX12_playedFrom_55 : decode mX12_playedFrom.2.1 55 = .ok (.invokevirtual 287, 3) ∧ 55 + 3 = 58 := ⟨by decide +kernel, rfl⟩
theorem aX12_playedFrom_58 : decode mX12_playedFrom.2.1 58 = .ok (.iload 4, 2) ∧ 58 + 2 = 60 := ⟨by decide +kernel, rfl⟩
theorem aX12_playedFrom_60 : decode mX12_playedFrom.2.1 60 = .ok (.ifCond .lt 24, 3) ∧ ((60 : Nat) : Int) + 24 = ((84 : Nat) : Int) ∧ 60 + 3 = 63 := ⟨by decide +kernel, by decide, rfl⟩
theorem aX12_playedFrom_63 : decode mX12_playedFrom.2.1 63 = .ok (.iload_n 1, 1) ∧ 63 + 1 = 64 := ⟨by decide +kernel, rfl⟩
theorem aX12_playedFrom_64 : decode mX12_playedFrom.2.1 64 = .ok (.iconst 2, 1) ∧ 64 + 1 = 65 := ⟨by decide +kernel, rfl⟩
theorem aX12_playedFrom_65 : decode mX12_playedFrom.2.1 65 = .ok (.irem, 1) ∧ 65 + 1 = 66 := ⟨by decide +kernel, rfl⟩
theorem aX12_playedFrom_66 : decode mX12_playedFrom.2.1 66 = .ok (.ifCond .ne 12, 3) ∧ ((66 : Nat) : Int) + 12 = ((78 : Nat) : Int) ∧ 66 + 3 = 69 := ⟨by decide +kernel, by decide, rfl⟩
theorem aX12_playedFrom_69 : decode mX12_playedFrom.2.1 69 = .ok (.iload 7, 2) ∧ 69 + 2 = 71 := ⟨by decide +kernel, rfl⟩
theorem aX12_playedFrom_71 : decode mX12_playedFrom.2.1 71 = .ok (.iload_n 3, 1) ∧ 71 + 1 = 72 := ⟨by decide +kernel, rfl⟩
theorem aX12_playedFrom_72 : decode mX12_playedFrom.2.1 72 = .ok (.if_icmp .le 16, 3) ∧ ((72 : Nat) : Int) + 16 = ((88 : Nat) : Int) ∧ 72 + 3 = 75 := ⟨by decide +kernel, by decide, rfl⟩
theorem aX12_playedFrom_75 : decode mX12_playedFrom.2.1 75 = .ok (.goto 9, 3) ∧ ((75 : Nat) : Int) + 9 = ((84 : Nat) : Int) := ⟨by decide +kernel, by decide⟩
theorem aX12_playedFrom_78 : decode mX12_playedFrom.2.1 78 = .ok (.iload 7, 2) ∧ 78 + 2 = 80 := ⟨by decide +kernel, rfl⟩
theorem aX12_playedFrom_80 : decode mX12_playedFrom.2.1 80 = .ok (.iload_n 3, 1) ∧ 80 + 1 = 81 := ⟨by decide +kernel, rfl⟩
theorem aX12_playedFrom_81 : decode mX12_playedFrom.2.1 81 = .ok (.if_icmp .ge 7, 3) ∧ ((81 : Nat) : Int) + 7 = ((88 : Nat) : Int) ∧ 81 + 3 = 84 := ⟨by decide +kernel, by decide, rfl⟩
theorem aX12_playedFrom_84 : decode mX12_playedFrom.2.1 84 = .ok (.iconst 1, 1) ∧ 84 + 1 = 85 := ⟨by decide +kernel, rfl⟩
theorem aX12_playedFrom_85 : decode mX12_playedFrom.2.1 85 = .ok (.goto 4, 3) ∧ ((85 : Nat) : Int) + 4 = ((89 : Nat) : Int) := ⟨by decide +kernel, by decide⟩
theorem aX12_playedFrom_88 : decode mX12_playedFrom.2.1 88 = .ok (.iconst 0, 1) ∧ 88 + 1 = 89 := ⟨by decide +kernel, rfl⟩
theorem aX12_playedFrom_89 : decode mX12_playedFrom.2.1 89 = .ok (.istore 8, 2) ∧ 89 + 2 = 91 := ⟨by decide +kernel, rfl⟩
theorem aX12_playedFrom_91 : decode mX12_playedFrom.2.1 91 = .ok (.iload 8, 2) ∧ 91 + 2 = 93 := ⟨by decide +kernel, rfl⟩
theorem aX12_playedFrom_93 : decode mX12_playedFrom.2.1 93 = .ok (.ifCond .eq 8, 3) ∧ ((93 : Nat) : Int) + 8 = ((101 : Nat) : Int) ∧ 93 + 3 = 96 := ⟨by decide +kernel, by decide, rfl⟩
theorem aX12_playedFrom_96 : decode mX12_playedFrom.2.1 96 = .ok (.iload 5, 2) ∧ 96 + 2 = 98 := ⟨by decide +kernel, rfl⟩
theorem aX12_playedFrom_98 : decode mX12_playedFrom.2.1 98 = .ok (.goto 5, 3) ∧ ((98 : Nat) : Int) + 5 = ((103 : Nat) : Int) := ⟨by decide +kernel, by decide⟩
theorem aX12_playedFrom_101 : decode mX12_playedFrom.2.1 101 = .ok (.iload 4, 2) ∧ 101 + 2 = 103 := ⟨by decide +kernel, rfl⟩
theorem aX12_playedFrom_103 : decode mX12_playedFrom.2.1 103 = .ok (.istore 4, 2) ∧ 103 + 2 = 105 := ⟨by decide +kernel, rfl⟩
theorem aX12_playedFrom_105 : decode mX12_playedFrom.2.1 105 = .ok (.iload 8, 2) ∧ 105 + 2 = 107 := ⟨by decide +kernel, rfl⟩
theorem aX12_playedFrom_107 : decode mX12_playedFrom.2.1 107 = .ok (.ifCond .eq 8, 3) ∧ ((107 : Nat) : Int) + 8 = ((115 : Nat) : Int) ∧ 107 + 3 = 110 := ⟨by decide +kernel, by decide, rfl⟩
theorem aX12_playedFrom_110 : decode mX12_playedFrom.2.1 110 = .ok (.iload 7, 2) ∧ 110 + 2 = 112 := ⟨by decide +kernel, rfl⟩
theorem aX12_playedFrom_112 : decode mX12_playedFrom.2.1 112 = .ok (.goto 4, 3) ∧ ((112 : Nat) : Int) + 4 = ((116 : Nat) : Int) := ⟨by decide +kernel, by decide⟩
theorem aX12_playedFrom_115 : decode mX12_playedFrom.2.1 115 = .ok (.iload_n 3, 1) ∧ 115 + 1 = 116 := ⟨by decide +kernel, rfl⟩
theorem aX12_playedFrom_116 : decode mX12_playedFrom.2.1 116 = .ok (.istore_n 3, 1) ∧ 116 + 1 = 117 := ⟨by decide +kernel, rfl⟩
theorem aX12_playedFrom_117 : decode mX12_playedFrom.2.1 117 = .ok (.iinc 5 1, 3) ∧ 117 + 3 = 120 := ⟨by decide +kernel, rfl⟩
theorem aX12_playedFrom_120 : decode mX12_playedFrom.2.1 120 = .ok (.goto (-100), 3) ∧ ((120 : Nat) : Int) + (-100) = ((20 : Nat) : Int) := ⟨by decide +kernel, by decide⟩
theorem aX12_playedFrom_123 : decode mX12_playedFrom.2.1 123 = .ok (.aload_n 0, 1) ∧ 123 + 1 = 124 := ⟨by decide +kernel, rfl⟩
theorem aX12_playedFrom_124 : decode mX12_playedFrom.2.1 124 = .ok (.getfield 38, 3) ∧ 124 + 3 = 127 := ⟨by decide +kernel, rfl⟩
theorem aX12_playedFrom_127 : decode mX12_playedFrom.2.1 127 = .ok (.iload_n 1, 1) ∧ 127 + 1 = 128 := ⟨by decide +kernel, rfl⟩
theorem aX12_playedFrom_128 : decode mX12_playedFrom.2.1 128 = .ok (.iload 4, 2) ∧ 128 + 2 = 130 := ⟨by decide +kernel, rfl⟩
theorem aX12_playedFrom_130 : decode mX12_playedFrom.2.1 130 = .ok (.iastore, 1) ∧ 130 + 1 = 131 := ⟨by decide +kernel, rfl⟩
theorem aX12_playedFrom_131 : decode mX12_playedFrom.2.1 131 = .ok (.iload_n 3, 1) ∧ 131 + 1 = 132 := ⟨by decide +kernel, rfl⟩
theorem aX12_playedFrom_132 : decode mX12_playedFrom.2.1 132 = .ok (.ireturn, 1) := by decide +kernel
theorem S_X12_playedFrom {E : EE} {d : Nat} {I : IH} {Q : QT} (x1 : Int32) (x2 : Int32) (h :
((¬ x1 = x2 → (Mt E d mX12_saves [.ref (eb E + 115), .int x1] I (fun rv I1 => rv = none ∧
 J E (d + 1) mX12_playedFrom 20 [(0, .ref (eb E + 115)), (1, .int x1), (2, .int x2), (3, .int (nI 0)), (4, .int (-1)), (5, .int (nI 0))] [] I1 Q))) ∧
 (x1 = x2 → Q (some (.int (nI 0))) I))) : Mt E (d + 1) mX12_playedFrom [.ref (eb E + 115), .int x1, .int x2] I Q := by
  refine Mt_of [(0, .ref (eb E + 115)), (1, .int x1), (2, .int x2)] (by decide +kernel) (by simp [lg_sl, Value.category, mX12_playedFrom]) rfl ?_
  refine J_iload_n 1 aX12_playedFrom_0 rfl ?_
  refine J_iload_n 2 aX12_playedFrom_1 rfl ?_
  refine J_icmp_ne aX12_playedFrom_2 (fun q => ?_) (fun q => ?_)
  · replace h := h.1 q
    refine J_aload_n 0 aX12_playedFrom_7 rfl ?_
    refine J_iload_n 1 aX12_playedFrom_8 rfl ?_
    refine J_callV [.int x1] [] aX12_playedFrom_9 lkX12_280_X12 okX12_saves sh115 rfl rfl rfl (Nat.le_of_ble_eq_true rfl) (Nat.le_refl _) (Mt_mono h (fun rv I1 h => ?_))
    obtain ⟨rfl, h⟩ := h
    refine J_r0 ?_
    refine J_iconst (nI 0) aX12_playedFrom_12 (by decide +kernel) ?_
    refine J_istore_n [(3, .int (nI 0)), (0, .ref (eb E + 115)), (1, .int x1), (2, .int x2)] aX12_playedFrom_13 (by decide) rfl ?_
    refine J_iconst (-1) aX12_playedFrom_14 (by decide +kernel) ?_
    refine J_istore [(4, .int (-1)), (3, .int (nI 0)), (0, .ref (eb E + 115)), (1, .int x1), (2, .int x2)] aX12_playedFrom_15 (by decide) rfl ?_
    refine J_iconst (nI 0) aX12_playedFrom_17 (by decide +kernel) ?_
    refine J_istore [(5, .int (nI 0)), (4, .int (-1)), (3, .int (nI 0)), (0, .ref (eb E + 115)), (1, .int x1), (2, .int x2)] aX12_playedFrom_18 (by decide) rfl ?_
    refine J_pick [3, 4, 5, 2, 1, 0] rfl ?_
    exact h
  · replace h := h.2 q
    refine J_iconst (nI 0) aX12_playedFrom_5 (by decide +kernel) ?_
    exact J_iret aX12_playedFrom_6 rfl h
theorem S_X12_playedFrom_20 {E : EE} {d : Nat} {I : IH} {Q : QT} (x1 : Int32) (x2 : Int32) (x3 : Int32) (x4 : Int32) (x5 : Int32) (h :
(((I 116 6) < x5 → (∃ j3 : Nat, x1 = nI j3 ∧ j3 < 4 ∧ (∀ I1 : IH, I1 = stI I 125 j3 x4 →
 Q (some (.int x3)) I1))) ∧
 (¬ (I 116 6) < x5 → (Mt E d mX12_goesBy [.ref (eb E + 115), .int x5] I (fun rv I6 => ∃ v7 : Int32, rv = some (.int v7) ∧
 (Mt E d mX12_playedFrom [.ref (eb E + 115), .int (x1 + (nI 1)), .int x2] I6 (fun rv I8 => ∃ v9 : Int32, rv = some (.int v9) ∧
 (Mt E d mX12_restores [.ref (eb E + 115), .int x1] I8 (fun rv I10 => rv = none ∧
 ((x4 < 0 → J E (d + 1) mX12_playedFrom 84 [(0, .ref (eb E + 115)), (1, .int x1), (2, .int x2), (3, .int x3), (4, .int x4), (5, .int x5), (7, .int (v7 + v9))] [] I10 Q) ∧
 (¬ x4 < 0 → ((¬ (x1 - x1 / (nI 2) * (nI 2)) = 0 → ((x3 ≤ (v7 + v9) → J E (d + 1) mX12_playedFrom 88 [(0, .ref (eb E + 115)), (1, .int x1), (2, .int x2), (3, .int x3), (4, .int x4), (5, .int x5), (7, .int (v7 + v9))] [] I10 Q) ∧
 (¬ x3 ≤ (v7 + v9) → J E (d + 1) mX12_playedFrom 84 [(0, .ref (eb E + 115)), (1, .int x1), (2, .int x2), (3, .int x3), (4, .int x4), (5, .int x5), (7, .int (v7 + v9))] [] I10 Q))) ∧
 ((x1 - x1 / (nI 2) * (nI 2)) = 0 → (((v7 + v9) ≤ x3 → J E (d + 1) mX12_playedFrom 88 [(0, .ref (eb E + 115)), (1, .int x1), (2, .int x2), (3, .int x3), (4, .int x4), (5, .int x5), (7, .int (v7 + v9))] [] I10 Q) ∧
 (¬ (v7 + v9) ≤ x3 → J E (d + 1) mX12_playedFrom 84 [(0, .ref (eb E + 115)), (1, .int x1), (2, .int x2), (3, .int x3), (4, .int x4), (5, .int x5), (7, .int (v7 + v9))] [] I10 Q))))))))))))))) : J E (d + 1) mX12_playedFrom 20 [(0, .ref (eb E + 115)), (1, .int x1), (2, .int x2), (3, .int x3), (4, .int x4), (5, .int x5)] [] I Q := by
  refine J_iload 5 aX12_playedFrom_20 rfl ?_
  refine J_aload_n 0 aX12_playedFrom_22 rfl ?_
  refine J_getR aX12_playedFrom_23 flX12_9 sh115 rfl ?_
  refine J_bipush (nI 6) aX12_playedFrom_26 (by decide +kernel) ?_
  refine J_iaload 6 aX12_playedFrom_28 sh116 rfl (by decide) (by decide) ?_
  refine J_icmp_gt aX12_playedFrom_29 (fun q => ?_) (fun q => ?_)
  · replace h := h.1 q
    refine J_aload_n 0 aX12_playedFrom_123 rfl ?_
    refine J_getR aX12_playedFrom_124 flX12_38 sh115 rfl ?_
    refine J_iload_n 1 aX12_playedFrom_127 rfl ?_
    refine J_iload 4 aX12_playedFrom_128 rfl ?_
    obtain ⟨j3, e4, b5, h⟩ := h
    refine J_iastore j3 aX12_playedFrom_130 sh125 e4 b5 (by decide) (fun I1 e2 => ?_)
    replace h := h I1 e2
    refine J_iload_n 3 aX12_playedFrom_131 rfl ?_
    exact J_iret aX12_playedFrom_132 rfl h
  · replace h := h.2 q
    refine J_aload_n 0 aX12_playedFrom_32 rfl ?_
    refine J_iload 5 aX12_playedFrom_33 rfl ?_
    refine J_callV [.int x5] [] aX12_playedFrom_35 lkX12_234_X12 okX12_goesBy sh115 rfl rfl rfl (Nat.le_of_ble_eq_true rfl) (Nat.le_refl _) (Mt_mono h (fun rv I6 h => ?_))
    obtain ⟨v7, rfl, h⟩ := h
    refine J_r1 ?_
    refine J_istore [(6, .int v7), (0, .ref (eb E + 115)), (1, .int x1), (2, .int x2), (3, .int x3), (4, .int x4), (5, .int x5)] aX12_playedFrom_38 (by decide) rfl ?_
    refine J_iload 0 aX12_playedFrom_40 rfl ?_
    refine J_aload_n 1 aX12_playedFrom_42 rfl ?_
    refine J_iload_n 2 aX12_playedFrom_43 rfl ?_
    refine J_iconst (nI 1) aX12_playedFrom_44 (by decide +kernel) ?_
    refine J_iadd aX12_playedFrom_45 ?_
    refine J_iload_n 3 aX12_playedFrom_46 rfl ?_
    refine J_callV [.int (x1 + (nI 1)), .int x2] [.int v7] aX12_playedFrom_47 lkX12_303_X12 okX12_playedFrom sh115 rfl rfl rfl (Nat.le_of_ble_eq_true rfl) (Nat.le_refl _) (Mt_mono h (fun rv I8 h => ?_))
    obtain ⟨v9, rfl, h⟩ := h
    refine J_r1 ?_
    refine J_iadd aX12_playedFrom_50 ?_
    refine J_istore [(7, .int (v7 + v9)), (6, .int v7), (0, .ref (eb E + 115)), (1, .int x1), (2, .int x2), (3, .int x3), (4, .int x4), (5, .int x5)] aX12_playedFrom_51 (by decide) rfl ?_
    refine J_aload_n 2 aX12_playedFrom_53 rfl ?_
    refine J_iload_n 3 aX12_playedFrom_54 rfl ?_
    refine J_callV [.int x1] [] aX12_playedFrom_55 lkX12_287_X12 okX12_restores sh115 rfl rfl rfl (Nat.le_of_ble_eq_true rfl) (Nat.le_refl _) (Mt_mono h (fun rv I10 h => ?_))
    obtain ⟨rfl, h⟩ := h
    refine J_r0 ?_
    refine J_iload 6 aX12_playedFrom_58 rfl ?_
    refine J_if_lt aX12_playedFrom_60 (fun q => ?_) (fun q => ?_)
    · replace h := h.1 q
      refine J_pick [2, 3, 4, 5, 6, 7, 0] rfl ?_
      exact h
    · replace h := h.2 q
      refine J_iload_n 3 aX12_playedFrom_63 rfl ?_
      refine J_iconst (nI 2) aX12_playedFrom_64 (by decide +kernel) ?_
      refine J_irem aX12_playedFrom_65 (by decide +kernel) ?_
      refine J_if_ne aX12_playedFrom_66 (fun q => ?_) (fun q => ?_)
      · replace h := h.1 q
        refine J_iload 0 aX12_playedFrom_78 rfl ?_
        refine J_iload_n 5 aX12_playedFrom_80 rfl ?_
        refine J_icmp_ge aX12_playedFrom_81 (fun q => ?_) (fun q => ?_)
        · replace h := h.1 q
          refine J_pick [2, 3, 4, 5, 6, 7, 0] rfl ?_
          exact h
        · replace h := h.2 q
          refine J_pick [2, 3, 4, 5, 6, 7, 0] rfl ?_
          exact h
      · replace h := h.2 q
        refine J_iload 0 aX12_playedFrom_69 rfl ?_
        refine J_iload_n 5 aX12_playedFrom_71 rfl ?_
        refine J_icmp_le aX12_playedFrom_72 (fun q => ?_) (fun q => ?_)
        · replace h := h.1 q
          refine J_pick [2, 3, 4, 5, 6, 7, 0] rfl ?_
          exact h
        · replace h := h.2 q
          refine J_goto aX12_playedFrom_75 ?_
          refine J_pick [2, 3, 4, 5, 6, 7, 0] rfl ?_
          exact h
theorem S_X12_playedFrom_84 {E : EE} {d : Nat} {I : IH} {Q : QT} (x1 : Int32) (x2 : Int32) (x3 : Int32) (x4 : Int32) (x5 : Int32) (x7 : Int32) (h :
J E (d + 1) mX12_playedFrom 89 [(0, .ref (eb E + 115)), (1, .int x1), (2, .int x2), (3, .int x3), (4, .int x4), (5, .int x5), (7, .int x7)] [.int (nI 1)] I Q) : J E (d + 1) mX12_playedFrom 84 [(0, .ref (eb E + 115)), (1, .int x1), (2, .int x2), (3, .int x3), (4, .int x4), (5, .int x5), (7, .int x7)] [] I Q := by
  refine J_iconst (nI 1) aX12_playedFrom_84 (by decide +kernel) ?_
  refine J_goto aX12_playedFrom_85 ?_
  refine J_pick [0, 1, 2, 3, 4, 5, 6] rfl ?_
  exact h
theorem S_X12_playedFrom_88 {E : EE} {d : Nat} {I : IH} {Q : QT} (x1 : Int32) (x2 : Int32) (x3 : Int32) (x4 : Int32) (x5 : Int32) (x7 : Int32) (h :
J E (d + 1) mX12_playedFrom 89 [(0, .ref (eb E + 115)), (1, .int x1), (2, .int x2), (3, .int x3), (4, .int x4), (5, .int x5), (7, .int x7)] [.int (nI 0)] I Q) : J E (d + 1) mX12_playedFrom 88 [(0, .ref (eb E + 115)), (1, .int x1), (2, .int x2), (3, .int x3), (4, .int x4), (5, .int x5), (7, .int x7)] [] I Q := by
  refine J_iconst (nI 0) aX12_playedFrom_88 (by decide +kernel) ?_
  refine J_pick [0, 1, 2, 3, 4, 5, 6] rfl ?_
  exact h
theorem S_X12_playedFrom_89 {E : EE} {d : Nat} {I : IH} {Q : QT} (x1 : Int32) (x2 : Int32) (x3 : Int32) (x4 : Int32) (x5 : Int32) (x7 : Int32) (t0 : Int32) (h :
((t0 = 0 → ((t0 = 0 → J E (d + 1) mX12_playedFrom 20 [(0, .ref (eb E + 115)), (1, .int x1), (2, .int x2), (3, .int x3), (4, .int x4), (5, .int (x5 + nI 1))] [] I Q) ∧
 (¬ t0 = 0 → J E (d + 1) mX12_playedFrom 20 [(0, .ref (eb E + 115)), (1, .int x1), (2, .int x2), (3, .int x7), (4, .int x4), (5, .int (x5 + nI 1))] [] I Q))) ∧
 (¬ t0 = 0 → ((t0 = 0 → J E (d + 1) mX12_playedFrom 20 [(0, .ref (eb E + 115)), (1, .int x1), (2, .int x2), (3, .int x3), (4, .int x5), (5, .int (x5 + nI 1))] [] I Q) ∧
 (¬ t0 = 0 → J E (d + 1) mX12_playedFrom 20 [(0, .ref (eb E + 115)), (1, .int x1), (2, .int x2), (3, .int x7), (4, .int x5), (5, .int (x5 + nI 1))] [] I Q))))) : J E (d + 1) mX12_playedFrom 89 [(0, .ref (eb E + 115)), (1, .int x1), (2, .int x2), (3, .int x3), (4, .int x4), (5, .int x5), (7, .int x7)] [.int t0] I Q := by
  refine J_istore [(8, .int t0), (0, .ref (eb E + 115)), (1, .int x1), (2, .int x2), (3, .int x3), (4, .int x4), (5, .int x5), (7, .int x7)] aX12_playedFrom_89 (by decide) rfl ?_
  refine J_iload 0 aX12_playedFrom_91 rfl ?_
  refine J_if_eq aX12_playedFrom_93 (fun q => ?_) (fun q => ?_)
  · replace h := h.1 q
    refine J_iload 5 aX12_playedFrom_101 rfl ?_
    refine J_istore [(4, .int x4), (8, .int t0), (0, .ref (eb E + 115)), (1, .int x1), (2, .int x2), (3, .int x3), (5, .int x5), (7, .int x7)] aX12_playedFrom_103 (by decide) rfl ?_
    refine J_iload 1 aX12_playedFrom_105 rfl ?_
    refine J_if_eq aX12_playedFrom_107 (fun q => ?_) (fun q => ?_)
    · replace h := h.1 q
      refine J_iload_n 5 aX12_playedFrom_115 rfl ?_
      refine J_istore_n [(3, .int x3), (4, .int x4), (8, .int t0), (0, .ref (eb E + 115)), (1, .int x1), (2, .int x2), (5, .int x5), (7, .int x7)] aX12_playedFrom_116 (by decide) rfl ?_
      refine J_iinc (x5 + nI 1) [(5, .int (x5 + nI 1)), (3, .int x3), (4, .int x4), (8, .int t0), (0, .ref (eb E + 115)), (1, .int x1), (2, .int x2), (7, .int x7)] 6 aX12_playedFrom_117 rfl (by first | rfl | (congr 1; decide +kernel)) (by decide) rfl ?_
      refine J_goto aX12_playedFrom_120 ?_
      refine J_pick [4, 5, 6, 1, 2, 0] rfl ?_
      exact h
    · replace h := h.2 q
      refine J_iload 7 aX12_playedFrom_110 rfl ?_
      refine J_goto aX12_playedFrom_112 ?_
      refine J_istore_n [(3, .int x7), (4, .int x4), (8, .int t0), (0, .ref (eb E + 115)), (1, .int x1), (2, .int x2), (5, .int x5), (7, .int x7)] aX12_playedFrom_116 (by decide) rfl ?_
      refine J_iinc (x5 + nI 1) [(5, .int (x5 + nI 1)), (3, .int x7), (4, .int x4), (8, .int t0), (0, .ref (eb E + 115)), (1, .int x1), (2, .int x2), (7, .int x7)] 6 aX12_playedFrom_117 rfl (by first | rfl | (congr 1; decide +kernel)) (by decide) rfl ?_
      refine J_goto aX12_playedFrom_120 ?_
      refine J_pick [4, 5, 6, 1, 2, 0] rfl ?_
      exact h
  · replace h := h.2 q
    refine J_iload 6 aX12_playedFrom_96 rfl ?_
    refine J_goto aX12_playedFrom_98 ?_
    refine J_istore [(4, .int x5), (8, .int t0), (0, .ref (eb E + 115)), (1, .int x1), (2, .int x2), (3, .int x3), (5, .int x5), (7, .int x7)] aX12_playedFrom_103 (by decide) rfl ?_
    refine J_iload 1 aX12_playedFrom_105 rfl ?_
    refine J_if_eq aX12_playedFrom_107 (fun q => ?_) (fun q => ?_)
    · replace h := h.1 q
      refine J_iload_n 5 aX12_playedFrom_115 rfl ?_
      refine J_istore_n [(3, .int x3), (4, .int x5), (8, .int t0), (0, .ref (eb E + 115)), (1, .int x1), (2, .int x2), (5, .int x5), (7, .int x7)] aX12_playedFrom_116 (by decide) rfl ?_
      refine J_iinc (x5 + nI 1) [(5, .int (x5 + nI 1)), (3, .int x3), (4, .int x5), (8, .int t0), (0, .ref (eb E + 115)), (1, .int x1), (2, .int x2), (7, .int x7)] 6 aX12_playedFrom_117 rfl (by first | rfl | (congr 1; decide +kernel)) (by decide) rfl ?_
      refine J_goto aX12_playedFrom_120 ?_
      refine J_pick [4, 5, 6, 1, 2, 0] rfl ?_
      exact h
    · replace h := h.2 q
      refine J_iload 7 aX12_playedFrom_110 rfl ?_
      refine J_goto aX12_playedFrom_112 ?_
      refine J_istore_n [(3, .int x7), (4, .int x5), (8, .int t0), (0, .ref (eb E + 115)), (1, .int x1), (2, .int x2), (5, .int x5), (7, .int x7)] aX12_playedFrom_116 (by decide) rfl ?_
      refine J_iinc (x5 + nI 1) [(5, .int (x5 + nI 1)), (3, .int x7), (4, .int x5), (8, .int t0), (0, .ref (eb E + 115)), (1, .int x1), (2, .int x2), (7, .int x7)] 6 aX12_playedFrom_117 rfl (by first | rfl | (congr 1; decide +kernel)) (by decide) rfl ?_
      refine J_goto aX12_playedFrom_120 ?_
      refine J_pick [4, 5, 6, 1, 2, 0] rfl ?_
      exact h
theorem aX12_game_0 : decode mX12_game.2.1 0 = .ok (.iload_n 1, 1) ∧ 0 + 1 = 1 := ⟨by decide +kernel, rfl⟩
theorem aX12_game_1 : decode mX12_game.2.1 1 = .ok (.iconst 1, 1) ∧ 1 + 1 = 2 := ⟨by decide +kernel, rfl⟩
theorem aX12_game_2 : decode mX12_game.2.1 2 = .ok (.iconst 4, 1) ∧ 2 + 1 = 3 := ⟨by decide +kernel, rfl⟩
theorem aX12_game_3 : decode mX12_game.2.1 3 = .ok (.invokestatic 68, 3) ∧ 3 + 3 = 6 := ⟨by decide +kernel, rfl⟩
theorem aX12_game_6 : decode mX12_game.2.1 6 = .ok (.ifCond .eq 16, 3) ∧ ((6 : Nat) : Int) + 16 = ((22 : Nat) : Int) ∧ 6 + 3 = 9 := ⟨by decide +kernel, by decide, rfl⟩
theorem aX12_game_9 : decode mX12_game.2.1 9 = .ok (.aload_n 0, 1) ∧ 9 + 1 = 10 := ⟨by decide +kernel, rfl⟩
theorem aX12_game_10 : decode mX12_game.2.1 10 = .ok (.iconst 0, 1) ∧ 10 + 1 = 11 := ⟨by decide +kernel, rfl⟩
theorem aX12_game_11 : decode mX12_game.2.1 11 = .ok (.aload_n 0, 1) ∧ 11 + 1 = 12 := ⟨by decide +kernel, rfl⟩
theorem aX12_game_12 : decode mX12_game.2.1 12 = .ok (.iload_n 1, 1) ∧ 12 + 1 = 13 := ⟨by decide +kernel, rfl⟩
theorem aX12_game_13 : decode mX12_game.2.1 13 = .ok (.invokevirtual 290, 3) ∧ 13 + 3 = 16 := ⟨by decide +kernel, rfl⟩
theorem aX12_game_16 : decode mX12_game.2.1 16 = .ok (.invokevirtual 303, 3) ∧ 16 + 3 = 19 := ⟨by decide +kernel, rfl⟩
theorem aX12_game_19 : decode mX12_game.2.1 19 = .ok (.goto 4, 3) ∧ ((19 : Nat) : Int) + 4 = ((23 : Nat) : Int) := ⟨by decide +kernel, by decide⟩
theorem aX12_game_22 : decode mX12_game.2.1 22 = .ok (.iconst (-1), 1) ∧ 22 + 1 = 23 := ⟨by decide +kernel, rfl⟩
theorem aX12_game_23 : decode mX12_game.2.1 23 = .ok (.ireturn, 1) := by decide +kernel
theorem S_X12_game {E : EE} {d : Nat} {I : IH} {Q : QT} (x1 : Int32) (h :
(Mt E d mX12_in1 [.int x1, .int (nI 1), .int (nI 4)] I (fun rv I1 => ∃ v2 : Int32, rv = some (.int v2) ∧
 ((v2 = 0 → Q (some (.int (-1))) I1) ∧
 (¬ v2 = 0 → (Mt E d mX12_daysOf [.ref (eb E + 115), .int x1] I1 (fun rv I3 => ∃ v4 : Int32, rv = some (.int v4) ∧
 (Mt E d mX12_playedFrom [.ref (eb E + 115), .int (nI 0), .int v4] I3 (fun rv I5 => ∃ v6 : Int32, rv = some (.int v6) ∧
 Q (some (.int v6)) I5))))))))) : Mt E (d + 1) mX12_game [.ref (eb E + 115), .int x1] I Q := by
  refine Mt_of [(0, .ref (eb E + 115)), (1, .int x1)] (by decide +kernel) (by simp [lg_sl, Value.category, mX12_game]) rfl ?_
  refine J_iload_n 1 aX12_game_0 rfl ?_
  refine J_iconst (nI 1) aX12_game_1 (by decide +kernel) ?_
  refine J_iconst (nI 4) aX12_game_2 (by decide +kernel) ?_
  refine J_callS [.int x1, .int (nI 1), .int (nI 4)] [] aX12_game_3 lkX12_68 okX12_in1 rfl rfl (Nat.le_of_ble_eq_true rfl) (Nat.le_refl _) (Mt_mono h (fun rv I1 h => ?_))
  obtain ⟨v2, rfl, h⟩ := h
  refine J_r1 ?_
  refine J_if_eq aX12_game_6 (fun q => ?_) (fun q => ?_)
  · replace h := h.1 q
    refine J_iconst (-1) aX12_game_22 (by decide +kernel) ?_
    exact J_iret aX12_game_23 rfl h
  · replace h := h.2 q
    refine J_aload_n 0 aX12_game_9 rfl ?_
    refine J_iconst (nI 0) aX12_game_10 (by decide +kernel) ?_
    refine J_aload_n 0 aX12_game_11 rfl ?_
    refine J_iload_n 1 aX12_game_12 rfl ?_
    refine J_callV [.int x1] [.int (nI 0), .ref (eb E + 115)] aX12_game_13 lkX12_290_X12 okX12_daysOf sh115 rfl rfl rfl (Nat.le_of_ble_eq_true rfl) (Nat.le_refl _) (Mt_mono h (fun rv I3 h => ?_))
    obtain ⟨v4, rfl, h⟩ := h
    refine J_r1 ?_
    refine J_callV [.int (nI 0), .int v4] [] aX12_game_16 lkX12_303_X12 okX12_playedFrom sh115 rfl rfl rfl (Nat.le_of_ble_eq_true rfl) (Nat.le_refl _) (Mt_mono h (fun rv I5 h => ?_))
    obtain ⟨v6, rfl, h⟩ := h
    refine J_r1 ?_
    refine J_goto aX12_game_19 ?_
    exact J_iret aX12_game_23 rfl h
theorem aX12_play_0 : decode mX12_play.2.1 0 = .ok (.iload_n 1, 1) ∧ 0 + 1 = 1 := ⟨by decide +kernel, rfl⟩
theorem aX12_play_1 : decode mX12_play.2.1 1 = .ok (.iconst 1, 1) ∧ 1 + 1 = 2 := ⟨by decide +kernel, rfl⟩
theorem aX12_play_2 : decode mX12_play.2.1 2 = .ok (.iconst 4, 1) ∧ 2 + 1 = 3 := ⟨by decide +kernel, rfl⟩
theorem aX12_play_3 : decode mX12_play.2.1 3 = .ok (.invokestatic 68, 3) ∧ 3 + 3 = 6 := ⟨by decide +kernel, rfl⟩
theorem aX12_play_6 : decode mX12_play.2.1 6 = .ok (.ifCond .ne 5, 3) ∧ ((6 : Nat) : Int) + 5 = ((11 : Nat) : Int) ∧ 6 + 3 = 9 := ⟨by decide +kernel, by decide, rfl⟩
theorem aX12_play_9 : decode mX12_play.2.1 9 = .ok (.iconst (-1), 1) ∧ 9 + 1 = 10 := ⟨by decide +kernel, rfl⟩
theorem aX12_play_10 : decode mX12_play.2.1 10 = .ok (.ireturn, 1) := by decide +kernel
theorem aX12_play_11 : decode mX12_play.2.1 11 = .ok (.aload_n 0, 1) ∧ 11 + 1 = 12 := ⟨by decide +kernel, rfl⟩
theorem aX12_play_12 : decode mX12_play.2.1 12 = .ok (.invokevirtual 228, 3) ∧ 12 + 3 = 15 := ⟨by decide +kernel, rfl⟩
theorem aX12_play_15 : decode mX12_play.2.1 15 = .ok (.ifCond .eq 6, 3) ∧ ((15 : Nat) : Int) + 6 = ((21 : Nat) : Int) ∧ 15 + 3 = 18 := ⟨by decide +kernel, by decide, rfl⟩
theorem aX12_play_18 : decode mX12_play.2.1 18 = .ok (.bipush (-3), 2) ∧ 18 + 2 = 20 := ⟨by decide +kernel, rfl⟩
theorem aX12_play_20 : decode mX12_play.2.1 20 = .ok (.ireturn, 1) := by decide +kernel
theorem aX12_play_21 : decode mX12_play.2.1 21 = .ok (.aload_n 0, 1) ∧ 21 + 1 = 22 := ⟨by decide +kernel, rfl⟩
theorem aX12_play_22 : decode mX12_play.2.1 22 = .ok (.iconst 0, 1) ∧ 22 + 1 = 23 := ⟨by decide +kernel, rfl⟩
theorem aX12_play_23 : decode mX12_play.2.1 23 = .ok (.aload_n 0, 1) ∧ 23 + 1 = 24 := ⟨by decide +kernel, rfl⟩
theorem aX12_play_24 : decode mX12_play.2.1 24 = .ok (.iload_n 1, 1) ∧ 24 + 1 = 25 := ⟨by decide +kernel, rfl⟩
theorem aX12_play_25 : decode mX12_play.2.1 25 = .ok (.invokevirtual 290, 3) ∧ 25 + 3 = 28 := ⟨by decide +kernel, rfl⟩
theorem aX12_play_28 : decode mX12_play.2.1 28 = .ok (.invokevirtual 303, 3) ∧ 28 + 3 = 31 := ⟨by decide +kernel, rfl⟩
theorem aX12_play_31 : decode mX12_play.2.1 31 = .ok (.istore_n 2, 1) ∧ 31 + 1 = 32 := ⟨by decide +kernel, rfl⟩
theorem aX12_play_32 : decode mX12_play.2.1 32 = .ok (.iload_n 2, 1) ∧ 32 + 1 = 33 := ⟨by decide +kernel, rfl⟩
theorem aX12_play_33 : decode mX12_play.2.1 33 = .ok (.ifCond .ge 8, 3) ∧ ((33 : Nat) : Int) + 8 = ((41 : Nat) : Int) ∧ 33 + 3 = 36 := ⟨by decide +kernel, by decide, rfl⟩
theorem aX12_play_36 : decode mX12_play.2.1 36 = .ok (.bipush (-3), 2) ∧ 36 + 2 = 38 := ⟨by decide +kernel, rfl⟩
theorem aX12_play_38 : decode mX12_play.2.1 38 = .ok (.goto 9, 3) ∧ ((38 : Nat) : Int) + 9 = ((47 : Nat) : Int) := ⟨by decide +kernel, by decide⟩
theorem aX12_play_41 : decode mX12_play.2.1 41 = .ok (.aload_n 0, 1) ∧ 41 + 1 = 42 := ⟨by decide +kernel, rfl⟩
theorem aX12_play_42 : decode mX12_play.2.1 42 = .ok (.getfield 38, 3) ∧ 42 + 3 = 45 := ⟨by decide +kernel, rfl⟩
theorem aX12_play_45 : decode mX12_play.2.1 45 = .ok (.iconst 0, 1) ∧ 45 + 1 = 46 := ⟨by decide +kernel, rfl⟩
theorem aX12_play_46 : decode mX12_play.2.1 46 = .ok (.iaload, 1) ∧ 46 + 1 = 47 := ⟨by decide +kernel, rfl⟩
theorem aX12_play_47 : decode mX12_play.2.1 47 = .ok (.ireturn, 1) := by decide +kernel
theorem S_X12_play {E : EE} {d : Nat} {I : IH} {Q : QT} (x1 : Int32) (h :
(Mt E d mX12_in1 [.int x1, .int (nI 1), .int (nI 4)] I (fun rv I1 => ∃ v2 : Int32, rv = some (.int v2) ∧
 ((¬ v2 = 0 → (Mt E d mX12_isOver [.ref (eb E + 115)] I1 (fun rv I3 => ∃ v4 : Int32, rv = some (.int v4) ∧
 ((v4 = 0 → (Mt E d mX12_daysOf [.ref (eb E + 115), .int x1] I3 (fun rv I5 => ∃ v6 : Int32, rv = some (.int v6) ∧
 (Mt E d mX12_playedFrom [.ref (eb E + 115), .int (nI 0), .int v6] I5 (fun rv I7 => ∃ v8 : Int32, rv = some (.int v8) ∧
 ((0 ≤ v8 → Q (some (.int (I7 125 0))) I7) ∧
 (¬ 0 ≤ v8 → Q (some (.int (-3))) I7))))))) ∧
 (¬ v4 = 0 → Q (some (.int (-3))) I3))))) ∧
 (v2 = 0 → Q (some (.int (-1))) I1))))) : Mt E (d + 1) mX12_play [.ref (eb E + 115), .int x1] I Q := by
  refine Mt_of [(0, .ref (eb E + 115)), (1, .int x1)] (by decide +kernel) (by simp [lg_sl, Value.category, mX12_play]) rfl ?_
  refine J_iload_n 1 aX12_play_0 rfl ?_
  refine J_iconst (nI 1) aX12_play_1 (by decide +kernel) ?_
  refine J_iconst (nI 4) aX12_play_2 (by decide +kernel) ?_
  refine J_callS [.int x1, .int (nI 1), .int (nI 4)] [] aX12_play_3 lkX12_68 okX12_in1 rfl rfl (Nat.le_of_ble_eq_true rfl) (Nat.le_refl _) (Mt_mono h (fun rv I1 h => ?_))
  obtain ⟨v2, rfl, h⟩ := h
  refine J_r1 ?_
  refine J_if_ne aX12_play_6 (fun q => ?_) (fun q => ?_)
  · replace h := h.1 q
    refine J_aload_n 0 aX12_play_11 rfl ?_
    refine J_callV [] [] aX12_play_12 lkX12_228_X12 okX12_isOver sh115 rfl rfl rfl (Nat.le_of_ble_eq_true rfl) (Nat.le_refl _) (Mt_mono h (fun rv I3 h => ?_))
    obtain ⟨v4, rfl, h⟩ := h
    refine J_r1 ?_
    refine J_if_eq aX12_play_15 (fun q => ?_) (fun q => ?_)
    · replace h := h.1 q
      refine J_aload_n 0 aX12_play_21 rfl ?_
      refine J_iconst (nI 0) aX12_play_22 (by decide +kernel) ?_
      refine J_aload_n 0 aX12_play_23 rfl ?_
      refine J_iload_n 1 aX12_play_24 rfl ?_
      refine J_callV [.int x1] [.int (nI 0), .ref (eb E + 115)] aX12_play_25 lkX12_290_X12 okX12_daysOf sh115 rfl rfl rfl (Nat.le_of_ble_eq_true rfl) (Nat.le_refl _) (Mt_mono h (fun rv I5 h => ?_))
      obtain ⟨v6, rfl, h⟩ := h
      refine J_r1 ?_
      refine J_callV [.int (nI 0), .int v6] [] aX12_play_28 lkX12_303_X12 okX12_playedFrom sh115 rfl rfl rfl (Nat.le_of_ble_eq_true rfl) (Nat.le_refl _) (Mt_mono h (fun rv I7 h => ?_))
      obtain ⟨v8, rfl, h⟩ := h
      refine J_r1 ?_
      refine J_istore_n [(2, .int v8), (0, .ref (eb E + 115)), (1, .int x1)] aX12_play_31 (by decide) rfl ?_
      refine J_iload_n 0 aX12_play_32 rfl ?_
      refine J_if_ge aX12_play_33 (fun q => ?_) (fun q => ?_)
      · replace h := h.1 q
        refine J_aload_n 1 aX12_play_41 rfl ?_
        refine J_getR aX12_play_42 flX12_38 sh115 rfl ?_
        refine J_iconst (nI 0) aX12_play_45 (by decide +kernel) ?_
        refine J_iaload 0 aX12_play_46 sh125 rfl (by decide) (by decide) ?_
        exact J_iret aX12_play_47 rfl h
      · replace h := h.2 q
        refine J_bipush (-3) aX12_play_36 (by decide +kernel) ?_
        refine J_goto aX12_play_38 ?_
        exact J_iret aX12_play_47 rfl h
    · replace h := h.2 q
      refine J_bipush (-3) aX12_play_18 (by decide +kernel) ?_
      exact J_iret aX12_play_20 rfl h
  · replace h := h.2 q
    refine J_iconst (-1) aX12_play_9 (by decide +kernel) ?_
    exact J_iret aX12_play_10 rfl h
theorem aX12_report_0 : decode mX12_report.2.1 0 = .ok (.iload_n 2, 1) ∧ 0 + 1 = 1 := ⟨by decide +kernel, rfl⟩
theorem aX12_report_1 : decode mX12_report.2.1 1 = .ok (.ifCond .ne 8, 3) ∧ ((1 : Nat) : Int) + 8 = ((9 : Nat) : Int) ∧ 1 + 3 = 4 := ⟨by decide +kernel, by decide, rfl⟩
theorem aX12_report_4 : decode mX12_report.2.1 4 = .ok (.bipush 8, 2) ∧ 4 + 2 = 6 := ⟨by decide +kernel, rfl⟩
theorem aX12_report_6 : decode mX12_report.2.1 6 = .ok (.goto 5, 3) ∧ ((6 : Nat) : Int) + 5 = ((11 : Nat) : Int) := ⟨by decide +kernel, by decide⟩
theorem aX12_report_9 : decode mX12_report.2.1 9 = .ok (.bipush 15, 2) ∧ 9 + 2 = 11 := ⟨by decide +kernel, rfl⟩
theorem aX12_report_11 : decode mX12_report.2.1 11 = .ok (.istore 5, 2) ∧ 11 + 2 = 13 := ⟨by decide +kernel, rfl⟩
theorem aX12_report_13 : decode mX12_report.2.1 13 = .ok (.iload_n 1, 1) ∧ 13 + 1 = 14 := ⟨by decide +kernel, rfl⟩
theorem aX12_report_14 : decode mX12_report.2.1 14 = .ok (.iconst 0, 1) ∧ 14 + 1 = 15 := ⟨by decide +kernel, rfl⟩
theorem aX12_report_15 : decode mX12_report.2.1 15 = .ok (.bipush 15, 2) ∧ 15 + 2 = 17 := ⟨by decide +kernel, rfl⟩
theorem aX12_report_17 : decode mX12_report.2.1 17 = .ok (.invokestatic 68, 3) ∧ 17 + 3 = 20 := ⟨by decide +kernel, rfl⟩
theorem aX12_report_20 : decode mX12_report.2.1 20 = .ok (.ifCond .eq 33, 3) ∧ ((20 : Nat) : Int) + 33 = ((53 : Nat) : Int) ∧ 20 + 3 = 23 := ⟨by decide +kernel, by decide, rfl⟩
theorem aX12_report_23 : decode mX12_report.2.1 23 = .ok (.iload_n 2, 1) ∧ 23 + 1 = 24 := ⟨by decide +kernel, rfl⟩
theorem aX12_report_24 : decode mX12_report.2.1 24 = .ok (.iconst 0, 1) ∧ 24 + 1 = 25 := ⟨by decide +kernel, rfl⟩
theorem aX12_report_25 : decode mX12_report.2.1 25 = .ok (.iconst 1, 1) ∧ 25 + 1 = 26 := ⟨by decide +kernel, rfl⟩
theorem aX12_report_26 : decode mX12_report.2.1 26 = .ok (.invokestatic 68, 3) ∧ 26 + 3 = 29 := ⟨by decide +kernel, rfl⟩
theorem aX12_report_29 : decode mX12_report.2.1 29 = .ok (.ifCond .eq 24, 3) ∧ ((29 : Nat) : Int) + 24 = ((53 : Nat) : Int) ∧ 29 + 3 = 32 := ⟨by decide +kernel, by decide, rfl⟩
theorem aX12_report_32 : decode mX12_report.2.1 32 = .ok (.iload_n 3, 1) ∧ 32 + 1 = 33 := ⟨by decide +kernel, rfl⟩
theorem aX12_report_33 : decode mX12_report.2.1 33 = .ok (.iconst 0, 1) ∧ 33 + 1 = 34 := ⟨by decide +kernel, rfl⟩
theorem aX12_report_34 : decode mX12_report.2.1 34 = .ok (.iload 5, 2) ∧ 34 + 2 = 36 := ⟨by decide +kernel, rfl⟩
theorem aX12_report_36 : decode mX12_report.2.1 36 = .ok (.invokestatic 68, 3) ∧ 36 + 3 = 39 := ⟨by decide +kernel, rfl⟩
theorem aX12_report_39 : decode mX12_report.2.1 39 = .ok (.ifCond .eq 14, 3) ∧ ((39 : Nat) : Int) + 14 = ((53 : Nat) : Int) ∧ 39 + 3 = 42 := ⟨by decide +kernel, by decide, rfl⟩
theorem aX12_report_42 : decode mX12_report.2.1 42 = .ok (.iload 4, 2) ∧ 42 + 2 = 44 := ⟨by decide +kernel, rfl⟩
theorem aX12_report_44 : decode mX12_report.2.1 44 = .ok (.iload_n 3, 1) ∧ 44 + 1 = 45 := ⟨by decide +kernel, rfl⟩
theorem aX12_report_45 : decode mX12_report.2.1 45 = .ok (.iload 5, 2) ∧ 45 + 2 = 47 := ⟨by decide +kernel, rfl⟩
theorem aX12_report_47 : decode mX12_report.2.1 47 = .ok (.invokestatic 68, 3) ∧ 47 + 3 = 50 := ⟨by decide +kernel, rfl⟩
theorem aX12_report_50 : decode mX12_report.2.1 50 = .ok (.ifCond .ne 5, 3) ∧ ((50 : Nat) : Int) + 5 = ((55 : Nat) : Int) ∧ 50 + 3 = 53 := ⟨by decide +kernel, by decide, rfl⟩
theorem aX12_report_53 : decode mX12_report.2.1 53 = .ok (.iconst (-1), 1) ∧ 53 + 1 = 54 := ⟨by decide +kernel, rfl⟩
theorem aX12_report_54 : decode mX12_report.2.1 54 = .ok (.ireturn, 1) := by decide +kernel
theorem aX12_report_55 : decode mX12_report.2.1 55 = .ok (.aload_n 0, 1) ∧ 55 + 1 = 56 := ⟨by decide +kernel, rfl⟩
theorem aX12_report_56 : decode mX12_report.2.1 56 = .ok (.getfield 9, 3) ∧ 56 + 3 = 59 := ⟨by decide +kernel, rfl⟩
theorem aX12_report_59 : decode mX12_report.2.1 59 = .ok (.bipush 8, 2) ∧ 59 + 2 = 61 := ⟨by decide +kernel, rfl⟩
theorem aX12_report_61 : decode mX12_report.2.1 61 = .ok (.iaload, 1) ∧ 61 + 1 = 62 := ⟨by decide +kernel, rfl⟩
theorem aX12_report_62 : decode mX12_report.2.1 62 = .ok (.bipush 6, 2) ∧ 62 + 2 = 64 := ⟨by decide +kernel, rfl⟩
theorem aX12_report_64 : decode mX12_report.2.1 64 = .ok (.if_icmp .ne 6, 3) ∧ ((64 : Nat) : Int) + 6 = ((70 : Nat) : Int) ∧ 64 + 3 = 67 := ⟨by decide +kernel, by decide, rfl⟩
theorem aX12_report_67 : decode mX12_report.2.1 67 = .ok (.bipush (-2), 2) ∧ 67 + 2 = 69 := ⟨by decide +kernel, rfl⟩
theorem aX12_report_69 : decode mX12_report.2.1 69 = .ok (.ireturn, 1) := by decide +kernel
theorem aX12_report_70 : decode mX12_report.2.1 70 = .ok (.bipush 74, 2) ∧ 70 + 2 = 72 := ⟨by decide +kernel, rfl⟩
theorem aX12_report_72 : decode mX12_report.2.1 72 = .ok (.iconst 4, 1) ∧ 72 + 1 = 73 := ⟨by decide +kernel, rfl⟩
theorem aX12_report_73 : decode mX12_report.2.1 73 = .ok (.aload_n 0, 1) ∧ 73 + 1 = 74 := ⟨by decide +kernel, rfl⟩
theorem aX12_report_74 : decode mX12_report.2.1 74 = .ok (.getfield 9, 3) ∧ 74 + 3 = 77 := ⟨by decide +kernel, rfl⟩
theorem aX12_report_77 : decode mX12_report.2.1 77 = .ok (.bipush 8, 2) ∧ 77 + 2 = 79 := ⟨by decide +kernel, rfl⟩
theorem aX12_report_79 : decode mX12_report.2.1 79 = .ok (.iaload, 1) ∧ 79 + 1 = 80 := ⟨by decide +kernel, rfl⟩
theorem aX12_report_80 : decode mX12_report.2.1 80 = .ok (.imul, 1) ∧ 80 + 1 = 81 := ⟨by decide +kernel, rfl⟩
theorem aX12_report_81 : decode mX12_report.2.1 81 = .ok (.iadd, 1) ∧ 81 + 1 = 82 := ⟨by decide +kernel, rfl⟩
theorem aX12_report_82 : decode mX12_report.2.1 82 = .ok (.istore 6, 2) ∧ 82 + 2 = 84 := ⟨by decide +kernel, rfl⟩
theorem aX12_report_84 : decode mX12_report.2.1 84 = .ok (.aload_n 0, 1) ∧ 84 + 1 = 85 := ⟨by decide +kernel, rfl⟩
theorem aX12_report_85 : decode mX12_report.2.1 85 = .ok (.getfield 9, 3) ∧ 85 + 3 = 88 := ⟨by decide +kernel, rfl⟩
theorem aX12_report_88 : decode mX12_report.2.1 88 = .ok (.iload 6, 2) ∧ 88 + 2 = 90 := ⟨by decide +kernel, rfl⟩
theorem aX12_report_90 : decode mX12_report.2.1 90 = .ok (.iload_n 1, 1) ∧ 90 + 1 = 91 := ⟨by decide +kernel, rfl⟩
theorem aX12_report_91 : decode mX12_report.2.1 91 = .ok (.iastore, 1) ∧ 91 + 1 = 92 := ⟨by decide +kernel, rfl⟩
theorem aX12_report_92 : decode mX12_report.2.1 92 = .ok (.aload_n 0, 1) ∧ 92 + 1 = 93 := ⟨by decide +kernel, rfl⟩
theorem aX12_report_93 : decode mX12_report.2.1 93 = .ok (.getfield 9, 3) ∧ 93 + 3 = 96 := ⟨by decide +kernel, rfl⟩
theorem aX12_report_96 : decode mX12_report.2.1 96 = .ok (.iload 6, 2) ∧ 96 + 2 = 98 := ⟨by decide +kernel, rfl⟩
theorem aX12_report_98 : decode mX12_report.2.1 98 = .ok (.iconst 1, 1) ∧ 98 + 1 = 99 := ⟨by decide +kernel, rfl⟩
theorem aX12_report_99 : decode mX12_report.2.1 99 = .ok (.iadd, 1) ∧ 99 + 1 = 100 := ⟨by decide +kernel, rfl⟩
theorem aX12_report_100 : decode mX12_report.2.1 100 = .ok (.iload_n 2, 1) ∧ 100 + 1 = 101 := ⟨by decide +kernel, rfl⟩
theorem aX12_report_101 : decode mX12_report.2.1 101 = .ok (.iastore, 1) ∧ 101 + 1 = 102 := ⟨by decide +kernel, rfl⟩
theorem aX12_report_102 : decode mX12_report.2.1 102 = .ok (.aload_n 0, 1) ∧ 102 + 1 = 103 := ⟨by decide +kernel, rfl⟩
theorem aX12_report_103 : decode mX12_report.2.1 103 = .ok (.getfield 9, 3) ∧ 103 + 3 = 106 := ⟨by decide +kernel, rfl⟩
theorem aX12_report_106 : decode mX12_report.2.1 106 = .ok (.iload 6, 2) ∧ 106 + 2 = 108 := ⟨by decide +kernel, rfl⟩
theorem aX12_report_108 : decode mX12_report.2.1 108 = .ok (.iconst 2, 1) ∧ 108 + 1 = 109 := ⟨by decide +kernel, rfl⟩
theorem aX12_report_109 : decode mX12_report.2.1 109 = .ok (.iadd, 1) ∧ 109 + 1 = 110 := ⟨by decide +kernel, rfl⟩
theorem aX12_report_110 : decode mX12_report.2.1 110 = .ok (.iload_n 3, 1) ∧ 110 + 1 = 111 := ⟨by decide +kernel, rfl⟩
theorem aX12_report_111 : decode mX12_report.2.1 111 = .ok (.iastore, 1) ∧ 111 + 1 = 112 := ⟨by decide +kernel, rfl⟩
theorem aX12_report_112 : decode mX12_report.2.1 112 = .ok (.aload_n 0, 1) ∧ 112 + 1 = 113 := ⟨by decide +kernel, rfl⟩
theorem aX12_report_113 : decode mX12_report.2.1 113 = .ok (.getfield 9, 3) ∧ 113 + 3 = 116 := ⟨by decide +kernel, rfl⟩
theorem aX12_report_116 : decode mX12_report.2.1 116 = .ok (.iload 6, 2) ∧ 116 + 2 = 118 := ⟨by decide +kernel, rfl⟩
theorem aX12_report_118 : decode mX12_report.2.1 118 = .ok (.iconst 3, 1) ∧ 118 + 1 = 119 := ⟨by decide +kernel, rfl⟩
theorem aX12_report_119 : decode mX12_report.2.1 119 = .ok (.iadd, 1) ∧ 119 + 1 = 120 := ⟨by decide +kernel, rfl⟩
theorem aX12_report_120 : decode mX12_report.2.1 120 = .ok (.iload 4, 2) ∧ 120 + 2 = 122 := ⟨by decide +kernel, rfl⟩
theorem aX12_report_122 : decode mX12_report.2.1 122 = .ok (.iastore, 1) ∧ 122 + 1 = 123 := ⟨by decide +kernel, rfl⟩
theorem aX12_report_123 : decode mX12_report.2.1 123 = .ok (.aload_n 0, 1) ∧ 123 + 1 = 124 := ⟨by decide +kernel, rfl⟩
theorem aX12_report_124 : decode mX12_report.2.1 124 = .ok (.getfield 9, 3) ∧ 124 + 3 = 127 := ⟨by decide +kernel, rfl⟩
theorem aX12_report_127 : decode mX12_report.2.1 127 = .ok (.bipush 8, 2) ∧ 127 + 2 = 129 := ⟨by decide +kernel, rfl⟩
theorem aX12_report_129 : decode mX12_report.2.1 129 = .ok (.dup2, 1) ∧ 129 + 1 = 130 := ⟨by decide +kernel, rfl⟩
theorem aX12_report_130 : decode mX12_report.2.1 130 = .ok (.iaload, 1) ∧ 130 + 1 = 131 := ⟨by decide +kernel, rfl⟩
theorem aX12_report_131 : decode mX12_report.2.1 131 = .ok (.iconst 1, 1) ∧ 131 + 1 = 132 := ⟨by decide +kernel, rfl⟩
theorem aX12_report_132 : decode mX12_report.2.1 132 = .ok (.iadd, 1) ∧ 132 + 1 = 133 := ⟨by decide +kernel, rfl⟩
theorem aX12_report_133 : decode mX12_report.2.1 133 = .ok (.iastore, 1) ∧ 133 + 1 = 134 := ⟨by decide +kernel, rfl⟩
theorem aX12_report_134 : decode mX12_report.2.1 134 = .ok (.aload_n 0, 1) ∧ 134 + 1 = 135 := ⟨by decide +kernel, rfl⟩
theorem aX12_report_135 : decode mX12_report.2.1 135 = .ok (.getfield 9, 3) ∧ 135 + 3 = 138 := ⟨by decide +kernel, rfl⟩
theorem aX12_report_138 : decode mX12_report.2.1 138 = .ok (.bipush 8, 2) ∧ 138 + 2 = 140 := ⟨by decide +kernel, rfl⟩
theorem aX12_report_140 : decode mX12_report.2.1 140 = .ok (.iaload, 1) ∧ 140 + 1 = 141 := ⟨by decide +kernel, rfl⟩
theorem aX12_report_141 : decode mX12_report.2.1 141 = .ok (.iconst 1, 1) ∧ 141 + 1 = 142 := ⟨by decide +kernel, rfl⟩
theorem aX12_report_142 : decode mX12_report.2.1 142 = .ok (.isub, 1) ∧ 142 + 1 = 143 := ⟨by decide +kernel, rfl⟩
theorem aX12_report_143 : decode mX12_report.2.1 143 = .ok (.ireturn, 1) := by decide +kernel
theorem S_X12_report {E : EE} {d : Nat} {I : IH} {Q : QT} (x1 : Int32) (x2 : Int32) (x3 : Int32) (x4 : Int32) (h :
((¬ x2 = 0 → J E (d + 1) mX12_report 11 [(0, .ref (eb E + 115)), (1, .int x1), (2, .int x2), (3, .int x3), (4, .int x4)] [.int (nI 15)] I Q) ∧
 (x2 = 0 → J E (d + 1) mX12_report 11 [(0, .ref (eb E + 115)), (1, .int x1), (2, .int x2), (3, .int x3), (4, .int x4)] [.int (nI 8)] I Q))) : Mt E (d + 1) mX12_report [.ref (eb E + 115), .int x1, .int x2, .int x3, .int x4] I Q := by
  refine Mt_of [(0, .ref (eb E + 115)), (1, .int x1), (2, .int x2), (3, .int x3), (4, .int x4)] (by decide +kernel) (by simp [lg_sl, Value.category, mX12_report]) rfl ?_
  refine J_iload_n 2 aX12_report_0 rfl ?_
  refine J_if_ne aX12_report_1 (fun q => ?_) (fun q => ?_)
  · replace h := h.1 q
    refine J_bipush (nI 15) aX12_report_9 (by decide +kernel) ?_
    refine J_pick [0, 1, 2, 3, 4] rfl ?_
    exact h
  · replace h := h.2 q
    refine J_bipush (nI 8) aX12_report_4 (by decide +kernel) ?_
    refine J_goto aX12_report_6 ?_
    refine J_pick [0, 1, 2, 3, 4] rfl ?_
    exact h
theorem S_X12_report_11 {E : EE} {d : Nat} {I : IH} {Q : QT} (x1 : Int32) (x2 : Int32) (x3 : Int32) (x4 : Int32) (t0 : Int32) (h :
(Mt E d mX12_in1 [.int x1, .int (nI 0), .int (nI 15)] I (fun rv I1 => ∃ v2 : Int32, rv = some (.int v2) ∧
 ((v2 = 0 → Q (some (.int (-1))) I1) ∧
 (¬ v2 = 0 → (Mt E d mX12_in1 [.int x2, .int (nI 0), .int (nI 1)] I1 (fun rv I3 => ∃ v4 : Int32, rv = some (.int v4) ∧
 ((v4 = 0 → Q (some (.int (-1))) I3) ∧
 (¬ v4 = 0 → (Mt E d mX12_in1 [.int x3, .int (nI 0), .int t0] I3 (fun rv I5 => ∃ v6 : Int32, rv = some (.int v6) ∧
 ((v6 = 0 → Q (some (.int (-1))) I5) ∧
 (¬ v6 = 0 → (Mt E d mX12_in1 [.int x4, .int x3, .int t0] I5 (fun rv I7 => ∃ v8 : Int32, rv = some (.int v8) ∧
 ((¬ v8 = 0 → ((¬ (I7 116 8) = (nI 6) → (∃ j11 : Nat, ((nI 74) + ((nI 4) * (I7 116 8))) = nI j11 ∧ j11 < 322 ∧ (∀ I9 : IH, I9 = stI I7 116 j11 x1 →
 (∃ j16 : Nat, (((nI 74) + ((nI 4) * (I7 116 8))) + (nI 1)) = nI j16 ∧ j16 < 322 ∧ (∀ I14 : IH, I14 = stI I9 116 j16 x2 →
 (∃ j21 : Nat, (((nI 74) + ((nI 4) * (I7 116 8))) + (nI 2)) = nI j21 ∧ j21 < 322 ∧ (∀ I19 : IH, I19 = stI I14 116 j21 x3 →
 (∃ j26 : Nat, (((nI 74) + ((nI 4) * (I7 116 8))) + (nI 3)) = nI j26 ∧ j26 < 322 ∧ (∀ I24 : IH, I24 = stI I19 116 j26 x4 →
 (∀ I29 : IH, I29 = stI I24 116 8 ((I24 116 8) + (nI 1)) →
 Q (some (.int ((I29 116 8) - (nI 1)))) I29)))))))))) ∧
 ((I7 116 8) = (nI 6) → Q (some (.int (-2))) I7))) ∧
 (v8 = 0 → Q (some (.int (-1))) I7))))))))))))))))) : J E (d + 1) mX12_report 11 [(0, .ref (eb E + 115)), (1, .int x1), (2, .int x2), (3, .int x3), (4, .int x4)] [.int t0] I Q := by
  refine J_istore [(5, .int t0), (0, .ref (eb E + 115)), (1, .int x1), (2, .int x2), (3, .int x3), (4, .int x4)] aX12_report_11 (by decide) rfl ?_
  refine J_iload_n 2 aX12_report_13 rfl ?_
  refine J_iconst (nI 0) aX12_report_14 (by decide +kernel) ?_
  refine J_bipush (nI 15) aX12_report_15 (by decide +kernel) ?_
  refine J_callS [.int x1, .int (nI 0), .int (nI 15)] [] aX12_report_17 lkX12_68 okX12_in1 rfl rfl (Nat.le_of_ble_eq_true rfl) (Nat.le_refl _) (Mt_mono h (fun rv I1 h => ?_))
  obtain ⟨v2, rfl, h⟩ := h
  refine J_r1 ?_
  refine J_if_eq aX12_report_20 (fun q => ?_) (fun q => ?_)
  · replace h := h.1 q
    refine J_iconst (-1) aX12_report_53 (by decide +kernel) ?_
    exact J_iret aX12_report_54 rfl h
  · replace h := h.2 q
    refine J_iload_n 3 aX12_report_23 rfl ?_
    refine J_iconst (nI 0) aX12_report_24 (by decide +kernel) ?_
    refine J_iconst (nI 1) aX12_report_25 (by decide +kernel) ?_
    refine J_callS [.int x2, .int (nI 0), .int (nI 1)] [] aX12_report_26 lkX12_68 okX12_in1 rfl rfl (Nat.le_of_ble_eq_true rfl) (Nat.le_refl _) (Mt_mono h (fun rv I3 h => ?_))
    obtain ⟨v4, rfl, h⟩ := h
    refine J_r1 ?_
    refine J_if_eq aX12_report_29 (fun q => ?_) (fun q => ?_)
    · replace h := h.1 q
      refine J_iconst (-1) aX12_report_53 (by decide +kernel) ?_
      exact J_iret aX12_report_54 rfl h
    · replace h := h.2 q
      refine J_iload_n 4 aX12_report_32 rfl ?_
      refine J_iconst (nI 0) aX12_report_33 (by decide +kernel) ?_
      refine J_iload 0 aX12_report_34 rfl ?_
      refine J_callS [.int x3, .int (nI 0), .int t0] [] aX12_report_36 lkX12_68 okX12_in1 rfl rfl (Nat.le_of_ble_eq_true rfl) (Nat.le_refl _) (Mt_mono h (fun rv I5 h => ?_))
      obtain ⟨v6, rfl, h⟩ := h
      refine J_r1 ?_
      refine J_if_eq aX12_report_39 (fun q => ?_) (fun q => ?_)
      · replace h := h.1 q
        refine J_iconst (-1) aX12_report_53 (by decide +kernel) ?_
        exact J_iret aX12_report_54 rfl h
      · replace h := h.2 q
        refine J_iload 5 aX12_report_42 rfl ?_
        refine J_iload_n 4 aX12_report_44 rfl ?_
        refine J_iload 0 aX12_report_45 rfl ?_
        refine J_callS [.int x4, .int x3, .int t0] [] aX12_report_47 lkX12_68 okX12_in1 rfl rfl (Nat.le_of_ble_eq_true rfl) (Nat.le_refl _) (Mt_mono h (fun rv I7 h => ?_))
        obtain ⟨v8, rfl, h⟩ := h
        refine J_r1 ?_
        refine J_if_ne aX12_report_50 (fun q => ?_) (fun q => ?_)
        · replace h := h.1 q
          refine J_aload_n 1 aX12_report_55 rfl ?_
          refine J_getR aX12_report_56 flX12_9 sh115 rfl ?_
          refine J_bipush (nI 8) aX12_report_59 (by decide +kernel) ?_
          refine J_iaload 8 aX12_report_61 sh116 rfl (by decide) (by decide) ?_
          refine J_bipush (nI 6) aX12_report_62 (by decide +kernel) ?_
          refine J_icmp_ne aX12_report_64 (fun q => ?_) (fun q => ?_)
          · replace h := h.1 q
            refine J_bipush (nI 74) aX12_report_70 (by decide +kernel) ?_
            refine J_iconst (nI 4) aX12_report_72 (by decide +kernel) ?_
            refine J_aload_n 1 aX12_report_73 rfl ?_
            refine J_getR aX12_report_74 flX12_9 sh115 rfl ?_
            refine J_bipush (nI 8) aX12_report_77 (by decide +kernel) ?_
            refine J_iaload 8 aX12_report_79 sh116 rfl (by decide) (by decide) ?_
            refine J_imul aX12_report_80 ?_
            refine J_iadd aX12_report_81 ?_
            refine J_istore [(6, .int ((nI 74) + ((nI 4) * (I7 116 8)))), (5, .int t0), (0, .ref (eb E + 115)), (1, .int x1), (2, .int x2), (3, .int x3), (4, .int x4)] aX12_report_82 (by decide) rfl ?_
            refine J_aload_n 2 aX12_report_84 rfl ?_
            refine J_getR aX12_report_85 flX12_9 sh115 rfl ?_
            refine J_iload 0 aX12_report_88 rfl ?_
            refine J_iload_n 3 aX12_report_90 rfl ?_
            obtain ⟨j11, e12, b13, h⟩ := h
            refine J_iastore j11 aX12_report_91 sh116 e12 b13 (by decide) (fun I9 e10 => ?_)
            replace h := h I9 e10
            refine J_aload_n 2 aX12_report_92 rfl ?_
            refine J_getR aX12_report_93 flX12_9 sh115 rfl ?_
            refine J_iload 0 aX12_report_96 rfl ?_
            refine J_iconst (nI 1) aX12_report_98 (by decide +kernel) ?_
            refine J_iadd aX12_report_99 ?_
            refine J_iload_n 4 aX12_report_100 rfl ?_
            obtain ⟨j16, e17, b18, h⟩ := h
            refine J_iastore j16 aX12_report_101 sh116 e17 b18 (by decide) (fun I14 e15 => ?_)
            replace h := h I14 e15
            refine J_aload_n 2 aX12_report_102 rfl ?_
            refine J_getR aX12_report_103 flX12_9 sh115 rfl ?_
            refine J_iload 0 aX12_report_106 rfl ?_
            refine J_iconst (nI 2) aX12_report_108 (by decide +kernel) ?_
            refine J_iadd aX12_report_109 ?_
            refine J_iload_n 5 aX12_report_110 rfl ?_
            obtain ⟨j21, e22, b23, h⟩ := h
            refine J_iastore j21 aX12_report_111 sh116 e22 b23 (by decide) (fun I19 e20 => ?_)
            replace h := h I19 e20
            refine J_aload_n 2 aX12_report_112 rfl ?_
            refine J_getR aX12_report_113 flX12_9 sh115 rfl ?_
            refine J_iload 0 aX12_report_116 rfl ?_
            refine J_iconst (nI 3) aX12_report_118 (by decide +kernel) ?_
            refine J_iadd aX12_report_119 ?_
            refine J_iload 6 aX12_report_120 rfl ?_
            obtain ⟨j26, e27, b28, h⟩ := h
            refine J_iastore j26 aX12_report_122 sh116 e27 b28 (by decide) (fun I24 e25 => ?_)
            replace h := h I24 e25
            refine J_aload_n 2 aX12_report_123 rfl ?_
            refine J_getR aX12_report_124 flX12_9 sh115 rfl ?_
            refine J_bipush (nI 8) aX12_report_127 (by decide +kernel) ?_
            refine J_dup2 aX12_report_129 rfl rfl ?_
            refine J_iaload 8 aX12_report_130 sh116 rfl (by decide) (by decide) ?_
            refine J_iconst (nI 1) aX12_report_131 (by decide +kernel) ?_
            refine J_iadd aX12_report_132 ?_
            refine J_iastore 8 aX12_report_133 sh116 rfl (by decide) (by decide) (fun I29 e30 => ?_)
            replace h := h I29 e30
            refine J_aload_n 2 aX12_report_134 rfl ?_
            refine J_getR aX12_report_135 flX12_9 sh115 rfl ?_
            refine J_bipush (nI 8) aX12_report_138 (by decide +kernel) ?_
            refine J_iaload 8 aX12_report_140 sh116 rfl (by decide) (by decide) ?_
            refine J_iconst (nI 1) aX12_report_141 (by decide +kernel) ?_
            refine J_isub aX12_report_142 ?_
            exact J_iret aX12_report_143 rfl h
          · replace h := h.2 q
            refine J_bipush (-2) aX12_report_67 (by decide +kernel) ?_
            exact J_iret aX12_report_69 rfl h
        · replace h := h.2 q
          refine J_iconst (-1) aX12_report_53 (by decide +kernel) ?_
          exact J_iret aX12_report_54 rfl h
theorem aX12_forget_0 : decode mX12_forget.2.1 0 = .ok (.aload_n 0, 1) ∧ 0 + 1 = 1 := ⟨by decide +kernel, rfl⟩
theorem aX12_forget_1 : decode mX12_forget.2.1 1 = .ok (.bipush 8, 2) ∧ 1 + 2 = 3 := ⟨by decide +kernel, rfl⟩
theorem aX12_forget_3 : decode mX12_forget.2.1 3 = .ok (.iconst 0, 1) ∧ 3 + 1 = 4 := ⟨by decide +kernel, rfl⟩
theorem aX12_forget_4 : decode mX12_forget.2.1 4 = .ok (.invokevirtual 222, 3) ∧ 4 + 3 = 7 := ⟨by decide +kernel, rfl⟩
theorem aX12_forget_7 : decode mX12_forget.2.1 7 = .ok (.ireturn, 1) := by decide +kernel
theorem S_X12_forget {E : EE} {d : Nat} {I : IH} {Q : QT}  (h :
(Mt E d mX12_becomes [.ref (eb E + 115), .int (nI 8), .int (nI 0)] I (fun rv I1 => ∃ v2 : Int32, rv = some (.int v2) ∧
 Q (some (.int v2)) I1))) : Mt E (d + 1) mX12_forget [.ref (eb E + 115)] I Q := by
  refine Mt_of [(0, .ref (eb E + 115))] (by decide +kernel) (by simp [lg_sl, Value.category, mX12_forget]) rfl ?_
  refine J_aload_n 0 aX12_forget_0 rfl ?_
  refine J_bipush (nI 8) aX12_forget_1 (by decide +kernel) ?_
  refine J_iconst (nI 0) aX12_forget_3 (by decide +kernel) ?_
  refine J_callV [.int (nI 8), .int (nI 0)] [] aX12_forget_4 lkX12_222_X12 okX12_becomes sh115 rfl rfl rfl (Nat.le_of_ble_eq_true rfl) (Nat.le_refl _) (Mt_mono h (fun rv I1 h => ?_))
  obtain ⟨v2, rfl, h⟩ := h
  refine J_r1 ?_
  exact J_iret aX12_forget_7 rfl h
theorem aX12_tellsStranger_0 : decode mX12_tellsStranger.2.1 0 = .ok (.iload_n 2, 1) ∧ 0 + 1 = 1 := ⟨by decide +kernel, rfl⟩
theorem aX12_tellsStranger_1 : decode mX12_tellsStranger.2.1 1 = .ok (.istore_n 3, 1) ∧ 1 + 1 = 2 := ⟨by decide +kernel, rfl⟩
theorem aX12_tellsStranger_2 : decode mX12_tellsStranger.2.1 2 = .ok (.iconst 0, 1) ∧ 2 + 1 = 3 := ⟨by decide +kernel, rfl⟩
theorem aX12_tellsStranger_3 : decode mX12_tellsStranger.2.1 3 = .ok (.istore 4, 2) ∧ 3 + 2 = 5 := ⟨by decide +kernel, rfl⟩
theorem aX12_tellsStranger_5 : decode mX12_tellsStranger.2.1 5 = .ok (.iload 4, 2) ∧ 5 + 2 = 7 := ⟨by decide +kernel, rfl⟩
theorem aX12_tellsStranger_7 : decode mX12_tellsStranger.2.1 7 = .ok (.bipush 16, 2) ∧ 7 + 2 = 9 := ⟨by decide +kernel, rfl⟩
theorem aX12_tellsStranger_9 : decode mX12_tellsStranger.2.1 9 = .ok (.if_icmp .ge 25, 3) ∧ ((9 : Nat) : Int) + 25 = ((34 : Nat) : Int) ∧ 9 + 3 = 12 := ⟨by decide +kernel, by decide, rfl⟩
theorem aX12_tellsStranger_12 : decode mX12_tellsStranger.2.1 12 = .ok (.aload_n 0, 1) ∧ 12 + 1 = 13 := ⟨by decide +kernel, rfl⟩
theorem aX12_tellsStranger_13 : decode mX12_tellsStranger.2.1 13 = .ok (.getfield 44, 3) ∧ 13 + 3 = 16 := ⟨by decide +kernel, rfl⟩
theorem aX12_tellsStranger_16 : decode mX12_tellsStranger.2.1 16 = .ok (.iload 4, 2) ∧ 16 + 2 = 18 := ⟨by decide +kernel, rfl⟩
theorem aX12_tellsStranger_18 : decode mX12_tellsStranger.2.1 18 = .ok (.iload_n 3, 1) ∧ 18 + 1 = 19 := ⟨by decide +kernel, rfl⟩
theorem aX12_tellsStranger_19 : decode mX12_tellsStranger.2.1 19 = .ok (.iastore, 1) ∧ 19 + 1 = 20 := ⟨by decide +kernel, rfl⟩
theorem aX12_tellsStranger_20 : decode mX12_tellsStranger.2.1 20 = .ok (.iload_n 1, 1) ∧ 20 + 1 = 21 := ⟨by decide +kernel, rfl⟩
theorem aX12_tellsStranger_21 : decode mX12_tellsStranger.2.1 21 = .ok (.iload_n 3, 1) ∧ 21 + 1 = 22 := ⟨by decide +kernel, rfl⟩
theorem aX12_tellsStranger_22 : decode mX12_tellsStranger.2.1 22 = .ok (.iload 4, 2) ∧ 22 + 2 = 24 := ⟨by decide +kernel, rfl⟩
theorem aX12_tellsStranger_24 : decode mX12_tellsStranger.2.1 24 = .ok (.invokestatic 96, 3) ∧ 24 + 3 = 27 := ⟨by decide +kernel, rfl⟩
theorem aX12_tellsStranger_27 : decode mX12_tellsStranger.2.1 27 = .ok (.istore_n 3, 1) ∧ 27 + 1 = 28 := ⟨by decide +kernel, rfl⟩
theorem aX12_tellsStranger_28 : decode mX12_tellsStranger.2.1 28 = .ok (.iinc 4 1, 3) ∧ 28 + 3 = 31 := ⟨by decide +kernel, rfl⟩
theorem aX12_tellsStranger_31 : decode mX12_tellsStranger.2.1 31 = .ok (.goto (-26), 3) ∧ ((31 : Nat) : Int) + (-26) = ((5 : Nat) : Int) := ⟨by decide +kernel, by decide⟩
theorem aX12_tellsStranger_34 : decode mX12_tellsStranger.2.1 34 = .ok (.return_, 1) := by decide +kernel
theorem S_X12_tellsStranger {E : EE} {d : Nat} {I : IH} {Q : QT} (x1 : Int32) (x2 : Int32) (h :
J E (d + 1) mX12_tellsStranger 5 [(0, .ref (eb E + 115)), (1, .int x1), (3, .int x2), (4, .int (nI 0))] [] I Q) : Mt E (d + 1) mX12_tellsStranger [.ref (eb E + 115), .int x1, .int x2] I Q := by
  refine Mt_of [(0, .ref (eb E + 115)), (1, .int x1), (2, .int x2)] (by decide +kernel) (by simp [lg_sl, Value.category, mX12_tellsStranger]) rfl ?_
  refine J_iload_n 2 aX12_tellsStranger_0 rfl ?_
  refine J_istore_n [(3, .int x2), (0, .ref (eb E + 115)), (1, .int x1), (2, .int x2)] aX12_tellsStranger_1 (by decide) rfl ?_
  refine J_iconst (nI 0) aX12_tellsStranger_2 (by decide +kernel) ?_
  refine J_istore [(4, .int (nI 0)), (3, .int x2), (0, .ref (eb E + 115)), (1, .int x1), (2, .int x2)] aX12_tellsStranger_3 (by decide) rfl ?_
  refine J_pick [2, 3, 1, 0] rfl ?_
  exact h
theorem S_X12_tellsStranger_5 {E : EE} {d : Nat} {I : IH} {Q : QT} (x1 : Int32) (x3 : Int32) (x4 : Int32) (h :
(((nI 16) ≤ x4 → Q none I) ∧
 (¬ (nI 16) ≤ x4 → (∃ j3 : Nat, x4 = nI j3 ∧ j3 < 16 ∧ (∀ I1 : IH, I1 = stI I 127 j3 x3 →
 (Mt E d mX12_sceneBy [.int x1, .int x3, .int x4] I1 (fun rv I6 => ∃ v7 : Int32, rv = some (.int v7) ∧
 J E (d + 1) mX12_tellsStranger 5 [(0, .ref (eb E + 115)), (1, .int x1), (3, .int v7), (4, .int (x4 + nI 1))] [] I6 Q))))))) : J E (d + 1) mX12_tellsStranger 5 [(0, .ref (eb E + 115)), (1, .int x1), (3, .int x3), (4, .int x4)] [] I Q := by
  refine J_iload 3 aX12_tellsStranger_5 rfl ?_
  refine J_bipush (nI 16) aX12_tellsStranger_7 (by decide +kernel) ?_
  refine J_icmp_ge aX12_tellsStranger_9 (fun q => ?_) (fun q => ?_)
  · replace h := h.1 q
    exact J_vret aX12_tellsStranger_34 rfl h
  · replace h := h.2 q
    refine J_aload_n 0 aX12_tellsStranger_12 rfl ?_
    refine J_getR aX12_tellsStranger_13 flX12_44 sh115 rfl ?_
    refine J_iload 3 aX12_tellsStranger_16 rfl ?_
    refine J_iload_n 2 aX12_tellsStranger_18 rfl ?_
    obtain ⟨j3, e4, b5, h⟩ := h
    refine J_iastore j3 aX12_tellsStranger_19 sh127 e4 b5 (by decide) (fun I1 e2 => ?_)
    replace h := h I1 e2
    refine J_iload_n 1 aX12_tellsStranger_20 rfl ?_
    refine J_iload_n 2 aX12_tellsStranger_21 rfl ?_
    refine J_iload 3 aX12_tellsStranger_22 rfl ?_
    refine J_callS [.int x1, .int x3, .int x4] [] aX12_tellsStranger_24 lkX12_96 okX12_sceneBy rfl rfl (Nat.le_of_ble_eq_true rfl) (Nat.le_refl _) (Mt_mono h (fun rv I6 h => ?_))
    obtain ⟨v7, rfl, h⟩ := h
    refine J_r1 ?_
    refine J_istore_n [(3, .int v7), (0, .ref (eb E + 115)), (1, .int x1), (4, .int x4)] aX12_tellsStranger_27 (by decide) rfl ?_
    refine J_iinc (x4 + nI 1) [(4, .int (x4 + nI 1)), (3, .int v7), (0, .ref (eb E + 115)), (1, .int x1)] 3 aX12_tellsStranger_28 rfl (by first | rfl | (congr 1; decide +kernel)) (by decide) rfl ?_
    refine J_goto aX12_tellsStranger_31 ?_
    refine J_pick [2, 3, 1, 0] rfl ?_
    exact h
theorem aX12_isSo_0 : decode mX12_isSo.2.1 0 = .ok (.bipush 74, 2) ∧ 0 + 2 = 2 := ⟨by decide +kernel, rfl⟩
theorem aX12_isSo_2 : decode mX12_isSo.2.1 2 = .ok (.iconst 4, 1) ∧ 2 + 1 = 3 := ⟨by decide +kernel, rfl⟩
theorem aX12_isSo_3 : decode mX12_isSo.2.1 3 = .ok (.iload_n 1, 1) ∧ 3 + 1 = 4 := ⟨by decide +kernel, rfl⟩
theorem aX12_isSo_4 : decode mX12_isSo.2.1 4 = .ok (.imul, 1) ∧ 4 + 1 = 5 := ⟨by decide +kernel, rfl⟩
theorem aX12_isSo_5 : decode mX12_isSo.2.1 5 = .ok (.iadd, 1) ∧ 5 + 1 = 6 := ⟨by decide +kernel, rfl⟩
theorem aX12_isSo_6 : decode mX12_isSo.2.1 6 = .ok (.istore_n 2, 1) ∧ 6 + 1 = 7 := ⟨by decide +kernel, rfl⟩
theorem aX12_isSo_7 : decode mX12_isSo.2.1 7 = .ok (.aload_n 0, 1) ∧ 7 + 1 = 8 := ⟨by decide +kernel, rfl⟩
theorem aX12_isSo_8 : decode mX12_isSo.2.1 8 = .ok (.getfield 44, 3) ∧ 8 + 3 = 11 := ⟨by decide +kernel, rfl⟩
theorem aX12_isSo_11 : decode mX12_isSo.2.1 11 = .ok (.aload_n 0, 1) ∧ 11 + 1 = 12 := ⟨by decide +kernel, rfl⟩
theorem aX12_isSo_12 : decode mX12_isSo.2.1 12 = .ok (.getfield 9, 3) ∧ 12 + 3 = 15 := ⟨by decide +kernel, rfl⟩
theorem aX12_isSo_15 : decode mX12_isSo.2.1 15 = .ok (.iload_n 2, 1) ∧ 15 + 1 = 16 := ⟨by decide +kernel, rfl⟩
theorem aX12_isSo_16 : decode mX12_isSo.2.1 16 = .ok (.iaload, 1) ∧ 16 + 1 = 17 := ⟨by decide +kernel, rfl⟩
theorem aX12_isSo_17 : decode mX12_isSo.2.1 17 = .ok (.iaload, 1) ∧ 17 + 1 = 18 := ⟨by decide +kernel, rfl⟩
theorem aX12_isSo_18 : decode mX12_isSo.2.1 18 = .ok (.istore_n 3, 1) ∧ 18 + 1 = 19 := ⟨by decide +kernel, rfl⟩
theorem aX12_isSo_19 : decode mX12_isSo.2.1 19 = .ok (.aload_n 0, 1) ∧ 19 + 1 = 20 := ⟨by decide +kernel, rfl⟩
theorem aX12_isSo_20 : decode mX12_isSo.2.1 20 = .ok (.getfield 9, 3) ∧ 20 + 3 = 23 := ⟨by decide +kernel, rfl⟩
theorem aX12_isSo_23 : decode mX12_isSo.2.1 23 = .ok (.iload_n 2, 1) ∧ 23 + 1 = 24 := ⟨by decide +kernel, rfl⟩
theorem aX12_isSo_24 : decode mX12_isSo.2.1 24 = .ok (.iconst 1, 1) ∧ 24 + 1 = 25 := ⟨by decide +kernel, rfl⟩
theorem aX12_isSo_25 : decode mX12_isSo.2.1 25 = .ok (.iadd, 1) ∧ 25 + 1 = 26 := ⟨by decide +kernel, rfl⟩
theorem aX12_isSo_26 : decode mX12_isSo.2.1 26 = .ok (.iaload, 1) ∧ 26 + 1 = 27 := ⟨by decide +kernel, rfl⟩
theorem aX12_isSo_27 : decode mX12_isSo.2.1 27 = .ok (.ifCond .ne 10, 3) ∧ ((27 : Nat) : Int) + 10 = ((37 : Nat) : Int) ∧ 27 + 3 = 30 := ⟨by decide +kernel, by decide, rfl⟩
theorem aX12_isSo_30 : decode mX12_isSo.2.1 30 = .ok (.iload_n 3, 1) ∧ 30 + 1 = 31 := ⟨by decide +kernel, rfl⟩
theorem aX12_isSo_31 : decode mX12_isSo.2.1 31 = .ok (.invokestatic 83, 3) ∧ 31 + 3 = 34 := ⟨by decide +kernel, rfl⟩
theorem aX12_isSo_34 : decode mX12_isSo.2.1 34 = .ok (.goto 7, 3) ∧ ((34 : Nat) : Int) + 7 = ((41 : Nat) : Int) := ⟨by decide +kernel, by decide⟩
theorem aX12_isSo_37 : decode mX12_isSo.2.1 37 = .ok (.iload_n 3, 1) ∧ 37 + 1 = 38 := ⟨by decide +kernel, rfl⟩
theorem aX12_isSo_38 : decode mX12_isSo.2.1 38 = .ok (.bipush 16, 2) ∧ 38 + 2 = 40 := ⟨by decide +kernel, rfl⟩
theorem aX12_isSo_40 : decode mX12_isSo.2.1 40 = .ok (.irem, 1) ∧ 40 + 1 = 41 := ⟨by decide +kernel, rfl⟩
theorem aX12_isSo_41 : decode mX12_isSo.2.1 41 = .ok (.aload_n 0, 1) ∧ 41 + 1 = 42 := ⟨by decide +kernel, rfl⟩
theorem aX12_isSo_42 : decode mX12_isSo.2.1 42 = .ok (.getfield 9, 3) ∧ 42 + 3 = 45 := ⟨by decide +kernel, rfl⟩
theorem aX12_isSo_45 : decode mX12_isSo.2.1 45 = .ok (.iload_n 2, 1) ∧ 45 + 1 = 46 := ⟨by decide +kernel, rfl⟩
theorem aX12_isSo_46 : decode mX12_isSo.2.1 46 = .ok (.iconst 2, 1) ∧ 46 + 1 = 47 := ⟨by decide +kernel, rfl⟩
theorem aX12_isSo_47 : decode mX12_isSo.2.1 47 = .ok (.iadd, 1) ∧ 47 + 1 = 48 := ⟨by decide +kernel, rfl⟩
theorem aX12_isSo_48 : decode mX12_isSo.2.1 48 = .ok (.iaload, 1) ∧ 48 + 1 = 49 := ⟨by decide +kernel, rfl⟩
theorem aX12_isSo_49 : decode mX12_isSo.2.1 49 = .ok (.aload_n 0, 1) ∧ 49 + 1 = 50 := ⟨by decide +kernel, rfl⟩
theorem aX12_isSo_50 : decode mX12_isSo.2.1 50 = .ok (.getfield 9, 3) ∧ 50 + 3 = 53 := ⟨by decide +kernel, rfl⟩
theorem aX12_isSo_53 : decode mX12_isSo.2.1 53 = .ok (.iload_n 2, 1) ∧ 53 + 1 = 54 := ⟨by decide +kernel, rfl⟩
theorem aX12_isSo_54 : decode mX12_isSo.2.1 54 = .ok (.iconst 3, 1) ∧ 54 + 1 = 55 := ⟨by decide +kernel, rfl⟩
theorem aX12_isSo_55 : decode mX12_isSo.2.1 55 = .ok (.iadd, 1) ∧ 55 + 1 = 56 := ⟨by decide +kernel, rfl⟩
theorem aX12_isSo_56 : decode mX12_isSo.2.1 56 = .ok (.iaload, 1) ∧ 56 + 1 = 57 := ⟨by decide +kernel, rfl⟩
theorem aX12_isSo_57 : decode mX12_isSo.2.1 57 = .ok (.invokestatic 68, 3) ∧ 57 + 3 = 60 := ⟨by decide +kernel, rfl⟩
theorem aX12_isSo_60 : decode mX12_isSo.2.1 60 = .ok (.ireturn, 1) := by decide +kernel
theorem S_X12_isSo {E : EE} {d : Nat} {I : IH} {Q : QT} (x1 : Int32) (h :
(∃ j1 : Nat, ((nI 74) + ((nI 4) * x1)) = nI j1 ∧ j1 < 322 ∧ (∃ j4 : Nat, (I 116 j1) = nI j4 ∧ j4 < 16 ∧ (∃ j7 : Nat, (((nI 74) + ((nI 4) * x1)) + (nI 1)) = nI j7 ∧ j7 < 322 ∧ ((¬ (I 116 j7) = 0 → J E (d + 1) mX12_isSo 41 [(0, .ref (eb E + 115)), (2, .int ((nI 74) + ((nI 4) * x1)))] [.int ((I 127 j4) - (I 127 j4) / (nI 16) * (nI 16))] I Q) ∧
 ((I 116 j7) = 0 → (Mt E d mX12_ones [.int (I 127 j4)] I (fun rv I10 => ∃ v11 : Int32, rv = some (.int v11) ∧
 J E (d + 1) mX12_isSo 41 [(0, .ref (eb E + 115)), (2, .int ((nI 74) + ((nI 4) * x1)))] [.int v11] I10 Q)))))))) : Mt E (d + 1) mX12_isSo [.ref (eb E + 115), .int x1] I Q := by
  refine Mt_of [(0, .ref (eb E + 115)), (1, .int x1)] (by decide +kernel) (by simp [lg_sl, Value.category, mX12_isSo]) rfl ?_
  refine J_bipush (nI 74) aX12_isSo_0 (by decide +kernel) ?_
  refine J_iconst (nI 4) aX12_isSo_2 (by decide +kernel) ?_
  refine J_iload_n 1 aX12_isSo_3 rfl ?_
  refine J_imul aX12_isSo_4 ?_
  refine J_iadd aX12_isSo_5 ?_
  refine J_istore_n [(2, .int ((nI 74) + ((nI 4) * x1))), (0, .ref (eb E + 115)), (1, .int x1)] aX12_isSo_6 (by decide) rfl ?_
  refine J_aload_n 1 aX12_isSo_7 rfl ?_
  refine J_getR aX12_isSo_8 flX12_44 sh115 rfl ?_
  refine J_aload_n 1 aX12_isSo_11 rfl ?_
  refine J_getR aX12_isSo_12 flX12_9 sh115 rfl ?_
  refine J_iload_n 0 aX12_isSo_15 rfl ?_
  obtain ⟨j1, e2, b3, h⟩ := h
  refine J_iaload j1 aX12_isSo_16 sh116 e2 b3 (by decide) ?_
  obtain ⟨j4, e5, b6, h⟩ := h
  refine J_iaload j4 aX12_isSo_17 sh127 e5 b6 (by decide) ?_
  refine J_istore_n [(3, .int (I 127 j4)), (2, .int ((nI 74) + ((nI 4) * x1))), (0, .ref (eb E + 115)), (1, .int x1)] aX12_isSo_18 (by decide) rfl ?_
  refine J_aload_n 2 aX12_isSo_19 rfl ?_
  refine J_getR aX12_isSo_20 flX12_9 sh115 rfl ?_
  refine J_iload_n 1 aX12_isSo_23 rfl ?_
  refine J_iconst (nI 1) aX12_isSo_24 (by decide +kernel) ?_
  refine J_iadd aX12_isSo_25 ?_
  obtain ⟨j7, e8, b9, h⟩ := h
  refine J_iaload j7 aX12_isSo_26 sh116 e8 b9 (by decide) ?_
  refine J_if_ne aX12_isSo_27 (fun q => ?_) (fun q => ?_)
  · replace h := h.1 q
    refine J_iload_n 0 aX12_isSo_37 rfl ?_
    refine J_bipush (nI 16) aX12_isSo_38 (by decide +kernel) ?_
    refine J_irem aX12_isSo_40 (by decide +kernel) ?_
    refine J_pick [2, 1] rfl ?_
    exact h
  · replace h := h.2 q
    refine J_iload_n 0 aX12_isSo_30 rfl ?_
    refine J_callS [.int (I 127 j4)] [] aX12_isSo_31 lkX12_83 okX12_ones rfl rfl (Nat.le_of_ble_eq_true rfl) (Nat.le_refl _) (Mt_mono h (fun rv I10 h => ?_))
    obtain ⟨v11, rfl, h⟩ := h
    refine J_r1 ?_
    refine J_goto aX12_isSo_34 ?_
    refine J_pick [2, 1] rfl ?_
    exact h
theorem S_X12_isSo_41 {E : EE} {d : Nat} {I : IH} {Q : QT} (x2 : Int32) (t0 : Int32) (h :
(∃ j1 : Nat, (x2 + (nI 2)) = nI j1 ∧ j1 < 322 ∧ (∃ j4 : Nat, (x2 + (nI 3)) = nI j4 ∧ j4 < 322 ∧ (Mt E d mX12_in1 [.int t0, .int (I 116 j1), .int (I 116 j4)] I (fun rv I7 => ∃ v8 : Int32, rv = some (.int v8) ∧
 ((v8 = 0 ∨ v8 = 1) ∧ Q (some (.int v8)) I7)))))) : J E (d + 1) mX12_isSo 41 [(0, .ref (eb E + 115)), (2, .int x2)] [.int t0] I Q := by
  refine J_aload_n 0 aX12_isSo_41 rfl ?_
  refine J_getR aX12_isSo_42 flX12_9 sh115 rfl ?_
  refine J_iload_n 1 aX12_isSo_45 rfl ?_
  refine J_iconst (nI 2) aX12_isSo_46 (by decide +kernel) ?_
  refine J_iadd aX12_isSo_47 ?_
  obtain ⟨j1, e2, b3, h⟩ := h
  refine J_iaload j1 aX12_isSo_48 sh116 e2 b3 (by decide) ?_
  refine J_aload_n 0 aX12_isSo_49 rfl ?_
  refine J_getR aX12_isSo_50 flX12_9 sh115 rfl ?_
  refine J_iload_n 1 aX12_isSo_53 rfl ?_
  refine J_iconst (nI 3) aX12_isSo_54 (by decide +kernel) ?_
  refine J_iadd aX12_isSo_55 ?_
  obtain ⟨j4, e5, b6, h⟩ := h
  refine J_iaload j4 aX12_isSo_56 sh116 e5 b6 (by decide) ?_
  refine J_callS [.int t0, .int (I 116 j1), .int (I 116 j4)] [] aX12_isSo_57 lkX12_68 okX12_in1 rfl rfl (Nat.le_of_ble_eq_true rfl) (Nat.le_refl _) (Mt_mono h (fun rv I7 h => ?_))
  obtain ⟨v8, rfl, h⟩ := h
  refine J_r1 ?_
  exact J_zret aX12_isSo_60 rfl (nar_bool h.1).1 h.2
theorem aX12_fitting_0 : decode mX12_fitting.2.1 0 = .ok (.iconst 0, 1) ∧ 0 + 1 = 1 := ⟨by decide +kernel, rfl⟩
theorem aX12_fitting_1 : decode mX12_fitting.2.1 1 = .ok (.istore_n 2, 1) ∧ 1 + 1 = 2 := ⟨by decide +kernel, rfl⟩
theorem aX12_fitting_2 : decode mX12_fitting.2.1 2 = .ok (.aload_n 0, 1) ∧ 2 + 1 = 3 := ⟨by decide +kernel, rfl⟩
theorem aX12_fitting_3 : decode mX12_fitting.2.1 3 = .ok (.iconst (-1), 1) ∧ 3 + 1 = 4 := ⟨by decide +kernel, rfl⟩
theorem aX12_fitting_4 : decode mX12_fitting.2.1 4 = .ok (.putfield 306, 3) ∧ 4 + 3 = 7 := ⟨by decide +kernel, rfl⟩
theorem aX12_fitting_7 : decode mX12_fitting.2.1 7 = .ok (.iconst 0, 1) ∧ 7 + 1 = 8 := ⟨by decide +kernel, rfl⟩
theorem aX12_fitting_8 : decode mX12_fitting.2.1 8 = .ok (.istore_n 3, 1) ∧ 8 + 1 = 9 := ⟨by decide +kernel, rfl⟩
theorem aX12_fitting_9 : decode mX12_fitting.2.1 9 = .ok (.iload_n 3, 1) ∧ 9 + 1 = 10 := ⟨by decide +kernel, rfl⟩
theorem aX12_fitting_10 : decode mX12_fitting.2.1 10 = .ok (.sipush 1280, 3) ∧ 10 + 3 = 13 := ⟨by decide +kernel, rfl⟩
theorem aX12_fitting_13 : decode mX12_fitting.2.1 13 = .ok (.if_icmp .ge 113, 3) ∧ ((13 : Nat) : Int) + 113 = ((126 : Nat) : Int) ∧ 13 + 3 = 16 := ⟨by decide +kernel, by decide, rfl⟩
theorem aX12_fitting_16 : decode mX12_fitting.2.1 16 = .ok (.aload_n 0, 1) ∧ 16 + 1 = 17 := ⟨by decide +kernel, rfl⟩
theorem aX12_fitting_17 : decode mX12_fitting.2.1 17 = .ok (.iconst 1, 1) ∧ 17 + 1 = 18 := ⟨by decide +kernel, rfl⟩
theorem aX12_fitting_18 : decode mX12_fitting.2.1 18 = .ok (.iload_n 3, 1) ∧ 18 + 1 = 19 := ⟨by decide +kernel, rfl⟩
theorem aX12_fitting_19 : decode mX12_fitting.2.1 19 = .ok (.sipush 256, 3) ∧ 19 + 3 = 22 := ⟨by decide +kernel, rfl⟩
theorem aX12_fitting_22 : decode mX12_fitting.2.1 22 = .ok (.idiv, 1) ∧ 22 + 1 = 23 := ⟨by decide +kernel, rfl⟩
theorem aX12_fitting_23 : decode mX12_fitting.2.1 23 = .ok (.iadd, 1) ∧ 23 + 1 = 24 := ⟨by decide +kernel, rfl⟩
theorem aX12_fitting_24 : decode mX12_fitting.2.1 24 = .ok (.iload_n 3, 1) ∧ 24 + 1 = 25 := ⟨by decide +kernel, rfl⟩
theorem aX12_fitting_25 : decode mX12_fitting.2.1 25 = .ok (.sipush 256, 3) ∧ 25 + 3 = 28 := ⟨by decide +kernel, rfl⟩
theorem aX12_fitting_28 : decode mX12_fitting.2.1 28 = .ok (.irem, 1) ∧ 28 + 1 = 29 := ⟨by decide +kernel, rfl⟩
theorem aX12_fitting_29 : decode mX12_fitting.2.1 29 = .ok (.invokevirtual 309, 3) ∧ 29 + 3 = 32 := ⟨by decide +kernel, rfl⟩
theorem aX12_fitting_32 : decode mX12_fitting.2.1 32 = .ok (.iconst 1, 1) ∧ 32 + 1 = 33 := ⟨by decide +kernel, rfl⟩
theorem aX12_fitting_33 : decode mX12_fitting.2.1 33 = .ok (.istore 4, 2) ∧ 33 + 2 = 35 := ⟨by decide +kernel, rfl⟩
theorem aX12_fitting_35 : decode mX12_fitting.2.1 35 = .ok (.iconst 0, 1) ∧ 35 + 1 = 36 := ⟨by decide +kernel, rfl⟩
theorem aX12_fitting_36 : decode mX12_fitting.2.1 36 = .ok (.istore 5, 2) ∧ 36 + 2 = 38 := ⟨by decide +kernel, rfl⟩
theorem aX12_fitting_38 : decode mX12_fitting.2.1 38 = .ok (.iload 5, 2) ∧ 38 + 2 = 40 := ⟨by decide +kernel, rfl⟩
theorem aX12_fitting_40 : decode mX12_fitting.2.1 40 = .ok (.aload_n 0, 1) ∧ 40 + 1 = 41 := ⟨by decide +kernel, rfl⟩
theorem aX12_fitting_41 : decode mX12_fitting.2.1 41 = .ok (.getfield 9, 3) ∧ 41 + 3 = 44 := ⟨by decide +kernel, rfl⟩
theorem aX12_fitting_44 : decode mX12_fitting.2.1 44 = .ok (.bipush 8, 2) ∧ 44 + 2 = 46 := ⟨by decide +kernel, rfl⟩
theorem aX12_fitting_46 : decode mX12_fitting.2.1 46 = .ok (.iaload, 1) ∧ 46 + 1 = 47 := ⟨by decide +kernel, rfl⟩
theorem aX12_fitting_47 : decode mX12_fitting.2.1 47 = .ok (.if_icmp .ge 36, 3) ∧ ((47 : Nat) : Int) + 36 = ((83 : Nat) : Int) ∧ 47 + 3 = 50 := ⟨by decide +kernel, by decide, rfl⟩
theorem aX12_fitting_50 : decode mX12_fitting.2.1 50 = .ok (.iload 4, 2) ∧ 50 + 2 = 52 := ⟨by decide +kernel, rfl⟩
theorem aX12_fitting_52 : decode mX12_fitting.2.1 52 = .ok (.ifCond .eq 31, 3) ∧ ((52 : Nat) : Int) + 31 = ((83 : Nat) : Int) ∧ 52 + 3 = 55 := ⟨by decide +kernel, by decide, rfl⟩
theorem aX12_fitting_55 : decode mX12_fitting.2.1 55 = .ok (.iload 5, 2) ∧ 55 + 2 = 57 := ⟨by decide +kernel, rfl⟩
theorem aX12_fitting_57 : decode mX12_fitting.2.1 57 = .ok (.iload_n 1, 1) ∧ 57 + 1 = 58 := ⟨by decide +kernel, rfl⟩
theorem aX12_fitting_58 : decode mX12_fitting.2.1 58 = .ok (.if_icmp .eq 12, 3) ∧ ((58 : Nat) : Int) + 12 = ((70 : Nat) : Int) ∧ 58 + 3 = 61 := ⟨by decide +kernel, by decide, rfl⟩
theorem aX12_fitting_61 : decode mX12_fitting.2.1 61 = .ok (.aload_n 0, 1) ∧ 61 + 1 = 62 := ⟨by decide +kernel, rfl⟩
theorem aX12_fitting_62 : decode mX12_fitting.2.1 62 = .ok (.iload 5, 2) ∧ 62 + 2 = 64 := ⟨by decide +kernel, rfl⟩
theorem aX12_fitting_64 : decode mX12_fitting.2.1 64 = .ok (.invokevirtual 312, 3) ∧ 64 + 3 = 67 := ⟨by decide +kernel, rfl⟩
theorem aX12_fitting_67 : decode mX12_fitting.2.1 67 = .ok (.ifCond .eq 7, 3) ∧ ((67 : Nat) : Int) + 7 = ((74 : Nat) : Int) ∧ 67 + 3 = 70 := ⟨by decide +kernel, by decide, rfl⟩
theorem aX12_fitting_70 : decode mX12_fitting.2.1 70 = .ok (.iconst 1, 1) ∧ 70 + 1 = 71 := ⟨by decide +kernel, rfl⟩
theorem aX12_fitting_71 : decode mX12_fitting.2.1 71 = .ok (.goto 4, 3) ∧ ((71 : Nat) : Int) + 4 = ((75 : Nat) : Int) := ⟨by decide +kernel, by decide⟩
theorem aX12_fitting_74 : decode mX12_fitting.2.1 74 = .ok (.iconst 0, 1) ∧ 74 + 1 = 75 := ⟨by decide +kernel, rfl⟩
theorem aX12_fitting_75 : decode mX12_fitting.2.1 75 = .ok (.istore 4, 2) ∧ 75 + 2 = 77 := ⟨by decide +kernel, rfl⟩
theorem aX12_fitting_77 : decode mX12_fitting.2.1 77 = .ok (.iinc 5 1, 3) ∧ 77 + 3 = 80 := ⟨by decide +kernel, rfl⟩
theorem aX12_fitting_80 : decode mX12_fitting.2.1 80 = .ok (.goto (-42), 3) ∧ ((80 : Nat) : Int) + (-42) = ((38 : Nat) : Int) := ⟨by decide +kernel, by decide⟩
theorem aX12_fitting_83 : decode mX12_fitting.2.1 83 = .ok (.iload_n 2, 1) ∧ 83 + 1 = 84 := ⟨by decide +kernel, rfl⟩
theorem aX12_fitting_84 : decode mX12_fitting.2.1 84 = .ok (.iload 4, 2) ∧ 84 + 2 = 86 := ⟨by decide +kernel, rfl⟩
theorem aX12_fitting_86 : decode mX12_fitting.2.1 86 = .ok (.ifCond .eq 7, 3) ∧ ((86 : Nat) : Int) + 7 = ((93 : Nat) : Int) ∧ 86 + 3 = 89 := ⟨by decide +kernel, by decide, rfl⟩
theorem aX12_fitting_89 : decode mX12_fitting.2.1 89 = .ok (.iconst 1, 1) ∧ 89 + 1 = 90 := ⟨by decide +kernel, rfl⟩
theorem aX12_fitting_90 : decode mX12_fitting.2.1 90 = .ok (.goto 4, 3) ∧ ((90 : Nat) : Int) + 4 = ((94 : Nat) : Int) := ⟨by decide +kernel, by decide⟩
theorem aX12_fitting_93 : decode mX12_fitting.2.1 93 = .ok (.iconst 0, 1) ∧ 93 + 1 = 94 := ⟨by decide +kernel, rfl⟩
theorem aX12_fitting_94 : decode mX12_fitting.2.1 94 = .ok (.iadd, 1) ∧ 94 + 1 = 95 := ⟨by decide +kernel, rfl⟩
theorem aX12_fitting_95 : decode mX12_fitting.2.1 95 = .ok (.istore_n 2, 1) ∧ 95 + 1 = 96 := ⟨by decide +kernel, rfl⟩
theorem aX12_fitting_96 : decode mX12_fitting.2.1 96 = .ok (.aload_n 0, 1) ∧ 96 + 1 = 97 := ⟨by decide +kernel, rfl⟩
theorem aX12_fitting_97 : decode mX12_fitting.2.1 97 = .ok (.iload 4, 2) ∧ 97 + 2 = 99 := ⟨by decide +kernel, rfl⟩
theorem aX12_fitting_99 : decode mX12_fitting.2.1 99 = .ok (.ifCond .eq 14, 3) ∧ ((99 : Nat) : Int) + 14 = ((113 : Nat) : Int) ∧ 99 + 3 = 102 := ⟨by decide +kernel, by decide, rfl⟩
theorem aX12_fitting_102 : decode mX12_fitting.2.1 102 = .ok (.aload_n 0, 1) ∧ 102 + 1 = 103 := ⟨by decide +kernel, rfl⟩
theorem aX12_fitting_103 : decode mX12_fitting.2.1 103 = .ok (.getfield 306, 3) ∧ 103 + 3 = 106 := ⟨by decide +kernel, rfl⟩
theorem aX12_fitting_106 : decode mX12_fitting.2.1 106 = .ok (.ifCond .ge 7, 3) ∧ ((106 : Nat) : Int) + 7 = ((113 : Nat) : Int) ∧ 106 + 3 = 109 := ⟨by decide +kernel, by decide, rfl⟩
theorem aX12_fitting_109 : decode mX12_fitting.2.1 109 = .ok (.iload_n 3, 1) ∧ 109 + 1 = 110 := ⟨by decide +kernel, rfl⟩
theorem aX12_fitting_110 : decode mX12_fitting.2.1 110 = .ok (.goto 7, 3) ∧ ((110 : Nat) : Int) + 7 = ((117 : Nat) : Int) := ⟨by decide +kernel, by decide⟩
theorem aX12_fitting_113 : decode mX12_fitting.2.1 113 = .ok (.aload_n 0, 1) ∧ 113 + 1 = 114 := ⟨by decide +kernel, rfl⟩
theorem aX12_fitting_114 : decode mX12_fitting.2.1 114 = .ok (.getfield 306, 3) ∧ 114 + 3 = 117 := ⟨by decide +kernel, rfl⟩
theorem aX12_fitting_117 : decode mX12_fitting.2.1 117 = .ok (.putfield 306, 3) ∧ 117 + 3 = 120 := ⟨by decide +kernel, rfl⟩
theorem aX12_fitting_120 : decode mX12_fitting.2.1 120 = .ok (.iinc 3 1, 3) ∧ 120 + 3 = 123 := ⟨by decide +kernel, rfl⟩
theorem aX12_fitting_123 : decode mX12_fitting.2.1 123 = .ok (.goto (-114), 3) ∧ ((123 : Nat) : Int) + (-114) = ((9 : Nat) : Int) := ⟨by decide +kernel, by decide⟩
theorem aX12_fitting_126 : decode mX12_fitting.2.1 126 = .ok (.iload_n 2, 1) ∧ 126 + 1 = 127 := ⟨by decide +kernel, rfl⟩
theorem aX12_fitting_127 : decode mX12_fitting.2.1 127 = .ok (.ireturn, 1) := by decide +kernel
theorem S_X12_fitting {E : EE} {d : Nat} {I : IH} {Q : QT} (x1 : Int32) (h :
(∀ I1 : IH, I1 = stI I 115 26 (-1) →
 J E (d + 1) mX12_fitting 9 [(0, .ref (eb E + 115)), (1, .int x1), (2, .int (nI 0)), (3, .int (nI 0))] [] I1 Q)) : Mt E (d + 1) mX12_fitting [.ref (eb E + 115), .int x1] I Q := by
  refine Mt_of [(0, .ref (eb E + 115)), (1, .int x1)] (by decide +kernel) (by simp [lg_sl, Value.category, mX12_fitting]) rfl ?_
  refine J_iconst (nI 0) aX12_fitting_0 (by decide +kernel) ?_
  refine J_istore_n [(2, .int (nI 0)), (0, .ref (eb E + 115)), (1, .int x1)] aX12_fitting_1 (by decide) rfl ?_
  refine J_aload_n 1 aX12_fitting_2 rfl ?_
  refine J_iconst (-1) aX12_fitting_3 (by decide +kernel) ?_
  refine J_putI aX12_fitting_4 fpX12_306 sh115 rfl (fun I1 e2 => ?_)
  replace h := h I1 e2
  refine J_iconst (nI 0) aX12_fitting_7 (by decide +kernel) ?_
  refine J_istore_n [(3, .int (nI 0)), (2, .int (nI 0)), (0, .ref (eb E + 115)), (1, .int x1)] aX12_fitting_8 (by decide) rfl ?_
  refine J_pick [2, 3, 1, 0] rfl ?_
  exact h
theorem S_X12_fitting_9 {E : EE} {d : Nat} {I : IH} {Q : QT} (x1 : Int32) (x2 : Int32) (x3 : Int32) (h :
(((nI 1280) ≤ x3 → Q (some (.int x2)) I) ∧
 (¬ (nI 1280) ≤ x3 → (Mt E d mX12_tellsStranger [.ref (eb E + 115), .int ((nI 1) + (x3 / (nI 256))), .int (x3 - x3 / (nI 256) * (nI 256))] I (fun rv I1 => rv = none ∧
 J E (d + 1) mX12_fitting 38 [(0, .ref (eb E + 115)), (1, .int x1), (2, .int x2), (3, .int x3), (4, .int (nI 1)), (5, .int (nI 0))] [] I1 Q))))) : J E (d + 1) mX12_fitting 9 [(0, .ref (eb E + 115)), (1, .int x1), (2, .int x2), (3, .int x3)] [] I Q := by
  refine J_iload_n 3 aX12_fitting_9 rfl ?_
  refine J_sipush (nI 1280) aX12_fitting_10 (by decide +kernel) ?_
  refine J_icmp_ge aX12_fitting_13 (fun q => ?_) (fun q => ?_)
  · replace h := h.1 q
    refine J_iload_n 2 aX12_fitting_126 rfl ?_
    exact J_iret aX12_fitting_127 rfl h
  · replace h := h.2 q
    refine J_aload_n 0 aX12_fitting_16 rfl ?_
    refine J_iconst (nI 1) aX12_fitting_17 (by decide +kernel) ?_
    refine J_iload_n 3 aX12_fitting_18 rfl ?_
    refine J_sipush (nI 256) aX12_fitting_19 (by decide +kernel) ?_
    refine J_idiv aX12_fitting_22 (by decide +kernel) ?_
    refine J_iadd aX12_fitting_23 ?_
    refine J_iload_n 3 aX12_fitting_24 rfl ?_
    refine J_sipush (nI 256) aX12_fitting_25 (by decide +kernel) ?_
    refine J_irem aX12_fitting_28 (by decide +kernel) ?_
    refine J_callV [.int ((nI 1) + (x3 / (nI 256))), .int (x3 - x3 / (nI 256) * (nI 256))] [] aX12_fitting_29 lkX12_309_X12 okX12_tellsStranger sh115 rfl rfl rfl (Nat.le_of_ble_eq_true rfl) (Nat.le_refl _) (Mt_mono h (fun rv I1 h => ?_))
    obtain ⟨rfl, h⟩ := h
    refine J_r0 ?_
    refine J_iconst (nI 1) aX12_fitting_32 (by decide +kernel) ?_
    refine J_istore [(4, .int (nI 1)), (0, .ref (eb E + 115)), (1, .int x1), (2, .int x2), (3, .int x3)] aX12_fitting_33 (by decide) rfl ?_
    refine J_iconst (nI 0) aX12_fitting_35 (by decide +kernel) ?_
    refine J_istore [(5, .int (nI 0)), (4, .int (nI 1)), (0, .ref (eb E + 115)), (1, .int x1), (2, .int x2), (3, .int x3)] aX12_fitting_36 (by decide) rfl ?_
    refine J_pick [2, 3, 4, 5, 1, 0] rfl ?_
    exact h
theorem S_X12_fitting_38 {E : EE} {d : Nat} {I : IH} {Q : QT} (x1 : Int32) (x2 : Int32) (x3 : Int32) (x4 : Int32) (x5 : Int32) (h :
(((I 116 8) ≤ x5 → J E (d + 1) mX12_fitting 83 [(0, .ref (eb E + 115)), (1, .int x1), (2, .int x2), (3, .int x3), (4, .int x4)] [] I Q) ∧
 (¬ (I 116 8) ≤ x5 → ((x4 = 0 → J E (d + 1) mX12_fitting 83 [(0, .ref (eb E + 115)), (1, .int x1), (2, .int x2), (3, .int x3), (4, .int x4)] [] I Q) ∧
 (¬ x4 = 0 → ((x5 = x1 → J E (d + 1) mX12_fitting 38 [(0, .ref (eb E + 115)), (1, .int x1), (2, .int x2), (3, .int x3), (4, .int (nI 1)), (5, .int (x5 + nI 1))] [] I Q) ∧
 (¬ x5 = x1 → (Mt E d mX12_isSo [.ref (eb E + 115), .int x5] I (fun rv I1 => ∃ v2 : Int32, rv = some (.int v2) ∧
 ((v2 = 0 → J E (d + 1) mX12_fitting 38 [(0, .ref (eb E + 115)), (1, .int x1), (2, .int x2), (3, .int x3), (4, .int (nI 0)), (5, .int (x5 + nI 1))] [] I1 Q) ∧
 (¬ v2 = 0 → J E (d + 1) mX12_fitting 38 [(0, .ref (eb E + 115)), (1, .int x1), (2, .int x2), (3, .int x3), (4, .int (nI 1)), (5, .int (x5 + nI 1))] [] I1 Q))))))))))) : J E (d + 1) mX12_fitting 38 [(0, .ref (eb E + 115)), (1, .int x1), (2, .int x2), (3, .int x3), (4, .int x4), (5, .int x5)] [] I Q := by
  refine J_iload 5 aX12_fitting_38 rfl ?_
  refine J_aload_n 0 aX12_fitting_40 rfl ?_
  refine J_getR aX12_fitting_41 flX12_9 sh115 rfl ?_
  refine J_bipush (nI 8) aX12_fitting_44 (by decide +kernel) ?_
  refine J_iaload 8 aX12_fitting_46 sh116 rfl (by decide) (by decide) ?_
  refine J_icmp_ge aX12_fitting_47 (fun q => ?_) (fun q => ?_)
  · replace h := h.1 q
    refine J_pick [0, 1, 2, 3, 4] rfl ?_
    exact h
  · replace h := h.2 q
    refine J_iload 4 aX12_fitting_50 rfl ?_
    refine J_if_eq aX12_fitting_52 (fun q => ?_) (fun q => ?_)
    · replace h := h.1 q
      refine J_pick [0, 1, 2, 3, 4] rfl ?_
      exact h
    · replace h := h.2 q
      refine J_iload 5 aX12_fitting_55 rfl ?_
      refine J_iload_n 1 aX12_fitting_57 rfl ?_
      refine J_icmp_eq aX12_fitting_58 (fun q => ?_) (fun q => ?_)
      · replace h := h.1 q
        refine J_iconst (nI 1) aX12_fitting_70 (by decide +kernel) ?_
        refine J_goto aX12_fitting_71 ?_
        refine J_istore [(4, .int (nI 1)), (0, .ref (eb E + 115)), (1, .int x1), (2, .int x2), (3, .int x3), (5, .int x5)] aX12_fitting_75 (by decide) rfl ?_
        refine J_iinc (x5 + nI 1) [(5, .int (x5 + nI 1)), (4, .int (nI 1)), (0, .ref (eb E + 115)), (1, .int x1), (2, .int x2), (3, .int x3)] 5 aX12_fitting_77 rfl (by first | rfl | (congr 1; decide +kernel)) (by decide) rfl ?_
        refine J_goto aX12_fitting_80 ?_
        refine J_pick [2, 3, 4, 5, 1, 0] rfl ?_
        exact h
      · replace h := h.2 q
        refine J_aload_n 0 aX12_fitting_61 rfl ?_
        refine J_iload 5 aX12_fitting_62 rfl ?_
        refine J_callV [.int x5] [] aX12_fitting_64 lkX12_312_X12 okX12_isSo sh115 rfl rfl rfl (Nat.le_of_ble_eq_true rfl) (Nat.le_refl _) (Mt_mono h (fun rv I1 h => ?_))
        obtain ⟨v2, rfl, h⟩ := h
        refine J_r1 ?_
        refine J_if_eq aX12_fitting_67 (fun q => ?_) (fun q => ?_)
        · replace h := h.1 q
          refine J_iconst (nI 0) aX12_fitting_74 (by decide +kernel) ?_
          refine J_istore [(4, .int (nI 0)), (0, .ref (eb E + 115)), (1, .int x1), (2, .int x2), (3, .int x3), (5, .int x5)] aX12_fitting_75 (by decide) rfl ?_
          refine J_iinc (x5 + nI 1) [(5, .int (x5 + nI 1)), (4, .int (nI 0)), (0, .ref (eb E + 115)), (1, .int x1), (2, .int x2), (3, .int x3)] 5 aX12_fitting_77 rfl (by first | rfl | (congr 1; decide +kernel)) (by decide) rfl ?_
          refine J_goto aX12_fitting_80 ?_
          refine J_pick [2, 3, 4, 5, 1, 0] rfl ?_
          exact h
        · replace h := h.2 q
          refine J_iconst (nI 1) aX12_fitting_70 (by decide +kernel) ?_
          refine J_goto aX12_fitting_71 ?_
          refine J_istore [(4, .int (nI 1)), (0, .ref (eb E + 115)), (1, .int x1), (2, .int x2), (3, .int x3), (5, .int x5)] aX12_fitting_75 (by decide) rfl ?_
          refine J_iinc (x5 + nI 1) [(5, .int (x5 + nI 1)), (4, .int (nI 1)), (0, .ref (eb E + 115)), (1, .int x1), (2, .int x2), (3, .int x3)] 5 aX12_fitting_77 rfl (by first | rfl | (congr 1; decide +kernel)) (by decide) rfl ?_
          refine J_goto aX12_fitting_80 ?_
          refine J_pick [2, 3, 4, 5, 1, 0] rfl ?_
          exact h
theorem S_X12_fitting_83 {E : EE} {d : Nat} {I : IH} {Q : QT} (x1 : Int32) (x2 : Int32) (x3 : Int32) (x4 : Int32) (h :
((x4 = 0 → J E (d + 1) mX12_fitting 94 [(0, .ref (eb E + 115)), (1, .int x1), (3, .int x3), (4, .int x4)] [.int (nI 0), .int x2] I Q) ∧
 (¬ x4 = 0 → J E (d + 1) mX12_fitting 94 [(0, .ref (eb E + 115)), (1, .int x1), (3, .int x3), (4, .int x4)] [.int (nI 1), .int x2] I Q))) : J E (d + 1) mX12_fitting 83 [(0, .ref (eb E + 115)), (1, .int x1), (2, .int x2), (3, .int x3), (4, .int x4)] [] I Q := by
  refine J_iload_n 2 aX12_fitting_83 rfl ?_
  refine J_iload 4 aX12_fitting_84 rfl ?_
  refine J_if_eq aX12_fitting_86 (fun q => ?_) (fun q => ?_)
  · replace h := h.1 q
    refine J_iconst (nI 0) aX12_fitting_93 (by decide +kernel) ?_
    refine J_pick [0, 1, 3, 4] rfl ?_
    exact h
  · replace h := h.2 q
    refine J_iconst (nI 1) aX12_fitting_89 (by decide +kernel) ?_
    refine J_goto aX12_fitting_90 ?_
    refine J_pick [0, 1, 3, 4] rfl ?_
    exact h
theorem S_X12_fitting_94 {E : EE} {d : Nat} {I : IH} {Q : QT} (x1 : Int32) (x3 : Int32) (x4 : Int32) (t0 : Int32) (t1 : Int32) (h :
((x4 = 0 → (∀ I1 : IH, I1 = stI I 115 26 (I 115 26) →
 J E (d + 1) mX12_fitting 9 [(0, .ref (eb E + 115)), (1, .int x1), (2, .int (t1 + t0)), (3, .int (x3 + nI 1))] [] I1 Q)) ∧
 (¬ x4 = 0 → ((0 ≤ (I 115 26) → (∀ I3 : IH, I3 = stI I 115 26 (I 115 26) →
 J E (d + 1) mX12_fitting 9 [(0, .ref (eb E + 115)), (1, .int x1), (2, .int (t1 + t0)), (3, .int (x3 + nI 1))] [] I3 Q)) ∧
 (¬ 0 ≤ (I 115 26) → (∀ I5 : IH, I5 = stI I 115 26 x3 →
 J E (d + 1) mX12_fitting 9 [(0, .ref (eb E + 115)), (1, .int x1), (2, .int (t1 + t0)), (3, .int (x3 + nI 1))] [] I5 Q)))))) : J E (d + 1) mX12_fitting 94 [(0, .ref (eb E + 115)), (1, .int x1), (3, .int x3), (4, .int x4)] [.int t0, .int t1] I Q := by
  refine J_iadd aX12_fitting_94 ?_
  refine J_istore_n [(2, .int (t1 + t0)), (0, .ref (eb E + 115)), (1, .int x1), (3, .int x3), (4, .int x4)] aX12_fitting_95 (by decide) rfl ?_
  refine J_aload_n 1 aX12_fitting_96 rfl ?_
  refine J_iload 4 aX12_fitting_97 rfl ?_
  refine J_if_eq aX12_fitting_99 (fun q => ?_) (fun q => ?_)
  · replace h := h.1 q
    refine J_aload_n 1 aX12_fitting_113 rfl ?_
    refine J_getI aX12_fitting_114 flX12_306 sh115 rfl ?_
    refine J_putI aX12_fitting_117 fpX12_306 sh115 rfl (fun I1 e2 => ?_)
    replace h := h I1 e2
    refine J_iinc (x3 + nI 1) [(3, .int (x3 + nI 1)), (2, .int (t1 + t0)), (0, .ref (eb E + 115)), (1, .int x1), (4, .int x4)] 3 aX12_fitting_120 rfl (by first | rfl | (congr 1; decide +kernel)) (by decide) rfl ?_
    refine J_goto aX12_fitting_123 ?_
    refine J_pick [2, 3, 1, 0] rfl ?_
    exact h
  · replace h := h.2 q
    refine J_aload_n 1 aX12_fitting_102 rfl ?_
    refine J_getI aX12_fitting_103 flX12_306 sh115 rfl ?_
    refine J_if_ge aX12_fitting_106 (fun q => ?_) (fun q => ?_)
    · replace h := h.1 q
      refine J_aload_n 1 aX12_fitting_113 rfl ?_
      refine J_getI aX12_fitting_114 flX12_306 sh115 rfl ?_
      refine J_putI aX12_fitting_117 fpX12_306 sh115 rfl (fun I3 e4 => ?_)
      replace h := h I3 e4
      refine J_iinc (x3 + nI 1) [(3, .int (x3 + nI 1)), (2, .int (t1 + t0)), (0, .ref (eb E + 115)), (1, .int x1), (4, .int x4)] 3 aX12_fitting_120 rfl (by first | rfl | (congr 1; decide +kernel)) (by decide) rfl ?_
      refine J_goto aX12_fitting_123 ?_
      refine J_pick [2, 3, 1, 0] rfl ?_
      exact h
    · replace h := h.2 q
      refine J_iload_n 3 aX12_fitting_109 rfl ?_
      refine J_goto aX12_fitting_110 ?_
      refine J_putI aX12_fitting_117 fpX12_306 sh115 rfl (fun I5 e6 => ?_)
      replace h := h I5 e6
      refine J_iinc (x3 + nI 1) [(3, .int (x3 + nI 1)), (2, .int (t1 + t0)), (0, .ref (eb E + 115)), (1, .int x1), (4, .int x4)] 3 aX12_fitting_120 rfl (by first | rfl | (congr 1; decide +kernel)) (by decide) rfl ?_
      refine J_goto aX12_fitting_123 ?_
      refine J_pick [2, 3, 1, 0] rfl ?_
      exact h
theorem aX12_who_0 : decode mX12_who.2.1 0 = .ok (.iload_n 1, 1) ∧ 0 + 1 = 1 := ⟨by decide +kernel, rfl⟩
theorem aX12_who_1 : decode mX12_who.2.1 1 = .ok (.iconst 0, 1) ∧ 1 + 1 = 2 := ⟨by decide +kernel, rfl⟩
theorem aX12_who_2 : decode mX12_who.2.1 2 = .ok (.iconst 2, 1) ∧ 2 + 1 = 3 := ⟨by decide +kernel, rfl⟩
theorem aX12_who_3 : decode mX12_who.2.1 3 = .ok (.invokestatic 68, 3) ∧ 3 + 3 = 6 := ⟨by decide +kernel, rfl⟩
theorem aX12_who_6 : decode mX12_who.2.1 6 = .ok (.ifCond .ne 5, 3) ∧ ((6 : Nat) : Int) + 5 = ((11 : Nat) : Int) ∧ 6 + 3 = 9 := ⟨by decide +kernel, by decide, rfl⟩
theorem aX12_who_9 : decode mX12_who.2.1 9 = .ok (.iconst (-1), 1) ∧ 9 + 1 = 10 := ⟨by decide +kernel, rfl⟩
theorem aX12_who_10 : decode mX12_who.2.1 10 = .ok (.ireturn, 1) := by decide +kernel
theorem aX12_who_11 : decode mX12_who.2.1 11 = .ok (.aload_n 0, 1) ∧ 11 + 1 = 12 := ⟨by decide +kernel, rfl⟩
theorem aX12_who_12 : decode mX12_who.2.1 12 = .ok (.iconst (-1), 1) ∧ 12 + 1 = 13 := ⟨by decide +kernel, rfl⟩
theorem aX12_who_13 : decode mX12_who.2.1 13 = .ok (.invokevirtual 315, 3) ∧ 13 + 3 = 16 := ⟨by decide +kernel, rfl⟩
theorem aX12_who_16 : decode mX12_who.2.1 16 = .ok (.istore_n 2, 1) ∧ 16 + 1 = 17 := ⟨by decide +kernel, rfl⟩
theorem aX12_who_17 : decode mX12_who.2.1 17 = .ok (.iload_n 1, 1) ∧ 17 + 1 = 18 := ⟨by decide +kernel, rfl⟩
theorem aX12_who_18 : decode mX12_who.2.1 18 = .ok (.ifCond .le 10, 3) ∧ ((18 : Nat) : Int) + 10 = ((28 : Nat) : Int) ∧ 18 + 3 = 21 := ⟨by decide +kernel, by decide, rfl⟩
theorem aX12_who_21 : decode mX12_who.2.1 21 = .ok (.iload_n 2, 1) ∧ 21 + 1 = 22 := ⟨by decide +kernel, rfl⟩
theorem aX12_who_22 : decode mX12_who.2.1 22 = .ok (.ifCond .ne 6, 3) ∧ ((22 : Nat) : Int) + 6 = ((28 : Nat) : Int) ∧ 22 + 3 = 25 := ⟨by decide +kernel, by decide, rfl⟩
theorem aX12_who_25 : decode mX12_who.2.1 25 = .ok (.bipush (-3), 2) ∧ 25 + 2 = 27 := ⟨by decide +kernel, rfl⟩
theorem aX12_who_27 : decode mX12_who.2.1 27 = .ok (.ireturn, 1) := by decide +kernel
theorem aX12_who_28 : decode mX12_who.2.1 28 = .ok (.iload_n 1, 1) ∧ 28 + 1 = 29 := ⟨by decide +kernel, rfl⟩
theorem aX12_who_29 : decode mX12_who.2.1 29 = .ok (.ifCond .ne 7, 3) ∧ ((29 : Nat) : Int) + 7 = ((36 : Nat) : Int) ∧ 29 + 3 = 32 := ⟨by decide +kernel, by decide, rfl⟩
theorem aX12_who_32 : decode mX12_who.2.1 32 = .ok (.iload_n 2, 1) ∧ 32 + 1 = 33 := ⟨by decide +kernel, rfl⟩
theorem aX12_who_33 : decode mX12_who.2.1 33 = .ok (.goto 29, 3) ∧ ((33 : Nat) : Int) + 29 = ((62 : Nat) : Int) := ⟨by decide +kernel, by decide⟩
theorem aX12_who_36 : decode mX12_who.2.1 36 = .ok (.iload_n 1, 1) ∧ 36 + 1 = 37 := ⟨by decide +kernel, rfl⟩
theorem aX12_who_37 : decode mX12_who.2.1 37 = .ok (.iconst 1, 1) ∧ 37 + 1 = 38 := ⟨by decide +kernel, rfl⟩
theorem aX12_who_38 : decode mX12_who.2.1 38 = .ok (.if_icmp .ne 16, 3) ∧ ((38 : Nat) : Int) + 16 = ((54 : Nat) : Int) ∧ 38 + 3 = 41 := ⟨by decide +kernel, by decide, rfl⟩
theorem aX12_who_41 : decode mX12_who.2.1 41 = .ok (.iconst 1, 1) ∧ 41 + 1 = 42 := ⟨by decide +kernel, rfl⟩
theorem aX12_who_42 : decode mX12_who.2.1 42 = .ok (.aload_n 0, 1) ∧ 42 + 1 = 43 := ⟨by decide +kernel, rfl⟩
theorem aX12_who_43 : decode mX12_who.2.1 43 = .ok (.getfield 306, 3) ∧ 43 + 3 = 46 := ⟨by decide +kernel, rfl⟩
theorem aX12_who_46 : decode mX12_who.2.1 46 = .ok (.sipush 256, 3) ∧ 46 + 3 = 49 := ⟨by decide +kernel, rfl⟩
theorem aX12_who_49 : decode mX12_who.2.1 49 = .ok (.idiv, 1) ∧ 49 + 1 = 50 := ⟨by decide +kernel, rfl⟩
theorem aX12_who_50 : decode mX12_who.2.1 50 = .ok (.iadd, 1) ∧ 50 + 1 = 51 := ⟨by decide +kernel, rfl⟩
theorem aX12_who_51 : decode mX12_who.2.1 51 = .ok (.goto 11, 3) ∧ ((51 : Nat) : Int) + 11 = ((62 : Nat) : Int) := ⟨by decide +kernel, by decide⟩
theorem aX12_who_54 : decode mX12_who.2.1 54 = .ok (.aload_n 0, 1) ∧ 54 + 1 = 55 := ⟨by decide +kernel, rfl⟩
theorem aX12_who_55 : decode mX12_who.2.1 55 = .ok (.getfield 306, 3) ∧ 55 + 3 = 58 := ⟨by decide +kernel, rfl⟩
theorem aX12_who_58 : decode mX12_who.2.1 58 = .ok (.sipush 256, 3) ∧ 58 + 3 = 61 := ⟨by decide +kernel, rfl⟩
theorem aX12_who_61 : decode mX12_who.2.1 61 = .ok (.irem, 1) ∧ 61 + 1 = 62 := ⟨by decide +kernel, rfl⟩
theorem aX12_who_62 : decode mX12_who.2.1 62 = .ok (.ireturn, 1) := by decide +kernel
theorem S_X12_who {E : EE} {d : Nat} {I : IH} {Q : QT} (x1 : Int32) (h :
(Mt E d mX12_in1 [.int x1, .int (nI 0), .int (nI 2)] I (fun rv I1 => ∃ v2 : Int32, rv = some (.int v2) ∧
 ((¬ v2 = 0 → (Mt E d mX12_fitting [.ref (eb E + 115), .int (-1)] I1 (fun rv I3 => ∃ v4 : Int32, rv = some (.int v4) ∧
 ((x1 ≤ 0 → J E (d + 1) mX12_who 28 [(0, .ref (eb E + 115)), (1, .int x1), (2, .int v4)] [] I3 Q) ∧
 (¬ x1 ≤ 0 → ((¬ v4 = 0 → J E (d + 1) mX12_who 28 [(0, .ref (eb E + 115)), (1, .int x1), (2, .int v4)] [] I3 Q) ∧
 (v4 = 0 → Q (some (.int (-3))) I3))))))) ∧
 (v2 = 0 → Q (some (.int (-1))) I1))))) : Mt E (d + 1) mX12_who [.ref (eb E + 115), .int x1] I Q := by
  refine Mt_of [(0, .ref (eb E + 115)), (1, .int x1)] (by decide +kernel) (by simp [lg_sl, Value.category, mX12_who]) rfl ?_
  refine J_iload_n 1 aX12_who_0 rfl ?_
  refine J_iconst (nI 0) aX12_who_1 (by decide +kernel) ?_
  refine J_iconst (nI 2) aX12_who_2 (by decide +kernel) ?_
  refine J_callS [.int x1, .int (nI 0), .int (nI 2)] [] aX12_who_3 lkX12_68 okX12_in1 rfl rfl (Nat.le_of_ble_eq_true rfl) (Nat.le_refl _) (Mt_mono h (fun rv I1 h => ?_))
  obtain ⟨v2, rfl, h⟩ := h
  refine J_r1 ?_
  refine J_if_ne aX12_who_6 (fun q => ?_) (fun q => ?_)
  · replace h := h.1 q
    refine J_aload_n 0 aX12_who_11 rfl ?_
    refine J_iconst (-1) aX12_who_12 (by decide +kernel) ?_
    refine J_callV [.int (-1)] [] aX12_who_13 lkX12_315_X12 okX12_fitting sh115 rfl rfl rfl (Nat.le_of_ble_eq_true rfl) (Nat.le_refl _) (Mt_mono h (fun rv I3 h => ?_))
    obtain ⟨v4, rfl, h⟩ := h
    refine J_r1 ?_
    refine J_istore_n [(2, .int v4), (0, .ref (eb E + 115)), (1, .int x1)] aX12_who_16 (by decide) rfl ?_
    refine J_iload_n 2 aX12_who_17 rfl ?_
    refine J_if_le aX12_who_18 (fun q => ?_) (fun q => ?_)
    · replace h := h.1 q
      refine J_pick [1, 2, 0] rfl ?_
      exact h
    · replace h := h.2 q
      refine J_iload_n 0 aX12_who_21 rfl ?_
      refine J_if_ne aX12_who_22 (fun q => ?_) (fun q => ?_)
      · replace h := h.1 q
        refine J_pick [1, 2, 0] rfl ?_
        exact h
      · replace h := h.2 q
        refine J_bipush (-3) aX12_who_25 (by decide +kernel) ?_
        exact J_iret aX12_who_27 rfl h
  · replace h := h.2 q
    refine J_iconst (-1) aX12_who_9 (by decide +kernel) ?_
    exact J_iret aX12_who_10 rfl h
theorem S_X12_who_28 {E : EE} {d : Nat} {I : IH} {Q : QT} (x1 : Int32) (x2 : Int32) (h :
((¬ x1 = 0 → ((¬ x1 = (nI 1) → Q (some (.int ((I 115 26) - (I 115 26) / (nI 256) * (nI 256)))) I) ∧
 (x1 = (nI 1) → Q (some (.int ((nI 1) + ((I 115 26) / (nI 256))))) I))) ∧
 (x1 = 0 → Q (some (.int x2)) I))) : J E (d + 1) mX12_who 28 [(0, .ref (eb E + 115)), (1, .int x1), (2, .int x2)] [] I Q := by
  refine J_iload_n 1 aX12_who_28 rfl ?_
  refine J_if_ne aX12_who_29 (fun q => ?_) (fun q => ?_)
  · replace h := h.1 q
    refine J_iload_n 1 aX12_who_36 rfl ?_
    refine J_iconst (nI 1) aX12_who_37 (by decide +kernel) ?_
    refine J_icmp_ne aX12_who_38 (fun q => ?_) (fun q => ?_)
    · replace h := h.1 q
      refine J_aload_n 0 aX12_who_54 rfl ?_
      refine J_getI aX12_who_55 flX12_306 sh115 rfl ?_
      refine J_sipush (nI 256) aX12_who_58 (by decide +kernel) ?_
      refine J_irem aX12_who_61 (by decide +kernel) ?_
      exact J_iret aX12_who_62 rfl h
    · replace h := h.2 q
      refine J_iconst (nI 1) aX12_who_41 (by decide +kernel) ?_
      refine J_aload_n 0 aX12_who_42 rfl ?_
      refine J_getI aX12_who_43 flX12_306 sh115 rfl ?_
      refine J_sipush (nI 256) aX12_who_46 (by decide +kernel) ?_
      refine J_idiv aX12_who_49 (by decide +kernel) ?_
      refine J_iadd aX12_who_50 ?_
      refine J_goto aX12_who_51 ?_
      exact J_iret aX12_who_62 rfl h
  · replace h := h.2 q
    refine J_iload_n 2 aX12_who_32 rfl ?_
    refine J_goto aX12_who_33 ?_
    exact J_iret aX12_who_62 rfl h
theorem aX12_liar_0 : decode mX12_liar.2.1 0 = .ok (.aload_n 0, 1) ∧ 0 + 1 = 1 := ⟨by decide +kernel, rfl⟩
theorem aX12_liar_1 : decode mX12_liar.2.1 1 = .ok (.iconst (-1), 1) ∧ 1 + 1 = 2 := ⟨by decide +kernel, rfl⟩
theorem aX12_liar_2 : decode mX12_liar.2.1 2 = .ok (.invokevirtual 315, 3) ∧ 2 + 3 = 5 := ⟨by decide +kernel, rfl⟩
theorem aX12_liar_5 : decode mX12_liar.2.1 5 = .ok (.ifCond .le 6, 3) ∧ ((5 : Nat) : Int) + 6 = ((11 : Nat) : Int) ∧ 5 + 3 = 8 := ⟨by decide +kernel, by decide, rfl⟩
theorem aX12_liar_8 : decode mX12_liar.2.1 8 = .ok (.bipush (-3), 2) ∧ 8 + 2 = 10 := ⟨by decide +kernel, rfl⟩
theorem aX12_liar_10 : decode mX12_liar.2.1 10 = .ok (.ireturn, 1) := by decide +kernel
theorem aX12_liar_11 : decode mX12_liar.2.1 11 = .ok (.iconst 0, 1) ∧ 11 + 1 = 12 := ⟨by decide +kernel, rfl⟩
theorem aX12_liar_12 : decode mX12_liar.2.1 12 = .ok (.istore_n 1, 1) ∧ 12 + 1 = 13 := ⟨by decide +kernel, rfl⟩
theorem aX12_liar_13 : decode mX12_liar.2.1 13 = .ok (.iload_n 1, 1) ∧ 13 + 1 = 14 := ⟨by decide +kernel, rfl⟩
theorem aX12_liar_14 : decode mX12_liar.2.1 14 = .ok (.aload_n 0, 1) ∧ 14 + 1 = 15 := ⟨by decide +kernel, rfl⟩
theorem aX12_liar_15 : decode mX12_liar.2.1 15 = .ok (.getfield 9, 3) ∧ 15 + 3 = 18 := ⟨by decide +kernel, rfl⟩
theorem aX12_liar_18 : decode mX12_liar.2.1 18 = .ok (.bipush 8, 2) ∧ 18 + 2 = 20 := ⟨by decide +kernel, rfl⟩
theorem aX12_liar_20 : decode mX12_liar.2.1 20 = .ok (.iaload, 1) ∧ 20 + 1 = 21 := ⟨by decide +kernel, rfl⟩
theorem aX12_liar_21 : decode mX12_liar.2.1 21 = .ok (.if_icmp .ge 19, 3) ∧ ((21 : Nat) : Int) + 19 = ((40 : Nat) : Int) ∧ 21 + 3 = 24 := ⟨by decide +kernel, by decide, rfl⟩
theorem aX12_liar_24 : decode mX12_liar.2.1 24 = .ok (.aload_n 0, 1) ∧ 24 + 1 = 25 := ⟨by decide +kernel, rfl⟩
theorem aX12_liar_25 : decode mX12_liar.2.1 25 = .ok (.iload_n 1, 1) ∧ 25 + 1 = 26 := ⟨by decide +kernel, rfl⟩
theorem aX12_liar_26 : decode mX12_liar.2.1 26 = .ok (.invokevirtual 315, 3) ∧ 26 + 3 = 29 := ⟨by decide +kernel, rfl⟩
theorem aX12_liar_29 : decode mX12_liar.2.1 29 = .ok (.ifCond .le 5, 3) ∧ ((29 : Nat) : Int) + 5 = ((34 : Nat) : Int) ∧ 29 + 3 = 32 := ⟨by decide +kernel, by decide, rfl⟩
theorem aX12_liar_32 : decode mX12_liar.2.1 32 = .ok (.iload_n 1, 1) ∧ 32 + 1 = 33 := ⟨by decide +kernel, rfl⟩
theorem aX12_liar_33 : decode mX12_liar.2.1 33 = .ok (.ireturn, 1) := by decide +kernel
theorem aX12_liar_34 : decode mX12_liar.2.1 34 = .ok (.iinc 1 1, 3) ∧ 34 + 3 = 37 := ⟨by decide +kernel, rfl⟩
theorem aX12_liar_37 : decode mX12_liar.2.1 37 = .ok (.goto (-24), 3) ∧ ((37 : Nat) : Int) + (-24) = ((13 : Nat) : Int) := ⟨by decide +kernel, by decide⟩
theorem aX12_liar_40 : decode mX12_liar.2.1 40 = .ok (.bipush (-3), 2) ∧ 40 + 2 = 42 := ⟨by decide +kernel, rfl⟩
theorem aX12_liar_42 : decode mX12_liar.2.1 42 = .ok (.ireturn, 1) := by decide +kernel
theorem S_X12_liar {E : EE} {d : Nat} {I : IH} {Q : QT}  (h :
(Mt E d mX12_fitting [.ref (eb E + 115), .int (-1)] I (fun rv I1 => ∃ v2 : Int32, rv = some (.int v2) ∧
 ((v2 ≤ 0 → J E (d + 1) mX12_liar 13 [(0, .ref (eb E + 115)), (1, .int (nI 0))] [] I1 Q) ∧
 (¬ v2 ≤ 0 → Q (some (.int (-3))) I1))))) : Mt E (d + 1) mX12_liar [.ref (eb E + 115)] I Q := by
  refine Mt_of [(0, .ref (eb E + 115))] (by decide +kernel) (by simp [lg_sl, Value.category, mX12_liar]) rfl ?_
  refine J_aload_n 0 aX12_liar_0 rfl ?_
  refine J_iconst (-1) aX12_liar_1 (by decide +kernel) ?_
  refine J_callV [.int (-1)] [] aX12_liar_2 lkX12_315_X12 okX12_fitting sh115 rfl rfl rfl (Nat.le_of_ble_eq_true rfl) (Nat.le_refl _) (Mt_mono h (fun rv I1 h => ?_))
  obtain ⟨v2, rfl, h⟩ := h
  refine J_r1 ?_
  refine J_if_le aX12_liar_5 (fun q => ?_) (fun q => ?_)
  · replace h := h.1 q
    refine J_iconst (nI 0) aX12_liar_11 (by decide +kernel) ?_
    refine J_istore_n [(1, .int (nI 0)), (0, .ref (eb E + 115))] aX12_liar_12 (by decide) rfl ?_
    refine J_pick [1, 0] rfl ?_
    exact h
  · replace h := h.2 q
    refine J_bipush (-3) aX12_liar_8 (by decide +kernel) ?_
    exact J_iret aX12_liar_10 rfl h
theorem S_X12_liar_13 {E : EE} {d : Nat} {I : IH} {Q : QT} (x1 : Int32) (h :
(((I 116 8) ≤ x1 → Q (some (.int (-3))) I) ∧
 (¬ (I 116 8) ≤ x1 → (Mt E d mX12_fitting [.ref (eb E + 115), .int x1] I (fun rv I1 => ∃ v2 : Int32, rv = some (.int v2) ∧
 ((v2 ≤ 0 → J E (d + 1) mX12_liar 13 [(0, .ref (eb E + 115)), (1, .int (x1 + nI 1))] [] I1 Q) ∧
 (¬ v2 ≤ 0 → Q (some (.int x1)) I1))))))) : J E (d + 1) mX12_liar 13 [(0, .ref (eb E + 115)), (1, .int x1)] [] I Q := by
  refine J_iload_n 1 aX12_liar_13 rfl ?_
  refine J_aload_n 0 aX12_liar_14 rfl ?_
  refine J_getR aX12_liar_15 flX12_9 sh115 rfl ?_
  refine J_bipush (nI 8) aX12_liar_18 (by decide +kernel) ?_
  refine J_iaload 8 aX12_liar_20 sh116 rfl (by decide) (by decide) ?_
  refine J_icmp_ge aX12_liar_21 (fun q => ?_) (fun q => ?_)
  · replace h := h.1 q
    refine J_bipush (-3) aX12_liar_40 (by decide +kernel) ?_
    exact J_iret aX12_liar_42 rfl h
  · replace h := h.2 q
    refine J_aload_n 0 aX12_liar_24 rfl ?_
    refine J_iload_n 1 aX12_liar_25 rfl ?_
    refine J_callV [.int x1] [] aX12_liar_26 lkX12_315_X12 okX12_fitting sh115 rfl rfl rfl (Nat.le_of_ble_eq_true rfl) (Nat.le_refl _) (Mt_mono h (fun rv I1 h => ?_))
    obtain ⟨v2, rfl, h⟩ := h
    refine J_r1 ?_
    refine J_if_le aX12_liar_29 (fun q => ?_) (fun q => ?_)
    · replace h := h.1 q
      refine J_iinc (x1 + nI 1) [(1, .int (x1 + nI 1)), (0, .ref (eb E + 115))] 1 aX12_liar_34 rfl (by first | rfl | (congr 1; decide +kernel)) (by decide) rfl ?_
      refine J_goto aX12_liar_37 ?_
      refine J_pick [1, 0] rfl ?_
      exact h
    · replace h := h.2 q
      refine J_iload_n 1 aX12_liar_32 rfl ?_
      exact J_iret aX12_liar_33 rfl h
