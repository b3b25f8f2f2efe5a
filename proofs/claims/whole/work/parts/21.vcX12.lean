theorem aX12_looksAt_0 : decode mX12_looksAt.2.1 0 = .ok (.aload_n 0, 1) ∧ 0 + 1 = 1 := ⟨by decide +kernel, rfl⟩
theorem aX12_looksAt_1 : decode mX12_looksAt.2.1 1 = .ok (.iload_n 1, 1) ∧ 1 + 1 = 2 := ⟨by decide +kernel, rfl⟩
theorem aX12_looksAt_2 : decode mX12_looksAt.2.1 2 = .ok (.invokevirtual 86, 3) ∧ 2 + 3 = 5 := ⟨by decide +kernel, rfl⟩
theorem aX12_looksAt_5 : decode mX12_looksAt.2.1 5 = .ok (.istore_n 2, 1) ∧ 5 + 1 = 6 := ⟨by decide +kernel, rfl⟩
theorem aX12_looksAt_6 : decode mX12_looksAt.2.1 6 = .ok (.iload_n 2, 1) ∧ 6 + 1 = 7 := ⟨by decide +kernel, rfl⟩
theorem aX12_looksAt_7 : decode mX12_looksAt.2.1 7 = .ok (.iconst 2, 1) ∧ 7 + 1 = 8 := ⟨by decide +kernel, rfl⟩
theorem aX12_looksAt_8 : decode mX12_looksAt.2.1 8 = .ok (.if_icmp .le 16, 3) ∧ ((8 : Nat) : Int) + 16 = ((24 : Nat) : Int) ∧ 8 + 3 = 11 := ⟨by decide +kernel, by decide, rfl⟩
theorem aX12_looksAt_11 : decode mX12_looksAt.2.1 11 = .ok (.aload_n 0, 1) ∧ 11 + 1 = 12 := ⟨by decide +kernel, rfl⟩
theorem aX12_looksAt_12 : decode mX12_looksAt.2.1 12 = .ok (.iload_n 1, 1) ∧ 12 + 1 = 13 := ⟨by decide +kernel, rfl⟩
theorem aX12_looksAt_13 : decode mX12_looksAt.2.1 13 = .ok (.iconst 4, 1) ∧ 13 + 1 = 14 := ⟨by decide +kernel, rfl⟩
theorem aX12_looksAt_14 : decode mX12_looksAt.2.1 14 = .ok (.invokevirtual 80, 3) ∧ 14 + 3 = 17 := ⟨by decide +kernel, rfl⟩
theorem aX12_looksAt_17 : decode mX12_looksAt.2.1 17 = .ok (.ifCond .ne 7, 3) ∧ ((17 : Nat) : Int) + 7 = ((24 : Nat) : Int) ∧ 17 + 3 = 20 := ⟨by decide +kernel, by decide, rfl⟩
theorem aX12_looksAt_20 : decode mX12_looksAt.2.1 20 = .ok (.iconst 5, 1) ∧ 20 + 1 = 21 := ⟨by decide +kernel, rfl⟩
theorem aX12_looksAt_21 : decode mX12_looksAt.2.1 21 = .ok (.goto 4, 3) ∧ ((21 : Nat) : Int) + 4 = ((25 : Nat) : Int) := ⟨by decide +kernel, by decide⟩
theorem aX12_looksAt_24 : decode mX12_looksAt.2.1 24 = .ok (.iconst 0, 1) ∧ 24 + 1 = 25 := ⟨by decide +kernel, rfl⟩
theorem aX12_looksAt_25 : decode mX12_looksAt.2.1 25 = .ok (.istore_n 3, 1) ∧ 25 + 1 = 26 := ⟨by decide +kernel, rfl⟩
theorem aX12_looksAt_26 : decode mX12_looksAt.2.1 26 = .ok (.aload_n 0, 1) ∧ 26 + 1 = 27 := ⟨by decide +kernel, rfl⟩
theorem aX12_looksAt_27 : decode mX12_looksAt.2.1 27 = .ok (.getfield 9, 3) ∧ 27 + 3 = 30 := ⟨by decide +kernel, rfl⟩
theorem aX12_looksAt_30 : decode mX12_looksAt.2.1 30 = .ok (.iconst 4, 1) ∧ 30 + 1 = 31 := ⟨by decide +kernel, rfl⟩
theorem aX12_looksAt_31 : decode mX12_looksAt.2.1 31 = .ok (.dup2, 1) ∧ 31 + 1 = 32 := ⟨by decide +kernel, rfl⟩
theorem aX12_looksAt_32 : decode mX12_looksAt.2.1 32 = .ok (.iaload, 1) ∧ 32 + 1 = 33 := ⟨by decide +kernel, rfl⟩
theorem aX12_looksAt_33 : decode mX12_looksAt.2.1 33 = .ok (.aload_n 0, 1) ∧ 33 + 1 = 34 := ⟨by decide +kernel, rfl⟩
theorem aX12_looksAt_34 : decode mX12_looksAt.2.1 34 = .ok (.iload_n 1, 1) ∧ 34 + 1 = 35 := ⟨by decide +kernel, rfl⟩
theorem aX12_looksAt_35 : decode mX12_looksAt.2.1 35 = .ok (.invokevirtual 89, 3) ∧ 35 + 3 = 38 := ⟨by decide +kernel, rfl⟩
theorem aX12_looksAt_38 : decode mX12_looksAt.2.1 38 = .ok (.isub, 1) ∧ 38 + 1 = 39 := ⟨by decide +kernel, rfl⟩
theorem aX12_looksAt_39 : decode mX12_looksAt.2.1 39 = .ok (.iastore, 1) ∧ 39 + 1 = 40 := ⟨by decide +kernel, rfl⟩
theorem aX12_looksAt_40 : decode mX12_looksAt.2.1 40 = .ok (.aload_n 0, 1) ∧ 40 + 1 = 41 := ⟨by decide +kernel, rfl⟩
theorem aX12_looksAt_41 : decode mX12_looksAt.2.1 41 = .ok (.iload_n 1, 1) ∧ 41 + 1 = 42 := ⟨by decide +kernel, rfl⟩
theorem aX12_looksAt_42 : decode mX12_looksAt.2.1 42 = .ok (.iconst 2, 1) ∧ 42 + 1 = 43 := ⟨by decide +kernel, rfl⟩
theorem aX12_looksAt_43 : decode mX12_looksAt.2.1 43 = .ok (.aload_n 0, 1) ∧ 43 + 1 = 44 := ⟨by decide +kernel, rfl⟩
theorem aX12_looksAt_44 : decode mX12_looksAt.2.1 44 = .ok (.iload_n 1, 1) ∧ 44 + 1 = 45 := ⟨by decide +kernel, rfl⟩
theorem aX12_looksAt_45 : decode mX12_looksAt.2.1 45 = .ok (.iconst 2, 1) ∧ 45 + 1 = 46 := ⟨by decide +kernel, rfl⟩
theorem aX12_looksAt_46 : decode mX12_looksAt.2.1 46 = .ok (.invokevirtual 80, 3) ∧ 46 + 3 = 49 := ⟨by decide +kernel, rfl⟩
theorem aX12_looksAt_49 : decode mX12_looksAt.2.1 49 = .ok (.iconst 1, 1) ∧ 49 + 1 = 50 := ⟨by decide +kernel, rfl⟩
theorem aX12_looksAt_50 : decode mX12_looksAt.2.1 50 = .ok (.iadd, 1) ∧ 50 + 1 = 51 := ⟨by decide +kernel, rfl⟩
theorem aX12_looksAt_51 : decode mX12_looksAt.2.1 51 = .ok (.invokevirtual 100, 3) ∧ 51 + 3 = 54 := ⟨by decide +kernel, rfl⟩
theorem aX12_looksAt_54 : decode mX12_looksAt.2.1 54 = .ok (.aload_n 0, 1) ∧ 54 + 1 = 55 := ⟨by decide +kernel, rfl⟩
theorem aX12_looksAt_55 : decode mX12_looksAt.2.1 55 = .ok (.iload_n 1, 1) ∧ 55 + 1 = 56 := ⟨by decide +kernel, rfl⟩
theorem aX12_looksAt_56 : decode mX12_looksAt.2.1 56 = .ok (.iconst 1, 1) ∧ 56 + 1 = 57 := ⟨by decide +kernel, rfl⟩
theorem aX12_looksAt_57 : decode mX12_looksAt.2.1 57 = .ok (.aload_n 0, 1) ∧ 57 + 1 = 58 := ⟨by decide +kernel, rfl⟩
theorem aX12_looksAt_58 : decode mX12_looksAt.2.1 58 = .ok (.iload_n 1, 1) ∧ 58 + 1 = 59 := ⟨by decide +kernel, rfl⟩
theorem aX12_looksAt_59 : decode mX12_looksAt.2.1 59 = .ok (.iconst 1, 1) ∧ 59 + 1 = 60 := ⟨by decide +kernel, rfl⟩
theorem aX12_looksAt_60 : decode mX12_looksAt.2.1 60 = .ok (.invokevirtual 80, 3) ∧ 60 + 3 = 63 := ⟨by decide +kernel, rfl⟩
theorem aX12_looksAt_63 : decode mX12_looksAt.2.1 63 = .ok (.aload_n 0, 1) ∧ 63 + 1 = 64 := ⟨by decide +kernel, rfl⟩
theorem aX12_looksAt_64 : decode mX12_looksAt.2.1 64 = .ok (.iload_n 1, 1) ∧ 64 + 1 = 65 := ⟨by decide +kernel, rfl⟩
theorem aX12_looksAt_65 : decode mX12_looksAt.2.1 65 = .ok (.iconst 1, 1) ∧ 65 + 1 = 66 := ⟨by decide +kernel, rfl⟩
theorem aX12_looksAt_66 : decode mX12_looksAt.2.1 66 = .ok (.invokevirtual 80, 3) ∧ 66 + 3 = 69 := ⟨by decide +kernel, rfl⟩
theorem aX12_looksAt_69 : decode mX12_looksAt.2.1 69 = .ok (.iconst 1, 1) ∧ 69 + 1 = 70 := ⟨by decide +kernel, rfl⟩
theorem aX12_looksAt_70 : decode mX12_looksAt.2.1 70 = .ok (.isub, 1) ∧ 70 + 1 = 71 := ⟨by decide +kernel, rfl⟩
theorem aX12_looksAt_71 : decode mX12_looksAt.2.1 71 = .ok (.iand, 1) ∧ 71 + 1 = 72 := ⟨by decide +kernel, rfl⟩
theorem aX12_looksAt_72 : decode mX12_looksAt.2.1 72 = .ok (.invokevirtual 100, 3) ∧ 72 + 3 = 75 := ⟨by decide +kernel, rfl⟩
theorem aX12_looksAt_75 : decode mX12_looksAt.2.1 75 = .ok (.aload_n 0, 1) ∧ 75 + 1 = 76 := ⟨by decide +kernel, rfl⟩
theorem aX12_looksAt_76 : decode mX12_looksAt.2.1 76 = .ok (.iload_n 1, 1) ∧ 76 + 1 = 77 := ⟨by decide +kernel, rfl⟩
theorem aX12_looksAt_77 : decode mX12_looksAt.2.1 77 = .ok (.iconst 4, 1) ∧ 77 + 1 = 78 := ⟨by decide +kernel, rfl⟩
theorem aX12_looksAt_78 : decode mX12_looksAt.2.1 78 = .ok (.iload_n 2, 1) ∧ 78 + 1 = 79 := ⟨by decide +kernel, rfl⟩
theorem aX12_looksAt_79 : decode mX12_looksAt.2.1 79 = .ok (.iconst 2, 1) ∧ 79 + 1 = 80 := ⟨by decide +kernel, rfl⟩
theorem aX12_looksAt_80 : decode mX12_looksAt.2.1 80 = .ok (.if_icmp .le 7, 3) ∧ ((80 : Nat) : Int) + 7 = ((87 : Nat) : Int) ∧ 80 + 3 = 83 := ⟨by decide +kernel, by decide, rfl⟩
theorem aX12_looksAt_83 : decode mX12_looksAt.2.1 83 = .ok (.iconst 1, 1) ∧ 83 + 1 = 84 := ⟨by decide +kernel, rfl⟩
theorem aX12_looksAt_84 : decode mX12_looksAt.2.1 84 = .ok (.goto 9, 3) ∧ ((84 : Nat) : Int) + 9 = ((93 : Nat) : Int) := ⟨by decide +kernel, by decide⟩
theorem aX12_looksAt_87 : decode mX12_looksAt.2.1 87 = .ok (.aload_n 0, 1) ∧ 87 + 1 = 88 := ⟨by decide +kernel, rfl⟩
theorem aX12_looksAt_88 : decode mX12_looksAt.2.1 88 = .ok (.iload_n 1, 1) ∧ 88 + 1 = 89 := ⟨by decide +kernel, rfl⟩
theorem aX12_looksAt_89 : decode mX12_looksAt.2.1 89 = .ok (.iconst 4, 1) ∧ 89 + 1 = 90 := ⟨by decide +kernel, rfl⟩
theorem aX12_looksAt_90 : decode mX12_looksAt.2.1 90 = .ok (.invokevirtual 80, 3) ∧ 90 + 3 = 93 := ⟨by decide +kernel, rfl⟩
theorem aX12_looksAt_93 : decode mX12_looksAt.2.1 93 = .ok (.invokevirtual 100, 3) ∧ 93 + 3 = 96 := ⟨by decide +kernel, rfl⟩
theorem aX12_looksAt_96 : decode mX12_looksAt.2.1 96 = .ok (.iload_n 2, 1) ∧ 96 + 1 = 97 := ⟨by decide +kernel, rfl⟩
theorem aX12_looksAt_97 : decode mX12_looksAt.2.1 97 = .ok (.iload_n 3, 1) ∧ 97 + 1 = 98 := ⟨by decide +kernel, rfl⟩
theorem aX12_looksAt_98 : decode mX12_looksAt.2.1 98 = .ok (.iadd, 1) ∧ 98 + 1 = 99 := ⟨by decide +kernel, rfl⟩
theorem aX12_looksAt_99 : decode mX12_looksAt.2.1 99 = .ok (.ireturn, 1) := by decide +kernel
theorem S_X12_looksAt {E : EE} {d : Nat} {I : IH} {Q : QT} (x1 : Int32) (h :
(Mt E d mX12_lightsOf [.ref (eb E + 115), .int x1] I (fun rv I1 => ∃ v2 : Int32, rv = some (.int v2) ∧
 ((v2 ≤ (nI 2) → J E (d + 1) mX12_looksAt 24 [(0, .ref (eb E + 115)), (1, .int x1), (2, .int v2)] [] I1 Q) ∧
 (¬ v2 ≤ (nI 2) → (Mt E d mX12_get [.ref (eb E + 115), .int x1, .int (nI 4)] I1 (fun rv I3 => ∃ v4 : Int32, rv = some (.int v4) ∧
 ((¬ v4 = 0 → J E (d + 1) mX12_looksAt 24 [(0, .ref (eb E + 115)), (1, .int x1), (2, .int v2)] [] I3 Q) ∧
 (v4 = 0 → J E (d + 1) mX12_looksAt 25 [(0, .ref (eb E + 115)), (1, .int x1), (2, .int v2)] [.int (nI 5)] I3 Q))))))))) : Mt E (d + 1) mX12_looksAt [.ref (eb E + 115), .int x1] I Q := by
  refine Mt_of [(0, .ref (eb E + 115)), (1, .int x1)] (by decide +kernel) (by simp [lg_sl, Value.category, mX12_looksAt]) rfl ?_
  refine J_aload_n 0 aX12_looksAt_0 rfl ?_
  refine J_iload_n 1 aX12_looksAt_1 rfl ?_
  refine J_callV [.int x1] [] aX12_looksAt_2 lkX12_86_X12 okX12_lightsOf sh115 rfl rfl rfl (Nat.le_of_ble_eq_true rfl) (Nat.le_refl _) (Mt_mono h (fun rv I1 h => ?_))
  obtain ⟨v2, rfl, h⟩ := h
  refine J_r1 ?_
  refine J_istore_n [(2, .int v2), (0, .ref (eb E + 115)), (1, .int x1)] aX12_looksAt_5 (by decide) rfl ?_
  refine J_iload_n 0 aX12_looksAt_6 rfl ?_
  refine J_iconst (nI 2) aX12_looksAt_7 (by decide +kernel) ?_
  refine J_icmp_le aX12_looksAt_8 (fun q => ?_) (fun q => ?_)
  · replace h := h.1 q
    refine J_pick [1, 2, 0] rfl ?_
    exact h
  · replace h := h.2 q
    refine J_aload_n 1 aX12_looksAt_11 rfl ?_
    refine J_iload_n 2 aX12_looksAt_12 rfl ?_
    refine J_iconst (nI 4) aX12_looksAt_13 (by decide +kernel) ?_
    refine J_callV [.int x1, .int (nI 4)] [] aX12_looksAt_14 lkX12_80_X12 okX12_get sh115 rfl rfl rfl (Nat.le_of_ble_eq_true rfl) (Nat.le_refl _) (Mt_mono h (fun rv I3 h => ?_))
    obtain ⟨v4, rfl, h⟩ := h
    refine J_r1 ?_
    refine J_if_ne aX12_looksAt_17 (fun q => ?_) (fun q => ?_)
    · replace h := h.1 q
      refine J_pick [1, 2, 0] rfl ?_
      exact h
    · replace h := h.2 q
      refine J_iconst (nI 5) aX12_looksAt_20 (by decide +kernel) ?_
      refine J_goto aX12_looksAt_21 ?_
      refine J_pick [1, 2, 0] rfl ?_
      exact h
theorem S_X12_looksAt_24 {E : EE} {d : Nat} {I : IH} {Q : QT} (x1 : Int32) (x2 : Int32) (h :
J E (d + 1) mX12_looksAt 25 [(0, .ref (eb E + 115)), (1, .int x1), (2, .int x2)] [.int (nI 0)] I Q) : J E (d + 1) mX12_looksAt 24 [(0, .ref (eb E + 115)), (1, .int x1), (2, .int x2)] [] I Q := by
  refine J_iconst (nI 0) aX12_looksAt_24 (by decide +kernel) ?_
  refine J_pick [0, 1, 2] rfl ?_
  exact h
theorem S_X12_looksAt_25 {E : EE} {d : Nat} {I : IH} {Q : QT} (x1 : Int32) (x2 : Int32) (t0 : Int32) (h :
(Mt E d mX12_asksOf [.ref (eb E + 115), .int x1] I (fun rv I1 => ∃ v2 : Int32, rv = some (.int v2) ∧
 (∀ I3 : IH, I3 = stI I1 116 4 ((I 116 4) - v2) →
 (Mt E d mX12_get [.ref (eb E + 115), .int x1, .int (nI 2)] I3 (fun rv I5 => ∃ v6 : Int32, rv = some (.int v6) ∧
 (Mt E d mX12_puts [.ref (eb E + 115), .int x1, .int (nI 2), .int (v6 + (nI 1))] I5 (fun rv I7 => rv = none ∧
 (Mt E d mX12_get [.ref (eb E + 115), .int x1, .int (nI 1)] I7 (fun rv I8 => ∃ v9 : Int32, rv = some (.int v9) ∧
 (Mt E d mX12_get [.ref (eb E + 115), .int x1, .int (nI 1)] I8 (fun rv I10 => ∃ v11 : Int32, rv = some (.int v11) ∧
 (Mt E d mX12_puts [.ref (eb E + 115), .int x1, .int (nI 1), .int (v9 &&& (v11 - (nI 1)))] I10 (fun rv I12 => rv = none ∧
 ((x2 ≤ (nI 2) → (Mt E d mX12_get [.ref (eb E + 115), .int x1, .int (nI 4)] I12 (fun rv I13 => ∃ v14 : Int32, rv = some (.int v14) ∧
 J E (d + 1) mX12_looksAt 93 [(2, .int x2), (3, .int t0)] [.int v14, .int (nI 4), .int x1, .ref (eb E + 115)] I13 Q))) ∧
 (¬ x2 ≤ (nI 2) → J E (d + 1) mX12_looksAt 93 [(2, .int x2), (3, .int t0)] [.int (nI 1), .int (nI 4), .int x1, .ref (eb E + 115)] I12 Q)))))))))))))))) : J E (d + 1) mX12_looksAt 25 [(0, .ref (eb E + 115)), (1, .int x1), (2, .int x2)] [.int t0] I Q := by
  refine J_istore_n [(3, .int t0), (0, .ref (eb E + 115)), (1, .int x1), (2, .int x2)] aX12_looksAt_25 (by decide) rfl ?_
  refine J_aload_n 1 aX12_looksAt_26 rfl ?_
  refine J_getR aX12_looksAt_27 flX12_9 sh115 rfl ?_
  refine J_iconst (nI 4) aX12_looksAt_30 (by decide +kernel) ?_
  refine J_dup2 aX12_looksAt_31 rfl rfl ?_
  refine J_iaload 4 aX12_looksAt_32 sh116 rfl (by decide) (by decide) ?_
  refine J_aload_n 1 aX12_looksAt_33 rfl ?_
  refine J_iload_n 2 aX12_looksAt_34 rfl ?_
  refine J_callV [.int x1] [.int (I 116 4), .int (nI 4), .ref (eb E + 116)] aX12_looksAt_35 lkX12_89_X12 okX12_asksOf sh115 rfl rfl rfl (Nat.le_of_ble_eq_true rfl) (Nat.le_refl _) (Mt_mono h (fun rv I1 h => ?_))
  obtain ⟨v2, rfl, h⟩ := h
  refine J_r1 ?_
  refine J_isub aX12_looksAt_38 ?_
  refine J_iastore 4 aX12_looksAt_39 sh116 rfl (by decide) (by decide) (fun I3 e4 => ?_)
  replace h := h I3 e4
  refine J_aload_n 1 aX12_looksAt_40 rfl ?_
  refine J_iload_n 2 aX12_looksAt_41 rfl ?_
  refine J_iconst (nI 2) aX12_looksAt_42 (by decide +kernel) ?_
  refine J_aload_n 1 aX12_looksAt_43 rfl ?_
  refine J_iload_n 2 aX12_looksAt_44 rfl ?_
  refine J_iconst (nI 2) aX12_looksAt_45 (by decide +kernel) ?_
  refine J_callV [.int x1, .int (nI 2)] [.int (nI 2), .int x1, .ref (eb E + 115)] aX12_looksAt_46 lkX12_80_X12 okX12_get sh115 rfl rfl rfl (Nat.le_of_ble_eq_true rfl) (Nat.le_refl _) (Mt_mono h (fun rv I5 h => ?_))
  obtain ⟨v6, rfl, h⟩ := h
  refine J_r1 ?_
  refine J_iconst (nI 1) aX12_looksAt_49 (by decide +kernel) ?_
  refine J_iadd aX12_looksAt_50 ?_
  refine J_callV [.int x1, .int (nI 2), .int (v6 + (nI 1))] [] aX12_looksAt_51 lkX12_100_X12 okX12_puts sh115 rfl rfl rfl (Nat.le_of_ble_eq_true rfl) (Nat.le_refl _) (Mt_mono h (fun rv I7 h => ?_))
  obtain ⟨rfl, h⟩ := h
  refine J_r0 ?_
  refine J_aload_n 1 aX12_looksAt_54 rfl ?_
  refine J_iload_n 2 aX12_looksAt_55 rfl ?_
  refine J_iconst (nI 1) aX12_looksAt_56 (by decide +kernel) ?_
  refine J_aload_n 1 aX12_looksAt_57 rfl ?_
  refine J_iload_n 2 aX12_looksAt_58 rfl ?_
  refine J_iconst (nI 1) aX12_looksAt_59 (by decide +kernel) ?_
  refine J_callV [.int x1, .int (nI 1)] [.int (nI 1), .int x1, .ref (eb E + 115)] aX12_looksAt_60 lkX12_80_X12 okX12_get sh115 rfl rfl rfl (Nat.le_of_ble_eq_true rfl) (Nat.le_refl _) (Mt_mono h (fun rv I8 h => ?_))
  obtain ⟨v9, rfl, h⟩ := h
  refine J_r1 ?_
  refine J_aload_n 1 aX12_looksAt_63 rfl ?_
  refine J_iload_n 2 aX12_looksAt_64 rfl ?_
  refine J_iconst (nI 1) aX12_looksAt_65 (by decide +kernel) ?_
  refine J_callV [.int x1, .int (nI 1)] [.int v9, .int (nI 1), .int x1, .ref (eb E + 115)] aX12_looksAt_66 lkX12_80_X12 okX12_get sh115 rfl rfl rfl (Nat.le_of_ble_eq_true rfl) (Nat.le_refl _) (Mt_mono h (fun rv I10 h => ?_))
  obtain ⟨v11, rfl, h⟩ := h
  refine J_r1 ?_
  refine J_iconst (nI 1) aX12_looksAt_69 (by decide +kernel) ?_
  refine J_isub aX12_looksAt_70 ?_
  refine J_iand aX12_looksAt_71 ?_
  refine J_callV [.int x1, .int (nI 1), .int (v9 &&& (v11 - (nI 1)))] [] aX12_looksAt_72 lkX12_100_X12 okX12_puts sh115 rfl rfl rfl (Nat.le_of_ble_eq_true rfl) (Nat.le_refl _) (Mt_mono h (fun rv I12 h => ?_))
  obtain ⟨rfl, h⟩ := h
  refine J_r0 ?_
  refine J_aload_n 1 aX12_looksAt_75 rfl ?_
  refine J_iload_n 2 aX12_looksAt_76 rfl ?_
  refine J_iconst (nI 4) aX12_looksAt_77 (by decide +kernel) ?_
  refine J_iload_n 3 aX12_looksAt_78 rfl ?_
  refine J_iconst (nI 2) aX12_looksAt_79 (by decide +kernel) ?_
  refine J_icmp_le aX12_looksAt_80 (fun q => ?_) (fun q => ?_)
  · replace h := h.1 q
    refine J_aload_n 1 aX12_looksAt_87 rfl ?_
    refine J_iload_n 2 aX12_looksAt_88 rfl ?_
    refine J_iconst (nI 4) aX12_looksAt_89 (by decide +kernel) ?_
    refine J_callV [.int x1, .int (nI 4)] [.int (nI 4), .int x1, .ref (eb E + 115)] aX12_looksAt_90 lkX12_80_X12 okX12_get sh115 rfl rfl rfl (Nat.le_of_ble_eq_true rfl) (Nat.le_refl _) (Mt_mono h (fun rv I13 h => ?_))
    obtain ⟨v14, rfl, h⟩ := h
    refine J_r1 ?_
    refine J_pick [3, 0] rfl ?_
    exact h
  · replace h := h.2 q
    refine J_iconst (nI 1) aX12_looksAt_83 (by decide +kernel) ?_
    refine J_goto aX12_looksAt_84 ?_
    refine J_pick [3, 0] rfl ?_
    exact h
theorem S_X12_looksAt_93 {E : EE} {d : Nat} {I : IH} {Q : QT} (x2 : Int32) (x3 : Int32) (t0 : Int32) (t1 : Int32) (t2 : Int32) (h :
(Mt E d mX12_puts [.ref (eb E + 115), .int t2, .int t1, .int t0] I (fun rv I1 => rv = none ∧
 Q (some (.int (x2 + x3))) I1))) : J E (d + 1) mX12_looksAt 93 [(2, .int x2), (3, .int x3)] [.int t0, .int t1, .int t2, .ref (eb E + 115)] I Q := by
  refine J_callV [.int t2, .int t1, .int t0] [] aX12_looksAt_93 lkX12_100_X12 okX12_puts sh115 rfl rfl rfl (Nat.le_of_ble_eq_true rfl) (Nat.le_refl _) (Mt_mono h (fun rv I1 h => ?_))
  obtain ⟨rfl, h⟩ := h
  refine J_r0 ?_
  refine J_iload_n 0 aX12_looksAt_96 rfl ?_
  refine J_iload_n 1 aX12_looksAt_97 rfl ?_
  refine J_iadd aX12_looksAt_98 ?_
  exact J_iret aX12_looksAt_99 rfl h
theorem aX12_meets_0 : decode mX12_meets.2.1 0 = .ok (.aload_n 0, 1) ∧ 0 + 1 = 1 := ⟨by decide +kernel, rfl⟩
theorem aX12_meets_1 : decode mX12_meets.2.1 1 = .ok (.iload_n 1, 1) ∧ 1 + 1 = 2 := ⟨by decide +kernel, rfl⟩
theorem aX12_meets_2 : decode mX12_meets.2.1 2 = .ok (.invokevirtual 191, 3) ∧ 2 + 3 = 5 := ⟨by decide +kernel, rfl⟩
theorem aX12_meets_5 : decode mX12_meets.2.1 5 = .ok (.istore_n 2, 1) ∧ 5 + 1 = 6 := ⟨by decide +kernel, rfl⟩
theorem aX12_meets_6 : decode mX12_meets.2.1 6 = .ok (.iload_n 2, 1) ∧ 6 + 1 = 7 := ⟨by decide +kernel, rfl⟩
theorem aX12_meets_7 : decode mX12_meets.2.1 7 = .ok (.ifCond .ne 21, 3) ∧ ((7 : Nat) : Int) + 21 = ((28 : Nat) : Int) ∧ 7 + 3 = 10 := ⟨by decide +kernel, by decide, rfl⟩
theorem aX12_meets_10 : decode mX12_meets.2.1 10 = .ok (.aload_n 0, 1) ∧ 10 + 1 = 11 := ⟨by decide +kernel, rfl⟩
theorem aX12_meets_11 : decode mX12_meets.2.1 11 = .ok (.iload_n 1, 1) ∧ 11 + 1 = 12 := ⟨by decide +kernel, rfl⟩
theorem aX12_meets_12 : decode mX12_meets.2.1 12 = .ok (.invokevirtual 92, 3) ∧ 12 + 3 = 15 := ⟨by decide +kernel, rfl⟩
theorem aX12_meets_15 : decode mX12_meets.2.1 15 = .ok (.ifCond .eq 11, 3) ∧ ((15 : Nat) : Int) + 11 = ((26 : Nat) : Int) ∧ 15 + 3 = 18 := ⟨by decide +kernel, by decide, rfl⟩
theorem aX12_meets_18 : decode mX12_meets.2.1 18 = .ok (.aload_n 0, 1) ∧ 18 + 1 = 19 := ⟨by decide +kernel, rfl⟩
theorem aX12_meets_19 : decode mX12_meets.2.1 19 = .ok (.iload_n 1, 1) ∧ 19 + 1 = 20 := ⟨by decide +kernel, rfl⟩
theorem aX12_meets_20 : decode mX12_meets.2.1 20 = .ok (.invokevirtual 194, 3) ∧ 20 + 3 = 23 := ⟨by decide +kernel, rfl⟩
theorem aX12_meets_23 : decode mX12_meets.2.1 23 = .ok (.goto 4, 3) ∧ ((23 : Nat) : Int) + 4 = ((27 : Nat) : Int) := ⟨by decide +kernel, by decide⟩
theorem aX12_meets_26 : decode mX12_meets.2.1 26 = .ok (.iconst 0, 1) ∧ 26 + 1 = 27 := ⟨by decide +kernel, rfl⟩
theorem aX12_meets_27 : decode mX12_meets.2.1 27 = .ok (.ireturn, 1) := by decide +kernel
theorem aX12_meets_28 : decode mX12_meets.2.1 28 = .ok (.bipush 26, 2) ∧ 28 + 2 = 30 := ⟨by decide +kernel, rfl⟩
theorem aX12_meets_30 : decode mX12_meets.2.1 30 = .ok (.aload_n 0, 1) ∧ 30 + 1 = 31 := ⟨by decide +kernel, rfl⟩
theorem aX12_meets_31 : decode mX12_meets.2.1 31 = .ok (.iload_n 1, 1) ∧ 31 + 1 = 32 := ⟨by decide +kernel, rfl⟩
theorem aX12_meets_32 : decode mX12_meets.2.1 32 = .ok (.iconst 3, 1) ∧ 32 + 1 = 33 := ⟨by decide +kernel, rfl⟩
theorem aX12_meets_33 : decode mX12_meets.2.1 33 = .ok (.invokevirtual 80, 3) ∧ 33 + 3 = 36 := ⟨by decide +kernel, rfl⟩
theorem aX12_meets_36 : decode mX12_meets.2.1 36 = .ok (.iadd, 1) ∧ 36 + 1 = 37 := ⟨by decide +kernel, rfl⟩
theorem aX12_meets_37 : decode mX12_meets.2.1 37 = .ok (.istore_n 3, 1) ∧ 37 + 1 = 38 := ⟨by decide +kernel, rfl⟩
theorem aX12_meets_38 : decode mX12_meets.2.1 38 = .ok (.aload_n 0, 1) ∧ 38 + 1 = 39 := ⟨by decide +kernel, rfl⟩
theorem aX12_meets_39 : decode mX12_meets.2.1 39 = .ok (.getfield 9, 3) ∧ 39 + 3 = 42 := ⟨by decide +kernel, rfl⟩
theorem aX12_meets_42 : decode mX12_meets.2.1 42 = .ok (.iload_n 3, 1) ∧ 42 + 1 = 43 := ⟨by decide +kernel, rfl⟩
theorem aX12_meets_43 : decode mX12_meets.2.1 43 = .ok (.iload_n 2, 1) ∧ 43 + 1 = 44 := ⟨by decide +kernel, rfl⟩
theorem aX12_meets_44 : decode mX12_meets.2.1 44 = .ok (.iconst 2, 1) ∧ 44 + 1 = 45 := ⟨by decide +kernel, rfl⟩
theorem aX12_meets_45 : decode mX12_meets.2.1 45 = .ok (.if_icmp .ne 19, 3) ∧ ((45 : Nat) : Int) + 19 = ((64 : Nat) : Int) ∧ 45 + 3 = 48 := ⟨by decide +kernel, by decide, rfl⟩
theorem aX12_meets_48 : decode mX12_meets.2.1 48 = .ok (.aload_n 0, 1) ∧ 48 + 1 = 49 := ⟨by decide +kernel, rfl⟩
theorem aX12_meets_49 : decode mX12_meets.2.1 49 = .ok (.getfield 9, 3) ∧ 49 + 3 = 52 := ⟨by decide +kernel, rfl⟩
theorem aX12_meets_52 : decode mX12_meets.2.1 52 = .ok (.iload_n 3, 1) ∧ 52 + 1 = 53 := ⟨by decide +kernel, rfl⟩
theorem aX12_meets_53 : decode mX12_meets.2.1 53 = .ok (.iaload, 1) ∧ 53 + 1 = 54 := ⟨by decide +kernel, rfl⟩
theorem aX12_meets_54 : decode mX12_meets.2.1 54 = .ok (.iconst 1, 1) ∧ 54 + 1 = 55 := ⟨by decide +kernel, rfl⟩
theorem aX12_meets_55 : decode mX12_meets.2.1 55 = .ok (.iadd, 1) ∧ 55 + 1 = 56 := ⟨by decide +kernel, rfl⟩
theorem aX12_meets_56 : decode mX12_meets.2.1 56 = .ok (.bipush 9, 2) ∧ 56 + 2 = 58 := ⟨by decide +kernel, rfl⟩
theorem aX12_meets_58 : decode mX12_meets.2.1 58 = .ok (.invokestatic 188, 3) ∧ 58 + 3 = 61 := ⟨by decide +kernel, rfl⟩
theorem aX12_meets_61 : decode mX12_meets.2.1 61 = .ok (.goto 9, 3) ∧ ((61 : Nat) : Int) + 9 = ((70 : Nat) : Int) := ⟨by decide +kernel, by decide⟩
theorem aX12_meets_64 : decode mX12_meets.2.1 64 = .ok (.aload_n 0, 1) ∧ 64 + 1 = 65 := ⟨by decide +kernel, rfl⟩
theorem aX12_meets_65 : decode mX12_meets.2.1 65 = .ok (.getfield 9, 3) ∧ 65 + 3 = 68 := ⟨by decide +kernel, rfl⟩
theorem aX12_meets_68 : decode mX12_meets.2.1 68 = .ok (.iload_n 3, 1) ∧ 68 + 1 = 69 := ⟨by decide +kernel, rfl⟩
theorem aX12_meets_69 : decode mX12_meets.2.1 69 = .ok (.iaload, 1) ∧ 69 + 1 = 70 := ⟨by decide +kernel, rfl⟩
theorem aX12_meets_70 : decode mX12_meets.2.1 70 = .ok (.iastore, 1) ∧ 70 + 1 = 71 := ⟨by decide +kernel, rfl⟩
theorem aX12_meets_71 : decode mX12_meets.2.1 71 = .ok (.iconst 0, 1) ∧ 71 + 1 = 72 := ⟨by decide +kernel, rfl⟩
theorem aX12_meets_72 : decode mX12_meets.2.1 72 = .ok (.ireturn, 1) := by decide +kernel
theorem S_X12_meets {E : EE} {d : Nat} {I : IH} {Q : QT} (x1 : Int32) (h :
(Mt E d mX12_willOf [.ref (eb E + 115), .int x1] I (fun rv I1 => ∃ v2 : Int32, rv = some (.int v2) ∧
 ((¬ v2 = 0 → (Mt E d mX12_get [.ref (eb E + 115), .int x1, .int (nI 3)] I1 (fun rv I3 => ∃ v4 : Int32, rv = some (.int v4) ∧
 ((¬ v2 = (nI 2) → (∃ j5 : Nat, ((nI 26) + v4) = nI j5 ∧ j5 < 322 ∧ (∃ j10 : Nat, ((nI 26) + v4) = nI j10 ∧ j10 < 322 ∧ (∀ I8 : IH, I8 = stI I3 116 j10 (I3 116 j5) →
 Q (some (.int (nI 0))) I8)))) ∧
 (v2 = (nI 2) → (∃ j13 : Nat, ((nI 26) + v4) = nI j13 ∧ j13 < 322 ∧ (Mt E d mX12_held [.int ((I3 116 j13) + (nI 1)), .int (nI 9)] I3 (fun rv I16 => ∃ v17 : Int32, rv = some (.int v17) ∧
 (∃ j20 : Nat, ((nI 26) + v4) = nI j20 ∧ j20 < 322 ∧ (∀ I18 : IH, I18 = stI I16 116 j20 v17 →
 Q (some (.int (nI 0))) I18)))))))))) ∧
 (v2 = 0 → (Mt E d mX12_isOpen [.ref (eb E + 115), .int x1] I1 (fun rv I23 => ∃ v24 : Int32, rv = some (.int v24) ∧
 ((v24 = 0 → Q (some (.int (nI 0))) I23) ∧
 (¬ v24 = 0 → (Mt E d mX12_looksAt [.ref (eb E + 115), .int x1] I23 (fun rv I25 => ∃ v26 : Int32, rv = some (.int v26) ∧
 Q (some (.int v26)) I25))))))))))) : Mt E (d + 1) mX12_meets [.ref (eb E + 115), .int x1] I Q := by
  refine Mt_of [(0, .ref (eb E + 115)), (1, .int x1)] (by decide +kernel) (by simp [lg_sl, Value.category, mX12_meets]) rfl ?_
  refine J_aload_n 0 aX12_meets_0 rfl ?_
  refine J_iload_n 1 aX12_meets_1 rfl ?_
  refine J_callV [.int x1] [] aX12_meets_2 lkX12_191_X12 okX12_willOf sh115 rfl rfl rfl (Nat.le_of_ble_eq_true rfl) (Nat.le_refl _) (Mt_mono h (fun rv I1 h => ?_))
  obtain ⟨v2, rfl, h⟩ := h
  refine J_r1 ?_
  refine J_istore_n [(2, .int v2), (0, .ref (eb E + 115)), (1, .int x1)] aX12_meets_5 (by decide) rfl ?_
  refine J_iload_n 0 aX12_meets_6 rfl ?_
  refine J_if_ne aX12_meets_7 (fun q => ?_) (fun q => ?_)
  · replace h := h.1 q
    refine J_bipush (nI 26) aX12_meets_28 (by decide +kernel) ?_
    refine J_aload_n 1 aX12_meets_30 rfl ?_
    refine J_iload_n 2 aX12_meets_31 rfl ?_
    refine J_iconst (nI 3) aX12_meets_32 (by decide +kernel) ?_
    refine J_callV [.int x1, .int (nI 3)] [.int (nI 26)] aX12_meets_33 lkX12_80_X12 okX12_get sh115 rfl rfl rfl (Nat.le_of_ble_eq_true rfl) (Nat.le_refl _) (Mt_mono h (fun rv I3 h => ?_))
    obtain ⟨v4, rfl, h⟩ := h
    refine J_r1 ?_
    refine J_iadd aX12_meets_36 ?_
    refine J_istore_n [(3, .int ((nI 26) + v4)), (2, .int v2), (0, .ref (eb E + 115)), (1, .int x1)] aX12_meets_37 (by decide) rfl ?_
    refine J_aload_n 2 aX12_meets_38 rfl ?_
    refine J_getR aX12_meets_39 flX12_9 sh115 rfl ?_
    refine J_iload_n 0 aX12_meets_42 rfl ?_
    refine J_iload_n 1 aX12_meets_43 rfl ?_
    refine J_iconst (nI 2) aX12_meets_44 (by decide +kernel) ?_
    refine J_icmp_ne aX12_meets_45 (fun q => ?_) (fun q => ?_)
    · replace h := h.1 q
      refine J_aload_n 2 aX12_meets_64 rfl ?_
      refine J_getR aX12_meets_65 flX12_9 sh115 rfl ?_
      refine J_iload_n 0 aX12_meets_68 rfl ?_
      obtain ⟨j5, e6, b7, h⟩ := h
      refine J_iaload j5 aX12_meets_69 sh116 e6 b7 (by decide) ?_
      obtain ⟨j10, e11, b12, h⟩ := h
      refine J_iastore j10 aX12_meets_70 sh116 e11 b12 (by decide) (fun I8 e9 => ?_)
      replace h := h I8 e9
      refine J_iconst (nI 0) aX12_meets_71 (by decide +kernel) ?_
      exact J_iret aX12_meets_72 rfl h
    · replace h := h.2 q
      refine J_aload_n 2 aX12_meets_48 rfl ?_
      refine J_getR aX12_meets_49 flX12_9 sh115 rfl ?_
      refine J_iload_n 0 aX12_meets_52 rfl ?_
      obtain ⟨j13, e14, b15, h⟩ := h
      refine J_iaload j13 aX12_meets_53 sh116 e14 b15 (by decide) ?_
      refine J_iconst (nI 1) aX12_meets_54 (by decide +kernel) ?_
      refine J_iadd aX12_meets_55 ?_
      refine J_bipush (nI 9) aX12_meets_56 (by decide +kernel) ?_
      refine J_callS [.int ((I3 116 j13) + (nI 1)), .int (nI 9)] [.int ((nI 26) + v4), .ref (eb E + 116)] aX12_meets_58 lkX12_188 okX12_held rfl rfl (Nat.le_of_ble_eq_true rfl) (Nat.le_refl _) (Mt_mono h (fun rv I16 h => ?_))
      obtain ⟨v17, rfl, h⟩ := h
      refine J_r1 ?_
      refine J_goto aX12_meets_61 ?_
      obtain ⟨j20, e21, b22, h⟩ := h
      refine J_iastore j20 aX12_meets_70 sh116 e21 b22 (by decide) (fun I18 e19 => ?_)
      replace h := h I18 e19
      refine J_iconst (nI 0) aX12_meets_71 (by decide +kernel) ?_
      exact J_iret aX12_meets_72 rfl h
  · replace h := h.2 q
    refine J_aload_n 1 aX12_meets_10 rfl ?_
    refine J_iload_n 2 aX12_meets_11 rfl ?_
    refine J_callV [.int x1] [] aX12_meets_12 lkX12_92_X12 okX12_isOpen sh115 rfl rfl rfl (Nat.le_of_ble_eq_true rfl) (Nat.le_refl _) (Mt_mono h (fun rv I23 h => ?_))
    obtain ⟨v24, rfl, h⟩ := h
    refine J_r1 ?_
    refine J_if_eq aX12_meets_15 (fun q => ?_) (fun q => ?_)
    · replace h := h.1 q
      refine J_iconst (nI 0) aX12_meets_26 (by decide +kernel) ?_
      exact J_iret aX12_meets_27 rfl h
    · replace h := h.2 q
      refine J_aload_n 1 aX12_meets_18 rfl ?_
      refine J_iload_n 2 aX12_meets_19 rfl ?_
      refine J_callV [.int x1] [] aX12_meets_20 lkX12_194_X12 okX12_looksAt sh115 rfl rfl rfl (Nat.le_of_ble_eq_true rfl) (Nat.le_refl _) (Mt_mono h (fun rv I25 h => ?_))
      obtain ⟨v26, rfl, h⟩ := h
      refine J_r1 ?_
      refine J_goto aX12_meets_23 ?_
      exact J_iret aX12_meets_27 rfl h
theorem aX12_restOne_0 : decode mX12_restOne.2.1 0 = .ok (.iconst 0, 1) ∧ 0 + 1 = 1 := ⟨by decide +kernel, rfl⟩
theorem aX12_restOne_1 : decode mX12_restOne.2.1 1 = .ok (.istore_n 1, 1) ∧ 1 + 1 = 2 := ⟨by decide +kernel, rfl⟩
theorem aX12_restOne_2 : decode mX12_restOne.2.1 2 = .ok (.iload_n 1, 1) ∧ 2 + 1 = 3 := ⟨by decide +kernel, rfl⟩
theorem aX12_restOne_3 : decode mX12_restOne.2.1 3 = .ok (.aload_n 0, 1) ∧ 3 + 1 = 4 := ⟨by decide +kernel, rfl⟩
theorem aX12_restOne_4 : decode mX12_restOne.2.1 4 = .ok (.getfield 9, 3) ∧ 4 + 3 = 7 := ⟨by decide +kernel, rfl⟩
theorem aX12_restOne_7 : decode mX12_restOne.2.1 7 = .ok (.bipush 6, 2) ∧ 7 + 2 = 9 := ⟨by decide +kernel, rfl⟩
theorem aX12_restOne_9 : decode mX12_restOne.2.1 9 = .ok (.iaload, 1) ∧ 9 + 1 = 10 := ⟨by decide +kernel, rfl⟩
theorem aX12_restOne_10 : decode mX12_restOne.2.1 10 = .ok (.if_icmp .ge 19, 3) ∧ ((10 : Nat) : Int) + 19 = ((29 : Nat) : Int) ∧ 10 + 3 = 13 := ⟨by decide +kernel, by decide, rfl⟩
theorem aX12_restOne_13 : decode mX12_restOne.2.1 13 = .ok (.aload_n 0, 1) ∧ 13 + 1 = 14 := ⟨by decide +kernel, rfl⟩
theorem aX12_restOne_14 : decode mX12_restOne.2.1 14 = .ok (.iload_n 1, 1) ∧ 14 + 1 = 15 := ⟨by decide +kernel, rfl⟩
theorem aX12_restOne_15 : decode mX12_restOne.2.1 15 = .ok (.invokevirtual 197, 3) ∧ 15 + 3 = 18 := ⟨by decide +kernel, rfl⟩
theorem aX12_restOne_18 : decode mX12_restOne.2.1 18 = .ok (.ifCond .eq 5, 3) ∧ ((18 : Nat) : Int) + 5 = ((23 : Nat) : Int) ∧ 18 + 3 = 21 := ⟨by decide +kernel, by decide, rfl⟩
theorem aX12_restOne_21 : decode mX12_restOne.2.1 21 = .ok (.iload_n 1, 1) ∧ 21 + 1 = 22 := ⟨by decide +kernel, rfl⟩
theorem aX12_restOne_22 : decode mX12_restOne.2.1 22 = .ok (.ireturn, 1) := by decide +kernel
theorem aX12_restOne_23 : decode mX12_restOne.2.1 23 = .ok (.iinc 1 1, 3) ∧ 23 + 3 = 26 := ⟨by decide +kernel, rfl⟩
theorem aX12_restOne_26 : decode mX12_restOne.2.1 26 = .ok (.goto (-24), 3) ∧ ((26 : Nat) : Int) + (-24) = ((2 : Nat) : Int) := ⟨by decide +kernel, by decide⟩
theorem aX12_restOne_29 : decode mX12_restOne.2.1 29 = .ok (.iconst (-1), 1) ∧ 29 + 1 = 30 := ⟨by decide +kernel, rfl⟩
theorem aX12_restOne_30 : decode mX12_restOne.2.1 30 = .ok (.ireturn, 1) := by decide +kernel
theorem S_X12_restOne {E : EE} {d : Nat} {I : IH} {Q : QT}  (h :
J E (d + 1) mX12_restOne 2 [(0, .ref (eb E + 115)), (1, .int (nI 0))] [] I Q) : Mt E (d + 1) mX12_restOne [.ref (eb E + 115)] I Q := by
  refine Mt_of [(0, .ref (eb E + 115))] (by decide +kernel) (by simp [lg_sl, Value.category, mX12_restOne]) rfl ?_
  refine J_iconst (nI 0) aX12_restOne_0 (by decide +kernel) ?_
  refine J_istore_n [(1, .int (nI 0)), (0, .ref (eb E + 115))] aX12_restOne_1 (by decide) rfl ?_
  refine J_pick [1, 0] rfl ?_
  exact h
theorem S_X12_restOne_2 {E : EE} {d : Nat} {I : IH} {Q : QT} (x1 : Int32) (h :
(((I 116 6) ≤ x1 → Q (some (.int (-1))) I) ∧
 (¬ (I 116 6) ≤ x1 → (Mt E d mX12_wouldShow [.ref (eb E + 115), .int x1] I (fun rv I1 => ∃ v2 : Int32, rv = some (.int v2) ∧
 ((v2 = 0 → J E (d + 1) mX12_restOne 2 [(0, .ref (eb E + 115)), (1, .int (x1 + nI 1))] [] I1 Q) ∧
 (¬ v2 = 0 → Q (some (.int x1)) I1))))))) : J E (d + 1) mX12_restOne 2 [(0, .ref (eb E + 115)), (1, .int x1)] [] I Q := by
  refine J_iload_n 1 aX12_restOne_2 rfl ?_
  refine J_aload_n 0 aX12_restOne_3 rfl ?_
  refine J_getR aX12_restOne_4 flX12_9 sh115 rfl ?_
  refine J_bipush (nI 6) aX12_restOne_7 (by decide +kernel) ?_
  refine J_iaload 6 aX12_restOne_9 sh116 rfl (by decide) (by decide) ?_
  refine J_icmp_ge aX12_restOne_10 (fun q => ?_) (fun q => ?_)
  · replace h := h.1 q
    refine J_iconst (-1) aX12_restOne_29 (by decide +kernel) ?_
    exact J_iret aX12_restOne_30 rfl h
  · replace h := h.2 q
    refine J_aload_n 0 aX12_restOne_13 rfl ?_
    refine J_iload_n 1 aX12_restOne_14 rfl ?_
    refine J_callV [.int x1] [] aX12_restOne_15 lkX12_197_X12 okX12_wouldShow sh115 rfl rfl rfl (Nat.le_of_ble_eq_true rfl) (Nat.le_refl _) (Mt_mono h (fun rv I1 h => ?_))
    obtain ⟨v2, rfl, h⟩ := h
    refine J_r1 ?_
    refine J_if_eq aX12_restOne_18 (fun q => ?_) (fun q => ?_)
    · replace h := h.1 q
      refine J_iinc (x1 + nI 1) [(1, .int (x1 + nI 1)), (0, .ref (eb E + 115))] 1 aX12_restOne_23 rfl (by first | rfl | (congr 1; decide +kernel)) (by decide) rfl ?_
      refine J_goto aX12_restOne_26 ?_
      refine J_pick [1, 0] rfl ?_
      exact h
    · replace h := h.2 q
      refine J_iload_n 1 aX12_restOne_21 rfl ?_
      exact J_iret aX12_restOne_22 rfl h
theorem aX12_goesBy_0 : decode mX12_goesBy.2.1 0 = .ok (.aload_n 0, 1) ∧ 0 + 1 = 1 := ⟨by decide +kernel, rfl⟩
theorem aX12_goesBy_1 : decode mX12_goesBy.2.1 1 = .ok (.getfield 9, 3) ∧ 1 + 3 = 4 := ⟨by decide +kernel, rfl⟩
theorem aX12_goesBy_4 : decode mX12_goesBy.2.1 4 = .ok (.iconst 3, 1) ∧ 4 + 1 = 5 := ⟨by decide +kernel, rfl⟩
theorem aX12_goesBy_5 : decode mX12_goesBy.2.1 5 = .ok (.aload_n 0, 1) ∧ 5 + 1 = 6 := ⟨by decide +kernel, rfl⟩
theorem aX12_goesBy_6 : decode mX12_goesBy.2.1 6 = .ok (.getfield 9, 3) ∧ 6 + 3 = 9 := ⟨by decide +kernel, rfl⟩
theorem aX12_goesBy_9 : decode mX12_goesBy.2.1 9 = .ok (.iconst 0, 1) ∧ 9 + 1 = 10 := ⟨by decide +kernel, rfl⟩
theorem aX12_goesBy_10 : decode mX12_goesBy.2.1 10 = .ok (.iaload, 1) ∧ 10 + 1 = 11 := ⟨by decide +kernel, rfl⟩
theorem aX12_goesBy_11 : decode mX12_goesBy.2.1 11 = .ok (.bipush 16, 2) ∧ 11 + 2 = 13 := ⟨by decide +kernel, rfl⟩
theorem aX12_goesBy_13 : decode mX12_goesBy.2.1 13 = .ok (.if_icmp .ge 29, 3) ∧ ((13 : Nat) : Int) + 29 = ((42 : Nat) : Int) ∧ 13 + 3 = 16 := ⟨by decide +kernel, by decide, rfl⟩
theorem aX12_goesBy_16 : decode mX12_goesBy.2.1 16 = .ok (.aload_n 0, 1) ∧ 16 + 1 = 17 := ⟨by decide +kernel, rfl⟩
theorem aX12_goesBy_17 : decode mX12_goesBy.2.1 17 = .ok (.getfield 9, 3) ∧ 17 + 3 = 20 := ⟨by decide +kernel, rfl⟩
theorem aX12_goesBy_20 : decode mX12_goesBy.2.1 20 = .ok (.iconst 3, 1) ∧ 20 + 1 = 21 := ⟨by decide +kernel, rfl⟩
theorem aX12_goesBy_21 : decode mX12_goesBy.2.1 21 = .ok (.iaload, 1) ∧ 21 + 1 = 22 := ⟨by decide +kernel, rfl⟩
theorem aX12_goesBy_22 : decode mX12_goesBy.2.1 22 = .ok (.aload_n 0, 1) ∧ 22 + 1 = 23 := ⟨by decide +kernel, rfl⟩
theorem aX12_goesBy_23 : decode mX12_goesBy.2.1 23 = .ok (.getfield 9, 3) ∧ 23 + 3 = 26 := ⟨by decide +kernel, rfl⟩
theorem aX12_goesBy_26 : decode mX12_goesBy.2.1 26 = .ok (.bipush 10, 2) ∧ 26 + 2 = 28 := ⟨by decide +kernel, rfl⟩
theorem aX12_goesBy_28 : decode mX12_goesBy.2.1 28 = .ok (.aload_n 0, 1) ∧ 28 + 1 = 29 := ⟨by decide +kernel, rfl⟩
theorem aX12_goesBy_29 : decode mX12_goesBy.2.1 29 = .ok (.getfield 9, 3) ∧ 29 + 3 = 32 := ⟨by decide +kernel, rfl⟩
theorem aX12_goesBy_32 : decode mX12_goesBy.2.1 32 = .ok (.iconst 0, 1) ∧ 32 + 1 = 33 := ⟨by decide +kernel, rfl⟩
theorem aX12_goesBy_33 : decode mX12_goesBy.2.1 33 = .ok (.iaload, 1) ∧ 33 + 1 = 34 := ⟨by decide +kernel, rfl⟩
theorem aX12_goesBy_34 : decode mX12_goesBy.2.1 34 = .ok (.iadd, 1) ∧ 34 + 1 = 35 := ⟨by decide +kernel, rfl⟩
theorem aX12_goesBy_35 : decode mX12_goesBy.2.1 35 = .ok (.iaload, 1) ∧ 35 + 1 = 36 := ⟨by decide +kernel, rfl⟩
theorem aX12_goesBy_36 : decode mX12_goesBy.2.1 36 = .ok (.invokestatic 200, 3) ∧ 36 + 3 = 39 := ⟨by decide +kernel, rfl⟩
theorem aX12_goesBy_39 : decode mX12_goesBy.2.1 39 = .ok (.goto 9, 3) ∧ ((39 : Nat) : Int) + 9 = ((48 : Nat) : Int) := ⟨by decide +kernel, by decide⟩
theorem aX12_goesBy_42 : decode mX12_goesBy.2.1 42 = .ok (.aload_n 0, 1) ∧ 42 + 1 = 43 := ⟨by decide +kernel, rfl⟩
theorem aX12_goesBy_43 : decode mX12_goesBy.2.1 43 = .ok (.getfield 9, 3) ∧ 43 + 3 = 46 := ⟨by decide +kernel, rfl⟩
theorem aX12_goesBy_46 : decode mX12_goesBy.2.1 46 = .ok (.iconst 3, 1) ∧ 46 + 1 = 47 := ⟨by decide +kernel, rfl⟩
theorem aX12_goesBy_47 : decode mX12_goesBy.2.1 47 = .ok (.iaload, 1) ∧ 47 + 1 = 48 := ⟨by decide +kernel, rfl⟩
theorem aX12_goesBy_48 : decode mX12_goesBy.2.1 48 = .ok (.iastore, 1) ∧ 48 + 1 = 49 := ⟨by decide +kernel, rfl⟩
theorem aX12_goesBy_49 : decode mX12_goesBy.2.1 49 = .ok (.iload_n 1, 1) ∧ 49 + 1 = 50 := ⟨by decide +kernel, rfl⟩
theorem aX12_goesBy_50 : decode mX12_goesBy.2.1 50 = .ok (.ifCond .ge 10, 3) ∧ ((50 : Nat) : Int) + 10 = ((60 : Nat) : Int) ∧ 50 + 3 = 53 := ⟨by decide +kernel, by decide, rfl⟩
theorem aX12_goesBy_53 : decode mX12_goesBy.2.1 53 = .ok (.aload_n 0, 1) ∧ 53 + 1 = 54 := ⟨by decide +kernel, rfl⟩
theorem aX12_goesBy_54 : decode mX12_goesBy.2.1 54 = .ok (.invokevirtual 203, 3) ∧ 54 + 3 = 57 := ⟨by decide +kernel, rfl⟩
theorem aX12_goesBy_57 : decode mX12_goesBy.2.1 57 = .ok (.goto 6, 3) ∧ ((57 : Nat) : Int) + 6 = ((63 : Nat) : Int) := ⟨by decide +kernel, by decide⟩
theorem aX12_goesBy_60 : decode mX12_goesBy.2.1 60 = .ok (.iload_n 1, 1) ∧ 60 + 1 = 61 := ⟨by decide +kernel, rfl⟩
theorem aX12_goesBy_61 : decode mX12_goesBy.2.1 61 = .ok (.iconst 1, 1) ∧ 61 + 1 = 62 := ⟨by decide +kernel, rfl⟩
theorem aX12_goesBy_62 : decode mX12_goesBy.2.1 62 = .ok (.isub, 1) ∧ 62 + 1 = 63 := ⟨by decide +kernel, rfl⟩
theorem aX12_goesBy_63 : decode mX12_goesBy.2.1 63 = .ok (.istore_n 2, 1) ∧ 63 + 1 = 64 := ⟨by decide +kernel, rfl⟩
theorem aX12_goesBy_64 : decode mX12_goesBy.2.1 64 = .ok (.iload_n 2, 1) ∧ 64 + 1 = 65 := ⟨by decide +kernel, rfl⟩
theorem aX12_goesBy_65 : decode mX12_goesBy.2.1 65 = .ok (.ifCond .lt 11, 3) ∧ ((65 : Nat) : Int) + 11 = ((76 : Nat) : Int) ∧ 65 + 3 = 68 := ⟨by decide +kernel, by decide, rfl⟩
theorem aX12_goesBy_68 : decode mX12_goesBy.2.1 68 = .ok (.aload_n 0, 1) ∧ 68 + 1 = 69 := ⟨by decide +kernel, rfl⟩
theorem aX12_goesBy_69 : decode mX12_goesBy.2.1 69 = .ok (.iload_n 2, 1) ∧ 69 + 1 = 70 := ⟨by decide +kernel, rfl⟩
theorem aX12_goesBy_70 : decode mX12_goesBy.2.1 70 = .ok (.invokevirtual 207, 3) ∧ 70 + 3 = 73 := ⟨by decide +kernel, rfl⟩
theorem aX12_goesBy_73 : decode mX12_goesBy.2.1 73 = .ok (.goto 4, 3) ∧ ((73 : Nat) : Int) + 4 = ((77 : Nat) : Int) := ⟨by decide +kernel, by decide⟩
theorem aX12_goesBy_76 : decode mX12_goesBy.2.1 76 = .ok (.iconst 0, 1) ∧ 76 + 1 = 77 := ⟨by decide +kernel, rfl⟩
theorem aX12_goesBy_77 : decode mX12_goesBy.2.1 77 = .ok (.istore_n 3, 1) ∧ 77 + 1 = 78 := ⟨by decide +kernel, rfl⟩
theorem aX12_goesBy_78 : decode mX12_goesBy.2.1 78 = .ok (.aload_n 0, 1) ∧ 78 + 1 = 79 := ⟨by decide +kernel, rfl⟩
theorem aX12_goesBy_79 : decode mX12_goesBy.2.1 79 = .ok (.invokevirtual 210, 3) ∧ 79 + 3 = 82 := ⟨by decide +kernel, rfl⟩
theorem aX12_goesBy_82 : decode mX12_goesBy.2.1 82 = .ok (.aload_n 0, 1) ∧ 82 + 1 = 83 := ⟨by decide +kernel, rfl⟩
theorem aX12_goesBy_83 : decode mX12_goesBy.2.1 83 = .ok (.getfield 9, 3) ∧ 83 + 3 = 86 := ⟨by decide +kernel, rfl⟩
theorem aX12_goesBy_86 : decode mX12_goesBy.2.1 86 = .ok (.iconst 0, 1) ∧ 86 + 1 = 87 := ⟨by decide +kernel, rfl⟩
theorem aX12_goesBy_87 : decode mX12_goesBy.2.1 87 = .ok (.dup2, 1) ∧ 87 + 1 = 88 := ⟨by decide +kernel, rfl⟩
theorem aX12_goesBy_88 : decode mX12_goesBy.2.1 88 = .ok (.iaload, 1) ∧ 88 + 1 = 89 := ⟨by decide +kernel, rfl⟩
theorem aX12_goesBy_89 : decode mX12_goesBy.2.1 89 = .ok (.iconst 1, 1) ∧ 89 + 1 = 90 := ⟨by decide +kernel, rfl⟩
theorem aX12_goesBy_90 : decode mX12_goesBy.2.1 90 = .ok (.iadd, 1) ∧ 90 + 1 = 91 := ⟨by decide +kernel, rfl⟩
theorem aX12_goesBy_91 : decode mX12_goesBy.2.1 91 = .ok (.iastore, 1) ∧ 91 + 1 = 92 := ⟨by decide +kernel, rfl⟩
theorem aX12_goesBy_92 : decode mX12_goesBy.2.1 92 = .ok (.aload_n 0, 1) ∧ 92 + 1 = 93 := ⟨by decide +kernel, rfl⟩
theorem aX12_goesBy_93 : decode mX12_goesBy.2.1 93 = .ok (.getfield 9, 3) ∧ 93 + 3 = 96 := ⟨by decide +kernel, rfl⟩
theorem aX12_goesBy_96 : decode mX12_goesBy.2.1 96 = .ok (.iconst 2, 1) ∧ 96 + 1 = 97 := ⟨by decide +kernel, rfl⟩
theorem aX12_goesBy_97 : decode mX12_goesBy.2.1 97 = .ok (.dup2, 1) ∧ 97 + 1 = 98 := ⟨by decide +kernel, rfl⟩
theorem aX12_goesBy_98 : decode mX12_goesBy.2.1 98 = .ok (.iaload, 1) ∧ 98 + 1 = 99 := ⟨by decide +kernel, rfl⟩
theorem aX12_goesBy_99 : decode mX12_goesBy.2.1 99 = .ok (.iload_n 3, 1) ∧ 99 + 1 = 100 := ⟨by decide +kernel, rfl⟩
theorem aX12_goesBy_100 : decode mX12_goesBy.2.1 100 = .ok (.iadd, 1) ∧ 100 + 1 = 101 := ⟨by decide +kernel, rfl⟩
theorem aX12_goesBy_101 : decode mX12_goesBy.2.1 101 = .ok (.iastore, 1) ∧ 101 + 1 = 102 := ⟨by decide +kernel, rfl⟩
theorem aX12_goesBy_102 : decode mX12_goesBy.2.1 102 = .ok (.iload_n 3, 1) ∧ 102 + 1 = 103 := ⟨by decide +kernel, rfl⟩
theorem aX12_goesBy_103 : decode mX12_goesBy.2.1 103 = .ok (.ireturn, 1) := by decide +kernel
theorem S_X12_goesBy {E : EE} {d : Nat} {I : IH} {Q : QT} (x1 : Int32) (h :
(((nI 16) ≤ (I 116 0) → J E (d + 1) mX12_goesBy 48 [(0, .ref (eb E + 115)), (1, .int x1)] [.int (I 116 3), .int (nI 3), .ref (eb E + 116)] I Q) ∧
 (¬ (nI 16) ≤ (I 116 0) → (∃ j1 : Nat, ((nI 10) + (I 116 0)) = nI j1 ∧ j1 < 322 ∧ (Mt E d mX12_fogBy [.int (I 116 3), .int (I 116 j1)] I (fun rv I4 => ∃ v5 : Int32, rv = some (.int v5) ∧
 J E (d + 1) mX12_goesBy 48 [(0, .ref (eb E + 115)), (1, .int x1)] [.int v5, .int (nI 3), .ref (eb E + 116)] I4 Q)))))) : Mt E (d + 1) mX12_goesBy [.ref (eb E + 115), .int x1] I Q := by
  refine Mt_of [(0, .ref (eb E + 115)), (1, .int x1)] (by decide +kernel) (by simp [lg_sl, Value.category, mX12_goesBy]) rfl ?_
  refine J_aload_n 0 aX12_goesBy_0 rfl ?_
  refine J_getR aX12_goesBy_1 flX12_9 sh115 rfl ?_
  refine J_iconst (nI 3) aX12_goesBy_4 (by decide +kernel) ?_
  refine J_aload_n 0 aX12_goesBy_5 rfl ?_
  refine J_getR aX12_goesBy_6 flX12_9 sh115 rfl ?_
  refine J_iconst (nI 0) aX12_goesBy_9 (by decide +kernel) ?_
  refine J_iaload 0 aX12_goesBy_10 sh116 rfl (by decide) (by decide) ?_
  refine J_bipush (nI 16) aX12_goesBy_11 (by decide +kernel) ?_
  refine J_icmp_ge aX12_goesBy_13 (fun q => ?_) (fun q => ?_)
  · replace h := h.1 q
    refine J_aload_n 0 aX12_goesBy_42 rfl ?_
    refine J_getR aX12_goesBy_43 flX12_9 sh115 rfl ?_
    refine J_iconst (nI 3) aX12_goesBy_46 (by decide +kernel) ?_
    refine J_iaload 3 aX12_goesBy_47 sh116 rfl (by decide) (by decide) ?_
    refine J_pick [0, 1] rfl ?_
    exact h
  · replace h := h.2 q
    refine J_aload_n 0 aX12_goesBy_16 rfl ?_
    refine J_getR aX12_goesBy_17 flX12_9 sh115 rfl ?_
    refine J_iconst (nI 3) aX12_goesBy_20 (by decide +kernel) ?_
    refine J_iaload 3 aX12_goesBy_21 sh116 rfl (by decide) (by decide) ?_
    refine J_aload_n 0 aX12_goesBy_22 rfl ?_
    refine J_getR aX12_goesBy_23 flX12_9 sh115 rfl ?_
    refine J_bipush (nI 10) aX12_goesBy_26 (by decide +kernel) ?_
    refine J_aload_n 0 aX12_goesBy_28 rfl ?_
    refine J_getR aX12_goesBy_29 flX12_9 sh115 rfl ?_
    refine J_iconst (nI 0) aX12_goesBy_32 (by decide +kernel) ?_
    refine J_iaload 0 aX12_goesBy_33 sh116 rfl (by decide) (by decide) ?_
    refine J_iadd aX12_goesBy_34 ?_
    obtain ⟨j1, e2, b3, h⟩ := h
    refine J_iaload j1 aX12_goesBy_35 sh116 e2 b3 (by decide) ?_
    refine J_callS [.int (I 116 3), .int (I 116 j1)] [.int (nI 3), .ref (eb E + 116)] aX12_goesBy_36 lkX12_200 okX12_fogBy rfl rfl (Nat.le_of_ble_eq_true rfl) (Nat.le_refl _) (Mt_mono h (fun rv I4 h => ?_))
    obtain ⟨v5, rfl, h⟩ := h
    refine J_r1 ?_
    refine J_goto aX12_goesBy_39 ?_
    refine J_pick [0, 1] rfl ?_
    exact h
theorem S_X12_goesBy_48 {E : EE} {d : Nat} {I : IH} {Q : QT} (x1 : Int32) (t0 : Int32) (t1 : Int32) (h :
(∃ j3 : Nat, t1 = nI j3 ∧ j3 < 322 ∧ (∀ I1 : IH, I1 = stI I 116 j3 t0 →
 ((0 ≤ x1 → J E (d + 1) mX12_goesBy 63 [(0, .ref (eb E + 115))] [.int (x1 - (nI 1))] I1 Q) ∧
 (¬ 0 ≤ x1 → (Mt E d mX12_restOne [.ref (eb E + 115)] I1 (fun rv I6 => ∃ v7 : Int32, rv = some (.int v7) ∧
 J E (d + 1) mX12_goesBy 63 [(0, .ref (eb E + 115))] [.int v7] I6 Q))))))) : J E (d + 1) mX12_goesBy 48 [(0, .ref (eb E + 115)), (1, .int x1)] [.int t0, .int t1, .ref (eb E + 116)] I Q := by
  obtain ⟨j3, e4, b5, h⟩ := h
  refine J_iastore j3 aX12_goesBy_48 sh116 e4 b5 (by decide) (fun I1 e2 => ?_)
  replace h := h I1 e2
  refine J_iload_n 1 aX12_goesBy_49 rfl ?_
  refine J_if_ge aX12_goesBy_50 (fun q => ?_) (fun q => ?_)
  · replace h := h.1 q
    refine J_iload_n 1 aX12_goesBy_60 rfl ?_
    refine J_iconst (nI 1) aX12_goesBy_61 (by decide +kernel) ?_
    refine J_isub aX12_goesBy_62 ?_
    refine J_pick [0] rfl ?_
    exact h
  · replace h := h.2 q
    refine J_aload_n 0 aX12_goesBy_53 rfl ?_
    refine J_callV [] [] aX12_goesBy_54 lkX12_203_X12 okX12_restOne sh115 rfl rfl rfl (Nat.le_of_ble_eq_true rfl) (Nat.le_refl _) (Mt_mono h (fun rv I6 h => ?_))
    obtain ⟨v7, rfl, h⟩ := h
    refine J_r1 ?_
    refine J_goto aX12_goesBy_57 ?_
    refine J_pick [0] rfl ?_
    exact h
theorem S_X12_goesBy_63 {E : EE} {d : Nat} {I : IH} {Q : QT} (t0 : Int32) (h :
((t0 < 0 → J E (d + 1) mX12_goesBy 77 [(0, .ref (eb E + 115))] [.int (nI 0)] I Q) ∧
 (¬ t0 < 0 → (Mt E d mX12_meets [.ref (eb E + 115), .int t0] I (fun rv I1 => ∃ v2 : Int32, rv = some (.int v2) ∧
 J E (d + 1) mX12_goesBy 77 [(0, .ref (eb E + 115))] [.int v2] I1 Q))))) : J E (d + 1) mX12_goesBy 63 [(0, .ref (eb E + 115))] [.int t0] I Q := by
  refine J_istore_n [(2, .int t0), (0, .ref (eb E + 115))] aX12_goesBy_63 (by decide) rfl ?_
  refine J_iload_n 0 aX12_goesBy_64 rfl ?_
  refine J_if_lt aX12_goesBy_65 (fun q => ?_) (fun q => ?_)
  · replace h := h.1 q
    refine J_iconst (nI 0) aX12_goesBy_76 (by decide +kernel) ?_
    refine J_pick [1] rfl ?_
    exact h
  · replace h := h.2 q
    refine J_aload_n 1 aX12_goesBy_68 rfl ?_
    refine J_iload_n 0 aX12_goesBy_69 rfl ?_
    refine J_callV [.int t0] [] aX12_goesBy_70 lkX12_207_X12 okX12_meets sh115 rfl rfl rfl (Nat.le_of_ble_eq_true rfl) (Nat.le_refl _) (Mt_mono h (fun rv I1 h => ?_))
    obtain ⟨v2, rfl, h⟩ := h
    refine J_r1 ?_
    refine J_goto aX12_goesBy_73 ?_
    refine J_pick [1] rfl ?_
    exact h
theorem S_X12_goesBy_77 {E : EE} {d : Nat} {I : IH} {Q : QT} (t0 : Int32) (h :
(Mt E d mX12_scenesGoOn [.ref (eb E + 115)] I (fun rv I1 => rv = none ∧
 (∀ I2 : IH, I2 = stI I1 116 0 ((I1 116 0) + (nI 1)) →
 (∀ I4 : IH, I4 = stI I2 116 2 ((I2 116 2) + t0) →
 Q (some (.int t0)) I4))))) : J E (d + 1) mX12_goesBy 77 [(0, .ref (eb E + 115))] [.int t0] I Q := by
  refine J_istore_n [(3, .int t0), (0, .ref (eb E + 115))] aX12_goesBy_77 (by decide) rfl ?_
  refine J_aload_n 1 aX12_goesBy_78 rfl ?_
  refine J_callV [] [] aX12_goesBy_79 lkX12_210_X12 okX12_scenesGoOn sh115 rfl rfl rfl (Nat.le_of_ble_eq_true rfl) (Nat.le_refl _) (Mt_mono h (fun rv I1 h => ?_))
  obtain ⟨rfl, h⟩ := h
  refine J_r0 ?_
  refine J_aload_n 1 aX12_goesBy_82 rfl ?_
  refine J_getR aX12_goesBy_83 flX12_9 sh115 rfl ?_
  refine J_iconst (nI 0) aX12_goesBy_86 (by decide +kernel) ?_
  refine J_dup2 aX12_goesBy_87 rfl rfl ?_
  refine J_iaload 0 aX12_goesBy_88 sh116 rfl (by decide) (by decide) ?_
  refine J_iconst (nI 1) aX12_goesBy_89 (by decide +kernel) ?_
  refine J_iadd aX12_goesBy_90 ?_
  refine J_iastore 0 aX12_goesBy_91 sh116 rfl (by decide) (by decide) (fun I2 e3 => ?_)
  replace h := h I2 e3
  refine J_aload_n 1 aX12_goesBy_92 rfl ?_
  refine J_getR aX12_goesBy_93 flX12_9 sh115 rfl ?_
  refine J_iconst (nI 2) aX12_goesBy_96 (by decide +kernel) ?_
  refine J_dup2 aX12_goesBy_97 rfl rfl ?_
  refine J_iaload 2 aX12_goesBy_98 sh116 rfl (by decide) (by decide) ?_
  refine J_iload_n 0 aX12_goesBy_99 rfl ?_
  refine J_iadd aX12_goesBy_100 ?_
  refine J_iastore 2 aX12_goesBy_101 sh116 rfl (by decide) (by decide) (fun I4 e5 => ?_)
  replace h := h I4 e5
  refine J_iload_n 0 aX12_goesBy_102 rfl ?_
  exact J_iret aX12_goesBy_103 rfl h
theorem aX12_isScene_0 : decode mX12_isScene.2.1 0 = .ok (.iload_n 0, 1) ∧ 0 + 1 = 1 := ⟨by decide +kernel, rfl⟩
theorem aX12_isScene_1 : decode mX12_isScene.2.1 1 = .ok (.iconst 0, 1) ∧ 1 + 1 = 2 := ⟨by decide +kernel, rfl⟩
theorem aX12_isScene_2 : decode mX12_isScene.2.1 2 = .ok (.sipush 255, 3) ∧ 2 + 3 = 5 := ⟨by decide +kernel, rfl⟩
theorem aX12_isScene_5 : decode mX12_isScene.2.1 5 = .ok (.invokestatic 68, 3) ∧ 5 + 3 = 8 := ⟨by decide +kernel, rfl⟩
theorem aX12_isScene_8 : decode mX12_isScene.2.1 8 = .ok (.ireturn, 1) := by decide +kernel
theorem S_X12_isScene {E : EE} {d : Nat} {I : IH} {Q : QT} (x0 : Int32) (h :
(Mt E d mX12_in1 [.int x0, .int (nI 0), .int (nI 255)] I (fun rv I1 => ∃ v2 : Int32, rv = some (.int v2) ∧
 ((v2 = 0 ∨ v2 = 1) ∧ Q (some (.int v2)) I1)))) : Mt E (d + 1) mX12_isScene [.int x0] I Q := by
  refine Mt_of [(0, .int x0)] (by decide +kernel) (by simp [lg_sl, Value.category, mX12_isScene]) rfl ?_
  refine J_iload_n 0 aX12_isScene_0 rfl ?_
  refine J_iconst (nI 0) aX12_isScene_1 (by decide +kernel) ?_
  refine J_sipush (nI 255) aX12_isScene_2 (by decide +kernel) ?_
  refine J_callS [.int x0, .int (nI 0), .int (nI 255)] [] aX12_isScene_5 lkX12_68 okX12_in1 rfl rfl (Nat.le_of_ble_eq_true rfl) (Nat.le_refl _) (Mt_mono h (fun rv I1 h => ?_))
  obtain ⟨v2, rfl, h⟩ := h
  refine J_r1 ?_
  exact J_zret aX12_isScene_8 rfl (nar_bool h.1).1 h.2
theorem aX12_isDigit_0 : decode mX12_isDigit.2.1 0 = .ok (.iload_n 0, 1) ∧ 0 + 1 = 1 := ⟨by decide +kernel, rfl⟩
theorem aX12_isDigit_1 : decode mX12_isDigit.2.1 1 = .ok (.iconst 0, 1) ∧ 1 + 1 = 2 := ⟨by decide +kernel, rfl⟩
theorem aX12_isDigit_2 : decode mX12_isDigit.2.1 2 = .ok (.bipush 9, 2) ∧ 2 + 2 = 4 := ⟨by decide +kernel, rfl⟩
theorem aX12_isDigit_4 : decode mX12_isDigit.2.1 4 = .ok (.invokestatic 68, 3) ∧ 4 + 3 = 7 := ⟨by decide +kernel, rfl⟩
theorem aX12_isDigit_7 : decode mX12_isDigit.2.1 7 = .ok (.ireturn, 1) := by decide +kernel
theorem S_X12_isDigit {E : EE} {d : Nat} {I : IH} {Q : QT} (x0 : Int32) (h :
(Mt E d mX12_in1 [.int x0, .int (nI 0), .int (nI 9)] I (fun rv I1 => ∃ v2 : Int32, rv = some (.int v2) ∧
 ((v2 = 0 ∨ v2 = 1) ∧ Q (some (.int v2)) I1)))) : Mt E (d + 1) mX12_isDigit [.int x0] I Q := by
  refine Mt_of [(0, .int x0)] (by decide +kernel) (by simp [lg_sl, Value.category, mX12_isDigit]) rfl ?_
  refine J_iload_n 0 aX12_isDigit_0 rfl ?_
  refine J_iconst (nI 0) aX12_isDigit_1 (by decide +kernel) ?_
  refine J_bipush (nI 9) aX12_isDigit_2 (by decide +kernel) ?_
  refine J_callS [.int x0, .int (nI 0), .int (nI 9)] [] aX12_isDigit_4 lkX12_68 okX12_in1 rfl rfl (Nat.le_of_ble_eq_true rfl) (Nat.le_refl _) (Mt_mono h (fun rv I1 h => ?_))
  obtain ⟨v2, rfl, h⟩ := h
  refine J_r1 ?_
  exact J_zret aX12_isDigit_7 rfl (nar_bool h.1).1 h.2
theorem aX12_isWard_0 : decode mX12_isWard.2.1 0 = .ok (.iload_n 0, 1) ∧ 0 + 1 = 1 := ⟨by decide +kernel, rfl⟩
theorem aX12_isWard_1 : decode mX12_isWard.2.1 1 = .ok (.iconst 0, 1) ∧ 1 + 1 = 2 := ⟨by decide +kernel, rfl⟩
theorem aX12_isWard_2 : decode mX12_isWard.2.1 2 = .ok (.iconst 5, 1) ∧ 2 + 1 = 3 := ⟨by decide +kernel, rfl⟩
theorem aX12_isWard_3 : decode mX12_isWard.2.1 3 = .ok (.invokestatic 68, 3) ∧ 3 + 3 = 6 := ⟨by decide +kernel, rfl⟩
theorem aX12_isWard_6 : decode mX12_isWard.2.1 6 = .ok (.ireturn, 1) := by decide +kernel
theorem S_X12_isWard {E : EE} {d : Nat} {I : IH} {Q : QT} (x0 : Int32) (h :
(Mt E d mX12_in1 [.int x0, .int (nI 0), .int (nI 5)] I (fun rv I1 => ∃ v2 : Int32, rv = some (.int v2) ∧
 ((v2 = 0 ∨ v2 = 1) ∧ Q (some (.int v2)) I1)))) : Mt E (d + 1) mX12_isWard [.int x0] I Q := by
  refine Mt_of [(0, .int x0)] (by decide +kernel) (by simp [lg_sl, Value.category, mX12_isWard]) rfl ?_
  refine J_iload_n 0 aX12_isWard_0 rfl ?_
  refine J_iconst (nI 0) aX12_isWard_1 (by decide +kernel) ?_
  refine J_iconst (nI 5) aX12_isWard_2 (by decide +kernel) ?_
  refine J_callS [.int x0, .int (nI 0), .int (nI 5)] [] aX12_isWard_3 lkX12_68 okX12_in1 rfl rfl (Nat.le_of_ble_eq_true rfl) (Nat.le_refl _) (Mt_mono h (fun rv I1 h => ?_))
  obtain ⟨v2, rfl, h⟩ := h
  refine J_r1 ?_
  exact J_zret aX12_isWard_6 rfl (nar_bool h.1).1 h.2
theorem aX12_pane_0 : decode mX12_pane.2.1 0 = .ok (.iload_n 1, 1) ∧ 0 + 1 = 1 := ⟨by decide +kernel, rfl⟩
theorem aX12_pane_1 : decode mX12_pane.2.1 1 = .ok (.iconst 1, 1) ∧ 1 + 1 = 2 := ⟨by decide +kernel, rfl⟩
theorem aX12_pane_2 : decode mX12_pane.2.1 2 = .ok (.iconst 5, 1) ∧ 2 + 1 = 3 := ⟨by decide +kernel, rfl⟩
theorem aX12_pane_3 : decode mX12_pane.2.1 3 = .ok (.invokestatic 68, 3) ∧ 3 + 3 = 6 := ⟨by decide +kernel, rfl⟩
theorem aX12_pane_6 : decode mX12_pane.2.1 6 = .ok (.ifCond .eq 17, 3) ∧ ((6 : Nat) : Int) + 17 = ((23 : Nat) : Int) ∧ 6 + 3 = 9 := ⟨by decide +kernel, by decide, rfl⟩
theorem aX12_pane_9 : decode mX12_pane.2.1 9 = .ok (.iload_n 2, 1) ∧ 9 + 1 = 10 := ⟨by decide +kernel, rfl⟩
theorem aX12_pane_10 : decode mX12_pane.2.1 10 = .ok (.invokestatic 213, 3) ∧ 10 + 3 = 13 := ⟨by decide +kernel, rfl⟩
theorem aX12_pane_13 : decode mX12_pane.2.1 13 = .ok (.ifCond .eq 10, 3) ∧ ((13 : Nat) : Int) + 10 = ((23 : Nat) : Int) ∧ 13 + 3 = 16 := ⟨by decide +kernel, by decide, rfl⟩
theorem aX12_pane_16 : decode mX12_pane.2.1 16 = .ok (.iload_n 3, 1) ∧ 16 + 1 = 17 := ⟨by decide +kernel, rfl⟩
theorem aX12_pane_17 : decode mX12_pane.2.1 17 = .ok (.invokestatic 216, 3) ∧ 17 + 3 = 20 := ⟨by decide +kernel, rfl⟩
theorem aX12_pane_20 : decode mX12_pane.2.1 20 = .ok (.ifCond .ne 5, 3) ∧ ((20 : Nat) : Int) + 5 = ((25 : Nat) : Int) ∧ 20 + 3 = 23 := ⟨by decide +kernel, by decide, rfl⟩
theorem aX12_pane_23 : decode mX12_pane.2.1 23 = .ok (.iconst (-1), 1) ∧ 23 + 1 = 24 := ⟨by decide +kernel, rfl⟩
theorem aX12_pane_24 : decode mX12_pane.2.1 24 = .ok (.ireturn, 1) := by decide +kernel
theorem aX12_pane_25 : decode mX12_pane.2.1 25 = .ok (.aload_n 0, 1) ∧ 25 + 1 = 26 := ⟨by decide +kernel, rfl⟩
theorem aX12_pane_26 : decode mX12_pane.2.1 26 = .ok (.getfield 9, 3) ∧ 26 + 3 = 29 := ⟨by decide +kernel, rfl⟩
theorem aX12_pane_29 : decode mX12_pane.2.1 29 = .ok (.bipush 6, 2) ∧ 29 + 2 = 31 := ⟨by decide +kernel, rfl⟩
theorem aX12_pane_31 : decode mX12_pane.2.1 31 = .ok (.iaload, 1) ∧ 31 + 1 = 32 := ⟨by decide +kernel, rfl⟩
theorem aX12_pane_32 : decode mX12_pane.2.1 32 = .ok (.bipush 6, 2) ∧ 32 + 2 = 34 := ⟨by decide +kernel, rfl⟩
theorem aX12_pane_34 : decode mX12_pane.2.1 34 = .ok (.if_icmp .ne 6, 3) ∧ ((34 : Nat) : Int) + 6 = ((40 : Nat) : Int) ∧ 34 + 3 = 37 := ⟨by decide +kernel, by decide, rfl⟩
theorem aX12_pane_37 : decode mX12_pane.2.1 37 = .ok (.bipush (-2), 2) ∧ 37 + 2 = 39 := ⟨by decide +kernel, rfl⟩
theorem aX12_pane_39 : decode mX12_pane.2.1 39 = .ok (.ireturn, 1) := by decide +kernel
theorem aX12_pane_40 : decode mX12_pane.2.1 40 = .ok (.aload_n 0, 1) ∧ 40 + 1 = 41 := ⟨by decide +kernel, rfl⟩
theorem aX12_pane_41 : decode mX12_pane.2.1 41 = .ok (.getfield 9, 3) ∧ 41 + 3 = 44 := ⟨by decide +kernel, rfl⟩
theorem aX12_pane_44 : decode mX12_pane.2.1 44 = .ok (.bipush 6, 2) ∧ 44 + 2 = 46 := ⟨by decide +kernel, rfl⟩
theorem aX12_pane_46 : decode mX12_pane.2.1 46 = .ok (.iaload, 1) ∧ 46 + 1 = 47 := ⟨by decide +kernel, rfl⟩
theorem aX12_pane_47 : decode mX12_pane.2.1 47 = .ok (.istore 4, 2) ∧ 47 + 2 = 49 := ⟨by decide +kernel, rfl⟩
theorem aX12_pane_49 : decode mX12_pane.2.1 49 = .ok (.aload_n 0, 1) ∧ 49 + 1 = 50 := ⟨by decide +kernel, rfl⟩
theorem aX12_pane_50 : decode mX12_pane.2.1 50 = .ok (.iload 4, 2) ∧ 50 + 2 = 52 := ⟨by decide +kernel, rfl⟩
theorem aX12_pane_52 : decode mX12_pane.2.1 52 = .ok (.iconst 0, 1) ∧ 52 + 1 = 53 := ⟨by decide +kernel, rfl⟩
theorem aX12_pane_53 : decode mX12_pane.2.1 53 = .ok (.iload_n 1, 1) ∧ 53 + 1 = 54 := ⟨by decide +kernel, rfl⟩
theorem aX12_pane_54 : decode mX12_pane.2.1 54 = .ok (.invokevirtual 100, 3) ∧ 54 + 3 = 57 := ⟨by decide +kernel, rfl⟩
theorem aX12_pane_57 : decode mX12_pane.2.1 57 = .ok (.aload_n 0, 1) ∧ 57 + 1 = 58 := ⟨by decide +kernel, rfl⟩
theorem aX12_pane_58 : decode mX12_pane.2.1 58 = .ok (.iload 4, 2) ∧ 58 + 2 = 60 := ⟨by decide +kernel, rfl⟩
theorem aX12_pane_60 : decode mX12_pane.2.1 60 = .ok (.iconst 1, 1) ∧ 60 + 1 = 61 := ⟨by decide +kernel, rfl⟩
theorem aX12_pane_61 : decode mX12_pane.2.1 61 = .ok (.iload_n 2, 1) ∧ 61 + 1 = 62 := ⟨by decide +kernel, rfl⟩
theorem aX12_pane_62 : decode mX12_pane.2.1 62 = .ok (.invokevirtual 100, 3) ∧ 62 + 3 = 65 := ⟨by decide +kernel, rfl⟩
theorem aX12_pane_65 : decode mX12_pane.2.1 65 = .ok (.aload_n 0, 1) ∧ 65 + 1 = 66 := ⟨by decide +kernel, rfl⟩
theorem aX12_pane_66 : decode mX12_pane.2.1 66 = .ok (.iload 4, 2) ∧ 66 + 2 = 68 := ⟨by decide +kernel, rfl⟩
theorem aX12_pane_68 : decode mX12_pane.2.1 68 = .ok (.iconst 2, 1) ∧ 68 + 1 = 69 := ⟨by decide +kernel, rfl⟩
theorem aX12_pane_69 : decode mX12_pane.2.1 69 = .ok (.iconst 0, 1) ∧ 69 + 1 = 70 := ⟨by decide +kernel, rfl⟩
theorem aX12_pane_70 : decode mX12_pane.2.1 70 = .ok (.invokevirtual 100, 3) ∧ 70 + 3 = 73 := ⟨by decide +kernel, rfl⟩
theorem aX12_pane_73 : decode mX12_pane.2.1 73 = .ok (.aload_n 0, 1) ∧ 73 + 1 = 74 := ⟨by decide +kernel, rfl⟩
theorem aX12_pane_74 : decode mX12_pane.2.1 74 = .ok (.iload 4, 2) ∧ 74 + 2 = 76 := ⟨by decide +kernel, rfl⟩
theorem aX12_pane_76 : decode mX12_pane.2.1 76 = .ok (.iconst 3, 1) ∧ 76 + 1 = 77 := ⟨by decide +kernel, rfl⟩
theorem aX12_pane_77 : decode mX12_pane.2.1 77 = .ok (.iload_n 3, 1) ∧ 77 + 1 = 78 := ⟨by decide +kernel, rfl⟩
theorem aX12_pane_78 : decode mX12_pane.2.1 78 = .ok (.invokevirtual 100, 3) ∧ 78 + 3 = 81 := ⟨by decide +kernel, rfl⟩
theorem aX12_pane_81 : decode mX12_pane.2.1 81 = .ok (.aload_n 0, 1) ∧ 81 + 1 = 82 := ⟨by decide +kernel, rfl⟩
theorem aX12_pane_82 : decode mX12_pane.2.1 82 = .ok (.iload 4, 2) ∧ 82 + 2 = 84 := ⟨by decide +kernel, rfl⟩
theorem aX12_pane_84 : decode mX12_pane.2.1 84 = .ok (.iconst 4, 1) ∧ 84 + 1 = 85 := ⟨by decide +kernel, rfl⟩
theorem aX12_pane_85 : decode mX12_pane.2.1 85 = .ok (.iconst 0, 1) ∧ 85 + 1 = 86 := ⟨by decide +kernel, rfl⟩
theorem aX12_pane_86 : decode mX12_pane.2.1 86 = .ok (.invokevirtual 100, 3) ∧ 86 + 3 = 89 := ⟨by decide +kernel, rfl⟩
theorem aX12_pane_89 : decode mX12_pane.2.1 89 = .ok (.aload_n 0, 1) ∧ 89 + 1 = 90 := ⟨by decide +kernel, rfl⟩
theorem aX12_pane_90 : decode mX12_pane.2.1 90 = .ok (.getfield 9, 3) ∧ 90 + 3 = 93 := ⟨by decide +kernel, rfl⟩
theorem aX12_pane_93 : decode mX12_pane.2.1 93 = .ok (.bipush 6, 2) ∧ 93 + 2 = 95 := ⟨by decide +kernel, rfl⟩
theorem aX12_pane_95 : decode mX12_pane.2.1 95 = .ok (.dup2, 1) ∧ 95 + 1 = 96 := ⟨by decide +kernel, rfl⟩
theorem aX12_pane_96 : decode mX12_pane.2.1 96 = .ok (.iaload, 1) ∧ 96 + 1 = 97 := ⟨by decide +kernel, rfl⟩
theorem aX12_pane_97 : decode mX12_pane.2.1 97 = .ok (.iconst 1, 1) ∧ 97 + 1 = 98 := ⟨by decide +kernel, rfl⟩
theorem aX12_pane_98 : decode mX12_pane.2.1 98 = .ok (.iadd, 1) ∧ 98 + 1 = 99 := ⟨by decide +kernel, rfl⟩
theorem aX12_pane_99 : decode mX12_pane.2.1 99 = .ok (.iastore, 1) ∧ 99 + 1 = 100 := ⟨by decide +kernel, rfl⟩
theorem aX12_pane_100 : decode mX12_pane.2.1 100 = .ok (.iload 4, 2) ∧ 100 + 2 = 102 := ⟨by decide +kernel, rfl⟩
theorem aX12_pane_102 : decode mX12_pane.2.1 102 = .ok (.ireturn, 1) := by decide +kernel
theorem S_X12_pane {E : EE} {d : Nat} {I : IH} {Q : QT} (x1 : Int32) (x2 : Int32) (x3 : Int32) (h :
(Mt E d mX12_in1 [.int x1, .int (nI 1), .int (nI 5)] I (fun rv I1 => ∃ v2 : Int32, rv = some (.int v2) ∧
 ((v2 = 0 → Q (some (.int (-1))) I1) ∧
 (¬ v2 = 0 → (Mt E d mX12_isScene [.int x2] I1 (fun rv I3 => ∃ v4 : Int32, rv = some (.int v4) ∧
 ((v4 = 0 → Q (some (.int (-1))) I3) ∧
 (¬ v4 = 0 → (Mt E d mX12_isWard [.int x3] I3 (fun rv I5 => ∃ v6 : Int32, rv = some (.int v6) ∧
 ((¬ v6 = 0 → ((¬ (I5 116 6) = (nI 6) → (Mt E d mX12_puts [.ref (eb E + 115), .int (I5 116 6), .int (nI 0), .int x1] I5 (fun rv I7 => rv = none ∧
 (Mt E d mX12_puts [.ref (eb E + 115), .int (I5 116 6), .int (nI 1), .int x2] I7 (fun rv I8 => rv = none ∧
 (Mt E d mX12_puts [.ref (eb E + 115), .int (I5 116 6), .int (nI 2), .int (nI 0)] I8 (fun rv I9 => rv = none ∧
 (Mt E d mX12_puts [.ref (eb E + 115), .int (I5 116 6), .int (nI 3), .int x3] I9 (fun rv I10 => rv = none ∧
 (Mt E d mX12_puts [.ref (eb E + 115), .int (I5 116 6), .int (nI 4), .int (nI 0)] I10 (fun rv I11 => rv = none ∧
 (∀ I12 : IH, I12 = stI I11 116 6 ((I11 116 6) + (nI 1)) →
 Q (some (.int (I5 116 6))) I12)))))))))))) ∧
 ((I5 116 6) = (nI 6) → Q (some (.int (-2))) I5))) ∧
 (v6 = 0 → Q (some (.int (-1))) I5))))))))))))) : Mt E (d + 1) mX12_pane [.ref (eb E + 115), .int x1, .int x2, .int x3] I Q := by
  refine Mt_of [(0, .ref (eb E + 115)), (1, .int x1), (2, .int x2), (3, .int x3)] (by decide +kernel) (by simp [lg_sl, Value.category, mX12_pane]) rfl ?_
  refine J_iload_n 1 aX12_pane_0 rfl ?_
  refine J_iconst (nI 1) aX12_pane_1 (by decide +kernel) ?_
  refine J_iconst (nI 5) aX12_pane_2 (by decide +kernel) ?_
  refine J_callS [.int x1, .int (nI 1), .int (nI 5)] [] aX12_pane_3 lkX12_68 okX12_in1 rfl rfl (Nat.le_of_ble_eq_true rfl) (Nat.le_refl _) (Mt_mono h (fun rv I1 h => ?_))
  obtain ⟨v2, rfl, h⟩ := h
  refine J_r1 ?_
  refine J_if_eq aX12_pane_6 (fun q => ?_) (fun q => ?_)
  · replace h := h.1 q
    refine J_iconst (-1) aX12_pane_23 (by decide +kernel) ?_
    exact J_iret aX12_pane_24 rfl h
  · replace h := h.2 q
    refine J_iload_n 2 aX12_pane_9 rfl ?_
    refine J_callS [.int x2] [] aX12_pane_10 lkX12_213 okX12_isScene rfl rfl (Nat.le_of_ble_eq_true rfl) (Nat.le_refl _) (Mt_mono h (fun rv I3 h => ?_))
    obtain ⟨v4, rfl, h⟩ := h
    refine J_r1 ?_
    refine J_if_eq aX12_pane_13 (fun q => ?_) (fun q => ?_)
    · replace h := h.1 q
      refine J_iconst (-1) aX12_pane_23 (by decide +kernel) ?_
      exact J_iret aX12_pane_24 rfl h
    · replace h := h.2 q
      refine J_iload_n 3 aX12_pane_16 rfl ?_
      refine J_callS [.int x3] [] aX12_pane_17 lkX12_216 okX12_isWard rfl rfl (Nat.le_of_ble_eq_true rfl) (Nat.le_refl _) (Mt_mono h (fun rv I5 h => ?_))
      obtain ⟨v6, rfl, h⟩ := h
      refine J_r1 ?_
      refine J_if_ne aX12_pane_20 (fun q => ?_) (fun q => ?_)
      · replace h := h.1 q
        refine J_aload_n 0 aX12_pane_25 rfl ?_
        refine J_getR aX12_pane_26 flX12_9 sh115 rfl ?_
        refine J_bipush (nI 6) aX12_pane_29 (by decide +kernel) ?_
        refine J_iaload 6 aX12_pane_31 sh116 rfl (by decide) (by decide) ?_
        refine J_bipush (nI 6) aX12_pane_32 (by decide +kernel) ?_
        refine J_icmp_ne aX12_pane_34 (fun q => ?_) (fun q => ?_)
        · replace h := h.1 q
          refine J_aload_n 0 aX12_pane_40 rfl ?_
          refine J_getR aX12_pane_41 flX12_9 sh115 rfl ?_
          refine J_bipush (nI 6) aX12_pane_44 (by decide +kernel) ?_
          refine J_iaload 6 aX12_pane_46 sh116 rfl (by decide) (by decide) ?_
          refine J_istore [(4, .int (I5 116 6)), (0, .ref (eb E + 115)), (1, .int x1), (2, .int x2), (3, .int x3)] aX12_pane_47 (by decide) rfl ?_
          refine J_aload_n 1 aX12_pane_49 rfl ?_
          refine J_iload 0 aX12_pane_50 rfl ?_
          refine J_iconst (nI 0) aX12_pane_52 (by decide +kernel) ?_
          refine J_iload_n 2 aX12_pane_53 rfl ?_
          refine J_callV [.int (I5 116 6), .int (nI 0), .int x1] [] aX12_pane_54 lkX12_100_X12 okX12_puts sh115 rfl rfl rfl (Nat.le_of_ble_eq_true rfl) (Nat.le_refl _) (Mt_mono h (fun rv I7 h => ?_))
          obtain ⟨rfl, h⟩ := h
          refine J_r0 ?_
          refine J_aload_n 1 aX12_pane_57 rfl ?_
          refine J_iload 0 aX12_pane_58 rfl ?_
          refine J_iconst (nI 1) aX12_pane_60 (by decide +kernel) ?_
          refine J_iload_n 3 aX12_pane_61 rfl ?_
          refine J_callV [.int (I5 116 6), .int (nI 1), .int x2] [] aX12_pane_62 lkX12_100_X12 okX12_puts sh115 rfl rfl rfl (Nat.le_of_ble_eq_true rfl) (Nat.le_refl _) (Mt_mono h (fun rv I8 h => ?_))
          obtain ⟨rfl, h⟩ := h
          refine J_r0 ?_
          refine J_aload_n 1 aX12_pane_65 rfl ?_
          refine J_iload 0 aX12_pane_66 rfl ?_
          refine J_iconst (nI 2) aX12_pane_68 (by decide +kernel) ?_
          refine J_iconst (nI 0) aX12_pane_69 (by decide +kernel) ?_
          refine J_callV [.int (I5 116 6), .int (nI 2), .int (nI 0)] [] aX12_pane_70 lkX12_100_X12 okX12_puts sh115 rfl rfl rfl (Nat.le_of_ble_eq_true rfl) (Nat.le_refl _) (Mt_mono h (fun rv I9 h => ?_))
          obtain ⟨rfl, h⟩ := h
          refine J_r0 ?_
          refine J_aload_n 1 aX12_pane_73 rfl ?_
          refine J_iload 0 aX12_pane_74 rfl ?_
          refine J_iconst (nI 3) aX12_pane_76 (by decide +kernel) ?_
          refine J_iload_n 4 aX12_pane_77 rfl ?_
          refine J_callV [.int (I5 116 6), .int (nI 3), .int x3] [] aX12_pane_78 lkX12_100_X12 okX12_puts sh115 rfl rfl rfl (Nat.le_of_ble_eq_true rfl) (Nat.le_refl _) (Mt_mono h (fun rv I10 h => ?_))
          obtain ⟨rfl, h⟩ := h
          refine J_r0 ?_
          refine J_aload_n 1 aX12_pane_81 rfl ?_
          refine J_iload 0 aX12_pane_82 rfl ?_
          refine J_iconst (nI 4) aX12_pane_84 (by decide +kernel) ?_
          refine J_iconst (nI 0) aX12_pane_85 (by decide +kernel) ?_
          refine J_callV [.int (I5 116 6), .int (nI 4), .int (nI 0)] [] aX12_pane_86 lkX12_100_X12 okX12_puts sh115 rfl rfl rfl (Nat.le_of_ble_eq_true rfl) (Nat.le_refl _) (Mt_mono h (fun rv I11 h => ?_))
          obtain ⟨rfl, h⟩ := h
          refine J_r0 ?_
          refine J_aload_n 1 aX12_pane_89 rfl ?_
          refine J_getR aX12_pane_90 flX12_9 sh115 rfl ?_
          refine J_bipush (nI 6) aX12_pane_93 (by decide +kernel) ?_
          refine J_dup2 aX12_pane_95 rfl rfl ?_
          refine J_iaload 6 aX12_pane_96 sh116 rfl (by decide) (by decide) ?_
          refine J_iconst (nI 1) aX12_pane_97 (by decide +kernel) ?_
          refine J_iadd aX12_pane_98 ?_
          refine J_iastore 6 aX12_pane_99 sh116 rfl (by decide) (by decide) (fun I12 e13 => ?_)
          replace h := h I12 e13
          refine J_iload 0 aX12_pane_100 rfl ?_
          exact J_iret aX12_pane_102 rfl h
        · replace h := h.2 q
          refine J_bipush (-2) aX12_pane_37 (by decide +kernel) ?_
          exact J_iret aX12_pane_39 rfl h
      · replace h := h.2 q
        refine J_iconst (-1) aX12_pane_23 (by decide +kernel) ?_
        exact J_iret aX12_pane_24 rfl h
theorem aX12_paneOf_0 : decode mX12_paneOf.2.1 0 = .ok (.aload_n 0, 1) ∧ 0 + 1 = 1 := ⟨by decide +kernel, rfl⟩
theorem aX12_paneOf_1 : decode mX12_paneOf.2.1 1 = .ok (.iload_n 1, 1) ∧ 1 + 1 = 2 := ⟨by decide +kernel, rfl⟩
theorem aX12_paneOf_2 : decode mX12_paneOf.2.1 2 = .ok (.invokevirtual 219, 3) ∧ 2 + 3 = 5 := ⟨by decide +kernel, rfl⟩
theorem aX12_paneOf_5 : decode mX12_paneOf.2.1 5 = .ok (.ifCond .eq 13, 3) ∧ ((5 : Nat) : Int) + 13 = ((18 : Nat) : Int) ∧ 5 + 3 = 8 := ⟨by decide +kernel, by decide, rfl⟩
theorem aX12_paneOf_8 : decode mX12_paneOf.2.1 8 = .ok (.iload_n 2, 1) ∧ 8 + 1 = 9 := ⟨by decide +kernel, rfl⟩
theorem aX12_paneOf_9 : decode mX12_paneOf.2.1 9 = .ok (.iconst 0, 1) ∧ 9 + 1 = 10 := ⟨by decide +kernel, rfl⟩
theorem aX12_paneOf_10 : decode mX12_paneOf.2.1 10 = .ok (.bipush 9, 2) ∧ 10 + 2 = 12 := ⟨by decide +kernel, rfl⟩
theorem aX12_paneOf_12 : decode mX12_paneOf.2.1 12 = .ok (.invokestatic 68, 3) ∧ 12 + 3 = 15 := ⟨by decide +kernel, rfl⟩
theorem aX12_paneOf_15 : decode mX12_paneOf.2.1 15 = .ok (.ifCond .ne 5, 3) ∧ ((15 : Nat) : Int) + 5 = ((20 : Nat) : Int) ∧ 15 + 3 = 18 := ⟨by decide +kernel, by decide, rfl⟩
theorem aX12_paneOf_18 : decode mX12_paneOf.2.1 18 = .ok (.iconst (-1), 1) ∧ 18 + 1 = 19 := ⟨by decide +kernel, rfl⟩
theorem aX12_paneOf_19 : decode mX12_paneOf.2.1 19 = .ok (.ireturn, 1) := by decide +kernel
theorem aX12_paneOf_20 : decode mX12_paneOf.2.1 20 = .ok (.iload_n 2, 1) ∧ 20 + 1 = 21 := ⟨by decide +kernel, rfl⟩
theorem aX12_paneOf_21 : decode mX12_paneOf.2.1 21 = .ok (.tableswitch 89 5 9 #[35, 41, 47, 69, 75], 35) := by decide +kernel
theorem aX12_paneOf_56 : decode mX12_paneOf.2.1 56 = .ok (.aload_n 0, 1) ∧ 56 + 1 = 57 := ⟨by decide +kernel, rfl⟩
theorem aX12_paneOf_57 : decode mX12_paneOf.2.1 57 = .ok (.iload_n 1, 1) ∧ 57 + 1 = 58 := ⟨by decide +kernel, rfl⟩
theorem aX12_paneOf_58 : decode mX12_paneOf.2.1 58 = .ok (.invokevirtual 86, 3) ∧ 58 + 3 = 61 := ⟨by decide +kernel, rfl⟩
theorem aX12_paneOf_61 : decode mX12_paneOf.2.1 61 = .ok (.ireturn, 1) := by decide +kernel
theorem aX12_paneOf_62 : decode mX12_paneOf.2.1 62 = .ok (.aload_n 0, 1) ∧ 62 + 1 = 63 := ⟨by decide +kernel, rfl⟩
theorem aX12_paneOf_63 : decode mX12_paneOf.2.1 63 = .ok (.iload_n 1, 1) ∧ 63 + 1 = 64 := ⟨by decide +kernel, rfl⟩
theorem aX12_paneOf_64 : decode mX12_paneOf.2.1 64 = .ok (.invokevirtual 89, 3) ∧ 64 + 3 = 67 := ⟨by decide +kernel, rfl⟩
theorem aX12_paneOf_67 : decode mX12_paneOf.2.1 67 = .ok (.ireturn, 1) := by decide +kernel
theorem aX12_paneOf_68 : decode mX12_paneOf.2.1 68 = .ok (.aload_n 0, 1) ∧ 68 + 1 = 69 := ⟨by decide +kernel, rfl⟩
theorem aX12_paneOf_69 : decode mX12_paneOf.2.1 69 = .ok (.iload_n 1, 1) ∧ 69 + 1 = 70 := ⟨by decide +kernel, rfl⟩
theorem aX12_paneOf_70 : decode mX12_paneOf.2.1 70 = .ok (.iconst 0, 1) ∧ 70 + 1 = 71 := ⟨by decide +kernel, rfl⟩
theorem aX12_paneOf_71 : decode mX12_paneOf.2.1 71 = .ok (.invokevirtual 80, 3) ∧ 71 + 3 = 74 := ⟨by decide +kernel, rfl⟩
theorem aX12_paneOf_74 : decode mX12_paneOf.2.1 74 = .ok (.aload_n 0, 1) ∧ 74 + 1 = 75 := ⟨by decide +kernel, rfl⟩
theorem aX12_paneOf_75 : decode mX12_paneOf.2.1 75 = .ok (.iload_n 1, 1) ∧ 75 + 1 = 76 := ⟨by decide +kernel, rfl⟩
theorem aX12_paneOf_76 : decode mX12_paneOf.2.1 76 = .ok (.iconst 1, 1) ∧ 76 + 1 = 77 := ⟨by decide +kernel, rfl⟩
theorem aX12_paneOf_77 : decode mX12_paneOf.2.1 77 = .ok (.invokevirtual 80, 3) ∧ 77 + 3 = 80 := ⟨by decide +kernel, rfl⟩
theorem aX12_paneOf_80 : decode mX12_paneOf.2.1 80 = .ok (.aload_n 0, 1) ∧ 80 + 1 = 81 := ⟨by decide +kernel, rfl⟩
theorem aX12_paneOf_81 : decode mX12_paneOf.2.1 81 = .ok (.getfield 9, 3) ∧ 81 + 3 = 84 := ⟨by decide +kernel, rfl⟩
theorem aX12_paneOf_84 : decode mX12_paneOf.2.1 84 = .ok (.iconst 0, 1) ∧ 84 + 1 = 85 := ⟨by decide +kernel, rfl⟩
theorem aX12_paneOf_85 : decode mX12_paneOf.2.1 85 = .ok (.iaload, 1) ∧ 85 + 1 = 86 := ⟨by decide +kernel, rfl⟩
theorem aX12_paneOf_86 : decode mX12_paneOf.2.1 86 = .ok (.invokestatic 96, 3) ∧ 86 + 3 = 89 := ⟨by decide +kernel, rfl⟩
theorem aX12_paneOf_89 : decode mX12_paneOf.2.1 89 = .ok (.ireturn, 1) := by decide +kernel
theorem aX12_paneOf_90 : decode mX12_paneOf.2.1 90 = .ok (.aload_n 0, 1) ∧ 90 + 1 = 91 := ⟨by decide +kernel, rfl⟩
theorem aX12_paneOf_91 : decode mX12_paneOf.2.1 91 = .ok (.iload_n 1, 1) ∧ 91 + 1 = 92 := ⟨by decide +kernel, rfl⟩
theorem aX12_paneOf_92 : decode mX12_paneOf.2.1 92 = .ok (.invokevirtual 191, 3) ∧ 92 + 3 = 95 := ⟨by decide +kernel, rfl⟩
theorem aX12_paneOf_95 : decode mX12_paneOf.2.1 95 = .ok (.ireturn, 1) := by decide +kernel
theorem aX12_paneOf_96 : decode mX12_paneOf.2.1 96 = .ok (.aload_n 0, 1) ∧ 96 + 1 = 97 := ⟨by decide +kernel, rfl⟩
theorem aX12_paneOf_97 : decode mX12_paneOf.2.1 97 = .ok (.iload_n 1, 1) ∧ 97 + 1 = 98 := ⟨by decide +kernel, rfl⟩
theorem aX12_paneOf_98 : decode mX12_paneOf.2.1 98 = .ok (.invokevirtual 92, 3) ∧ 98 + 3 = 101 := ⟨by decide +kernel, rfl⟩
theorem aX12_paneOf_101 : decode mX12_paneOf.2.1 101 = .ok (.ifCond .eq 7, 3) ∧ ((101 : Nat) : Int) + 7 = ((108 : Nat) : Int) ∧ 101 + 3 = 104 := ⟨by decide +kernel, by decide, rfl⟩
theorem aX12_paneOf_104 : decode mX12_paneOf.2.1 104 = .ok (.iconst 1, 1) ∧ 104 + 1 = 105 := ⟨by decide +kernel, rfl⟩
theorem aX12_paneOf_105 : decode mX12_paneOf.2.1 105 = .ok (.goto 4, 3) ∧ ((105 : Nat) : Int) + 4 = ((109 : Nat) : Int) := ⟨by decide +kernel, by decide⟩
theorem aX12_paneOf_108 : decode mX12_paneOf.2.1 108 = .ok (.iconst 0, 1) ∧ 108 + 1 = 109 := ⟨by decide +kernel, rfl⟩
theorem aX12_paneOf_109 : decode mX12_paneOf.2.1 109 = .ok (.ireturn, 1) := by decide +kernel
theorem aX12_paneOf_110 : decode mX12_paneOf.2.1 110 = .ok (.aload_n 0, 1) ∧ 110 + 1 = 111 := ⟨by decide +kernel, rfl⟩
theorem aX12_paneOf_111 : decode mX12_paneOf.2.1 111 = .ok (.iload_n 1, 1) ∧ 111 + 1 = 112 := ⟨by decide +kernel, rfl⟩
theorem aX12_paneOf_112 : decode mX12_paneOf.2.1 112 = .ok (.iload_n 2, 1) ∧ 112 + 1 = 113 := ⟨by decide +kernel, rfl⟩
theorem aX12_paneOf_113 : decode mX12_paneOf.2.1 113 = .ok (.invokevirtual 80, 3) ∧ 113 + 3 = 116 := ⟨by decide +kernel, rfl⟩
theorem aX12_paneOf_116 : decode mX12_paneOf.2.1 116 = .ok (.ireturn, 1) := by decide +kernel
theorem S_X12_paneOf {E : EE} {d : Nat} {I : IH} {Q : QT} (x1 : Int32) (x2 : Int32) (h :
(Mt E d mX12_isPane [.ref (eb E + 115), .int x1] I (fun rv I1 => ∃ v2 : Int32, rv = some (.int v2) ∧
 ((v2 = 0 → Q (some (.int (-1))) I1) ∧
 (¬ v2 = 0 → (Mt E d mX12_in1 [.int x2, .int (nI 0), .int (nI 9)] I1 (fun rv I3 => ∃ v4 : Int32, rv = some (.int v4) ∧
 ((¬ v4 = 0 → ((x2 = (nI 5) → (Mt E d mX12_lightsOf [.ref (eb E + 115), .int x1] I3 (fun rv I5 => ∃ v6 : Int32, rv = some (.int v6) ∧
 Q (some (.int v6)) I5))) ∧
 ((x2 = (nI 6) → (Mt E d mX12_asksOf [.ref (eb E + 115), .int x1] I3 (fun rv I7 => ∃ v8 : Int32, rv = some (.int v8) ∧
 Q (some (.int v8)) I7))) ∧
 ((x2 = (nI 7) → (Mt E d mX12_get [.ref (eb E + 115), .int x1, .int (nI 0)] I3 (fun rv I9 => ∃ v10 : Int32, rv = some (.int v10) ∧
 (Mt E d mX12_get [.ref (eb E + 115), .int x1, .int (nI 1)] I9 (fun rv I11 => ∃ v12 : Int32, rv = some (.int v12) ∧
 (Mt E d mX12_sceneBy [.int v10, .int v12, .int (I11 116 0)] I11 (fun rv I13 => ∃ v14 : Int32, rv = some (.int v14) ∧
 Q (some (.int v14)) I13))))))) ∧
 ((x2 = (nI 8) → (Mt E d mX12_willOf [.ref (eb E + 115), .int x1] I3 (fun rv I15 => ∃ v16 : Int32, rv = some (.int v16) ∧
 Q (some (.int v16)) I15))) ∧
 ((x2 = (nI 9) → (Mt E d mX12_isOpen [.ref (eb E + 115), .int x1] I3 (fun rv I17 => ∃ v18 : Int32, rv = some (.int v18) ∧
 ((v18 = 0 → Q (some (.int (nI 0))) I17) ∧
 (¬ v18 = 0 → Q (some (.int (nI 1))) I17))))) ∧
 (¬ x2 = (nI 5) ∧ ¬ x2 = (nI 6) ∧ ¬ x2 = (nI 7) ∧ ¬ x2 = (nI 8) ∧ ¬ x2 = (nI 9) → (Mt E d mX12_get [.ref (eb E + 115), .int x1, .int x2] I3 (fun rv I19 => ∃ v20 : Int32, rv = some (.int v20) ∧
 Q (some (.int v20)) I19))))))))) ∧
 (v4 = 0 → Q (some (.int (-1))) I3))))))))) : Mt E (d + 1) mX12_paneOf [.ref (eb E + 115), .int x1, .int x2] I Q := by
  refine Mt_of [(0, .ref (eb E + 115)), (1, .int x1), (2, .int x2)] (by decide +kernel) (by simp [lg_sl, Value.category, mX12_paneOf]) rfl ?_
  refine J_aload_n 0 aX12_paneOf_0 rfl ?_
  refine J_iload_n 1 aX12_paneOf_1 rfl ?_
  refine J_callV [.int x1] [] aX12_paneOf_2 lkX12_219_X12 okX12_isPane sh115 rfl rfl rfl (Nat.le_of_ble_eq_true rfl) (Nat.le_refl _) (Mt_mono h (fun rv I1 h => ?_))
  obtain ⟨v2, rfl, h⟩ := h
  refine J_r1 ?_
  refine J_if_eq aX12_paneOf_5 (fun q => ?_) (fun q => ?_)
  · replace h := h.1 q
    refine J_iconst (-1) aX12_paneOf_18 (by decide +kernel) ?_
    exact J_iret aX12_paneOf_19 rfl h
  · replace h := h.2 q
    refine J_iload_n 2 aX12_paneOf_8 rfl ?_
    refine J_iconst (nI 0) aX12_paneOf_9 (by decide +kernel) ?_
    refine J_bipush (nI 9) aX12_paneOf_10 (by decide +kernel) ?_
    refine J_callS [.int x2, .int (nI 0), .int (nI 9)] [] aX12_paneOf_12 lkX12_68 okX12_in1 rfl rfl (Nat.le_of_ble_eq_true rfl) (Nat.le_refl _) (Mt_mono h (fun rv I3 h => ?_))
    obtain ⟨v4, rfl, h⟩ := h
    refine J_r1 ?_
    refine J_if_ne aX12_paneOf_15 (fun q => ?_) (fun q => ?_)
    · replace h := h.1 q
      refine J_iload_n 2 aX12_paneOf_20 rfl ?_
      by_cases q5 : x2 = (nI 5)
      · replace h := h.1 q5
        refine J_tswIn (nI 5) aX12_paneOf_21 (off := 35) (tgt := 56) (by decide +kernel) q5 ?_
        refine J_aload_n 0 aX12_paneOf_56 rfl ?_
        refine J_iload_n 1 aX12_paneOf_57 rfl ?_
        refine J_callV [.int x1] [] aX12_paneOf_58 lkX12_86_X12 okX12_lightsOf sh115 rfl rfl rfl (Nat.le_of_ble_eq_true rfl) (Nat.le_refl _) (Mt_mono h (fun rv I5 h => ?_))
        obtain ⟨v6, rfl, h⟩ := h
        refine J_r1 ?_
        exact J_iret aX12_paneOf_61 rfl h
      replace h := h.2
      by_cases q6 : x2 = (nI 6)
      · replace h := h.1 q6
        refine J_tswIn (nI 6) aX12_paneOf_21 (off := 41) (tgt := 62) (by decide +kernel) q6 ?_
        refine J_aload_n 0 aX12_paneOf_62 rfl ?_
        refine J_iload_n 1 aX12_paneOf_63 rfl ?_
        refine J_callV [.int x1] [] aX12_paneOf_64 lkX12_89_X12 okX12_asksOf sh115 rfl rfl rfl (Nat.le_of_ble_eq_true rfl) (Nat.le_refl _) (Mt_mono h (fun rv I7 h => ?_))
        obtain ⟨v8, rfl, h⟩ := h
        refine J_r1 ?_
        exact J_iret aX12_paneOf_67 rfl h
      replace h := h.2
      by_cases q7 : x2 = (nI 7)
      · replace h := h.1 q7
        refine J_tswIn (nI 7) aX12_paneOf_21 (off := 47) (tgt := 68) (by decide +kernel) q7 ?_
        refine J_aload_n 0 aX12_paneOf_68 rfl ?_
        refine J_iload_n 1 aX12_paneOf_69 rfl ?_
        refine J_iconst (nI 0) aX12_paneOf_70 (by decide +kernel) ?_
        refine J_callV [.int x1, .int (nI 0)] [] aX12_paneOf_71 lkX12_80_X12 okX12_get sh115 rfl rfl rfl (Nat.le_of_ble_eq_true rfl) (Nat.le_refl _) (Mt_mono h (fun rv I9 h => ?_))
        obtain ⟨v10, rfl, h⟩ := h
        refine J_r1 ?_
        refine J_aload_n 0 aX12_paneOf_74 rfl ?_
        refine J_iload_n 1 aX12_paneOf_75 rfl ?_
        refine J_iconst (nI 1) aX12_paneOf_76 (by decide +kernel) ?_
        refine J_callV [.int x1, .int (nI 1)] [.int v10] aX12_paneOf_77 lkX12_80_X12 okX12_get sh115 rfl rfl rfl (Nat.le_of_ble_eq_true rfl) (Nat.le_refl _) (Mt_mono h (fun rv I11 h => ?_))
        obtain ⟨v12, rfl, h⟩ := h
        refine J_r1 ?_
        refine J_aload_n 0 aX12_paneOf_80 rfl ?_
        refine J_getR aX12_paneOf_81 flX12_9 sh115 rfl ?_
        refine J_iconst (nI 0) aX12_paneOf_84 (by decide +kernel) ?_
        refine J_iaload 0 aX12_paneOf_85 sh116 rfl (by decide) (by decide) ?_
        refine J_callS [.int v10, .int v12, .int (I11 116 0)] [] aX12_paneOf_86 lkX12_96 okX12_sceneBy rfl rfl (Nat.le_of_ble_eq_true rfl) (Nat.le_refl _) (Mt_mono h (fun rv I13 h => ?_))
        obtain ⟨v14, rfl, h⟩ := h
        refine J_r1 ?_
        exact J_iret aX12_paneOf_89 rfl h
      replace h := h.2
      by_cases q8 : x2 = (nI 8)
      · replace h := h.1 q8
        refine J_tswIn (nI 8) aX12_paneOf_21 (off := 69) (tgt := 90) (by decide +kernel) q8 ?_
        refine J_aload_n 0 aX12_paneOf_90 rfl ?_
        refine J_iload_n 1 aX12_paneOf_91 rfl ?_
        refine J_callV [.int x1] [] aX12_paneOf_92 lkX12_191_X12 okX12_willOf sh115 rfl rfl rfl (Nat.le_of_ble_eq_true rfl) (Nat.le_refl _) (Mt_mono h (fun rv I15 h => ?_))
        obtain ⟨v16, rfl, h⟩ := h
        refine J_r1 ?_
        exact J_iret aX12_paneOf_95 rfl h
      replace h := h.2
      by_cases q9 : x2 = (nI 9)
      · replace h := h.1 q9
        refine J_tswIn (nI 9) aX12_paneOf_21 (off := 75) (tgt := 96) (by decide +kernel) q9 ?_
        refine J_aload_n 0 aX12_paneOf_96 rfl ?_
        refine J_iload_n 1 aX12_paneOf_97 rfl ?_
        refine J_callV [.int x1] [] aX12_paneOf_98 lkX12_92_X12 okX12_isOpen sh115 rfl rfl rfl (Nat.le_of_ble_eq_true rfl) (Nat.le_refl _) (Mt_mono h (fun rv I17 h => ?_))
        obtain ⟨v18, rfl, h⟩ := h
        refine J_r1 ?_
        refine J_if_eq aX12_paneOf_101 (fun q => ?_) (fun q => ?_)
        · replace h := h.1 q
          refine J_iconst (nI 0) aX12_paneOf_108 (by decide +kernel) ?_
          exact J_iret aX12_paneOf_109 rfl h
        · replace h := h.2 q
          refine J_iconst (nI 1) aX12_paneOf_104 (by decide +kernel) ?_
          refine J_goto aX12_paneOf_105 ?_
          exact J_iret aX12_paneOf_109 rfl h
      replace h := h.2
      replace h := h ⟨q5, q6, q7, q8, q9⟩
      refine J_tswOut aX12_paneOf_21 (tgt := 110) (by decide) (tsw_out (fun k h1 h2 hk => by
        have hh : k = 5 ∨ k = 6 ∨ k = 7 ∨ k = 8 ∨ k = 9 := by omega
        rcases hh with rfl | rfl | rfl | rfl | rfl
        · exact q5 (Int32.toInt_inj.mp (hk.trans (by decide +kernel)))
        · exact q6 (Int32.toInt_inj.mp (hk.trans (by decide +kernel)))
        · exact q7 (Int32.toInt_inj.mp (hk.trans (by decide +kernel)))
        · exact q8 (Int32.toInt_inj.mp (hk.trans (by decide +kernel)))
        · exact q9 (Int32.toInt_inj.mp (hk.trans (by decide +kernel)))
        )) ?_
      refine J_aload_n 0 aX12_paneOf_110 rfl ?_
      refine J_iload_n 1 aX12_paneOf_111 rfl ?_
      refine J_iload_n 2 aX12_paneOf_112 rfl ?_
      refine J_callV [.int x1, .int x2] [] aX12_paneOf_113 lkX12_80_X12 okX12_get sh115 rfl rfl rfl (Nat.le_of_ble_eq_true rfl) (Nat.le_refl _) (Mt_mono h (fun rv I19 h => ?_))
      obtain ⟨v20, rfl, h⟩ := h
      refine J_r1 ?_
      exact J_iret aX12_paneOf_116 rfl h
    · replace h := h.2 q
      refine J_iconst (-1) aX12_paneOf_18 (by decide +kernel) ?_
      exact J_iret aX12_paneOf_19 rfl h
theorem aX12_change_0 : decode mX12_change.2.1 0 = .ok (.iload_n 2, 1) ∧ 0 + 1 = 1 := ⟨by decide +kernel, rfl⟩
theorem aX12_change_1 : decode mX12_change.2.1 1 = .ok (.iconst 1, 1) ∧ 1 + 1 = 2 := ⟨by decide +kernel, rfl⟩
theorem aX12_change_2 : decode mX12_change.2.1 2 = .ok (.if_icmp .ne 9, 3) ∧ ((2 : Nat) : Int) + 9 = ((11 : Nat) : Int) ∧ 2 + 3 = 5 := ⟨by decide +kernel, by decide, rfl⟩
theorem aX12_change_5 : decode mX12_change.2.1 5 = .ok (.sipush 255, 3) ∧ 5 + 3 = 8 := ⟨by decide +kernel, rfl⟩
theorem aX12_change_8 : decode mX12_change.2.1 8 = .ok (.goto 23, 3) ∧ ((8 : Nat) : Int) + 23 = ((31 : Nat) : Int) := ⟨by decide +kernel, by decide⟩
theorem aX12_change_11 : decode mX12_change.2.1 11 = .ok (.iload_n 2, 1) ∧ 11 + 1 = 12 := ⟨by decide +kernel, rfl⟩
theorem aX12_change_12 : decode mX12_change.2.1 12 = .ok (.iconst 3, 1) ∧ 12 + 1 = 13 := ⟨by decide +kernel, rfl⟩
theorem aX12_change_13 : decode mX12_change.2.1 13 = .ok (.if_icmp .ne 7, 3) ∧ ((13 : Nat) : Int) + 7 = ((20 : Nat) : Int) ∧ 13 + 3 = 16 := ⟨by decide +kernel, by decide, rfl⟩
theorem aX12_change_16 : decode mX12_change.2.1 16 = .ok (.iconst 5, 1) ∧ 16 + 1 = 17 := ⟨by decide +kernel, rfl⟩
theorem aX12_change_17 : decode mX12_change.2.1 17 = .ok (.goto 14, 3) ∧ ((17 : Nat) : Int) + 14 = ((31 : Nat) : Int) := ⟨by decide +kernel, by decide⟩
theorem aX12_change_20 : decode mX12_change.2.1 20 = .ok (.iload_n 2, 1) ∧ 20 + 1 = 21 := ⟨by decide +kernel, rfl⟩
theorem aX12_change_21 : decode mX12_change.2.1 21 = .ok (.iconst 4, 1) ∧ 21 + 1 = 22 := ⟨by decide +kernel, rfl⟩
theorem aX12_change_22 : decode mX12_change.2.1 22 = .ok (.if_icmp .ne 7, 3) ∧ ((22 : Nat) : Int) + 7 = ((29 : Nat) : Int) ∧ 22 + 3 = 25 := ⟨by decide +kernel, by decide, rfl⟩
theorem aX12_change_25 : decode mX12_change.2.1 25 = .ok (.iconst 1, 1) ∧ 25 + 1 = 26 := ⟨by decide +kernel, rfl⟩
theorem aX12_change_26 : decode mX12_change.2.1 26 = .ok (.goto 5, 3) ∧ ((26 : Nat) : Int) + 5 = ((31 : Nat) : Int) := ⟨by decide +kernel, by decide⟩
theorem aX12_change_29 : decode mX12_change.2.1 29 = .ok (.bipush 9, 2) ∧ 29 + 2 = 31 := ⟨by decide +kernel, rfl⟩
theorem aX12_change_31 : decode mX12_change.2.1 31 = .ok (.istore 4, 2) ∧ 31 + 2 = 33 := ⟨by decide +kernel, rfl⟩
theorem aX12_change_33 : decode mX12_change.2.1 33 = .ok (.aload_n 0, 1) ∧ 33 + 1 = 34 := ⟨by decide +kernel, rfl⟩
theorem aX12_change_34 : decode mX12_change.2.1 34 = .ok (.iload_n 1, 1) ∧ 34 + 1 = 35 := ⟨by decide +kernel, rfl⟩
theorem aX12_change_35 : decode mX12_change.2.1 35 = .ok (.invokevirtual 219, 3) ∧ 35 + 3 = 38 := ⟨by decide +kernel, rfl⟩
theorem aX12_change_38 : decode mX12_change.2.1 38 = .ok (.ifCond .eq 39, 3) ∧ ((38 : Nat) : Int) + 39 = ((77 : Nat) : Int) ∧ 38 + 3 = 41 := ⟨by decide +kernel, by decide, rfl⟩
theorem aX12_change_41 : decode mX12_change.2.1 41 = .ok (.iload_n 2, 1) ∧ 41 + 1 = 42 := ⟨by decide +kernel, rfl⟩
theorem aX12_change_42 : decode mX12_change.2.1 42 = .ok (.iconst 1, 1) ∧ 42 + 1 = 43 := ⟨by decide +kernel, rfl⟩
theorem aX12_change_43 : decode mX12_change.2.1 43 = .ok (.iconst 4, 1) ∧ 43 + 1 = 44 := ⟨by decide +kernel, rfl⟩
theorem aX12_change_44 : decode mX12_change.2.1 44 = .ok (.invokestatic 68, 3) ∧ 44 + 3 = 47 := ⟨by decide +kernel, rfl⟩
theorem aX12_change_47 : decode mX12_change.2.1 47 = .ok (.ifCond .eq 30, 3) ∧ ((47 : Nat) : Int) + 30 = ((77 : Nat) : Int) ∧ 47 + 3 = 50 := ⟨by decide +kernel, by decide, rfl⟩
theorem aX12_change_50 : decode mX12_change.2.1 50 = .ok (.iload_n 3, 1) ∧ 50 + 1 = 51 := ⟨by decide +kernel, rfl⟩
theorem aX12_change_51 : decode mX12_change.2.1 51 = .ok (.iconst 0, 1) ∧ 51 + 1 = 52 := ⟨by decide +kernel, rfl⟩
theorem aX12_change_52 : decode mX12_change.2.1 52 = .ok (.iload 4, 2) ∧ 52 + 2 = 54 := ⟨by decide +kernel, rfl⟩
theorem aX12_change_54 : decode mX12_change.2.1 54 = .ok (.invokestatic 68, 3) ∧ 54 + 3 = 57 := ⟨by decide +kernel, rfl⟩
theorem aX12_change_57 : decode mX12_change.2.1 57 = .ok (.ifCond .eq 20, 3) ∧ ((57 : Nat) : Int) + 20 = ((77 : Nat) : Int) ∧ 57 + 3 = 60 := ⟨by decide +kernel, by decide, rfl⟩
theorem aX12_change_60 : decode mX12_change.2.1 60 = .ok (.aload_n 0, 1) ∧ 60 + 1 = 61 := ⟨by decide +kernel, rfl⟩
theorem aX12_change_61 : decode mX12_change.2.1 61 = .ok (.bipush 38, 2) ∧ 61 + 2 = 63 := ⟨by decide +kernel, rfl⟩
theorem aX12_change_63 : decode mX12_change.2.1 63 = .ok (.bipush 6, 2) ∧ 63 + 2 = 65 := ⟨by decide +kernel, rfl⟩
theorem aX12_change_65 : decode mX12_change.2.1 65 = .ok (.iload_n 1, 1) ∧ 65 + 1 = 66 := ⟨by decide +kernel, rfl⟩
theorem aX12_change_66 : decode mX12_change.2.1 66 = .ok (.imul, 1) ∧ 66 + 1 = 67 := ⟨by decide +kernel, rfl⟩
theorem aX12_change_67 : decode mX12_change.2.1 67 = .ok (.iadd, 1) ∧ 67 + 1 = 68 := ⟨by decide +kernel, rfl⟩
theorem aX12_change_68 : decode mX12_change.2.1 68 = .ok (.iload_n 2, 1) ∧ 68 + 1 = 69 := ⟨by decide +kernel, rfl⟩
theorem aX12_change_69 : decode mX12_change.2.1 69 = .ok (.iadd, 1) ∧ 69 + 1 = 70 := ⟨by decide +kernel, rfl⟩
theorem aX12_change_70 : decode mX12_change.2.1 70 = .ok (.iload_n 3, 1) ∧ 70 + 1 = 71 := ⟨by decide +kernel, rfl⟩
theorem aX12_change_71 : decode mX12_change.2.1 71 = .ok (.invokevirtual 222, 3) ∧ 71 + 3 = 74 := ⟨by decide +kernel, rfl⟩
theorem aX12_change_74 : decode mX12_change.2.1 74 = .ok (.goto 4, 3) ∧ ((74 : Nat) : Int) + 4 = ((78 : Nat) : Int) := ⟨by decide +kernel, by decide⟩
theorem aX12_change_77 : decode mX12_change.2.1 77 = .ok (.iconst (-1), 1) ∧ 77 + 1 = 78 := ⟨by decide +kernel, rfl⟩
theorem aX12_change_78 : decode mX12_change.2.1 78 = .ok (.ireturn, 1) := by decide +kernel
theorem S_X12_change {E : EE} {d : Nat} {I : IH} {Q : QT} (x1 : Int32) (x2 : Int32) (x3 : Int32) (h :
((¬ x2 = (nI 1) → ((¬ x2 = (nI 3) → ((¬ x2 = (nI 4) → J E (d + 1) mX12_change 31 [(0, .ref (eb E + 115)), (1, .int x1), (2, .int x2), (3, .int x3)] [.int (nI 9)] I Q) ∧
 (x2 = (nI 4) → J E (d + 1) mX12_change 31 [(0, .ref (eb E + 115)), (1, .int x1), (2, .int x2), (3, .int x3)] [.int (nI 1)] I Q))) ∧
 (x2 = (nI 3) → J E (d + 1) mX12_change 31 [(0, .ref (eb E + 115)), (1, .int x1), (2, .int x2), (3, .int x3)] [.int (nI 5)] I Q))) ∧
 (x2 = (nI 1) → J E (d + 1) mX12_change 31 [(0, .ref (eb E + 115)), (1, .int x1), (2, .int x2), (3, .int x3)] [.int (nI 255)] I Q))) : Mt E (d + 1) mX12_change [.ref (eb E + 115), .int x1, .int x2, .int x3] I Q := by
  refine Mt_of [(0, .ref (eb E + 115)), (1, .int x1), (2, .int x2), (3, .int x3)] (by decide +kernel) (by simp [lg_sl, Value.category, mX12_change]) rfl ?_
  refine J_iload_n 2 aX12_change_0 rfl ?_
  refine J_iconst (nI 1) aX12_change_1 (by decide +kernel) ?_
  refine J_icmp_ne aX12_change_2 (fun q => ?_) (fun q => ?_)
  · replace h := h.1 q
    refine J_iload_n 2 aX12_change_11 rfl ?_
    refine J_iconst (nI 3) aX12_change_12 (by decide +kernel) ?_
    refine J_icmp_ne aX12_change_13 (fun q => ?_) (fun q => ?_)
    · replace h := h.1 q
      refine J_iload_n 2 aX12_change_20 rfl ?_
      refine J_iconst (nI 4) aX12_change_21 (by decide +kernel) ?_
      refine J_icmp_ne aX12_change_22 (fun q => ?_) (fun q => ?_)
      · replace h := h.1 q
        refine J_bipush (nI 9) aX12_change_29 (by decide +kernel) ?_
        refine J_pick [0, 1, 2, 3] rfl ?_
        exact h
      · replace h := h.2 q
        refine J_iconst (nI 1) aX12_change_25 (by decide +kernel) ?_
        refine J_goto aX12_change_26 ?_
        refine J_pick [0, 1, 2, 3] rfl ?_
        exact h
    · replace h := h.2 q
      refine J_iconst (nI 5) aX12_change_16 (by decide +kernel) ?_
      refine J_goto aX12_change_17 ?_
      refine J_pick [0, 1, 2, 3] rfl ?_
      exact h
  · replace h := h.2 q
    refine J_sipush (nI 255) aX12_change_5 (by decide +kernel) ?_
    refine J_goto aX12_change_8 ?_
    refine J_pick [0, 1, 2, 3] rfl ?_
    exact h
theorem S_X12_change_31 {E : EE} {d : Nat} {I : IH} {Q : QT} (x1 : Int32) (x2 : Int32) (x3 : Int32) (t0 : Int32) (h :
(Mt E d mX12_isPane [.ref (eb E + 115), .int x1] I (fun rv I1 => ∃ v2 : Int32, rv = some (.int v2) ∧
 ((v2 = 0 → Q (some (.int (-1))) I1) ∧
 (¬ v2 = 0 → (Mt E d mX12_in1 [.int x2, .int (nI 1), .int (nI 4)] I1 (fun rv I3 => ∃ v4 : Int32, rv = some (.int v4) ∧
 ((v4 = 0 → Q (some (.int (-1))) I3) ∧
 (¬ v4 = 0 → (Mt E d mX12_in1 [.int x3, .int (nI 0), .int t0] I3 (fun rv I5 => ∃ v6 : Int32, rv = some (.int v6) ∧
 ((v6 = 0 → Q (some (.int (-1))) I5) ∧
 (¬ v6 = 0 → (Mt E d mX12_becomes [.ref (eb E + 115), .int (((nI 38) + ((nI 6) * x1)) + x2), .int x3] I5 (fun rv I7 => ∃ v8 : Int32, rv = some (.int v8) ∧
 Q (some (.int v8)) I7))))))))))))))) : J E (d + 1) mX12_change 31 [(0, .ref (eb E + 115)), (1, .int x1), (2, .int x2), (3, .int x3)] [.int t0] I Q := by
  refine J_istore [(4, .int t0), (0, .ref (eb E + 115)), (1, .int x1), (2, .int x2), (3, .int x3)] aX12_change_31 (by decide) rfl ?_
  refine J_aload_n 1 aX12_change_33 rfl ?_
  refine J_iload_n 2 aX12_change_34 rfl ?_
  refine J_callV [.int x1] [] aX12_change_35 lkX12_219_X12 okX12_isPane sh115 rfl rfl rfl (Nat.le_of_ble_eq_true rfl) (Nat.le_refl _) (Mt_mono h (fun rv I1 h => ?_))
  obtain ⟨v2, rfl, h⟩ := h
  refine J_r1 ?_
  refine J_if_eq aX12_change_38 (fun q => ?_) (fun q => ?_)
  · replace h := h.1 q
    refine J_iconst (-1) aX12_change_77 (by decide +kernel) ?_
    exact J_iret aX12_change_78 rfl h
  · replace h := h.2 q
    refine J_iload_n 3 aX12_change_41 rfl ?_
    refine J_iconst (nI 1) aX12_change_42 (by decide +kernel) ?_
    refine J_iconst (nI 4) aX12_change_43 (by decide +kernel) ?_
    refine J_callS [.int x2, .int (nI 1), .int (nI 4)] [] aX12_change_44 lkX12_68 okX12_in1 rfl rfl (Nat.le_of_ble_eq_true rfl) (Nat.le_refl _) (Mt_mono h (fun rv I3 h => ?_))
    obtain ⟨v4, rfl, h⟩ := h
    refine J_r1 ?_
    refine J_if_eq aX12_change_47 (fun q => ?_) (fun q => ?_)
    · replace h := h.1 q
      refine J_iconst (-1) aX12_change_77 (by decide +kernel) ?_
      exact J_iret aX12_change_78 rfl h
    · replace h := h.2 q
      refine J_iload_n 4 aX12_change_50 rfl ?_
      refine J_iconst (nI 0) aX12_change_51 (by decide +kernel) ?_
      refine J_iload 0 aX12_change_52 rfl ?_
      refine J_callS [.int x3, .int (nI 0), .int t0] [] aX12_change_54 lkX12_68 okX12_in1 rfl rfl (Nat.le_of_ble_eq_true rfl) (Nat.le_refl _) (Mt_mono h (fun rv I5 h => ?_))
      obtain ⟨v6, rfl, h⟩ := h
      refine J_r1 ?_
      refine J_if_eq aX12_change_57 (fun q => ?_) (fun q => ?_)
      · replace h := h.1 q
        refine J_iconst (-1) aX12_change_77 (by decide +kernel) ?_
        exact J_iret aX12_change_78 rfl h
      · replace h := h.2 q
        refine J_aload_n 1 aX12_change_60 rfl ?_
        refine J_bipush (nI 38) aX12_change_61 (by decide +kernel) ?_
        refine J_bipush (nI 6) aX12_change_63 (by decide +kernel) ?_
        refine J_iload_n 2 aX12_change_65 rfl ?_
        refine J_imul aX12_change_66 ?_
        refine J_iadd aX12_change_67 ?_
        refine J_iload_n 3 aX12_change_68 rfl ?_
        refine J_iadd aX12_change_69 ?_
        refine J_iload_n 4 aX12_change_70 rfl ?_
        refine J_callV [.int (((nI 38) + ((nI 6) * x1)) + x2), .int x3] [] aX12_change_71 lkX12_222_X12 okX12_becomes sh115 rfl rfl rfl (Nat.le_of_ble_eq_true rfl) (Nat.le_refl _) (Mt_mono h (fun rv I7 h => ?_))
        obtain ⟨v8, rfl, h⟩ := h
        refine J_r1 ?_
        refine J_goto aX12_change_74 ?_
        exact J_iret aX12_change_78 rfl h
theorem aX12_remake_0 : decode mX12_remake.2.1 0 = .ok (.aload_n 0, 1) ∧ 0 + 1 = 1 := ⟨by decide +kernel, rfl⟩
theorem aX12_remake_1 : decode mX12_remake.2.1 1 = .ok (.iload_n 1, 1) ∧ 1 + 1 = 2 := ⟨by decide +kernel, rfl⟩
theorem aX12_remake_2 : decode mX12_remake.2.1 2 = .ok (.invokevirtual 219, 3) ∧ 2 + 3 = 5 := ⟨by decide +kernel, rfl⟩
theorem aX12_remake_5 : decode mX12_remake.2.1 5 = .ok (.ifCond .eq 27, 3) ∧ ((5 : Nat) : Int) + 27 = ((32 : Nat) : Int) ∧ 5 + 3 = 8 := ⟨by decide +kernel, by decide, rfl⟩
theorem aX12_remake_8 : decode mX12_remake.2.1 8 = .ok (.iload_n 2, 1) ∧ 8 + 1 = 9 := ⟨by decide +kernel, rfl⟩
theorem aX12_remake_9 : decode mX12_remake.2.1 9 = .ok (.iconst 1, 1) ∧ 9 + 1 = 10 := ⟨by decide +kernel, rfl⟩
theorem aX12_remake_10 : decode mX12_remake.2.1 10 = .ok (.iconst 5, 1) ∧ 10 + 1 = 11 := ⟨by decide +kernel, rfl⟩
theorem aX12_remake_11 : decode mX12_remake.2.1 11 = .ok (.invokestatic 68, 3) ∧ 11 + 3 = 14 := ⟨by decide +kernel, rfl⟩
theorem aX12_remake_14 : decode mX12_remake.2.1 14 = .ok (.ifCond .eq 18, 3) ∧ ((14 : Nat) : Int) + 18 = ((32 : Nat) : Int) ∧ 14 + 3 = 17 := ⟨by decide +kernel, by decide, rfl⟩
theorem aX12_remake_17 : decode mX12_remake.2.1 17 = .ok (.aload_n 0, 1) ∧ 17 + 1 = 18 := ⟨by decide +kernel, rfl⟩
theorem aX12_remake_18 : decode mX12_remake.2.1 18 = .ok (.bipush 38, 2) ∧ 18 + 2 = 20 := ⟨by decide +kernel, rfl⟩
theorem aX12_remake_20 : decode mX12_remake.2.1 20 = .ok (.bipush 6, 2) ∧ 20 + 2 = 22 := ⟨by decide +kernel, rfl⟩
theorem aX12_remake_22 : decode mX12_remake.2.1 22 = .ok (.iload_n 1, 1) ∧ 22 + 1 = 23 := ⟨by decide +kernel, rfl⟩
theorem aX12_remake_23 : decode mX12_remake.2.1 23 = .ok (.imul, 1) ∧ 23 + 1 = 24 := ⟨by decide +kernel, rfl⟩
theorem aX12_remake_24 : decode mX12_remake.2.1 24 = .ok (.iadd, 1) ∧ 24 + 1 = 25 := ⟨by decide +kernel, rfl⟩
theorem aX12_remake_25 : decode mX12_remake.2.1 25 = .ok (.iload_n 2, 1) ∧ 25 + 1 = 26 := ⟨by decide +kernel, rfl⟩
theorem aX12_remake_26 : decode mX12_remake.2.1 26 = .ok (.invokevirtual 222, 3) ∧ 26 + 3 = 29 := ⟨by decide +kernel, rfl⟩
theorem aX12_remake_29 : decode mX12_remake.2.1 29 = .ok (.goto 4, 3) ∧ ((29 : Nat) : Int) + 4 = ((33 : Nat) : Int) := ⟨by decide +kernel, by decide⟩
theorem aX12_remake_32 : decode mX12_remake.2.1 32 = .ok (.iconst (-1), 1) ∧ 32 + 1 = 33 := ⟨by decide +kernel, rfl⟩
theorem aX12_remake_33 : decode mX12_remake.2.1 33 = .ok (.ireturn, 1) := by decide +kernel
theorem S_X12_remake {E : EE} {d : Nat} {I : IH} {Q : QT} (x1 : Int32) (x2 : Int32) (h :
(Mt E d mX12_isPane [.ref (eb E + 115), .int x1] I (fun rv I1 => ∃ v2 : Int32, rv = some (.int v2) ∧
 ((v2 = 0 → Q (some (.int (-1))) I1) ∧
 (¬ v2 = 0 → (Mt E d mX12_in1 [.int x2, .int (nI 1), .int (nI 5)] I1 (fun rv I3 => ∃ v4 : Int32, rv = some (.int v4) ∧
 ((v4 = 0 → Q (some (.int (-1))) I3) ∧
 (¬ v4 = 0 → (Mt E d mX12_becomes [.ref (eb E + 115), .int ((nI 38) + ((nI 6) * x1)), .int x2] I3 (fun rv I5 => ∃ v6 : Int32, rv = some (.int v6) ∧
 Q (some (.int v6)) I5))))))))))) : Mt E (d + 1) mX12_remake [.ref (eb E + 115), .int x1, .int x2] I Q := by
  refine Mt_of [(0, .ref (eb E + 115)), (1, .int x1), (2, .int x2)] (by decide +kernel) (by simp [lg_sl, Value.category, mX12_remake]) rfl ?_
  refine J_aload_n 0 aX12_remake_0 rfl ?_
  refine J_iload_n 1 aX12_remake_1 rfl ?_
  refine J_callV [.int x1] [] aX12_remake_2 lkX12_219_X12 okX12_isPane sh115 rfl rfl rfl (Nat.le_of_ble_eq_true rfl) (Nat.le_refl _) (Mt_mono h (fun rv I1 h => ?_))
  obtain ⟨v2, rfl, h⟩ := h
  refine J_r1 ?_
  refine J_if_eq aX12_remake_5 (fun q => ?_) (fun q => ?_)
  · replace h := h.1 q
    refine J_iconst (-1) aX12_remake_32 (by decide +kernel) ?_
    exact J_iret aX12_remake_33 rfl h
  · replace h := h.2 q
    refine J_iload_n 2 aX12_remake_8 rfl ?_
    refine J_iconst (nI 1) aX12_remake_9 (by decide +kernel) ?_
    refine J_iconst (nI 5) aX12_remake_10 (by decide +kernel) ?_
    refine J_callS [.int x2, .int (nI 1), .int (nI 5)] [] aX12_remake_11 lkX12_68 okX12_in1 rfl rfl (Nat.le_of_ble_eq_true rfl) (Nat.le_refl _) (Mt_mono h (fun rv I3 h => ?_))
    obtain ⟨v4, rfl, h⟩ := h
    refine J_r1 ?_
    refine J_if_eq aX12_remake_14 (fun q => ?_) (fun q => ?_)
    · replace h := h.1 q
      refine J_iconst (-1) aX12_remake_32 (by decide +kernel) ?_
      exact J_iret aX12_remake_33 rfl h
    · replace h := h.2 q
      refine J_aload_n 0 aX12_remake_17 rfl ?_
      refine J_bipush (nI 38) aX12_remake_18 (by decide +kernel) ?_
      refine J_bipush (nI 6) aX12_remake_20 (by decide +kernel) ?_
      refine J_iload_n 1 aX12_remake_22 rfl ?_
      refine J_imul aX12_remake_23 ?_
      refine J_iadd aX12_remake_24 ?_
      refine J_iload_n 2 aX12_remake_25 rfl ?_
      refine J_callV [.int ((nI 38) + ((nI 6) * x1)), .int x2] [] aX12_remake_26 lkX12_222_X12 okX12_becomes sh115 rfl rfl rfl (Nat.le_of_ble_eq_true rfl) (Nat.le_refl _) (Mt_mono h (fun rv I5 h => ?_))
      obtain ⟨v6, rfl, h⟩ := h
      refine J_r1 ?_
      refine J_goto aX12_remake_29 ?_
      exact J_iret aX12_remake_33 rfl h
theorem aX12_news_0 : decode mX12_news.2.1 0 = .ok (.iload_n 1, 1) ∧ 0 + 1 = 1 := ⟨by decide +kernel, rfl⟩
theorem aX12_news_1 : decode mX12_news.2.1 1 = .ok (.iconst 0, 1) ∧ 1 + 1 = 2 := ⟨by decide +kernel, rfl⟩
theorem aX12_news_2 : decode mX12_news.2.1 2 = .ok (.bipush 15, 2) ∧ 2 + 2 = 4 := ⟨by decide +kernel, rfl⟩
theorem aX12_news_4 : decode mX12_news.2.1 4 = .ok (.invokestatic 68, 3) ∧ 4 + 3 = 7 := ⟨by decide +kernel, rfl⟩
theorem aX12_news_7 : decode mX12_news.2.1 7 = .ok (.ifCond .eq 25, 3) ∧ ((7 : Nat) : Int) + 25 = ((32 : Nat) : Int) ∧ 7 + 3 = 10 := ⟨by decide +kernel, by decide, rfl⟩
theorem aX12_news_10 : decode mX12_news.2.1 10 = .ok (.iload_n 2, 1) ∧ 10 + 1 = 11 := ⟨by decide +kernel, rfl⟩
theorem aX12_news_11 : decode mX12_news.2.1 11 = .ok (.iconst 0, 1) ∧ 11 + 1 = 12 := ⟨by decide +kernel, rfl⟩
theorem aX12_news_12 : decode mX12_news.2.1 12 = .ok (.bipush 15, 2) ∧ 12 + 2 = 14 := ⟨by decide +kernel, rfl⟩
theorem aX12_news_14 : decode mX12_news.2.1 14 = .ok (.invokestatic 68, 3) ∧ 14 + 3 = 17 := ⟨by decide +kernel, rfl⟩
theorem aX12_news_17 : decode mX12_news.2.1 17 = .ok (.ifCond .eq 15, 3) ∧ ((17 : Nat) : Int) + 15 = ((32 : Nat) : Int) ∧ 17 + 3 = 20 := ⟨by decide +kernel, by decide, rfl⟩
theorem aX12_news_20 : decode mX12_news.2.1 20 = .ok (.aload_n 0, 1) ∧ 20 + 1 = 21 := ⟨by decide +kernel, rfl⟩
theorem aX12_news_21 : decode mX12_news.2.1 21 = .ok (.bipush 10, 2) ∧ 21 + 2 = 23 := ⟨by decide +kernel, rfl⟩
theorem aX12_news_23 : decode mX12_news.2.1 23 = .ok (.iload_n 1, 1) ∧ 23 + 1 = 24 := ⟨by decide +kernel, rfl⟩
theorem aX12_news_24 : decode mX12_news.2.1 24 = .ok (.iadd, 1) ∧ 24 + 1 = 25 := ⟨by decide +kernel, rfl⟩
theorem aX12_news_25 : decode mX12_news.2.1 25 = .ok (.iload_n 2, 1) ∧ 25 + 1 = 26 := ⟨by decide +kernel, rfl⟩
theorem aX12_news_26 : decode mX12_news.2.1 26 = .ok (.invokevirtual 222, 3) ∧ 26 + 3 = 29 := ⟨by decide +kernel, rfl⟩
theorem aX12_news_29 : decode mX12_news.2.1 29 = .ok (.goto 4, 3) ∧ ((29 : Nat) : Int) + 4 = ((33 : Nat) : Int) := ⟨by decide +kernel, by decide⟩
theorem aX12_news_32 : decode mX12_news.2.1 32 = .ok (.iconst (-1), 1) ∧ 32 + 1 = 33 := ⟨by decide +kernel, rfl⟩
theorem aX12_news_33 : decode mX12_news.2.1 33 = .ok (.ireturn, 1) := by decide +kernel
theorem S_X12_news {E : EE} {d : Nat} {I : IH} {Q : QT} (x1 : Int32) (x2 : Int32) (h :
(Mt E d mX12_in1 [.int x1, .int (nI 0), .int (nI 15)] I (fun rv I1 => ∃ v2 : Int32, rv = some (.int v2) ∧
 ((v2 = 0 → Q (some (.int (-1))) I1) ∧
 (¬ v2 = 0 → (Mt E d mX12_in1 [.int x2, .int (nI 0), .int (nI 15)] I1 (fun rv I3 => ∃ v4 : Int32, rv = some (.int v4) ∧
 ((v4 = 0 → Q (some (.int (-1))) I3) ∧
 (¬ v4 = 0 → (Mt E d mX12_becomes [.ref (eb E + 115), .int ((nI 10) + x1), .int x2] I3 (fun rv I5 => ∃ v6 : Int32, rv = some (.int v6) ∧
 Q (some (.int v6)) I5))))))))))) : Mt E (d + 1) mX12_news [.ref (eb E + 115), .int x1, .int x2] I Q := by
  refine Mt_of [(0, .ref (eb E + 115)), (1, .int x1), (2, .int x2)] (by decide +kernel) (by simp [lg_sl, Value.category, mX12_news]) rfl ?_
  refine J_iload_n 1 aX12_news_0 rfl ?_
  refine J_iconst (nI 0) aX12_news_1 (by decide +kernel) ?_
  refine J_bipush (nI 15) aX12_news_2 (by decide +kernel) ?_
  refine J_callS [.int x1, .int (nI 0), .int (nI 15)] [] aX12_news_4 lkX12_68 okX12_in1 rfl rfl (Nat.le_of_ble_eq_true rfl) (Nat.le_refl _) (Mt_mono h (fun rv I1 h => ?_))
  obtain ⟨v2, rfl, h⟩ := h
  refine J_r1 ?_
  refine J_if_eq aX12_news_7 (fun q => ?_) (fun q => ?_)
  · replace h := h.1 q
    refine J_iconst (-1) aX12_news_32 (by decide +kernel) ?_
    exact J_iret aX12_news_33 rfl h
  · replace h := h.2 q
    refine J_iload_n 2 aX12_news_10 rfl ?_
    refine J_iconst (nI 0) aX12_news_11 (by decide +kernel) ?_
    refine J_bipush (nI 15) aX12_news_12 (by decide +kernel) ?_
    refine J_callS [.int x2, .int (nI 0), .int (nI 15)] [] aX12_news_14 lkX12_68 okX12_in1 rfl rfl (Nat.le_of_ble_eq_true rfl) (Nat.le_refl _) (Mt_mono h (fun rv I3 h => ?_))
    obtain ⟨v4, rfl, h⟩ := h
    refine J_r1 ?_
    refine J_if_eq aX12_news_17 (fun q => ?_) (fun q => ?_)
    · replace h := h.1 q
      refine J_iconst (-1) aX12_news_32 (by decide +kernel) ?_
      exact J_iret aX12_news_33 rfl h
    · replace h := h.2 q
      refine J_aload_n 0 aX12_news_20 rfl ?_
      refine J_bipush (nI 10) aX12_news_21 (by decide +kernel) ?_
      refine J_iload_n 1 aX12_news_23 rfl ?_
      refine J_iadd aX12_news_24 ?_
      refine J_iload_n 2 aX12_news_25 rfl ?_
      refine J_callV [.int ((nI 10) + x1), .int x2] [] aX12_news_26 lkX12_222_X12 okX12_becomes sh115 rfl rfl rfl (Nat.le_of_ble_eq_true rfl) (Nat.le_refl _) (Mt_mono h (fun rv I5 h => ?_))
      obtain ⟨v6, rfl, h⟩ := h
      refine J_r1 ?_
      refine J_goto aX12_news_29 ?_
      exact J_iret aX12_news_33 rfl h
theorem aX12_ward_0 : decode mX12_ward.2.1 0 = .ok (.iload_n 1, 1) ∧ 0 + 1 = 1 := ⟨by decide +kernel, rfl⟩
theorem aX12_ward_1 : decode mX12_ward.2.1 1 = .ok (.invokestatic 216, 3) ∧ 1 + 3 = 4 := ⟨by decide +kernel, rfl⟩
theorem aX12_ward_4 : decode mX12_ward.2.1 4 = .ok (.ifCond .eq 40, 3) ∧ ((4 : Nat) : Int) + 40 = ((44 : Nat) : Int) ∧ 4 + 3 = 7 := ⟨by decide +kernel, by decide, rfl⟩
theorem aX12_ward_7 : decode mX12_ward.2.1 7 = .ok (.iload_n 2, 1) ∧ 7 + 1 = 8 := ⟨by decide +kernel, rfl⟩
theorem aX12_ward_8 : decode mX12_ward.2.1 8 = .ok (.iconst 0, 1) ∧ 8 + 1 = 9 := ⟨by decide +kernel, rfl⟩
theorem aX12_ward_9 : decode mX12_ward.2.1 9 = .ok (.iconst 1, 1) ∧ 9 + 1 = 10 := ⟨by decide +kernel, rfl⟩
theorem aX12_ward_10 : decode mX12_ward.2.1 10 = .ok (.invokestatic 68, 3) ∧ 10 + 3 = 13 := ⟨by decide +kernel, rfl⟩
theorem aX12_ward_13 : decode mX12_ward.2.1 13 = .ok (.ifCond .eq 31, 3) ∧ ((13 : Nat) : Int) + 31 = ((44 : Nat) : Int) ∧ 13 + 3 = 16 := ⟨by decide +kernel, by decide, rfl⟩
theorem aX12_ward_16 : decode mX12_ward.2.1 16 = .ok (.iload_n 3, 1) ∧ 16 + 1 = 17 := ⟨by decide +kernel, rfl⟩
theorem aX12_ward_17 : decode mX12_ward.2.1 17 = .ok (.invokestatic 225, 3) ∧ 17 + 3 = 20 := ⟨by decide +kernel, rfl⟩
theorem aX12_ward_20 : decode mX12_ward.2.1 20 = .ok (.ifCond .eq 24, 3) ∧ ((20 : Nat) : Int) + 24 = ((44 : Nat) : Int) ∧ 20 + 3 = 23 := ⟨by decide +kernel, by decide, rfl⟩
theorem aX12_ward_23 : decode mX12_ward.2.1 23 = .ok (.aload_n 0, 1) ∧ 23 + 1 = 24 := ⟨by decide +kernel, rfl⟩
theorem aX12_ward_24 : decode mX12_ward.2.1 24 = .ok (.iload_n 2, 1) ∧ 24 + 1 = 25 := ⟨by decide +kernel, rfl⟩
theorem aX12_ward_25 : decode mX12_ward.2.1 25 = .ok (.ifCond .ne 8, 3) ∧ ((25 : Nat) : Int) + 8 = ((33 : Nat) : Int) ∧ 25 + 3 = 28 := ⟨by decide +kernel, by decide, rfl⟩
theorem aX12_ward_28 : decode mX12_ward.2.1 28 = .ok (.bipush 26, 2) ∧ 28 + 2 = 30 := ⟨by decide +kernel, rfl⟩
theorem aX12_ward_30 : decode mX12_ward.2.1 30 = .ok (.goto 5, 3) ∧ ((30 : Nat) : Int) + 5 = ((35 : Nat) : Int) := ⟨by decide +kernel, by decide⟩
theorem aX12_ward_33 : decode mX12_ward.2.1 33 = .ok (.bipush 32, 2) ∧ 33 + 2 = 35 := ⟨by decide +kernel, rfl⟩
theorem aX12_ward_35 : decode mX12_ward.2.1 35 = .ok (.iload_n 1, 1) ∧ 35 + 1 = 36 := ⟨by decide +kernel, rfl⟩
theorem aX12_ward_36 : decode mX12_ward.2.1 36 = .ok (.iadd, 1) ∧ 36 + 1 = 37 := ⟨by decide +kernel, rfl⟩
theorem aX12_ward_37 : decode mX12_ward.2.1 37 = .ok (.iload_n 3, 1) ∧ 37 + 1 = 38 := ⟨by decide +kernel, rfl⟩
theorem aX12_ward_38 : decode mX12_ward.2.1 38 = .ok (.invokevirtual 222, 3) ∧ 38 + 3 = 41 := ⟨by decide +kernel, rfl⟩
theorem aX12_ward_41 : decode mX12_ward.2.1 41 = .ok (.goto 4, 3) ∧ ((41 : Nat) : Int) + 4 = ((45 : Nat) : Int) := ⟨by decide +kernel, by decide⟩
theorem aX12_ward_44 : decode mX12_ward.2.1 44 = .ok (.iconst (-1), 1) ∧ 44 + 1 = 45 := ⟨by decide +kernel, rfl⟩
theorem aX12_ward_45 : decode mX12_ward.2.1 45 = .ok (.ireturn, 1) := by decide +kernel
theorem S_X12_ward {E : EE} {d : Nat} {I : IH} {Q : QT} (x1 : Int32) (x2 : Int32) (x3 : Int32) (h :
(Mt E d mX12_isWard [.int x1] I (fun rv I1 => ∃ v2 : Int32, rv = some (.int v2) ∧
 ((v2 = 0 → Q (some (.int (-1))) I1) ∧
 (¬ v2 = 0 → (Mt E d mX12_in1 [.int x2, .int (nI 0), .int (nI 1)] I1 (fun rv I3 => ∃ v4 : Int32, rv = some (.int v4) ∧
 ((v4 = 0 → Q (some (.int (-1))) I3) ∧
 (¬ v4 = 0 → (Mt E d mX12_isDigit [.int x3] I3 (fun rv I5 => ∃ v6 : Int32, rv = some (.int v6) ∧
 ((v6 = 0 → Q (some (.int (-1))) I5) ∧
 (¬ v6 = 0 → ((¬ x2 = 0 → J E (d + 1) mX12_ward 35 [(1, .int x1), (3, .int x3)] [.int (nI 32), .ref (eb E + 115)] I5 Q) ∧
 (x2 = 0 → J E (d + 1) mX12_ward 35 [(1, .int x1), (3, .int x3)] [.int (nI 26), .ref (eb E + 115)] I5 Q))))))))))))))) : Mt E (d + 1) mX12_ward [.ref (eb E + 115), .int x1, .int x2, .int x3] I Q := by
  refine Mt_of [(0, .ref (eb E + 115)), (1, .int x1), (2, .int x2), (3, .int x3)] (by decide +kernel) (by simp [lg_sl, Value.category, mX12_ward]) rfl ?_
  refine J_iload_n 1 aX12_ward_0 rfl ?_
  refine J_callS [.int x1] [] aX12_ward_1 lkX12_216 okX12_isWard rfl rfl (Nat.le_of_ble_eq_true rfl) (Nat.le_refl _) (Mt_mono h (fun rv I1 h => ?_))
  obtain ⟨v2, rfl, h⟩ := h
  refine J_r1 ?_
  refine J_if_eq aX12_ward_4 (fun q => ?_) (fun q => ?_)
  · replace h := h.1 q
    refine J_iconst (-1) aX12_ward_44 (by decide +kernel) ?_
    exact J_iret aX12_ward_45 rfl h
  · replace h := h.2 q
    refine J_iload_n 2 aX12_ward_7 rfl ?_
    refine J_iconst (nI 0) aX12_ward_8 (by decide +kernel) ?_
    refine J_iconst (nI 1) aX12_ward_9 (by decide +kernel) ?_
    refine J_callS [.int x2, .int (nI 0), .int (nI 1)] [] aX12_ward_10 lkX12_68 okX12_in1 rfl rfl (Nat.le_of_ble_eq_true rfl) (Nat.le_refl _) (Mt_mono h (fun rv I3 h => ?_))
    obtain ⟨v4, rfl, h⟩ := h
    refine J_r1 ?_
    refine J_if_eq aX12_ward_13 (fun q => ?_) (fun q => ?_)
    · replace h := h.1 q
      refine J_iconst (-1) aX12_ward_44 (by decide +kernel) ?_
      exact J_iret aX12_ward_45 rfl h
    · replace h := h.2 q
      refine J_iload_n 3 aX12_ward_16 rfl ?_
      refine J_callS [.int x3] [] aX12_ward_17 lkX12_225 okX12_isDigit rfl rfl (Nat.le_of_ble_eq_true rfl) (Nat.le_refl _) (Mt_mono h (fun rv I5 h => ?_))
      obtain ⟨v6, rfl, h⟩ := h
      refine J_r1 ?_
      refine J_if_eq aX12_ward_20 (fun q => ?_) (fun q => ?_)
      · replace h := h.1 q
        refine J_iconst (-1) aX12_ward_44 (by decide +kernel) ?_
        exact J_iret aX12_ward_45 rfl h
      · replace h := h.2 q
        refine J_aload_n 0 aX12_ward_23 rfl ?_
        refine J_iload_n 2 aX12_ward_24 rfl ?_
        refine J_if_ne aX12_ward_25 (fun q => ?_) (fun q => ?_)
        · replace h := h.1 q
          refine J_bipush (nI 32) aX12_ward_33 (by decide +kernel) ?_
          refine J_pick [1, 3] rfl ?_
          exact h
        · replace h := h.2 q
          refine J_bipush (nI 26) aX12_ward_28 (by decide +kernel) ?_
          refine J_goto aX12_ward_30 ?_
          refine J_pick [1, 3] rfl ?_
          exact h
theorem S_X12_ward_35 {E : EE} {d : Nat} {I : IH} {Q : QT} (x1 : Int32) (x3 : Int32) (t0 : Int32) (h :
(Mt E d mX12_becomes [.ref (eb E + 115), .int (t0 + x1), .int x3] I (fun rv I1 => ∃ v2 : Int32, rv = some (.int v2) ∧
 Q (some (.int v2)) I1))) : J E (d + 1) mX12_ward 35 [(1, .int x1), (3, .int x3)] [.int t0, .ref (eb E + 115)] I Q := by
  refine J_iload_n 0 aX12_ward_35 rfl ?_
  refine J_iadd aX12_ward_36 ?_
  refine J_iload_n 1 aX12_ward_37 rfl ?_
  refine J_callV [.int (t0 + x1), .int x3] [] aX12_ward_38 lkX12_222_X12 okX12_becomes sh115 rfl rfl rfl (Nat.le_of_ble_eq_true rfl) (Nat.le_refl _) (Mt_mono h (fun rv I1 h => ?_))
  obtain ⟨v2, rfl, h⟩ := h
  refine J_r1 ?_
  refine J_goto aX12_ward_41 ?_
  exact J_iret aX12_ward_45 rfl h
theorem aX12_wardOf_0 : decode mX12_wardOf.2.1 0 = .ok (.iload_n 1, 1) ∧ 0 + 1 = 1 := ⟨by decide +kernel, rfl⟩
theorem aX12_wardOf_1 : decode mX12_wardOf.2.1 1 = .ok (.invokestatic 216, 3) ∧ 1 + 3 = 4 := ⟨by decide +kernel, rfl⟩
theorem aX12_wardOf_4 : decode mX12_wardOf.2.1 4 = .ok (.ifCond .eq 33, 3) ∧ ((4 : Nat) : Int) + 33 = ((37 : Nat) : Int) ∧ 4 + 3 = 7 := ⟨by decide +kernel, by decide, rfl⟩
theorem aX12_wardOf_7 : decode mX12_wardOf.2.1 7 = .ok (.iload_n 2, 1) ∧ 7 + 1 = 8 := ⟨by decide +kernel, rfl⟩
theorem aX12_wardOf_8 : decode mX12_wardOf.2.1 8 = .ok (.iconst 0, 1) ∧ 8 + 1 = 9 := ⟨by decide +kernel, rfl⟩
theorem aX12_wardOf_9 : decode mX12_wardOf.2.1 9 = .ok (.iconst 1, 1) ∧ 9 + 1 = 10 := ⟨by decide +kernel, rfl⟩
theorem aX12_wardOf_10 : decode mX12_wardOf.2.1 10 = .ok (.invokestatic 68, 3) ∧ 10 + 3 = 13 := ⟨by decide +kernel, rfl⟩
theorem aX12_wardOf_13 : decode mX12_wardOf.2.1 13 = .ok (.ifCond .eq 24, 3) ∧ ((13 : Nat) : Int) + 24 = ((37 : Nat) : Int) ∧ 13 + 3 = 16 := ⟨by decide +kernel, by decide, rfl⟩
theorem aX12_wardOf_16 : decode mX12_wardOf.2.1 16 = .ok (.aload_n 0, 1) ∧ 16 + 1 = 17 := ⟨by decide +kernel, rfl⟩
theorem aX12_wardOf_17 : decode mX12_wardOf.2.1 17 = .ok (.getfield 9, 3) ∧ 17 + 3 = 20 := ⟨by decide +kernel, rfl⟩
theorem aX12_wardOf_20 : decode mX12_wardOf.2.1 20 = .ok (.iload_n 2, 1) ∧ 20 + 1 = 21 := ⟨by decide +kernel, rfl⟩
theorem aX12_wardOf_21 : decode mX12_wardOf.2.1 21 = .ok (.ifCond .ne 8, 3) ∧ ((21 : Nat) : Int) + 8 = ((29 : Nat) : Int) ∧ 21 + 3 = 24 := ⟨by decide +kernel, by decide, rfl⟩
theorem aX12_wardOf_24 : decode mX12_wardOf.2.1 24 = .ok (.bipush 26, 2) ∧ 24 + 2 = 26 := ⟨by decide +kernel, rfl⟩
theorem aX12_wardOf_26 : decode mX12_wardOf.2.1 26 = .ok (.goto 5, 3) ∧ ((26 : Nat) : Int) + 5 = ((31 : Nat) : Int) := ⟨by decide +kernel, by decide⟩
theorem aX12_wardOf_29 : decode mX12_wardOf.2.1 29 = .ok (.bipush 32, 2) ∧ 29 + 2 = 31 := ⟨by decide +kernel, rfl⟩
theorem aX12_wardOf_31 : decode mX12_wardOf.2.1 31 = .ok (.iload_n 1, 1) ∧ 31 + 1 = 32 := ⟨by decide +kernel, rfl⟩
theorem aX12_wardOf_32 : decode mX12_wardOf.2.1 32 = .ok (.iadd, 1) ∧ 32 + 1 = 33 := ⟨by decide +kernel, rfl⟩
theorem aX12_wardOf_33 : decode mX12_wardOf.2.1 33 = .ok (.iaload, 1) ∧ 33 + 1 = 34 := ⟨by decide +kernel, rfl⟩
theorem aX12_wardOf_34 : decode mX12_wardOf.2.1 34 = .ok (.goto 4, 3) ∧ ((34 : Nat) : Int) + 4 = ((38 : Nat) : Int) := ⟨by decide +kernel, by decide⟩
theorem aX12_wardOf_37 : decode mX12_wardOf.2.1 37 = .ok (.iconst (-1), 1) ∧ 37 + 1 = 38 := ⟨by decide +kernel, rfl⟩
theorem aX12_wardOf_38 : decode mX12_wardOf.2.1 38 = .ok (.ireturn, 1) := by decide +kernel
theorem S_X12_wardOf {E : EE} {d : Nat} {I : IH} {Q : QT} (x1 : Int32) (x2 : Int32) (h :
(Mt E d mX12_isWard [.int x1] I (fun rv I1 => ∃ v2 : Int32, rv = some (.int v2) ∧
 ((v2 = 0 → Q (some (.int (-1))) I1) ∧
 (¬ v2 = 0 → (Mt E d mX12_in1 [.int x2, .int (nI 0), .int (nI 1)] I1 (fun rv I3 => ∃ v4 : Int32, rv = some (.int v4) ∧
 ((v4 = 0 → Q (some (.int (-1))) I3) ∧
 (¬ v4 = 0 → ((¬ x2 = 0 → (∃ j5 : Nat, ((nI 32) + x1) = nI j5 ∧ j5 < 322 ∧ Q (some (.int (I3 116 j5))) I3)) ∧
 (x2 = 0 → (∃ j8 : Nat, ((nI 26) + x1) = nI j8 ∧ j8 < 322 ∧ Q (some (.int (I3 116 j8))) I3)))))))))))) : Mt E (d + 1) mX12_wardOf [.ref (eb E + 115), .int x1, .int x2] I Q := by
  refine Mt_of [(0, .ref (eb E + 115)), (1, .int x1), (2, .int x2)] (by decide +kernel) (by simp [lg_sl, Value.category, mX12_wardOf]) rfl ?_
  refine J_iload_n 1 aX12_wardOf_0 rfl ?_
  refine J_callS [.int x1] [] aX12_wardOf_1 lkX12_216 okX12_isWard rfl rfl (Nat.le_of_ble_eq_true rfl) (Nat.le_refl _) (Mt_mono h (fun rv I1 h => ?_))
  obtain ⟨v2, rfl, h⟩ := h
  refine J_r1 ?_
  refine J_if_eq aX12_wardOf_4 (fun q => ?_) (fun q => ?_)
  · replace h := h.1 q
    refine J_iconst (-1) aX12_wardOf_37 (by decide +kernel) ?_
    exact J_iret aX12_wardOf_38 rfl h
  · replace h := h.2 q
    refine J_iload_n 2 aX12_wardOf_7 rfl ?_
    refine J_iconst (nI 0) aX12_wardOf_8 (by decide +kernel) ?_
    refine J_iconst (nI 1) aX12_wardOf_9 (by decide +kernel) ?_
    refine J_callS [.int x2, .int (nI 0), .int (nI 1)] [] aX12_wardOf_10 lkX12_68 okX12_in1 rfl rfl (Nat.le_of_ble_eq_true rfl) (Nat.le_refl _) (Mt_mono h (fun rv I3 h => ?_))
    obtain ⟨v4, rfl, h⟩ := h
    refine J_r1 ?_
    refine J_if_eq aX12_wardOf_13 (fun q => ?_) (fun q => ?_)
    · replace h := h.1 q
      refine J_iconst (-1) aX12_wardOf_37 (by decide +kernel) ?_
      exact J_iret aX12_wardOf_38 rfl h
    · replace h := h.2 q
      refine J_aload_n 0 aX12_wardOf_16 rfl ?_
      refine J_getR aX12_wardOf_17 flX12_9 sh115 rfl ?_
      refine J_iload_n 2 aX12_wardOf_20 rfl ?_
      refine J_if_ne aX12_wardOf_21 (fun q => ?_) (fun q => ?_)
      · replace h := h.1 q
        refine J_bipush (nI 32) aX12_wardOf_29 (by decide +kernel) ?_
        refine J_iload_n 1 aX12_wardOf_31 rfl ?_
        refine J_iadd aX12_wardOf_32 ?_
        obtain ⟨j5, e6, b7, h⟩ := h
        refine J_iaload j5 aX12_wardOf_33 sh116 e6 b7 (by decide) ?_
        refine J_goto aX12_wardOf_34 ?_
        exact J_iret aX12_wardOf_38 rfl h
      · replace h := h.2 q
        refine J_bipush (nI 26) aX12_wardOf_24 (by decide +kernel) ?_
        refine J_goto aX12_wardOf_26 ?_
        refine J_iload_n 1 aX12_wardOf_31 rfl ?_
        refine J_iadd aX12_wardOf_32 ?_
        obtain ⟨j8, e9, b10, h⟩ := h
        refine J_iaload j8 aX12_wardOf_33 sh116 e9 b10 (by decide) ?_
        refine J_goto aX12_wardOf_34 ?_
        exact J_iret aX12_wardOf_38 rfl h
theorem aX12_lord_0 : decode mX12_lord.2.1 0 = .ok (.iload_n 1, 1) ∧ 0 + 1 = 1 := ⟨by decide +kernel, rfl⟩
theorem aX12_lord_1 : decode mX12_lord.2.1 1 = .ok (.iconst 0, 1) ∧ 1 + 1 = 2 := ⟨by decide +kernel, rfl⟩
theorem aX12_lord_2 : decode mX12_lord.2.1 2 = .ok (.iconst 1, 1) ∧ 2 + 1 = 3 := ⟨by decide +kernel, rfl⟩
theorem aX12_lord_3 : decode mX12_lord.2.1 3 = .ok (.invokestatic 68, 3) ∧ 3 + 3 = 6 := ⟨by decide +kernel, rfl⟩
theorem aX12_lord_6 : decode mX12_lord.2.1 6 = .ok (.ifCond .eq 34, 3) ∧ ((6 : Nat) : Int) + 34 = ((40 : Nat) : Int) ∧ 6 + 3 = 9 := ⟨by decide +kernel, by decide, rfl⟩
theorem aX12_lord_9 : decode mX12_lord.2.1 9 = .ok (.iload_n 2, 1) ∧ 9 + 1 = 10 := ⟨by decide +kernel, rfl⟩
theorem aX12_lord_10 : decode mX12_lord.2.1 10 = .ok (.iconst 0, 1) ∧ 10 + 1 = 11 := ⟨by decide +kernel, rfl⟩
theorem aX12_lord_11 : decode mX12_lord.2.1 11 = .ok (.iload_n 1, 1) ∧ 11 + 1 = 12 := ⟨by decide +kernel, rfl⟩
theorem aX12_lord_12 : decode mX12_lord.2.1 12 = .ok (.ifCond .ne 8, 3) ∧ ((12 : Nat) : Int) + 8 = ((20 : Nat) : Int) ∧ 12 + 3 = 15 := ⟨by decide +kernel, by decide, rfl⟩
theorem aX12_lord_15 : decode mX12_lord.2.1 15 = .ok (.bipush 9, 2) ∧ 15 + 2 = 17 := ⟨by decide +kernel, rfl⟩
theorem aX12_lord_17 : decode mX12_lord.2.1 17 = .ok (.goto 6, 3) ∧ ((17 : Nat) : Int) + 6 = ((23 : Nat) : Int) := ⟨by decide +kernel, by decide⟩
theorem aX12_lord_20 : decode mX12_lord.2.1 20 = .ok (.sipush 999, 3) ∧ 20 + 3 = 23 := ⟨by decide +kernel, rfl⟩
theorem aX12_lord_23 : decode mX12_lord.2.1 23 = .ok (.invokestatic 68, 3) ∧ 23 + 3 = 26 := ⟨by decide +kernel, rfl⟩
theorem aX12_lord_26 : decode mX12_lord.2.1 26 = .ok (.ifCond .eq 14, 3) ∧ ((26 : Nat) : Int) + 14 = ((40 : Nat) : Int) ∧ 26 + 3 = 29 := ⟨by decide +kernel, by decide, rfl⟩
theorem aX12_lord_29 : decode mX12_lord.2.1 29 = .ok (.aload_n 0, 1) ∧ 29 + 1 = 30 := ⟨by decide +kernel, rfl⟩
theorem aX12_lord_30 : decode mX12_lord.2.1 30 = .ok (.iconst 3, 1) ∧ 30 + 1 = 31 := ⟨by decide +kernel, rfl⟩
theorem aX12_lord_31 : decode mX12_lord.2.1 31 = .ok (.iload_n 1, 1) ∧ 31 + 1 = 32 := ⟨by decide +kernel, rfl⟩
theorem aX12_lord_32 : decode mX12_lord.2.1 32 = .ok (.iadd, 1) ∧ 32 + 1 = 33 := ⟨by decide +kernel, rfl⟩
theorem aX12_lord_33 : decode mX12_lord.2.1 33 = .ok (.iload_n 2, 1) ∧ 33 + 1 = 34 := ⟨by decide +kernel, rfl⟩
theorem aX12_lord_34 : decode mX12_lord.2.1 34 = .ok (.invokevirtual 222, 3) ∧ 34 + 3 = 37 := ⟨by decide +kernel, rfl⟩
theorem aX12_lord_37 : decode mX12_lord.2.1 37 = .ok (.goto 4, 3) ∧ ((37 : Nat) : Int) + 4 = ((41 : Nat) : Int) := ⟨by decide +kernel, by decide⟩
theorem aX12_lord_40 : decode mX12_lord.2.1 40 = .ok (.iconst (-1), 1) ∧ 40 + 1 = 41 := ⟨by decide +kernel, rfl⟩
theorem aX12_lord_41 : decode mX12_lord.2.1 41 = .ok (.ireturn, 1) := by decide +kernel
theorem S_X12_lord {E : EE} {d : Nat} {I : IH} {Q : QT} (x1 : Int32) (x2 : Int32) (h :
(Mt E d mX12_in1 [.int x1, .int (nI 0), .int (nI 1)] I (fun rv I1 => ∃ v2 : Int32, rv = some (.int v2) ∧
 ((v2 = 0 → Q (some (.int (-1))) I1) ∧
 (¬ v2 = 0 → ((¬ x1 = 0 → J E (d + 1) mX12_lord 23 [(0, .ref (eb E + 115)), (1, .int x1), (2, .int x2)] [.int (nI 999), .int (nI 0), .int x2] I1 Q) ∧
 (x1 = 0 → J E (d + 1) mX12_lord 23 [(0, .ref (eb E + 115)), (1, .int x1), (2, .int x2)] [.int (nI 9), .int (nI 0), .int x2] I1 Q))))))) : Mt E (d + 1) mX12_lord [.ref (eb E + 115), .int x1, .int x2] I Q := by
  refine Mt_of [(0, .ref (eb E + 115)), (1, .int x1), (2, .int x2)] (by decide +kernel) (by simp [lg_sl, Value.category, mX12_lord]) rfl ?_
  refine J_iload_n 1 aX12_lord_0 rfl ?_
  refine J_iconst (nI 0) aX12_lord_1 (by decide +kernel) ?_
  refine J_iconst (nI 1) aX12_lord_2 (by decide +kernel) ?_
  refine J_callS [.int x1, .int (nI 0), .int (nI 1)] [] aX12_lord_3 lkX12_68 okX12_in1 rfl rfl (Nat.le_of_ble_eq_true rfl) (Nat.le_refl _) (Mt_mono h (fun rv I1 h => ?_))
  obtain ⟨v2, rfl, h⟩ := h
  refine J_r1 ?_
  refine J_if_eq aX12_lord_6 (fun q => ?_) (fun q => ?_)
  · replace h := h.1 q
    refine J_iconst (-1) aX12_lord_40 (by decide +kernel) ?_
    exact J_iret aX12_lord_41 rfl h
  · replace h := h.2 q
    refine J_iload_n 2 aX12_lord_9 rfl ?_
    refine J_iconst (nI 0) aX12_lord_10 (by decide +kernel) ?_
    refine J_iload_n 1 aX12_lord_11 rfl ?_
    refine J_if_ne aX12_lord_12 (fun q => ?_) (fun q => ?_)
    · replace h := h.1 q
      refine J_sipush (nI 999) aX12_lord_20 (by decide +kernel) ?_
      refine J_pick [0, 1, 2] rfl ?_
      exact h
    · replace h := h.2 q
      refine J_bipush (nI 9) aX12_lord_15 (by decide +kernel) ?_
      refine J_goto aX12_lord_17 ?_
      refine J_pick [0, 1, 2] rfl ?_
      exact h
theorem S_X12_lord_23 {E : EE} {d : Nat} {I : IH} {Q : QT} (x1 : Int32) (x2 : Int32) (t0 : Int32) (t1 : Int32) (t2 : Int32) (h :
(Mt E d mX12_in1 [.int t2, .int t1, .int t0] I (fun rv I1 => ∃ v2 : Int32, rv = some (.int v2) ∧
 ((v2 = 0 → Q (some (.int (-1))) I1) ∧
 (¬ v2 = 0 → (Mt E d mX12_becomes [.ref (eb E + 115), .int ((nI 3) + x1), .int x2] I1 (fun rv I3 => ∃ v4 : Int32, rv = some (.int v4) ∧
 Q (some (.int v4)) I3))))))) : J E (d + 1) mX12_lord 23 [(0, .ref (eb E + 115)), (1, .int x1), (2, .int x2)] [.int t0, .int t1, .int t2] I Q := by
  refine J_callS [.int t2, .int t1, .int t0] [] aX12_lord_23 lkX12_68 okX12_in1 rfl rfl (Nat.le_of_ble_eq_true rfl) (Nat.le_refl _) (Mt_mono h (fun rv I1 h => ?_))
  obtain ⟨v2, rfl, h⟩ := h
  refine J_r1 ?_
  refine J_if_eq aX12_lord_26 (fun q => ?_) (fun q => ?_)
  · replace h := h.1 q
    refine J_iconst (-1) aX12_lord_40 (by decide +kernel) ?_
    exact J_iret aX12_lord_41 rfl h
  · replace h := h.2 q
    refine J_aload_n 0 aX12_lord_29 rfl ?_
    refine J_iconst (nI 3) aX12_lord_30 (by decide +kernel) ?_
    refine J_iload_n 1 aX12_lord_31 rfl ?_
    refine J_iadd aX12_lord_32 ?_
    refine J_iload_n 2 aX12_lord_33 rfl ?_
    refine J_callV [.int ((nI 3) + x1), .int x2] [] aX12_lord_34 lkX12_222_X12 okX12_becomes sh115 rfl rfl rfl (Nat.le_of_ble_eq_true rfl) (Nat.le_refl _) (Mt_mono h (fun rv I3 h => ?_))
    obtain ⟨v4, rfl, h⟩ := h
    refine J_r1 ?_
    refine J_goto aX12_lord_37 ?_
    exact J_iret aX12_lord_41 rfl h
theorem aX12_ends_0 : decode mX12_ends.2.1 0 = .ok (.iload_n 1, 1) ∧ 0 + 1 = 1 := ⟨by decide +kernel, rfl⟩
theorem aX12_ends_1 : decode mX12_ends.2.1 1 = .ok (.iconst 1, 1) ∧ 1 + 1 = 2 := ⟨by decide +kernel, rfl⟩
theorem aX12_ends_2 : decode mX12_ends.2.1 2 = .ok (.bipush 16, 2) ∧ 2 + 2 = 4 := ⟨by decide +kernel, rfl⟩
theorem aX12_ends_4 : decode mX12_ends.2.1 4 = .ok (.invokestatic 68, 3) ∧ 4 + 3 = 7 := ⟨by decide +kernel, rfl⟩
theorem aX12_ends_7 : decode mX12_ends.2.1 7 = .ok (.ifCond .ne 7, 3) ∧ ((7 : Nat) : Int) + 7 = ((14 : Nat) : Int) ∧ 7 + 3 = 10 := ⟨by decide +kernel, by decide, rfl⟩
theorem aX12_ends_10 : decode mX12_ends.2.1 10 = .ok (.iconst (-1), 1) ∧ 10 + 1 = 11 := ⟨by decide +kernel, rfl⟩
theorem aX12_ends_11 : decode mX12_ends.2.1 11 = .ok (.goto 24, 3) ∧ ((11 : Nat) : Int) + 24 = ((35 : Nat) : Int) := ⟨by decide +kernel, by decide⟩
theorem aX12_ends_14 : decode mX12_ends.2.1 14 = .ok (.iload_n 1, 1) ∧ 14 + 1 = 15 := ⟨by decide +kernel, rfl⟩
theorem aX12_ends_15 : decode mX12_ends.2.1 15 = .ok (.aload_n 0, 1) ∧ 15 + 1 = 16 := ⟨by decide +kernel, rfl⟩
theorem aX12_ends_16 : decode mX12_ends.2.1 16 = .ok (.getfield 9, 3) ∧ 16 + 3 = 19 := ⟨by decide +kernel, rfl⟩
theorem aX12_ends_19 : decode mX12_ends.2.1 19 = .ok (.iconst 0, 1) ∧ 19 + 1 = 20 := ⟨by decide +kernel, rfl⟩
theorem aX12_ends_20 : decode mX12_ends.2.1 20 = .ok (.iaload, 1) ∧ 20 + 1 = 21 := ⟨by decide +kernel, rfl⟩
theorem aX12_ends_21 : decode mX12_ends.2.1 21 = .ok (.if_icmp .ge 8, 3) ∧ ((21 : Nat) : Int) + 8 = ((29 : Nat) : Int) ∧ 21 + 3 = 24 := ⟨by decide +kernel, by decide, rfl⟩
theorem aX12_ends_24 : decode mX12_ends.2.1 24 = .ok (.bipush (-4), 2) ∧ 24 + 2 = 26 := ⟨by decide +kernel, rfl⟩
theorem aX12_ends_26 : decode mX12_ends.2.1 26 = .ok (.goto 9, 3) ∧ ((26 : Nat) : Int) + 9 = ((35 : Nat) : Int) := ⟨by decide +kernel, by decide⟩
theorem aX12_ends_29 : decode mX12_ends.2.1 29 = .ok (.aload_n 0, 1) ∧ 29 + 1 = 30 := ⟨by decide +kernel, rfl⟩
theorem aX12_ends_30 : decode mX12_ends.2.1 30 = .ok (.iconst 1, 1) ∧ 30 + 1 = 31 := ⟨by decide +kernel, rfl⟩
theorem aX12_ends_31 : decode mX12_ends.2.1 31 = .ok (.iload_n 1, 1) ∧ 31 + 1 = 32 := ⟨by decide +kernel, rfl⟩
theorem aX12_ends_32 : decode mX12_ends.2.1 32 = .ok (.invokevirtual 222, 3) ∧ 32 + 3 = 35 := ⟨by decide +kernel, rfl⟩
theorem aX12_ends_35 : decode mX12_ends.2.1 35 = .ok (.ireturn, 1) := by decide +kernel
theorem S_X12_ends {E : EE} {d : Nat} {I : IH} {Q : QT} (x1 : Int32) (h :
(Mt E d mX12_in1 [.int x1, .int (nI 1), .int (nI 16)] I (fun rv I1 => ∃ v2 : Int32, rv = some (.int v2) ∧
 ((¬ v2 = 0 → (((I1 116 0) ≤ x1 → (Mt E d mX12_becomes [.ref (eb E + 115), .int (nI 1), .int x1] I1 (fun rv I3 => ∃ v4 : Int32, rv = some (.int v4) ∧
 Q (some (.int v4)) I3))) ∧
 (¬ (I1 116 0) ≤ x1 → Q (some (.int (-4))) I1))) ∧
 (v2 = 0 → Q (some (.int (-1))) I1))))) : Mt E (d + 1) mX12_ends [.ref (eb E + 115), .int x1] I Q := by
  refine Mt_of [(0, .ref (eb E + 115)), (1, .int x1)] (by decide +kernel) (by simp [lg_sl, Value.category, mX12_ends]) rfl ?_
  refine J_iload_n 1 aX12_ends_0 rfl ?_
  refine J_iconst (nI 1) aX12_ends_1 (by decide +kernel) ?_
  refine J_bipush (nI 16) aX12_ends_2 (by decide +kernel) ?_
  refine J_callS [.int x1, .int (nI 1), .int (nI 16)] [] aX12_ends_4 lkX12_68 okX12_in1 rfl rfl (Nat.le_of_ble_eq_true rfl) (Nat.le_refl _) (Mt_mono h (fun rv I1 h => ?_))
  obtain ⟨v2, rfl, h⟩ := h
  refine J_r1 ?_
  refine J_if_ne aX12_ends_7 (fun q => ?_) (fun q => ?_)
  · replace h := h.1 q
    refine J_iload_n 1 aX12_ends_14 rfl ?_
    refine J_aload_n 0 aX12_ends_15 rfl ?_
    refine J_getR aX12_ends_16 flX12_9 sh115 rfl ?_
    refine J_iconst (nI 0) aX12_ends_19 (by decide +kernel) ?_
    refine J_iaload 0 aX12_ends_20 sh116 rfl (by decide) (by decide) ?_
    refine J_icmp_ge aX12_ends_21 (fun q => ?_) (fun q => ?_)
    · replace h := h.1 q
      refine J_aload_n 0 aX12_ends_29 rfl ?_
      refine J_iconst (nI 1) aX12_ends_30 (by decide +kernel) ?_
      refine J_iload_n 1 aX12_ends_31 rfl ?_
      refine J_callV [.int (nI 1), .int x1] [] aX12_ends_32 lkX12_222_X12 okX12_becomes sh115 rfl rfl rfl (Nat.le_of_ble_eq_true rfl) (Nat.le_refl _) (Mt_mono h (fun rv I3 h => ?_))
      obtain ⟨v4, rfl, h⟩ := h
      refine J_r1 ?_
      exact J_iret aX12_ends_35 rfl h
    · replace h := h.2 q
      refine J_bipush (-4) aX12_ends_24 (by decide +kernel) ?_
      refine J_goto aX12_ends_26 ?_
      exact J_iret aX12_ends_35 rfl h
  · replace h := h.2 q
    refine J_iconst (-1) aX12_ends_10 (by decide +kernel) ?_
    refine J_goto aX12_ends_11 ?_
    exact J_iret aX12_ends_35 rfl h
theorem aX12_anew_0 : decode mX12_anew.2.1 0 = .ok (.aload_n 0, 1) ∧ 0 + 1 = 1 := ⟨by decide +kernel, rfl⟩
theorem aX12_anew_1 : decode mX12_anew.2.1 1 = .ok (.getfield 9, 3) ∧ 1 + 3 = 4 := ⟨by decide +kernel, rfl⟩
theorem aX12_anew_4 : decode mX12_anew.2.1 4 = .ok (.iconst 2, 1) ∧ 4 + 1 = 5 := ⟨by decide +kernel, rfl⟩
theorem aX12_anew_5 : decode mX12_anew.2.1 5 = .ok (.iconst 0, 1) ∧ 5 + 1 = 6 := ⟨by decide +kernel, rfl⟩
theorem aX12_anew_6 : decode mX12_anew.2.1 6 = .ok (.iastore, 1) ∧ 6 + 1 = 7 := ⟨by decide +kernel, rfl⟩
theorem aX12_anew_7 : decode mX12_anew.2.1 7 = .ok (.aload_n 0, 1) ∧ 7 + 1 = 8 := ⟨by decide +kernel, rfl⟩
theorem aX12_anew_8 : decode mX12_anew.2.1 8 = .ok (.getfield 9, 3) ∧ 8 + 3 = 11 := ⟨by decide +kernel, rfl⟩
theorem aX12_anew_11 : decode mX12_anew.2.1 11 = .ok (.iconst 3, 1) ∧ 11 + 1 = 12 := ⟨by decide +kernel, rfl⟩
theorem aX12_anew_12 : decode mX12_anew.2.1 12 = .ok (.iconst 0, 1) ∧ 12 + 1 = 13 := ⟨by decide +kernel, rfl⟩
theorem aX12_anew_13 : decode mX12_anew.2.1 13 = .ok (.iastore, 1) ∧ 13 + 1 = 14 := ⟨by decide +kernel, rfl⟩
theorem aX12_anew_14 : decode mX12_anew.2.1 14 = .ok (.aload_n 0, 1) ∧ 14 + 1 = 15 := ⟨by decide +kernel, rfl⟩
theorem aX12_anew_15 : decode mX12_anew.2.1 15 = .ok (.getfield 9, 3) ∧ 15 + 3 = 18 := ⟨by decide +kernel, rfl⟩
theorem aX12_anew_18 : decode mX12_anew.2.1 18 = .ok (.iconst 4, 1) ∧ 18 + 1 = 19 := ⟨by decide +kernel, rfl⟩
theorem aX12_anew_19 : decode mX12_anew.2.1 19 = .ok (.bipush 60, 2) ∧ 19 + 2 = 21 := ⟨by decide +kernel, rfl⟩
theorem aX12_anew_21 : decode mX12_anew.2.1 21 = .ok (.iastore, 1) ∧ 21 + 1 = 22 := ⟨by decide +kernel, rfl⟩
theorem aX12_anew_22 : decode mX12_anew.2.1 22 = .ok (.iconst 0, 1) ∧ 22 + 1 = 23 := ⟨by decide +kernel, rfl⟩
theorem aX12_anew_23 : decode mX12_anew.2.1 23 = .ok (.istore_n 1, 1) ∧ 23 + 1 = 24 := ⟨by decide +kernel, rfl⟩
theorem aX12_anew_24 : decode mX12_anew.2.1 24 = .ok (.iload_n 1, 1) ∧ 24 + 1 = 25 := ⟨by decide +kernel, rfl⟩
theorem aX12_anew_25 : decode mX12_anew.2.1 25 = .ok (.aload_n 0, 1) ∧ 25 + 1 = 26 := ⟨by decide +kernel, rfl⟩
theorem aX12_anew_26 : decode mX12_anew.2.1 26 = .ok (.getfield 9, 3) ∧ 26 + 3 = 29 := ⟨by decide +kernel, rfl⟩
theorem aX12_anew_29 : decode mX12_anew.2.1 29 = .ok (.bipush 6, 2) ∧ 29 + 2 = 31 := ⟨by decide +kernel, rfl⟩
theorem aX12_anew_31 : decode mX12_anew.2.1 31 = .ok (.iaload, 1) ∧ 31 + 1 = 32 := ⟨by decide +kernel, rfl⟩
theorem aX12_anew_32 : decode mX12_anew.2.1 32 = .ok (.if_icmp .ge 23, 3) ∧ ((32 : Nat) : Int) + 23 = ((55 : Nat) : Int) ∧ 32 + 3 = 35 := ⟨by decide +kernel, by decide, rfl⟩
theorem aX12_anew_35 : decode mX12_anew.2.1 35 = .ok (.aload_n 0, 1) ∧ 35 + 1 = 36 := ⟨by decide +kernel, rfl⟩
theorem aX12_anew_36 : decode mX12_anew.2.1 36 = .ok (.iload_n 1, 1) ∧ 36 + 1 = 37 := ⟨by decide +kernel, rfl⟩
theorem aX12_anew_37 : decode mX12_anew.2.1 37 = .ok (.iconst 2, 1) ∧ 37 + 1 = 38 := ⟨by decide +kernel, rfl⟩
theorem aX12_anew_38 : decode mX12_anew.2.1 38 = .ok (.iconst 0, 1) ∧ 38 + 1 = 39 := ⟨by decide +kernel, rfl⟩
theorem aX12_anew_39 : decode mX12_anew.2.1 39 = .ok (.invokevirtual 100, 3) ∧ 39 + 3 = 42 := ⟨by decide +kernel, rfl⟩
theorem aX12_anew_42 : decode mX12_anew.2.1 42 = .ok (.aload_n 0, 1) ∧ 42 + 1 = 43 := ⟨by decide +kernel, rfl⟩
theorem aX12_anew_43 : decode mX12_anew.2.1 43 = .ok (.iload_n 1, 1) ∧ 43 + 1 = 44 := ⟨by decide +kernel, rfl⟩
theorem aX12_anew_44 : decode mX12_anew.2.1 44 = .ok (.iconst 4, 1) ∧ 44 + 1 = 45 := ⟨by decide +kernel, rfl⟩
theorem aX12_anew_45 : decode mX12_anew.2.1 45 = .ok (.iconst 0, 1) ∧ 45 + 1 = 46 := ⟨by decide +kernel, rfl⟩
theorem aX12_anew_46 : decode mX12_anew.2.1 46 = .ok (.invokevirtual 100, 3) ∧ 46 + 3 = 49 := ⟨by decide +kernel, rfl⟩
theorem aX12_anew_49 : decode mX12_anew.2.1 49 = .ok (.iinc 1 1, 3) ∧ 49 + 3 = 52 := ⟨by decide +kernel, rfl⟩
theorem aX12_anew_52 : decode mX12_anew.2.1 52 = .ok (.goto (-28), 3) ∧ ((52 : Nat) : Int) + (-28) = ((24 : Nat) : Int) := ⟨by decide +kernel, by decide⟩
theorem aX12_anew_55 : decode mX12_anew.2.1 55 = .ok (.aload_n 0, 1) ∧ 55 + 1 = 56 := ⟨by decide +kernel, rfl⟩
theorem aX12_anew_56 : decode mX12_anew.2.1 56 = .ok (.iconst 0, 1) ∧ 56 + 1 = 57 := ⟨by decide +kernel, rfl⟩
theorem aX12_anew_57 : decode mX12_anew.2.1 57 = .ok (.iconst 0, 1) ∧ 57 + 1 = 58 := ⟨by decide +kernel, rfl⟩
theorem aX12_anew_58 : decode mX12_anew.2.1 58 = .ok (.invokevirtual 222, 3) ∧ 58 + 3 = 61 := ⟨by decide +kernel, rfl⟩
theorem aX12_anew_61 : decode mX12_anew.2.1 61 = .ok (.ireturn, 1) := by decide +kernel
theorem S_X12_anew {E : EE} {d : Nat} {I : IH} {Q : QT}  (h :
(∀ I1 : IH, I1 = stI I 116 2 (nI 0) →
 (∀ I3 : IH, I3 = stI I1 116 3 (nI 0) →
 (∀ I5 : IH, I5 = stI I3 116 4 (nI 60) →
 J E (d + 1) mX12_anew 24 [(0, .ref (eb E + 115)), (1, .int (nI 0))] [] I5 Q)))) : Mt E (d + 1) mX12_anew [.ref (eb E + 115)] I Q := by
  refine Mt_of [(0, .ref (eb E + 115))] (by decide +kernel) (by simp [lg_sl, Value.category, mX12_anew]) rfl ?_
  refine J_aload_n 0 aX12_anew_0 rfl ?_
  refine J_getR aX12_anew_1 flX12_9 sh115 rfl ?_
  refine J_iconst (nI 2) aX12_anew_4 (by decide +kernel) ?_
  refine J_iconst (nI 0) aX12_anew_5 (by decide +kernel) ?_
  refine J_iastore 2 aX12_anew_6 sh116 rfl (by decide) (by decide) (fun I1 e2 => ?_)
  replace h := h I1 e2
  refine J_aload_n 0 aX12_anew_7 rfl ?_
  refine J_getR aX12_anew_8 flX12_9 sh115 rfl ?_
  refine J_iconst (nI 3) aX12_anew_11 (by decide +kernel) ?_
  refine J_iconst (nI 0) aX12_anew_12 (by decide +kernel) ?_
  refine J_iastore 3 aX12_anew_13 sh116 rfl (by decide) (by decide) (fun I3 e4 => ?_)
  replace h := h I3 e4
  refine J_aload_n 0 aX12_anew_14 rfl ?_
  refine J_getR aX12_anew_15 flX12_9 sh115 rfl ?_
  refine J_iconst (nI 4) aX12_anew_18 (by decide +kernel) ?_
  refine J_bipush (nI 60) aX12_anew_19 (by decide +kernel) ?_
  refine J_iastore 4 aX12_anew_21 sh116 rfl (by decide) (by decide) (fun I5 e6 => ?_)
  replace h := h I5 e6
  refine J_iconst (nI 0) aX12_anew_22 (by decide +kernel) ?_
  refine J_istore_n [(1, .int (nI 0)), (0, .ref (eb E + 115))] aX12_anew_23 (by decide) rfl ?_
  refine J_pick [1, 0] rfl ?_
  exact h
theorem S_X12_anew_24 {E : EE} {d : Nat} {I : IH} {Q : QT} (x1 : Int32) (h :
(((I 116 6) ≤ x1 → (Mt E d mX12_becomes [.ref (eb E + 115), .int (nI 0), .int (nI 0)] I (fun rv I1 => ∃ v2 : Int32, rv = some (.int v2) ∧
 Q (some (.int v2)) I1))) ∧
 (¬ (I 116 6) ≤ x1 → (Mt E d mX12_puts [.ref (eb E + 115), .int x1, .int (nI 2), .int (nI 0)] I (fun rv I3 => rv = none ∧
 (Mt E d mX12_puts [.ref (eb E + 115), .int x1, .int (nI 4), .int (nI 0)] I3 (fun rv I4 => rv = none ∧
 J E (d + 1) mX12_anew 24 [(0, .ref (eb E + 115)), (1, .int (x1 + nI 1))] [] I4 Q))))))) : J E (d + 1) mX12_anew 24 [(0, .ref (eb E + 115)), (1, .int x1)] [] I Q := by
  refine J_iload_n 1 aX12_anew_24 rfl ?_
  refine J_aload_n 0 aX12_anew_25 rfl ?_
  refine J_getR aX12_anew_26 flX12_9 sh115 rfl ?_
  refine J_bipush (nI 6) aX12_anew_29 (by decide +kernel) ?_
  refine J_iaload 6 aX12_anew_31 sh116 rfl (by decide) (by decide) ?_
  refine J_icmp_ge aX12_anew_32 (fun q => ?_) (fun q => ?_)
  · replace h := h.1 q
    refine J_aload_n 0 aX12_anew_55 rfl ?_
    refine J_iconst (nI 0) aX12_anew_56 (by decide +kernel) ?_
    refine J_iconst (nI 0) aX12_anew_57 (by decide +kernel) ?_
    refine J_callV [.int (nI 0), .int (nI 0)] [] aX12_anew_58 lkX12_222_X12 okX12_becomes sh115 rfl rfl rfl (Nat.le_of_ble_eq_true rfl) (Nat.le_refl _) (Mt_mono h (fun rv I1 h => ?_))
    obtain ⟨v2, rfl, h⟩ := h
    refine J_r1 ?_
    exact J_iret aX12_anew_61 rfl h
  · replace h := h.2 q
    refine J_aload_n 0 aX12_anew_35 rfl ?_
    refine J_iload_n 1 aX12_anew_36 rfl ?_
    refine J_iconst (nI 2) aX12_anew_37 (by decide +kernel) ?_
    refine J_iconst (nI 0) aX12_anew_38 (by decide +kernel) ?_
    refine J_callV [.int x1, .int (nI 2), .int (nI 0)] [] aX12_anew_39 lkX12_100_X12 okX12_puts sh115 rfl rfl rfl (Nat.le_of_ble_eq_true rfl) (Nat.le_refl _) (Mt_mono h (fun rv I3 h => ?_))
    obtain ⟨rfl, h⟩ := h
    refine J_r0 ?_
    refine J_aload_n 0 aX12_anew_42 rfl ?_
    refine J_iload_n 1 aX12_anew_43 rfl ?_
    refine J_iconst (nI 4) aX12_anew_44 (by decide +kernel) ?_
    refine J_iconst (nI 0) aX12_anew_45 (by decide +kernel) ?_
    refine J_callV [.int x1, .int (nI 4), .int (nI 0)] [] aX12_anew_46 lkX12_100_X12 okX12_puts sh115 rfl rfl rfl (Nat.le_of_ble_eq_true rfl) (Nat.le_refl _) (Mt_mono h (fun rv I4 h => ?_))
    obtain ⟨rfl, h⟩ := h
    refine J_r0 ?_
    refine J_iinc (x1 + nI 1) [(1, .int (x1 + nI 1)), (0, .ref (eb E + 115))] 1 aX12_anew_49 rfl (by first | rfl | (congr 1; decide +kernel)) (by decide) rfl ?_
    refine J_goto aX12_anew_52 ?_
    refine J_pick [1, 0] rfl ?_
    exact h
theorem aX12_those_0 : decode mX12_those.2.1 0 = .ok (.iconst 0, 1) ∧ 0 + 1 = 1 := ⟨by decide +kernel, rfl⟩
theorem aX12_those_1 : decode mX12_those.2.1 1 = .ok (.istore_n 2, 1) ∧ 1 + 1 = 2 := ⟨by decide +kernel, rfl⟩
theorem aX12_those_2 : decode mX12_those.2.1 2 = .ok (.iconst 0, 1) ∧ 2 + 1 = 3 := ⟨by decide +kernel, rfl⟩
theorem aX12_those_3 : decode mX12_those.2.1 3 = .ok (.istore_n 3, 1) ∧ 3 + 1 = 4 := ⟨by decide +kernel, rfl⟩
theorem aX12_those_4 : decode mX12_those.2.1 4 = .ok (.iload_n 3, 1) ∧ 4 + 1 = 5 := ⟨by decide +kernel, rfl⟩
theorem aX12_those_5 : decode mX12_those.2.1 5 = .ok (.aload_n 0, 1) ∧ 5 + 1 = 6 := ⟨by decide +kernel, rfl⟩
theorem aX12_those_6 : decode mX12_those.2.1 6 = .ok (.getfield 9, 3) ∧ 6 + 3 = 9 := ⟨by decide +kernel, rfl⟩
theorem aX12_those_9 : decode mX12_those.2.1 9 = .ok (.bipush 6, 2) ∧ 9 + 2 = 11 := ⟨by decide +kernel, rfl⟩
theorem aX12_those_11 : decode mX12_those.2.1 11 = .ok (.iaload, 1) ∧ 11 + 1 = 12 := ⟨by decide +kernel, rfl⟩
theorem aX12_those_12 : decode mX12_those.2.1 12 = .ok (.if_icmp .ge 28, 3) ∧ ((12 : Nat) : Int) + 28 = ((40 : Nat) : Int) ∧ 12 + 3 = 15 := ⟨by decide +kernel, by decide, rfl⟩
theorem aX12_those_15 : decode mX12_those.2.1 15 = .ok (.iload_n 2, 1) ∧ 15 + 1 = 16 := ⟨by decide +kernel, rfl⟩
theorem aX12_those_16 : decode mX12_those.2.1 16 = .ok (.aload_n 0, 1) ∧ 16 + 1 = 17 := ⟨by decide +kernel, rfl⟩
theorem aX12_those_17 : decode mX12_those.2.1 17 = .ok (.iload_n 3, 1) ∧ 17 + 1 = 18 := ⟨by decide +kernel, rfl⟩
theorem aX12_those_18 : decode mX12_those.2.1 18 = .ok (.iload_n 1, 1) ∧ 18 + 1 = 19 := ⟨by decide +kernel, rfl⟩
theorem aX12_those_19 : decode mX12_those.2.1 19 = .ok (.invokevirtual 80, 3) ∧ 19 + 3 = 22 := ⟨by decide +kernel, rfl⟩
theorem aX12_those_22 : decode mX12_those.2.1 22 = .ok (.ifCond .le 9, 3) ∧ ((22 : Nat) : Int) + 9 = ((31 : Nat) : Int) ∧ 22 + 3 = 25 := ⟨by decide +kernel, by decide, rfl⟩
theorem aX12_those_25 : decode mX12_those.2.1 25 = .ok (.iconst 1, 1) ∧ 25 + 1 = 26 := ⟨by decide +kernel, rfl⟩
theorem aX12_those_26 : decode mX12_those.2.1 26 = .ok (.iload_n 3, 1) ∧ 26 + 1 = 27 := ⟨by decide +kernel, rfl⟩
theorem aX12_those_27 : decode mX12_those.2.1 27 = .ok (.ishl, 1) ∧ 27 + 1 = 28 := ⟨by decide +kernel, rfl⟩
theorem aX12_those_28 : decode mX12_those.2.1 28 = .ok (.goto 4, 3) ∧ ((28 : Nat) : Int) + 4 = ((32 : Nat) : Int) := ⟨by decide +kernel, by decide⟩
theorem aX12_those_31 : decode mX12_those.2.1 31 = .ok (.iconst 0, 1) ∧ 31 + 1 = 32 := ⟨by decide +kernel, rfl⟩
theorem aX12_those_32 : decode mX12_those.2.1 32 = .ok (.ior, 1) ∧ 32 + 1 = 33 := ⟨by decide +kernel, rfl⟩
theorem aX12_those_33 : decode mX12_those.2.1 33 = .ok (.istore_n 2, 1) ∧ 33 + 1 = 34 := ⟨by decide +kernel, rfl⟩
theorem aX12_those_34 : decode mX12_those.2.1 34 = .ok (.iinc 3 1, 3) ∧ 34 + 3 = 37 := ⟨by decide +kernel, rfl⟩
theorem aX12_those_37 : decode mX12_those.2.1 37 = .ok (.goto (-33), 3) ∧ ((37 : Nat) : Int) + (-33) = ((4 : Nat) : Int) := ⟨by decide +kernel, by decide⟩
theorem aX12_those_40 : decode mX12_those.2.1 40 = .ok (.iload_n 2, 1) ∧ 40 + 1 = 41 := ⟨by decide +kernel, rfl⟩
theorem aX12_those_41 : decode mX12_those.2.1 41 = .ok (.ireturn, 1) := by decide +kernel
theorem S_X12_those {E : EE} {d : Nat} {I : IH} {Q : QT} (x1 : Int32) (h :
J E (d + 1) mX12_those 4 [(0, .ref (eb E + 115)), (1, .int x1), (2, .int (nI 0)), (3, .int (nI 0))] [] I Q) : Mt E (d + 1) mX12_those [.ref (eb E + 115), .int x1] I Q := by
  refine Mt_of [(0, .ref (eb E + 115)), (1, .int x1)] (by decide +kernel) (by simp [lg_sl, Value.category, mX12_those]) rfl ?_
  refine J_iconst (nI 0) aX12_those_0 (by decide +kernel) ?_
  refine J_istore_n [(2, .int (nI 0)), (0, .ref (eb E + 115)), (1, .int x1)] aX12_those_1 (by decide) rfl ?_
  refine J_iconst (nI 0) aX12_those_2 (by decide +kernel) ?_
  refine J_istore_n [(3, .int (nI 0)), (2, .int (nI 0)), (0, .ref (eb E + 115)), (1, .int x1)] aX12_those_3 (by decide) rfl ?_
  refine J_pick [2, 3, 1, 0] rfl ?_
  exact h
theorem S_X12_those_4 {E : EE} {d : Nat} {I : IH} {Q : QT} (x1 : Int32) (x2 : Int32) (x3 : Int32) (h :
(((I 116 6) ≤ x3 → Q (some (.int x2)) I) ∧
 (¬ (I 116 6) ≤ x3 → (Mt E d mX12_get [.ref (eb E + 115), .int x3, .int x1] I (fun rv I1 => ∃ v2 : Int32, rv = some (.int v2) ∧
 ((v2 ≤ 0 → J E (d + 1) mX12_those 4 [(0, .ref (eb E + 115)), (1, .int x1), (2, .int (x2 ||| (nI 0))), (3, .int (x3 + nI 1))] [] I1 Q) ∧
 (¬ v2 ≤ 0 → J E (d + 1) mX12_those 4 [(0, .ref (eb E + 115)), (1, .int x1), (2, .int (x2 ||| ((nI 1) <<< (x3 &&& 31)))), (3, .int (x3 + nI 1))] [] I1 Q))))))) : J E (d + 1) mX12_those 4 [(0, .ref (eb E + 115)), (1, .int x1), (2, .int x2), (3, .int x3)] [] I Q := by
  refine J_iload_n 3 aX12_those_4 rfl ?_
  refine J_aload_n 0 aX12_those_5 rfl ?_
  refine J_getR aX12_those_6 flX12_9 sh115 rfl ?_
  refine J_bipush (nI 6) aX12_those_9 (by decide +kernel) ?_
  refine J_iaload 6 aX12_those_11 sh116 rfl (by decide) (by decide) ?_
  refine J_icmp_ge aX12_those_12 (fun q => ?_) (fun q => ?_)
  · replace h := h.1 q
    refine J_iload_n 2 aX12_those_40 rfl ?_
    exact J_iret aX12_those_41 rfl h
  · replace h := h.2 q
    refine J_iload_n 2 aX12_those_15 rfl ?_
    refine J_aload_n 0 aX12_those_16 rfl ?_
    refine J_iload_n 3 aX12_those_17 rfl ?_
    refine J_iload_n 1 aX12_those_18 rfl ?_
    refine J_callV [.int x3, .int x1] [.int x2] aX12_those_19 lkX12_80_X12 okX12_get sh115 rfl rfl rfl (Nat.le_of_ble_eq_true rfl) (Nat.le_refl _) (Mt_mono h (fun rv I1 h => ?_))
    obtain ⟨v2, rfl, h⟩ := h
    refine J_r1 ?_
    refine J_if_le aX12_those_22 (fun q => ?_) (fun q => ?_)
    · replace h := h.1 q
      refine J_iconst (nI 0) aX12_those_31 (by decide +kernel) ?_
      refine J_ior aX12_those_32 ?_
      refine J_istore_n [(2, .int (x2 ||| (nI 0))), (0, .ref (eb E + 115)), (1, .int x1), (3, .int x3)] aX12_those_33 (by decide) rfl ?_
      refine J_iinc (x3 + nI 1) [(3, .int (x3 + nI 1)), (2, .int (x2 ||| (nI 0))), (0, .ref (eb E + 115)), (1, .int x1)] 3 aX12_those_34 rfl (by first | rfl | (congr 1; decide +kernel)) (by decide) rfl ?_
      refine J_goto aX12_those_37 ?_
      refine J_pick [2, 3, 1, 0] rfl ?_
      exact h
    · replace h := h.2 q
      refine J_iconst (nI 1) aX12_those_25 (by decide +kernel) ?_
      refine J_iload_n 3 aX12_those_26 rfl ?_
      refine J_ishl aX12_those_27 ?_
      refine J_goto aX12_those_28 ?_
      refine J_ior aX12_those_32 ?_
      refine J_istore_n [(2, .int (x2 ||| ((nI 1) <<< (x3 &&& 31)))), (0, .ref (eb E + 115)), (1, .int x1), (3, .int x3)] aX12_those_33 (by decide) rfl ?_
      refine J_iinc (x3 + nI 1) [(3, .int (x3 + nI 1)), (2, .int (x2 ||| ((nI 1) <<< (x3 &&& 31)))), (0, .ref (eb E + 115)), (1, .int x1)] 3 aX12_those_34 rfl (by first | rfl | (congr 1; decide +kernel)) (by decide) rfl ?_
      refine J_goto aX12_those_37 ?_
      refine J_pick [2, 3, 1, 0] rfl ?_
      exact h
theorem aX12_state_0 : decode mX12_state.2.1 0 = .ok (.iload_n 1, 1) ∧ 0 + 1 = 1 := ⟨by decide +kernel, rfl⟩
theorem aX12_state_1 : decode mX12_state.2.1 1 = .ok (.tableswitch 131 0 7 #[47, 54, 61, 68, 81, 87, 117, 124], 47) := by decide +kernel
theorem aX12_state_48 : decode mX12_state.2.1 48 = .ok (.aload_n 0, 1) ∧ 48 + 1 = 49 := ⟨by decide +kernel, rfl⟩
theorem aX12_state_49 : decode mX12_state.2.1 49 = .ok (.getfield 9, 3) ∧ 49 + 3 = 52 := ⟨by decide +kernel, rfl⟩
theorem aX12_state_52 : decode mX12_state.2.1 52 = .ok (.iconst 0, 1) ∧ 52 + 1 = 53 := ⟨by decide +kernel, rfl⟩
theorem aX12_state_53 : decode mX12_state.2.1 53 = .ok (.iaload, 1) ∧ 53 + 1 = 54 := ⟨by decide +kernel, rfl⟩
theorem aX12_state_54 : decode mX12_state.2.1 54 = .ok (.ireturn, 1) := by decide +kernel
theorem aX12_state_55 : decode mX12_state.2.1 55 = .ok (.aload_n 0, 1) ∧ 55 + 1 = 56 := ⟨by decide +kernel, rfl⟩
theorem aX12_state_56 : decode mX12_state.2.1 56 = .ok (.getfield 9, 3) ∧ 56 + 3 = 59 := ⟨by decide +kernel, rfl⟩
theorem aX12_state_59 : decode mX12_state.2.1 59 = .ok (.iconst 1, 1) ∧ 59 + 1 = 60 := ⟨by decide +kernel, rfl⟩
theorem aX12_state_60 : decode mX12_state.2.1 60 = .ok (.iaload, 1) ∧ 60 + 1 = 61 := ⟨by decide +kernel, rfl⟩
theorem aX12_state_61 : decode mX12_state.2.1 61 = .ok (.ireturn, 1) := by decide +kernel
theorem aX12_state_62 : decode mX12_state.2.1 62 = .ok (.aload_n 0, 1) ∧ 62 + 1 = 63 := ⟨by decide +kernel, rfl⟩
theorem aX12_state_63 : decode mX12_state.2.1 63 = .ok (.getfield 9, 3) ∧ 63 + 3 = 66 := ⟨by decide +kernel, rfl⟩
theorem aX12_state_66 : decode mX12_state.2.1 66 = .ok (.iconst 2, 1) ∧ 66 + 1 = 67 := ⟨by decide +kernel, rfl⟩
theorem aX12_state_67 : decode mX12_state.2.1 67 = .ok (.iaload, 1) ∧ 67 + 1 = 68 := ⟨by decide +kernel, rfl⟩
theorem aX12_state_68 : decode mX12_state.2.1 68 = .ok (.ireturn, 1) := by decide +kernel
theorem aX12_state_69 : decode mX12_state.2.1 69 = .ok (.aload_n 0, 1) ∧ 69 + 1 = 70 := ⟨by decide +kernel, rfl⟩
theorem aX12_state_70 : decode mX12_state.2.1 70 = .ok (.invokevirtual 228, 3) ∧ 70 + 3 = 73 := ⟨by decide +kernel, rfl⟩
theorem aX12_state_73 : decode mX12_state.2.1 73 = .ok (.ifCond .eq 7, 3) ∧ ((73 : Nat) : Int) + 7 = ((80 : Nat) : Int) ∧ 73 + 3 = 76 := ⟨by decide +kernel, by decide, rfl⟩
theorem aX12_state_76 : decode mX12_state.2.1 76 = .ok (.iconst 1, 1) ∧ 76 + 1 = 77 := ⟨by decide +kernel, rfl⟩
theorem aX12_state_77 : decode mX12_state.2.1 77 = .ok (.goto 4, 3) ∧ ((77 : Nat) : Int) + 4 = ((81 : Nat) : Int) := ⟨by decide +kernel, by decide⟩
theorem aX12_state_80 : decode mX12_state.2.1 80 = .ok (.iconst 0, 1) ∧ 80 + 1 = 81 := ⟨by decide +kernel, rfl⟩
theorem aX12_state_81 : decode mX12_state.2.1 81 = .ok (.ireturn, 1) := by decide +kernel
theorem aX12_state_82 : decode mX12_state.2.1 82 = .ok (.aload_n 0, 1) ∧ 82 + 1 = 83 := ⟨by decide +kernel, rfl⟩
theorem aX12_state_83 : decode mX12_state.2.1 83 = .ok (.iconst 4, 1) ∧ 83 + 1 = 84 := ⟨by decide +kernel, rfl⟩
theorem aX12_state_84 : decode mX12_state.2.1 84 = .ok (.invokevirtual 231, 3) ∧ 84 + 3 = 87 := ⟨by decide +kernel, rfl⟩
theorem aX12_state_87 : decode mX12_state.2.1 87 = .ok (.ireturn, 1) := by decide +kernel
theorem aX12_state_88 : decode mX12_state.2.1 88 = .ok (.aload_n 0, 1) ∧ 88 + 1 = 89 := ⟨by decide +kernel, rfl⟩
theorem aX12_state_89 : decode mX12_state.2.1 89 = .ok (.getfield 9, 3) ∧ 89 + 3 = 92 := ⟨by decide +kernel, rfl⟩
theorem aX12_state_92 : decode mX12_state.2.1 92 = .ok (.iconst 0, 1) ∧ 92 + 1 = 93 := ⟨by decide +kernel, rfl⟩
theorem aX12_state_93 : decode mX12_state.2.1 93 = .ok (.iaload, 1) ∧ 93 + 1 = 94 := ⟨by decide +kernel, rfl⟩
theorem aX12_state_94 : decode mX12_state.2.1 94 = .ok (.bipush 16, 2) ∧ 94 + 2 = 96 := ⟨by decide +kernel, rfl⟩
theorem aX12_state_96 : decode mX12_state.2.1 96 = .ok (.if_icmp .ge 20, 3) ∧ ((96 : Nat) : Int) + 20 = ((116 : Nat) : Int) ∧ 96 + 3 = 99 := ⟨by decide +kernel, by decide, rfl⟩
theorem aX12_state_99 : decode mX12_state.2.1 99 = .ok (.aload_n 0, 1) ∧ 99 + 1 = 100 := ⟨by decide +kernel, rfl⟩
theorem aX12_state_100 : decode mX12_state.2.1 100 = .ok (.getfield 9, 3) ∧ 100 + 3 = 103 := ⟨by decide +kernel, rfl⟩
theorem aX12_state_103 : decode mX12_state.2.1 103 = .ok (.bipush 10, 2) ∧ 103 + 2 = 105 := ⟨by decide +kernel, rfl⟩
theorem aX12_state_105 : decode mX12_state.2.1 105 = .ok (.aload_n 0, 1) ∧ 105 + 1 = 106 := ⟨by decide +kernel, rfl⟩
theorem aX12_state_106 : decode mX12_state.2.1 106 = .ok (.getfield 9, 3) ∧ 106 + 3 = 109 := ⟨by decide +kernel, rfl⟩
theorem aX12_state_109 : decode mX12_state.2.1 109 = .ok (.iconst 0, 1) ∧ 109 + 1 = 110 := ⟨by decide +kernel, rfl⟩
theorem aX12_state_110 : decode mX12_state.2.1 110 = .ok (.iaload, 1) ∧ 110 + 1 = 111 := ⟨by decide +kernel, rfl⟩
theorem aX12_state_111 : decode mX12_state.2.1 111 = .ok (.iadd, 1) ∧ 111 + 1 = 112 := ⟨by decide +kernel, rfl⟩
theorem aX12_state_112 : decode mX12_state.2.1 112 = .ok (.iaload, 1) ∧ 112 + 1 = 113 := ⟨by decide +kernel, rfl⟩
theorem aX12_state_113 : decode mX12_state.2.1 113 = .ok (.goto 4, 3) ∧ ((113 : Nat) : Int) + 4 = ((117 : Nat) : Int) := ⟨by decide +kernel, by decide⟩
theorem aX12_state_116 : decode mX12_state.2.1 116 = .ok (.iconst 0, 1) ∧ 116 + 1 = 117 := ⟨by decide +kernel, rfl⟩
theorem aX12_state_117 : decode mX12_state.2.1 117 = .ok (.ireturn, 1) := by decide +kernel
theorem aX12_state_118 : decode mX12_state.2.1 118 = .ok (.aload_n 0, 1) ∧ 118 + 1 = 119 := ⟨by decide +kernel, rfl⟩
theorem aX12_state_119 : decode mX12_state.2.1 119 = .ok (.getfield 9, 3) ∧ 119 + 3 = 122 := ⟨by decide +kernel, rfl⟩
theorem aX12_state_122 : decode mX12_state.2.1 122 = .ok (.iconst 3, 1) ∧ 122 + 1 = 123 := ⟨by decide +kernel, rfl⟩
theorem aX12_state_123 : decode mX12_state.2.1 123 = .ok (.iaload, 1) ∧ 123 + 1 = 124 := ⟨by decide +kernel, rfl⟩
theorem aX12_state_124 : decode mX12_state.2.1 124 = .ok (.ireturn, 1) := by decide +kernel
theorem aX12_state_125 : decode mX12_state.2.1 125 = .ok (.aload_n 0, 1) ∧ 125 + 1 = 126 := ⟨by decide +kernel, rfl⟩
theorem aX12_state_126 : decode mX12_state.2.1 126 = .ok (.getfield 9, 3) ∧ 126 + 3 = 129 := ⟨by decide +kernel, rfl⟩
theorem aX12_state_129 : decode mX12_state.2.1 129 = .ok (.iconst 4, 1) ∧ 129 + 1 = 130 := ⟨by decide +kernel, rfl⟩
theorem aX12_state_130 : decode mX12_state.2.1 130 = .ok (.iaload, 1) ∧ 130 + 1 = 131 := ⟨by decide +kernel, rfl⟩
theorem aX12_state_131 : decode mX12_state.2.1 131 = .ok (.ireturn, 1) := by decide +kernel
theorem aX12_state_132 : decode mX12_state.2.1 132 = .ok (.iconst (-1), 1) ∧ 132 + 1 = 133 := ⟨by decide +kernel, rfl⟩
theorem aX12_state_133 : decode mX12_state.2.1 133 = .ok (.ireturn, 1) := by decide +kernel
theorem S_X12_state {E : EE} {d : Nat} {I : IH} {Q : QT} (x1 : Int32) (h :
((x1 = (nI 0) → Q (some (.int (I 116 0))) I) ∧
 ((x1 = (nI 1) → Q (some (.int (I 116 1))) I) ∧
 ((x1 = (nI 2) → Q (some (.int (I 116 2))) I) ∧
 ((x1 = (nI 3) → (Mt E d mX12_isOver [.ref (eb E + 115)] I (fun rv I1 => ∃ v2 : Int32, rv = some (.int v2) ∧
 ((v2 = 0 → Q (some (.int (nI 0))) I1) ∧
 (¬ v2 = 0 → Q (some (.int (nI 1))) I1))))) ∧
 ((x1 = (nI 4) → (Mt E d mX12_those [.ref (eb E + 115), .int (nI 4)] I (fun rv I3 => ∃ v4 : Int32, rv = some (.int v4) ∧
 Q (some (.int v4)) I3))) ∧
 ((x1 = (nI 5) → (((nI 16) ≤ (I 116 0) → Q (some (.int (nI 0))) I) ∧
 (¬ (nI 16) ≤ (I 116 0) → (∃ j5 : Nat, ((nI 10) + (I 116 0)) = nI j5 ∧ j5 < 322 ∧ Q (some (.int (I 116 j5))) I)))) ∧
 ((x1 = (nI 6) → Q (some (.int (I 116 3))) I) ∧
 ((x1 = (nI 7) → Q (some (.int (I 116 4))) I) ∧
 (¬ x1 = (nI 0) ∧ ¬ x1 = (nI 1) ∧ ¬ x1 = (nI 2) ∧ ¬ x1 = (nI 3) ∧ ¬ x1 = (nI 4) ∧ ¬ x1 = (nI 5) ∧ ¬ x1 = (nI 6) ∧ ¬ x1 = (nI 7) → Q (some (.int (-1))) I)))))))))) : Mt E (d + 1) mX12_state [.ref (eb E + 115), .int x1] I Q := by
  refine Mt_of [(0, .ref (eb E + 115)), (1, .int x1)] (by decide +kernel) (by simp [lg_sl, Value.category, mX12_state]) rfl ?_
  refine J_iload_n 1 aX12_state_0 rfl ?_
  by_cases q0 : x1 = (nI 0)
  · replace h := h.1 q0
    refine J_tswIn (nI 0) aX12_state_1 (off := 47) (tgt := 48) (by decide +kernel) q0 ?_
    refine J_aload_n 0 aX12_state_48 rfl ?_
    refine J_getR aX12_state_49 flX12_9 sh115 rfl ?_
    refine J_iconst (nI 0) aX12_state_52 (by decide +kernel) ?_
    refine J_iaload 0 aX12_state_53 sh116 rfl (by decide) (by decide) ?_
    exact J_iret aX12_state_54 rfl h
  replace h := h.2
  by_cases q1 : x1 = (nI 1)
  · replace h := h.1 q1
    refine J_tswIn (nI 1) aX12_state_1 (off := 54) (tgt := 55) (by decide +kernel) q1 ?_
    refine J_aload_n 0 aX12_state_55 rfl ?_
    refine J_getR aX12_state_56 flX12_9 sh115 rfl ?_
    refine J_iconst (nI 1) aX12_state_59 (by decide +kernel) ?_
    refine J_iaload 1 aX12_state_60 sh116 rfl (by decide) (by decide) ?_
    exact J_iret aX12_state_61 rfl h
  replace h := h.2
  by_cases q2 : x1 = (nI 2)
  · replace h := h.1 q2
    refine J_tswIn (nI 2) aX12_state_1 (off := 61) (tgt := 62) (by decide +kernel) q2 ?_
    refine J_aload_n 0 aX12_state_62 rfl ?_
    refine J_getR aX12_state_63 flX12_9 sh115 rfl ?_
    refine J_iconst (nI 2) aX12_state_66 (by decide +kernel) ?_
    refine J_iaload 2 aX12_state_67 sh116 rfl (by decide) (by decide) ?_
    exact J_iret aX12_state_68 rfl h
  replace h := h.2
  by_cases q3 : x1 = (nI 3)
  · replace h := h.1 q3
    refine J_tswIn (nI 3) aX12_state_1 (off := 68) (tgt := 69) (by decide +kernel) q3 ?_
    refine J_aload_n 0 aX12_state_69 rfl ?_
    refine J_callV [] [] aX12_state_70 lkX12_228_X12 okX12_isOver sh115 rfl rfl rfl (Nat.le_of_ble_eq_true rfl) (Nat.le_refl _) (Mt_mono h (fun rv I1 h => ?_))
    obtain ⟨v2, rfl, h⟩ := h
    refine J_r1 ?_
    refine J_if_eq aX12_state_73 (fun q => ?_) (fun q => ?_)
    · replace h := h.1 q
      refine J_iconst (nI 0) aX12_state_80 (by decide +kernel) ?_
      exact J_iret aX12_state_81 rfl h
    · replace h := h.2 q
      refine J_iconst (nI 1) aX12_state_76 (by decide +kernel) ?_
      refine J_goto aX12_state_77 ?_
      exact J_iret aX12_state_81 rfl h
  replace h := h.2
  by_cases q4 : x1 = (nI 4)
  · replace h := h.1 q4
    refine J_tswIn (nI 4) aX12_state_1 (off := 81) (tgt := 82) (by decide +kernel) q4 ?_
    refine J_aload_n 0 aX12_state_82 rfl ?_
    refine J_iconst (nI 4) aX12_state_83 (by decide +kernel) ?_
    refine J_callV [.int (nI 4)] [] aX12_state_84 lkX12_231_X12 okX12_those sh115 rfl rfl rfl (Nat.le_of_ble_eq_true rfl) (Nat.le_refl _) (Mt_mono h (fun rv I3 h => ?_))
    obtain ⟨v4, rfl, h⟩ := h
    refine J_r1 ?_
    exact J_iret aX12_state_87 rfl h
  replace h := h.2
  by_cases q5 : x1 = (nI 5)
  · replace h := h.1 q5
    refine J_tswIn (nI 5) aX12_state_1 (off := 87) (tgt := 88) (by decide +kernel) q5 ?_
    refine J_aload_n 0 aX12_state_88 rfl ?_
    refine J_getR aX12_state_89 flX12_9 sh115 rfl ?_
    refine J_iconst (nI 0) aX12_state_92 (by decide +kernel) ?_
    refine J_iaload 0 aX12_state_93 sh116 rfl (by decide) (by decide) ?_
    refine J_bipush (nI 16) aX12_state_94 (by decide +kernel) ?_
    refine J_icmp_ge aX12_state_96 (fun q => ?_) (fun q => ?_)
    · replace h := h.1 q
      refine J_iconst (nI 0) aX12_state_116 (by decide +kernel) ?_
      exact J_iret aX12_state_117 rfl h
    · replace h := h.2 q
      refine J_aload_n 0 aX12_state_99 rfl ?_
      refine J_getR aX12_state_100 flX12_9 sh115 rfl ?_
      refine J_bipush (nI 10) aX12_state_103 (by decide +kernel) ?_
      refine J_aload_n 0 aX12_state_105 rfl ?_
      refine J_getR aX12_state_106 flX12_9 sh115 rfl ?_
      refine J_iconst (nI 0) aX12_state_109 (by decide +kernel) ?_
      refine J_iaload 0 aX12_state_110 sh116 rfl (by decide) (by decide) ?_
      refine J_iadd aX12_state_111 ?_
      obtain ⟨j5, e6, b7, h⟩ := h
      refine J_iaload j5 aX12_state_112 sh116 e6 b7 (by decide) ?_
      refine J_goto aX12_state_113 ?_
      exact J_iret aX12_state_117 rfl h
  replace h := h.2
  by_cases q6 : x1 = (nI 6)
  · replace h := h.1 q6
    refine J_tswIn (nI 6) aX12_state_1 (off := 117) (tgt := 118) (by decide +kernel) q6 ?_
    refine J_aload_n 0 aX12_state_118 rfl ?_
    refine J_getR aX12_state_119 flX12_9 sh115 rfl ?_
    refine J_iconst (nI 3) aX12_state_122 (by decide +kernel) ?_
    refine J_iaload 3 aX12_state_123 sh116 rfl (by decide) (by decide) ?_
    exact J_iret aX12_state_124 rfl h
  replace h := h.2
  by_cases q7 : x1 = (nI 7)
  · replace h := h.1 q7
    refine J_tswIn (nI 7) aX12_state_1 (off := 124) (tgt := 125) (by decide +kernel) q7 ?_
    refine J_aload_n 0 aX12_state_125 rfl ?_
    refine J_getR aX12_state_126 flX12_9 sh115 rfl ?_
    refine J_iconst (nI 4) aX12_state_129 (by decide +kernel) ?_
    refine J_iaload 4 aX12_state_130 sh116 rfl (by decide) (by decide) ?_
    exact J_iret aX12_state_131 rfl h
  replace h := h.2
  replace h := h ⟨q0, q1, q2, q3, q4, q5, q6, q7⟩
  refine J_tswOut aX12_state_1 (tgt := 132) (by decide) (tsw_out (fun k h1 h2 hk => by
    have hh : k = 0 ∨ k = 1 ∨ k = 2 ∨ k = 3 ∨ k = 4 ∨ k = 5 ∨ k = 6 ∨ k = 7 := by omega
    rcases hh with rfl | rfl | rfl | rfl | rfl | rfl | rfl | rfl
    · exact q0 (Int32.toInt_inj.mp (hk.trans (by decide +kernel)))
    · exact q1 (Int32.toInt_inj.mp (hk.trans (by decide +kernel)))
    · exact q2 (Int32.toInt_inj.mp (hk.trans (by decide +kernel)))
    · exact q3 (Int32.toInt_inj.mp (hk.trans (by decide +kernel)))
    · exact q4 (Int32.toInt_inj.mp (hk.trans (by decide +kernel)))
    · exact q5 (Int32.toInt_inj.mp (hk.trans (by decide +kernel)))
    · exact q6 (Int32.toInt_inj.mp (hk.trans (by decide +kernel)))
    · exact q7 (Int32.toInt_inj.mp (hk.trans (by decide +kernel)))
    )) ?_
  refine J_iconst (-1) aX12_state_132 (by decide +kernel) ?_
  exact J_iret aX12_state_133 rfl h
