theorem aX12_minute_0 : decode mX12_minute.2.1 0 = .ok (.aload_n 0, 1) ∧ 0 + 1 = 1 := ⟨by decide +kernel, rfl⟩
theorem aX12_minute_1 : decode mX12_minute.2.1 1 = .ok (.invokevirtual 228, 3) ∧ 1 + 3 = 4 := ⟨by decide +kernel, rfl⟩
theorem aX12_minute_4 : decode mX12_minute.2.1 4 = .ok (.ifCond .eq 8, 3) ∧ ((4 : Nat) : Int) + 8 = ((12 : Nat) : Int) ∧ 4 + 3 = 7 := ⟨by decide +kernel, by decide, rfl⟩
theorem aX12_minute_7 : decode mX12_minute.2.1 7 = .ok (.bipush (-4), 2) ∧ 7 + 2 = 9 := ⟨by decide +kernel, rfl⟩
theorem aX12_minute_9 : decode mX12_minute.2.1 9 = .ok (.goto 8, 3) ∧ ((9 : Nat) : Int) + 8 = ((17 : Nat) : Int) := ⟨by decide +kernel, by decide⟩
theorem aX12_minute_12 : decode mX12_minute.2.1 12 = .ok (.aload_n 0, 1) ∧ 12 + 1 = 13 := ⟨by decide +kernel, rfl⟩
theorem aX12_minute_13 : decode mX12_minute.2.1 13 = .ok (.iconst (-1), 1) ∧ 13 + 1 = 14 := ⟨by decide +kernel, rfl⟩
theorem aX12_minute_14 : decode mX12_minute.2.1 14 = .ok (.invokevirtual 234, 3) ∧ 14 + 3 = 17 := ⟨by decide +kernel, rfl⟩
theorem aX12_minute_17 : decode mX12_minute.2.1 17 = .ok (.ireturn, 1) := by decide +kernel
theorem S_X12_minute {E : EE} {d : Nat} {I : IH} {Q : QT}  (h :
(Mt E d mX12_isOver [.ref (eb E + 115)] I (fun rv I1 => ∃ v2 : Int32, rv = some (.int v2) ∧
 ((v2 = 0 → (Mt E d mX12_goesBy [.ref (eb E + 115), .int (-1)] I1 (fun rv I3 => ∃ v4 : Int32, rv = some (.int v4) ∧
 Q (some (.int v4)) I3))) ∧
 (¬ v2 = 0 → Q (some (.int (-4))) I1))))) : Mt E (d + 1) mX12_minute [.ref (eb E + 115)] I Q := by
  refine Mt_of [(0, .ref (eb E + 115))] (by decide +kernel) (by simp [lg_sl, Value.category, mX12_minute]) rfl ?_
  refine J_aload_n 0 aX12_minute_0 rfl ?_
  refine J_callV [] [] aX12_minute_1 lkX12_228_X12 okX12_isOver sh115 rfl rfl rfl (Nat.le_of_ble_eq_true rfl) (Nat.le_refl _) (Mt_mono h (fun rv I1 h => ?_))
  obtain ⟨v2, rfl, h⟩ := h
  refine J_r1 ?_
  refine J_if_eq aX12_minute_4 (fun q => ?_) (fun q => ?_)
  · replace h := h.1 q
    refine J_aload_n 0 aX12_minute_12 rfl ?_
    refine J_iconst (-1) aX12_minute_13 (by decide +kernel) ?_
    refine J_callV [.int (-1)] [] aX12_minute_14 lkX12_234_X12 okX12_goesBy sh115 rfl rfl rfl (Nat.le_of_ble_eq_true rfl) (Nat.le_refl _) (Mt_mono h (fun rv I3 h => ?_))
    obtain ⟨v4, rfl, h⟩ := h
    refine J_r1 ?_
    exact J_iret aX12_minute_17 rfl h
  · replace h := h.2 q
    refine J_bipush (-4) aX12_minute_7 (by decide +kernel) ?_
    refine J_goto aX12_minute_9 ?_
    exact J_iret aX12_minute_17 rfl h
theorem aX12_restOf_0 : decode mX12_restOf.2.1 0 = .ok (.iconst 0, 1) ∧ 0 + 1 = 1 := ⟨by decide +kernel, rfl⟩
theorem aX12_restOf_1 : decode mX12_restOf.2.1 1 = .ok (.istore_n 2, 1) ∧ 1 + 1 = 2 := ⟨by decide +kernel, rfl⟩
theorem aX12_restOf_2 : decode mX12_restOf.2.1 2 = .ok (.iconst 0, 1) ∧ 2 + 1 = 3 := ⟨by decide +kernel, rfl⟩
theorem aX12_restOf_3 : decode mX12_restOf.2.1 3 = .ok (.istore_n 3, 1) ∧ 3 + 1 = 4 := ⟨by decide +kernel, rfl⟩
theorem aX12_restOf_4 : decode mX12_restOf.2.1 4 = .ok (.iload_n 3, 1) ∧ 4 + 1 = 5 := ⟨by decide +kernel, rfl⟩
theorem aX12_restOf_5 : decode mX12_restOf.2.1 5 = .ok (.iload_n 1, 1) ∧ 5 + 1 = 6 := ⟨by decide +kernel, rfl⟩
theorem aX12_restOf_6 : decode mX12_restOf.2.1 6 = .ok (.if_icmp .ge 24, 3) ∧ ((6 : Nat) : Int) + 24 = ((30 : Nat) : Int) ∧ 6 + 3 = 9 := ⟨by decide +kernel, by decide, rfl⟩
theorem aX12_restOf_9 : decode mX12_restOf.2.1 9 = .ok (.aload_n 0, 1) ∧ 9 + 1 = 10 := ⟨by decide +kernel, rfl⟩
theorem aX12_restOf_10 : decode mX12_restOf.2.1 10 = .ok (.invokevirtual 228, 3) ∧ 10 + 3 = 13 := ⟨by decide +kernel, rfl⟩
theorem aX12_restOf_13 : decode mX12_restOf.2.1 13 = .ok (.ifCond .ne 17, 3) ∧ ((13 : Nat) : Int) + 17 = ((30 : Nat) : Int) ∧ 13 + 3 = 16 := ⟨by decide +kernel, by decide, rfl⟩
theorem aX12_restOf_16 : decode mX12_restOf.2.1 16 = .ok (.iload_n 2, 1) ∧ 16 + 1 = 17 := ⟨by decide +kernel, rfl⟩
theorem aX12_restOf_17 : decode mX12_restOf.2.1 17 = .ok (.aload_n 0, 1) ∧ 17 + 1 = 18 := ⟨by decide +kernel, rfl⟩
theorem aX12_restOf_18 : decode mX12_restOf.2.1 18 = .ok (.iconst (-1), 1) ∧ 18 + 1 = 19 := ⟨by decide +kernel, rfl⟩
theorem aX12_restOf_19 : decode mX12_restOf.2.1 19 = .ok (.invokevirtual 234, 3) ∧ 19 + 3 = 22 := ⟨by decide +kernel, rfl⟩
theorem aX12_restOf_22 : decode mX12_restOf.2.1 22 = .ok (.iadd, 1) ∧ 22 + 1 = 23 := ⟨by decide +kernel, rfl⟩
theorem aX12_restOf_23 : decode mX12_restOf.2.1 23 = .ok (.istore_n 2, 1) ∧ 23 + 1 = 24 := ⟨by decide +kernel, rfl⟩
theorem aX12_restOf_24 : decode mX12_restOf.2.1 24 = .ok (.iinc 3 1, 3) ∧ 24 + 3 = 27 := ⟨by decide +kernel, rfl⟩
theorem aX12_restOf_27 : decode mX12_restOf.2.1 27 = .ok (.goto (-23), 3) ∧ ((27 : Nat) : Int) + (-23) = ((4 : Nat) : Int) := ⟨by decide +kernel, by decide⟩
theorem aX12_restOf_30 : decode mX12_restOf.2.1 30 = .ok (.iload_n 2, 1) ∧ 30 + 1 = 31 := ⟨by decide +kernel, rfl⟩
theorem aX12_restOf_31 : decode mX12_restOf.2.1 31 = .ok (.ireturn, 1) := by decide +kernel
theorem S_X12_restOf {E : EE} {d : Nat} {I : IH} {Q : QT} (x1 : Int32) (h :
J E (d + 1) mX12_restOf 4 [(0, .ref (eb E + 115)), (1, .int x1), (2, .int (nI 0)), (3, .int (nI 0))] [] I Q) : Mt E (d + 1) mX12_restOf [.ref (eb E + 115), .int x1] I Q := by
  refine Mt_of [(0, .ref (eb E + 115)), (1, .int x1)] (by decide +kernel) (by simp [lg_sl, Value.category, mX12_restOf]) rfl ?_
  refine J_iconst (nI 0) aX12_restOf_0 (by decide +kernel) ?_
  refine J_istore_n [(2, .int (nI 0)), (0, .ref (eb E + 115)), (1, .int x1)] aX12_restOf_1 (by decide) rfl ?_
  refine J_iconst (nI 0) aX12_restOf_2 (by decide +kernel) ?_
  refine J_istore_n [(3, .int (nI 0)), (2, .int (nI 0)), (0, .ref (eb E + 115)), (1, .int x1)] aX12_restOf_3 (by decide) rfl ?_
  refine J_pick [2, 3, 1, 0] rfl ?_
  exact h
theorem S_X12_restOf_4 {E : EE} {d : Nat} {I : IH} {Q : QT} (x1 : Int32) (x2 : Int32) (x3 : Int32) (h :
((x1 ≤ x3 → Q (some (.int x2)) I) ∧
 (¬ x1 ≤ x3 → (Mt E d mX12_isOver [.ref (eb E + 115)] I (fun rv I1 => ∃ v2 : Int32, rv = some (.int v2) ∧
 ((¬ v2 = 0 → Q (some (.int x2)) I1) ∧
 (v2 = 0 → (Mt E d mX12_goesBy [.ref (eb E + 115), .int (-1)] I1 (fun rv I3 => ∃ v4 : Int32, rv = some (.int v4) ∧
 J E (d + 1) mX12_restOf 4 [(0, .ref (eb E + 115)), (1, .int x1), (2, .int (x2 + v4)), (3, .int (x3 + nI 1))] [] I3 Q))))))))) : J E (d + 1) mX12_restOf 4 [(0, .ref (eb E + 115)), (1, .int x1), (2, .int x2), (3, .int x3)] [] I Q := by
  refine J_iload_n 3 aX12_restOf_4 rfl ?_
  refine J_iload_n 1 aX12_restOf_5 rfl ?_
  refine J_icmp_ge aX12_restOf_6 (fun q => ?_) (fun q => ?_)
  · replace h := h.1 q
    refine J_iload_n 2 aX12_restOf_30 rfl ?_
    exact J_iret aX12_restOf_31 rfl h
  · replace h := h.2 q
    refine J_aload_n 0 aX12_restOf_9 rfl ?_
    refine J_callV [] [] aX12_restOf_10 lkX12_228_X12 okX12_isOver sh115 rfl rfl rfl (Nat.le_of_ble_eq_true rfl) (Nat.le_refl _) (Mt_mono h (fun rv I1 h => ?_))
    obtain ⟨v2, rfl, h⟩ := h
    refine J_r1 ?_
    refine J_if_ne aX12_restOf_13 (fun q => ?_) (fun q => ?_)
    · replace h := h.1 q
      refine J_iload_n 2 aX12_restOf_30 rfl ?_
      exact J_iret aX12_restOf_31 rfl h
    · replace h := h.2 q
      refine J_iload_n 2 aX12_restOf_16 rfl ?_
      refine J_aload_n 0 aX12_restOf_17 rfl ?_
      refine J_iconst (-1) aX12_restOf_18 (by decide +kernel) ?_
      refine J_callV [.int (-1)] [.int x2] aX12_restOf_19 lkX12_234_X12 okX12_goesBy sh115 rfl rfl rfl (Nat.le_of_ble_eq_true rfl) (Nat.le_refl _) (Mt_mono h (fun rv I3 h => ?_))
      obtain ⟨v4, rfl, h⟩ := h
      refine J_r1 ?_
      refine J_iadd aX12_restOf_22 ?_
      refine J_istore_n [(2, .int (x2 + v4)), (0, .ref (eb E + 115)), (1, .int x1), (3, .int x3)] aX12_restOf_23 (by decide) rfl ?_
      refine J_iinc (x3 + nI 1) [(3, .int (x3 + nI 1)), (2, .int (x2 + v4)), (0, .ref (eb E + 115)), (1, .int x1)] 3 aX12_restOf_24 rfl (by first | rfl | (congr 1; decide +kernel)) (by decide) rfl ?_
      refine J_goto aX12_restOf_27 ?_
      refine J_pick [2, 3, 1, 0] rfl ?_
      exact h
theorem aX12_on_0 : decode mX12_on.2.1 0 = .ok (.iload_n 1, 1) ∧ 0 + 1 = 1 := ⟨by decide +kernel, rfl⟩
theorem aX12_on_1 : decode mX12_on.2.1 1 = .ok (.iconst 0, 1) ∧ 1 + 1 = 2 := ⟨by decide +kernel, rfl⟩
theorem aX12_on_2 : decode mX12_on.2.1 2 = .ok (.bipush 16, 2) ∧ 2 + 2 = 4 := ⟨by decide +kernel, rfl⟩
theorem aX12_on_4 : decode mX12_on.2.1 4 = .ok (.invokestatic 68, 3) ∧ 4 + 3 = 7 := ⟨by decide +kernel, rfl⟩
theorem aX12_on_7 : decode mX12_on.2.1 7 = .ok (.ifCond .ne 5, 3) ∧ ((7 : Nat) : Int) + 5 = ((12 : Nat) : Int) ∧ 7 + 3 = 10 := ⟨by decide +kernel, by decide, rfl⟩
theorem aX12_on_10 : decode mX12_on.2.1 10 = .ok (.iconst (-1), 1) ∧ 10 + 1 = 11 := ⟨by decide +kernel, rfl⟩
theorem aX12_on_11 : decode mX12_on.2.1 11 = .ok (.ireturn, 1) := by decide +kernel
theorem aX12_on_12 : decode mX12_on.2.1 12 = .ok (.aload_n 0, 1) ∧ 12 + 1 = 13 := ⟨by decide +kernel, rfl⟩
theorem aX12_on_13 : decode mX12_on.2.1 13 = .ok (.invokevirtual 237, 3) ∧ 13 + 3 = 16 := ⟨by decide +kernel, rfl⟩
theorem aX12_on_16 : decode mX12_on.2.1 16 = .ok (.aload_n 0, 1) ∧ 16 + 1 = 17 := ⟨by decide +kernel, rfl⟩
theorem aX12_on_17 : decode mX12_on.2.1 17 = .ok (.iload_n 1, 1) ∧ 17 + 1 = 18 := ⟨by decide +kernel, rfl⟩
theorem aX12_on_18 : decode mX12_on.2.1 18 = .ok (.invokevirtual 240, 3) ∧ 18 + 3 = 21 := ⟨by decide +kernel, rfl⟩
theorem aX12_on_21 : decode mX12_on.2.1 21 = .ok (.istore_n 2, 1) ∧ 21 + 1 = 22 := ⟨by decide +kernel, rfl⟩
theorem aX12_on_22 : decode mX12_on.2.1 22 = .ok (.aload_n 0, 1) ∧ 22 + 1 = 23 := ⟨by decide +kernel, rfl⟩
theorem aX12_on_23 : decode mX12_on.2.1 23 = .ok (.invokevirtual 243, 3) ∧ 23 + 3 = 26 := ⟨by decide +kernel, rfl⟩
theorem aX12_on_26 : decode mX12_on.2.1 26 = .ok (.iload_n 2, 1) ∧ 26 + 1 = 27 := ⟨by decide +kernel, rfl⟩
theorem aX12_on_27 : decode mX12_on.2.1 27 = .ok (.ireturn, 1) := by decide +kernel
theorem S_X12_on {E : EE} {d : Nat} {I : IH} {Q : QT} (x1 : Int32) (h :
(Mt E d mX12_in1 [.int x1, .int (nI 0), .int (nI 16)] I (fun rv I1 => ∃ v2 : Int32, rv = some (.int v2) ∧
 ((¬ v2 = 0 → (Mt E d mX12_layDown [.ref (eb E + 115)] I1 (fun rv I3 => rv = none ∧
 (Mt E d mX12_restOf [.ref (eb E + 115), .int x1] I3 (fun rv I4 => ∃ v5 : Int32, rv = some (.int v5) ∧
 (Mt E d mX12_layBack [.ref (eb E + 115)] I4 (fun rv I6 => rv = none ∧
 Q (some (.int v5)) I6))))))) ∧
 (v2 = 0 → Q (some (.int (-1))) I1))))) : Mt E (d + 1) mX12_on [.ref (eb E + 115), .int x1] I Q := by
  refine Mt_of [(0, .ref (eb E + 115)), (1, .int x1)] (by decide +kernel) (by simp [lg_sl, Value.category, mX12_on]) rfl ?_
  refine J_iload_n 1 aX12_on_0 rfl ?_
  refine J_iconst (nI 0) aX12_on_1 (by decide +kernel) ?_
  refine J_bipush (nI 16) aX12_on_2 (by decide +kernel) ?_
  refine J_callS [.int x1, .int (nI 0), .int (nI 16)] [] aX12_on_4 lkX12_68 okX12_in1 rfl rfl (Nat.le_of_ble_eq_true rfl) (Nat.le_refl _) (Mt_mono h (fun rv I1 h => ?_))
  obtain ⟨v2, rfl, h⟩ := h
  refine J_r1 ?_
  refine J_if_ne aX12_on_7 (fun q => ?_) (fun q => ?_)
  · replace h := h.1 q
    refine J_aload_n 0 aX12_on_12 rfl ?_
    refine J_callV [] [] aX12_on_13 lkX12_237_X12 okX12_layDown sh115 rfl rfl rfl (Nat.le_of_ble_eq_true rfl) (Nat.le_refl _) (Mt_mono h (fun rv I3 h => ?_))
    obtain ⟨rfl, h⟩ := h
    refine J_r0 ?_
    refine J_aload_n 0 aX12_on_16 rfl ?_
    refine J_iload_n 1 aX12_on_17 rfl ?_
    refine J_callV [.int x1] [] aX12_on_18 lkX12_240_X12 okX12_restOf sh115 rfl rfl rfl (Nat.le_of_ble_eq_true rfl) (Nat.le_refl _) (Mt_mono h (fun rv I4 h => ?_))
    obtain ⟨v5, rfl, h⟩ := h
    refine J_r1 ?_
    refine J_istore_n [(2, .int v5), (0, .ref (eb E + 115)), (1, .int x1)] aX12_on_21 (by decide) rfl ?_
    refine J_aload_n 1 aX12_on_22 rfl ?_
    refine J_callV [] [] aX12_on_23 lkX12_243_X12 okX12_layBack sh115 rfl rfl rfl (Nat.le_of_ble_eq_true rfl) (Nat.le_refl _) (Mt_mono h (fun rv I6 h => ?_))
    obtain ⟨rfl, h⟩ := h
    refine J_r0 ?_
    refine J_iload_n 0 aX12_on_26 rfl ?_
    exact J_iret aX12_on_27 rfl h
  · replace h := h.2 q
    refine J_iconst (-1) aX12_on_10 (by decide +kernel) ?_
    exact J_iret aX12_on_11 rfl h
theorem aX12_when_0 : decode mX12_when.2.1 0 = .ok (.aload_n 0, 1) ∧ 0 + 1 = 1 := ⟨by decide +kernel, rfl⟩
theorem aX12_when_1 : decode mX12_when.2.1 1 = .ok (.iload_n 1, 1) ∧ 1 + 1 = 2 := ⟨by decide +kernel, rfl⟩
theorem aX12_when_2 : decode mX12_when.2.1 2 = .ok (.invokevirtual 219, 3) ∧ 2 + 3 = 5 := ⟨by decide +kernel, rfl⟩
theorem aX12_when_5 : decode mX12_when.2.1 5 = .ok (.ifCond .ne 5, 3) ∧ ((5 : Nat) : Int) + 5 = ((10 : Nat) : Int) ∧ 5 + 3 = 8 := ⟨by decide +kernel, by decide, rfl⟩
theorem aX12_when_8 : decode mX12_when.2.1 8 = .ok (.iconst (-1), 1) ∧ 8 + 1 = 9 := ⟨by decide +kernel, rfl⟩
theorem aX12_when_9 : decode mX12_when.2.1 9 = .ok (.ireturn, 1) := by decide +kernel
theorem aX12_when_10 : decode mX12_when.2.1 10 = .ok (.aload_n 0, 1) ∧ 10 + 1 = 11 := ⟨by decide +kernel, rfl⟩
theorem aX12_when_11 : decode mX12_when.2.1 11 = .ok (.invokevirtual 237, 3) ∧ 11 + 3 = 14 := ⟨by decide +kernel, rfl⟩
theorem aX12_when_14 : decode mX12_when.2.1 14 = .ok (.bipush (-3), 2) ∧ 14 + 2 = 16 := ⟨by decide +kernel, rfl⟩
theorem aX12_when_16 : decode mX12_when.2.1 16 = .ok (.istore_n 2, 1) ∧ 16 + 1 = 17 := ⟨by decide +kernel, rfl⟩
theorem aX12_when_17 : decode mX12_when.2.1 17 = .ok (.aload_n 0, 1) ∧ 17 + 1 = 18 := ⟨by decide +kernel, rfl⟩
theorem aX12_when_18 : decode mX12_when.2.1 18 = .ok (.iload_n 1, 1) ∧ 18 + 1 = 19 := ⟨by decide +kernel, rfl⟩
theorem aX12_when_19 : decode mX12_when.2.1 19 = .ok (.iconst 4, 1) ∧ 19 + 1 = 20 := ⟨by decide +kernel, rfl⟩
theorem aX12_when_20 : decode mX12_when.2.1 20 = .ok (.invokevirtual 80, 3) ∧ 20 + 3 = 23 := ⟨by decide +kernel, rfl⟩
theorem aX12_when_23 : decode mX12_when.2.1 23 = .ok (.ifCond .ne 7, 3) ∧ ((23 : Nat) : Int) + 7 = ((30 : Nat) : Int) ∧ 23 + 3 = 26 := ⟨by decide +kernel, by decide, rfl⟩
theorem aX12_when_26 : decode mX12_when.2.1 26 = .ok (.iconst 1, 1) ∧ 26 + 1 = 27 := ⟨by decide +kernel, rfl⟩
theorem aX12_when_27 : decode mX12_when.2.1 27 = .ok (.goto 4, 3) ∧ ((27 : Nat) : Int) + 4 = ((31 : Nat) : Int) := ⟨by decide +kernel, by decide⟩
theorem aX12_when_30 : decode mX12_when.2.1 30 = .ok (.iconst 0, 1) ∧ 30 + 1 = 31 := ⟨by decide +kernel, rfl⟩
theorem aX12_when_31 : decode mX12_when.2.1 31 = .ok (.istore_n 3, 1) ∧ 31 + 1 = 32 := ⟨by decide +kernel, rfl⟩
theorem aX12_when_32 : decode mX12_when.2.1 32 = .ok (.iload_n 3, 1) ∧ 32 + 1 = 33 := ⟨by decide +kernel, rfl⟩
theorem aX12_when_33 : decode mX12_when.2.1 33 = .ok (.ifCond .eq 58, 3) ∧ ((33 : Nat) : Int) + 58 = ((91 : Nat) : Int) ∧ 33 + 3 = 36 := ⟨by decide +kernel, by decide, rfl⟩
theorem aX12_when_36 : decode mX12_when.2.1 36 = .ok (.aload_n 0, 1) ∧ 36 + 1 = 37 := ⟨by decide +kernel, rfl⟩
theorem aX12_when_37 : decode mX12_when.2.1 37 = .ok (.invokevirtual 228, 3) ∧ 37 + 3 = 40 := ⟨by decide +kernel, rfl⟩
theorem aX12_when_40 : decode mX12_when.2.1 40 = .ok (.ifCond .ne 51, 3) ∧ ((40 : Nat) : Int) + 51 = ((91 : Nat) : Int) ∧ 40 + 3 = 43 := ⟨by decide +kernel, by decide, rfl⟩
theorem aX12_when_43 : decode mX12_when.2.1 43 = .ok (.aload_n 0, 1) ∧ 43 + 1 = 44 := ⟨by decide +kernel, rfl⟩
theorem aX12_when_44 : decode mX12_when.2.1 44 = .ok (.iconst (-1), 1) ∧ 44 + 1 = 45 := ⟨by decide +kernel, rfl⟩
theorem aX12_when_45 : decode mX12_when.2.1 45 = .ok (.invokevirtual 234, 3) ∧ 45 + 3 = 48 := ⟨by decide +kernel, rfl⟩
theorem aX12_when_48 : decode mX12_when.2.1 48 = .ok (.istore 4, 2) ∧ 48 + 2 = 50 := ⟨by decide +kernel, rfl⟩
theorem aX12_when_50 : decode mX12_when.2.1 50 = .ok (.aload_n 0, 1) ∧ 50 + 1 = 51 := ⟨by decide +kernel, rfl⟩
theorem aX12_when_51 : decode mX12_when.2.1 51 = .ok (.iload_n 1, 1) ∧ 51 + 1 = 52 := ⟨by decide +kernel, rfl⟩
theorem aX12_when_52 : decode mX12_when.2.1 52 = .ok (.iconst 4, 1) ∧ 52 + 1 = 53 := ⟨by decide +kernel, rfl⟩
theorem aX12_when_53 : decode mX12_when.2.1 53 = .ok (.invokevirtual 80, 3) ∧ 53 + 3 = 56 := ⟨by decide +kernel, rfl⟩
theorem aX12_when_56 : decode mX12_when.2.1 56 = .ok (.ifCond .ne 7, 3) ∧ ((56 : Nat) : Int) + 7 = ((63 : Nat) : Int) ∧ 56 + 3 = 59 := ⟨by decide +kernel, by decide, rfl⟩
theorem aX12_when_59 : decode mX12_when.2.1 59 = .ok (.iconst 1, 1) ∧ 59 + 1 = 60 := ⟨by decide +kernel, rfl⟩
theorem aX12_when_60 : decode mX12_when.2.1 60 = .ok (.goto 4, 3) ∧ ((60 : Nat) : Int) + 4 = ((64 : Nat) : Int) := ⟨by decide +kernel, by decide⟩
theorem aX12_when_63 : decode mX12_when.2.1 63 = .ok (.iconst 0, 1) ∧ 63 + 1 = 64 := ⟨by decide +kernel, rfl⟩
theorem aX12_when_64 : decode mX12_when.2.1 64 = .ok (.istore_n 3, 1) ∧ 64 + 1 = 65 := ⟨by decide +kernel, rfl⟩
theorem aX12_when_65 : decode mX12_when.2.1 65 = .ok (.iload_n 3, 1) ∧ 65 + 1 = 66 := ⟨by decide +kernel, rfl⟩
theorem aX12_when_66 : decode mX12_when.2.1 66 = .ok (.ifCond .ne 8, 3) ∧ ((66 : Nat) : Int) + 8 = ((74 : Nat) : Int) ∧ 66 + 3 = 69 := ⟨by decide +kernel, by decide, rfl⟩
theorem aX12_when_69 : decode mX12_when.2.1 69 = .ok (.iload 4, 2) ∧ 69 + 2 = 71 := ⟨by decide +kernel, rfl⟩
theorem aX12_when_71 : decode mX12_when.2.1 71 = .ok (.ifCond .ge 8, 3) ∧ ((71 : Nat) : Int) + 8 = ((79 : Nat) : Int) ∧ 71 + 3 = 74 := ⟨by decide +kernel, by decide, rfl⟩
theorem aX12_when_74 : decode mX12_when.2.1 74 = .ok (.bipush (-3), 2) ∧ 74 + 2 = 76 := ⟨by decide +kernel, rfl⟩
theorem aX12_when_76 : decode mX12_when.2.1 76 = .ok (.goto 11, 3) ∧ ((76 : Nat) : Int) + 11 = ((87 : Nat) : Int) := ⟨by decide +kernel, by decide⟩
theorem aX12_when_79 : decode mX12_when.2.1 79 = .ok (.aload_n 0, 1) ∧ 79 + 1 = 80 := ⟨by decide +kernel, rfl⟩
theorem aX12_when_80 : decode mX12_when.2.1 80 = .ok (.getfield 9, 3) ∧ 80 + 3 = 83 := ⟨by decide +kernel, rfl⟩
theorem aX12_when_83 : decode mX12_when.2.1 83 = .ok (.iconst 0, 1) ∧ 83 + 1 = 84 := ⟨by decide +kernel, rfl⟩
theorem aX12_when_84 : decode mX12_when.2.1 84 = .ok (.iaload, 1) ∧ 84 + 1 = 85 := ⟨by decide +kernel, rfl⟩
theorem aX12_when_85 : decode mX12_when.2.1 85 = .ok (.iconst 1, 1) ∧ 85 + 1 = 86 := ⟨by decide +kernel, rfl⟩
theorem aX12_when_86 : decode mX12_when.2.1 86 = .ok (.isub, 1) ∧ 86 + 1 = 87 := ⟨by decide +kernel, rfl⟩
theorem aX12_when_87 : decode mX12_when.2.1 87 = .ok (.istore_n 2, 1) ∧ 87 + 1 = 88 := ⟨by decide +kernel, rfl⟩
theorem aX12_when_88 : decode mX12_when.2.1 88 = .ok (.goto (-56), 3) ∧ ((88 : Nat) : Int) + (-56) = ((32 : Nat) : Int) := ⟨by decide +kernel, by decide⟩
theorem aX12_when_91 : decode mX12_when.2.1 91 = .ok (.aload_n 0, 1) ∧ 91 + 1 = 92 := ⟨by decide +kernel, rfl⟩
theorem aX12_when_92 : decode mX12_when.2.1 92 = .ok (.invokevirtual 243, 3) ∧ 92 + 3 = 95 := ⟨by decide +kernel, rfl⟩
theorem aX12_when_95 : decode mX12_when.2.1 95 = .ok (.iload_n 2, 1) ∧ 95 + 1 = 96 := ⟨by decide +kernel, rfl⟩
theorem aX12_when_96 : decode mX12_when.2.1 96 = .ok (.ireturn, 1) := by decide +kernel
theorem S_X12_when {E : EE} {d : Nat} {I : IH} {Q : QT} (x1 : Int32) (h :
(Mt E d mX12_isPane [.ref (eb E + 115), .int x1] I (fun rv I1 => ∃ v2 : Int32, rv = some (.int v2) ∧
 ((¬ v2 = 0 → (Mt E d mX12_layDown [.ref (eb E + 115)] I1 (fun rv I3 => rv = none ∧
 (Mt E d mX12_get [.ref (eb E + 115), .int x1, .int (nI 4)] I3 (fun rv I4 => ∃ v5 : Int32, rv = some (.int v5) ∧
 ((¬ v5 = 0 → J E (d + 1) mX12_when 32 [(0, .ref (eb E + 115)), (1, .int x1), (2, .int (-3)), (3, .int (nI 0))] [] I4 Q) ∧
 (v5 = 0 → J E (d + 1) mX12_when 32 [(0, .ref (eb E + 115)), (1, .int x1), (2, .int (-3)), (3, .int (nI 1))] [] I4 Q))))))) ∧
 (v2 = 0 → Q (some (.int (-1))) I1))))) : Mt E (d + 1) mX12_when [.ref (eb E + 115), .int x1] I Q := by
  refine Mt_of [(0, .ref (eb E + 115)), (1, .int x1)] (by decide +kernel) (by simp [lg_sl, Value.category, mX12_when]) rfl ?_
  refine J_aload_n 0 aX12_when_0 rfl ?_
  refine J_iload_n 1 aX12_when_1 rfl ?_
  refine J_callV [.int x1] [] aX12_when_2 lkX12_219_X12 okX12_isPane sh115 rfl rfl rfl (Nat.le_of_ble_eq_true rfl) (Nat.le_refl _) (Mt_mono h (fun rv I1 h => ?_))
  obtain ⟨v2, rfl, h⟩ := h
  refine J_r1 ?_
  refine J_if_ne aX12_when_5 (fun q => ?_) (fun q => ?_)
  · replace h := h.1 q
    refine J_aload_n 0 aX12_when_10 rfl ?_
    refine J_callV [] [] aX12_when_11 lkX12_237_X12 okX12_layDown sh115 rfl rfl rfl (Nat.le_of_ble_eq_true rfl) (Nat.le_refl _) (Mt_mono h (fun rv I3 h => ?_))
    obtain ⟨rfl, h⟩ := h
    refine J_r0 ?_
    refine J_bipush (-3) aX12_when_14 (by decide +kernel) ?_
    refine J_istore_n [(2, .int (-3)), (0, .ref (eb E + 115)), (1, .int x1)] aX12_when_16 (by decide) rfl ?_
    refine J_aload_n 1 aX12_when_17 rfl ?_
    refine J_iload_n 2 aX12_when_18 rfl ?_
    refine J_iconst (nI 4) aX12_when_19 (by decide +kernel) ?_
    refine J_callV [.int x1, .int (nI 4)] [] aX12_when_20 lkX12_80_X12 okX12_get sh115 rfl rfl rfl (Nat.le_of_ble_eq_true rfl) (Nat.le_refl _) (Mt_mono h (fun rv I4 h => ?_))
    obtain ⟨v5, rfl, h⟩ := h
    refine J_r1 ?_
    refine J_if_ne aX12_when_23 (fun q => ?_) (fun q => ?_)
    · replace h := h.1 q
      refine J_iconst (nI 0) aX12_when_30 (by decide +kernel) ?_
      refine J_istore_n [(3, .int (nI 0)), (2, .int (-3)), (0, .ref (eb E + 115)), (1, .int x1)] aX12_when_31 (by decide) rfl ?_
      refine J_pick [2, 3, 1, 0] rfl ?_
      exact h
    · replace h := h.2 q
      refine J_iconst (nI 1) aX12_when_26 (by decide +kernel) ?_
      refine J_goto aX12_when_27 ?_
      refine J_istore_n [(3, .int (nI 1)), (2, .int (-3)), (0, .ref (eb E + 115)), (1, .int x1)] aX12_when_31 (by decide) rfl ?_
      refine J_pick [2, 3, 1, 0] rfl ?_
      exact h
  · replace h := h.2 q
    refine J_iconst (-1) aX12_when_8 (by decide +kernel) ?_
    exact J_iret aX12_when_9 rfl h
theorem S_X12_when_32 {E : EE} {d : Nat} {I : IH} {Q : QT} (x1 : Int32) (x2 : Int32) (x3 : Int32) (h :
((x3 = 0 → J E (d + 1) mX12_when 91 [(0, .ref (eb E + 115)), (2, .int x2)] [] I Q) ∧
 (¬ x3 = 0 → (Mt E d mX12_isOver [.ref (eb E + 115)] I (fun rv I1 => ∃ v2 : Int32, rv = some (.int v2) ∧
 ((¬ v2 = 0 → J E (d + 1) mX12_when 91 [(0, .ref (eb E + 115)), (2, .int x2)] [] I1 Q) ∧
 (v2 = 0 → (Mt E d mX12_goesBy [.ref (eb E + 115), .int (-1)] I1 (fun rv I3 => ∃ v4 : Int32, rv = some (.int v4) ∧
 (Mt E d mX12_get [.ref (eb E + 115), .int x1, .int (nI 4)] I3 (fun rv I5 => ∃ v6 : Int32, rv = some (.int v6) ∧
 ((¬ v6 = 0 → J E (d + 1) mX12_when 64 [(0, .ref (eb E + 115)), (1, .int x1), (4, .int v4)] [.int (nI 0)] I5 Q) ∧
 (v6 = 0 → J E (d + 1) mX12_when 64 [(0, .ref (eb E + 115)), (1, .int x1), (4, .int v4)] [.int (nI 1)] I5 Q))))))))))))) : J E (d + 1) mX12_when 32 [(0, .ref (eb E + 115)), (1, .int x1), (2, .int x2), (3, .int x3)] [] I Q := by
  refine J_iload_n 3 aX12_when_32 rfl ?_
  refine J_if_eq aX12_when_33 (fun q => ?_) (fun q => ?_)
  · replace h := h.1 q
    refine J_pick [0, 2] rfl ?_
    exact h
  · replace h := h.2 q
    refine J_aload_n 0 aX12_when_36 rfl ?_
    refine J_callV [] [] aX12_when_37 lkX12_228_X12 okX12_isOver sh115 rfl rfl rfl (Nat.le_of_ble_eq_true rfl) (Nat.le_refl _) (Mt_mono h (fun rv I1 h => ?_))
    obtain ⟨v2, rfl, h⟩ := h
    refine J_r1 ?_
    refine J_if_ne aX12_when_40 (fun q => ?_) (fun q => ?_)
    · replace h := h.1 q
      refine J_pick [0, 2] rfl ?_
      exact h
    · replace h := h.2 q
      refine J_aload_n 0 aX12_when_43 rfl ?_
      refine J_iconst (-1) aX12_when_44 (by decide +kernel) ?_
      refine J_callV [.int (-1)] [] aX12_when_45 lkX12_234_X12 okX12_goesBy sh115 rfl rfl rfl (Nat.le_of_ble_eq_true rfl) (Nat.le_refl _) (Mt_mono h (fun rv I3 h => ?_))
      obtain ⟨v4, rfl, h⟩ := h
      refine J_r1 ?_
      refine J_istore [(4, .int v4), (0, .ref (eb E + 115)), (1, .int x1), (2, .int x2), (3, .int x3)] aX12_when_48 (by decide) rfl ?_
      refine J_aload_n 1 aX12_when_50 rfl ?_
      refine J_iload_n 2 aX12_when_51 rfl ?_
      refine J_iconst (nI 4) aX12_when_52 (by decide +kernel) ?_
      refine J_callV [.int x1, .int (nI 4)] [] aX12_when_53 lkX12_80_X12 okX12_get sh115 rfl rfl rfl (Nat.le_of_ble_eq_true rfl) (Nat.le_refl _) (Mt_mono h (fun rv I5 h => ?_))
      obtain ⟨v6, rfl, h⟩ := h
      refine J_r1 ?_
      refine J_if_ne aX12_when_56 (fun q => ?_) (fun q => ?_)
      · replace h := h.1 q
        refine J_iconst (nI 0) aX12_when_63 (by decide +kernel) ?_
        refine J_pick [1, 2, 0] rfl ?_
        exact h
      · replace h := h.2 q
        refine J_iconst (nI 1) aX12_when_59 (by decide +kernel) ?_
        refine J_goto aX12_when_60 ?_
        refine J_pick [1, 2, 0] rfl ?_
        exact h
theorem S_X12_when_91 {E : EE} {d : Nat} {I : IH} {Q : QT} (x2 : Int32) (h :
(Mt E d mX12_layBack [.ref (eb E + 115)] I (fun rv I1 => rv = none ∧
 Q (some (.int x2)) I1))) : J E (d + 1) mX12_when 91 [(0, .ref (eb E + 115)), (2, .int x2)] [] I Q := by
  refine J_aload_n 0 aX12_when_91 rfl ?_
  refine J_callV [] [] aX12_when_92 lkX12_243_X12 okX12_layBack sh115 rfl rfl rfl (Nat.le_of_ble_eq_true rfl) (Nat.le_refl _) (Mt_mono h (fun rv I1 h => ?_))
  obtain ⟨rfl, h⟩ := h
  refine J_r0 ?_
  refine J_iload_n 1 aX12_when_95 rfl ?_
  exact J_iret aX12_when_96 rfl h
theorem S_X12_when_64 {E : EE} {d : Nat} {I : IH} {Q : QT} (x1 : Int32) (x4 : Int32) (t0 : Int32) (h :
((¬ t0 = 0 → J E (d + 1) mX12_when 32 [(0, .ref (eb E + 115)), (1, .int x1), (2, .int (-3)), (3, .int t0)] [] I Q) ∧
 (t0 = 0 → ((0 ≤ x4 → J E (d + 1) mX12_when 32 [(0, .ref (eb E + 115)), (1, .int x1), (2, .int ((I 116 0) - (nI 1))), (3, .int t0)] [] I Q) ∧
 (¬ 0 ≤ x4 → J E (d + 1) mX12_when 32 [(0, .ref (eb E + 115)), (1, .int x1), (2, .int (-3)), (3, .int t0)] [] I Q))))) : J E (d + 1) mX12_when 64 [(0, .ref (eb E + 115)), (1, .int x1), (4, .int x4)] [.int t0] I Q := by
  refine J_istore_n [(3, .int t0), (0, .ref (eb E + 115)), (1, .int x1), (4, .int x4)] aX12_when_64 (by decide) rfl ?_
  refine J_iload_n 0 aX12_when_65 rfl ?_
  refine J_if_ne aX12_when_66 (fun q => ?_) (fun q => ?_)
  · replace h := h.1 q
    refine J_bipush (-3) aX12_when_74 (by decide +kernel) ?_
    refine J_goto aX12_when_76 ?_
    refine J_istore_n [(2, .int (-3)), (3, .int t0), (0, .ref (eb E + 115)), (1, .int x1), (4, .int x4)] aX12_when_87 (by decide) rfl ?_
    refine J_goto aX12_when_88 ?_
    refine J_pick [2, 3, 0, 1] rfl ?_
    exact h
  · replace h := h.2 q
    refine J_iload 3 aX12_when_69 rfl ?_
    refine J_if_ge aX12_when_71 (fun q => ?_) (fun q => ?_)
    · replace h := h.1 q
      refine J_aload_n 1 aX12_when_79 rfl ?_
      refine J_getR aX12_when_80 flX12_9 sh115 rfl ?_
      refine J_iconst (nI 0) aX12_when_83 (by decide +kernel) ?_
      refine J_iaload 0 aX12_when_84 sh116 rfl (by decide) (by decide) ?_
      refine J_iconst (nI 1) aX12_when_85 (by decide +kernel) ?_
      refine J_isub aX12_when_86 ?_
      refine J_istore_n [(2, .int ((I 116 0) - (nI 1))), (3, .int t0), (0, .ref (eb E + 115)), (1, .int x1), (4, .int x4)] aX12_when_87 (by decide) rfl ?_
      refine J_goto aX12_when_88 ?_
      refine J_pick [2, 3, 0, 1] rfl ?_
      exact h
    · replace h := h.2 q
      refine J_bipush (-3) aX12_when_74 (by decide +kernel) ?_
      refine J_goto aX12_when_76 ?_
      refine J_istore_n [(2, .int (-3)), (3, .int t0), (0, .ref (eb E + 115)), (1, .int x1), (4, .int x4)] aX12_when_87 (by decide) rfl ?_
      refine J_goto aX12_when_88 ?_
      refine J_pick [2, 3, 0, 1] rfl ?_
      exact h
theorem aX12_bestFor_0 : decode mX12_bestFor.2.1 0 = .ok (.aload_n 0, 1) ∧ 0 + 1 = 1 := ⟨by decide +kernel, rfl⟩
theorem aX12_bestFor_1 : decode mX12_bestFor.2.1 1 = .ok (.iload_n 1, 1) ∧ 1 + 1 = 2 := ⟨by decide +kernel, rfl⟩
theorem aX12_bestFor_2 : decode mX12_bestFor.2.1 2 = .ok (.invokevirtual 219, 3) ∧ 2 + 3 = 5 := ⟨by decide +kernel, rfl⟩
theorem aX12_bestFor_5 : decode mX12_bestFor.2.1 5 = .ok (.ifCond .ne 5, 3) ∧ ((5 : Nat) : Int) + 5 = ((10 : Nat) : Int) ∧ 5 + 3 = 8 := ⟨by decide +kernel, by decide, rfl⟩
theorem aX12_bestFor_8 : decode mX12_bestFor.2.1 8 = .ok (.iconst (-1), 1) ∧ 8 + 1 = 9 := ⟨by decide +kernel, rfl⟩
theorem aX12_bestFor_9 : decode mX12_bestFor.2.1 9 = .ok (.ireturn, 1) := by decide +kernel
theorem aX12_bestFor_10 : decode mX12_bestFor.2.1 10 = .ok (.iconst 0, 1) ∧ 10 + 1 = 11 := ⟨by decide +kernel, rfl⟩
theorem aX12_bestFor_11 : decode mX12_bestFor.2.1 11 = .ok (.istore 4, 2) ∧ 11 + 2 = 13 := ⟨by decide +kernel, rfl⟩
theorem aX12_bestFor_13 : decode mX12_bestFor.2.1 13 = .ok (.iconst (-1), 1) ∧ 13 + 1 = 14 := ⟨by decide +kernel, rfl⟩
theorem aX12_bestFor_14 : decode mX12_bestFor.2.1 14 = .ok (.istore 5, 2) ∧ 14 + 2 = 16 := ⟨by decide +kernel, rfl⟩
theorem aX12_bestFor_16 : decode mX12_bestFor.2.1 16 = .ok (.aload_n 0, 1) ∧ 16 + 1 = 17 := ⟨by decide +kernel, rfl⟩
theorem aX12_bestFor_17 : decode mX12_bestFor.2.1 17 = .ok (.invokevirtual 237, 3) ∧ 17 + 3 = 20 := ⟨by decide +kernel, rfl⟩
theorem aX12_bestFor_20 : decode mX12_bestFor.2.1 20 = .ok (.iconst 0, 1) ∧ 20 + 1 = 21 := ⟨by decide +kernel, rfl⟩
theorem aX12_bestFor_21 : decode mX12_bestFor.2.1 21 = .ok (.istore 6, 2) ∧ 21 + 2 = 23 := ⟨by decide +kernel, rfl⟩
theorem aX12_bestFor_23 : decode mX12_bestFor.2.1 23 = .ok (.iload 6, 2) ∧ 23 + 2 = 25 := ⟨by decide +kernel, rfl⟩
theorem aX12_bestFor_25 : decode mX12_bestFor.2.1 25 = .ok (.iload_n 3, 1) ∧ 25 + 1 = 26 := ⟨by decide +kernel, rfl⟩
theorem aX12_bestFor_26 : decode mX12_bestFor.2.1 26 = .ok (.if_icmp .gt 61, 3) ∧ ((26 : Nat) : Int) + 61 = ((87 : Nat) : Int) ∧ 26 + 3 = 29 := ⟨by decide +kernel, by decide, rfl⟩
theorem aX12_bestFor_29 : decode mX12_bestFor.2.1 29 = .ok (.aload_n 0, 1) ∧ 29 + 1 = 30 := ⟨by decide +kernel, rfl⟩
theorem aX12_bestFor_30 : decode mX12_bestFor.2.1 30 = .ok (.iload_n 1, 1) ∧ 30 + 1 = 31 := ⟨by decide +kernel, rfl⟩
theorem aX12_bestFor_31 : decode mX12_bestFor.2.1 31 = .ok (.iload_n 2, 1) ∧ 31 + 1 = 32 := ⟨by decide +kernel, rfl⟩
theorem aX12_bestFor_32 : decode mX12_bestFor.2.1 32 = .ok (.iload 6, 2) ∧ 32 + 2 = 34 := ⟨by decide +kernel, rfl⟩
theorem aX12_bestFor_34 : decode mX12_bestFor.2.1 34 = .ok (.invokevirtual 100, 3) ∧ 34 + 3 = 37 := ⟨by decide +kernel, rfl⟩
theorem aX12_bestFor_37 : decode mX12_bestFor.2.1 37 = .ok (.aload_n 0, 1) ∧ 37 + 1 = 38 := ⟨by decide +kernel, rfl⟩
theorem aX12_bestFor_38 : decode mX12_bestFor.2.1 38 = .ok (.bipush 16, 2) ∧ 38 + 2 = 40 := ⟨by decide +kernel, rfl⟩
theorem aX12_bestFor_40 : decode mX12_bestFor.2.1 40 = .ok (.invokevirtual 240, 3) ∧ 40 + 3 = 43 := ⟨by decide +kernel, rfl⟩
theorem aX12_bestFor_43 : decode mX12_bestFor.2.1 43 = .ok (.istore 7, 2) ∧ 43 + 2 = 45 := ⟨by decide +kernel, rfl⟩
theorem aX12_bestFor_45 : decode mX12_bestFor.2.1 45 = .ok (.iload 7, 2) ∧ 45 + 2 = 47 := ⟨by decide +kernel, rfl⟩
theorem aX12_bestFor_47 : decode mX12_bestFor.2.1 47 = .ok (.iload 5, 2) ∧ 47 + 2 = 49 := ⟨by decide +kernel, rfl⟩
theorem aX12_bestFor_49 : decode mX12_bestFor.2.1 49 = .ok (.if_icmp .le 8, 3) ∧ ((49 : Nat) : Int) + 8 = ((57 : Nat) : Int) ∧ 49 + 3 = 52 := ⟨by decide +kernel, by decide, rfl⟩
theorem aX12_bestFor_52 : decode mX12_bestFor.2.1 52 = .ok (.iload 6, 2) ∧ 52 + 2 = 54 := ⟨by decide +kernel, rfl⟩
theorem aX12_bestFor_54 : decode mX12_bestFor.2.1 54 = .ok (.goto 5, 3) ∧ ((54 : Nat) : Int) + 5 = ((59 : Nat) : Int) := ⟨by decide +kernel, by decide⟩
theorem aX12_bestFor_57 : decode mX12_bestFor.2.1 57 = .ok (.iload 4, 2) ∧ 57 + 2 = 59 := ⟨by decide +kernel, rfl⟩
theorem aX12_bestFor_59 : decode mX12_bestFor.2.1 59 = .ok (.istore 4, 2) ∧ 59 + 2 = 61 := ⟨by decide +kernel, rfl⟩
theorem aX12_bestFor_61 : decode mX12_bestFor.2.1 61 = .ok (.iload 7, 2) ∧ 61 + 2 = 63 := ⟨by decide +kernel, rfl⟩
theorem aX12_bestFor_63 : decode mX12_bestFor.2.1 63 = .ok (.iload 5, 2) ∧ 63 + 2 = 65 := ⟨by decide +kernel, rfl⟩
theorem aX12_bestFor_65 : decode mX12_bestFor.2.1 65 = .ok (.if_icmp .le 8, 3) ∧ ((65 : Nat) : Int) + 8 = ((73 : Nat) : Int) ∧ 65 + 3 = 68 := ⟨by decide +kernel, by decide, rfl⟩
theorem aX12_bestFor_68 : decode mX12_bestFor.2.1 68 = .ok (.iload 7, 2) ∧ 68 + 2 = 70 := ⟨by decide +kernel, rfl⟩
theorem aX12_bestFor_70 : decode mX12_bestFor.2.1 70 = .ok (.goto 5, 3) ∧ ((70 : Nat) : Int) + 5 = ((75 : Nat) : Int) := ⟨by decide +kernel, by decide⟩
theorem aX12_bestFor_73 : decode mX12_bestFor.2.1 73 = .ok (.iload 5, 2) ∧ 73 + 2 = 75 := ⟨by decide +kernel, rfl⟩
theorem aX12_bestFor_75 : decode mX12_bestFor.2.1 75 = .ok (.istore 5, 2) ∧ 75 + 2 = 77 := ⟨by decide +kernel, rfl⟩
theorem aX12_bestFor_77 : decode mX12_bestFor.2.1 77 = .ok (.aload_n 0, 1) ∧ 77 + 1 = 78 := ⟨by decide +kernel, rfl⟩
theorem aX12_bestFor_78 : decode mX12_bestFor.2.1 78 = .ok (.invokevirtual 243, 3) ∧ 78 + 3 = 81 := ⟨by decide +kernel, rfl⟩
theorem aX12_bestFor_81 : decode mX12_bestFor.2.1 81 = .ok (.iinc 6 1, 3) ∧ 81 + 3 = 84 := ⟨by decide +kernel, rfl⟩
theorem aX12_bestFor_84 : decode mX12_bestFor.2.1 84 = .ok (.goto (-61), 3) ∧ ((84 : Nat) : Int) + (-61) = ((23 : Nat) : Int) := ⟨by decide +kernel, by decide⟩
theorem aX12_bestFor_87 : decode mX12_bestFor.2.1 87 = .ok (.iload 4, 2) ∧ 87 + 2 = 89 := ⟨by decide +kernel, rfl⟩
theorem aX12_bestFor_89 : decode mX12_bestFor.2.1 89 = .ok (.ireturn, 1) := by decide +kernel
theorem S_X12_bestFor {E : EE} {d : Nat} {I : IH} {Q : QT} (x1 : Int32) (x2 : Int32) (x3 : Int32) (h :
(Mt E d mX12_isPane [.ref (eb E + 115), .int x1] I (fun rv I1 => ∃ v2 : Int32, rv = some (.int v2) ∧
 ((¬ v2 = 0 → (Mt E d mX12_layDown [.ref (eb E + 115)] I1 (fun rv I3 => rv = none ∧
 J E (d + 1) mX12_bestFor 23 [(0, .ref (eb E + 115)), (1, .int x1), (2, .int x2), (3, .int x3), (4, .int (nI 0)), (5, .int (-1)), (6, .int (nI 0))] [] I3 Q))) ∧
 (v2 = 0 → Q (some (.int (-1))) I1))))) : Mt E (d + 1) mX12_bestFor [.ref (eb E + 115), .int x1, .int x2, .int x3] I Q := by
  refine Mt_of [(0, .ref (eb E + 115)), (1, .int x1), (2, .int x2), (3, .int x3)] (by decide +kernel) (by simp [lg_sl, Value.category, mX12_bestFor]) rfl ?_
  refine J_aload_n 0 aX12_bestFor_0 rfl ?_
  refine J_iload_n 1 aX12_bestFor_1 rfl ?_
  refine J_callV [.int x1] [] aX12_bestFor_2 lkX12_219_X12 okX12_isPane sh115 rfl rfl rfl (Nat.le_of_ble_eq_true rfl) (Nat.le_refl _) (Mt_mono h (fun rv I1 h => ?_))
  obtain ⟨v2, rfl, h⟩ := h
  refine J_r1 ?_
  refine J_if_ne aX12_bestFor_5 (fun q => ?_) (fun q => ?_)
  · replace h := h.1 q
    refine J_iconst (nI 0) aX12_bestFor_10 (by decide +kernel) ?_
    refine J_istore [(4, .int (nI 0)), (0, .ref (eb E + 115)), (1, .int x1), (2, .int x2), (3, .int x3)] aX12_bestFor_11 (by decide) rfl ?_
    refine J_iconst (-1) aX12_bestFor_13 (by decide +kernel) ?_
    refine J_istore [(5, .int (-1)), (4, .int (nI 0)), (0, .ref (eb E + 115)), (1, .int x1), (2, .int x2), (3, .int x3)] aX12_bestFor_14 (by decide) rfl ?_
    refine J_aload_n 2 aX12_bestFor_16 rfl ?_
    refine J_callV [] [] aX12_bestFor_17 lkX12_237_X12 okX12_layDown sh115 rfl rfl rfl (Nat.le_of_ble_eq_true rfl) (Nat.le_refl _) (Mt_mono h (fun rv I3 h => ?_))
    obtain ⟨rfl, h⟩ := h
    refine J_r0 ?_
    refine J_iconst (nI 0) aX12_bestFor_20 (by decide +kernel) ?_
    refine J_istore [(6, .int (nI 0)), (5, .int (-1)), (4, .int (nI 0)), (0, .ref (eb E + 115)), (1, .int x1), (2, .int x2), (3, .int x3)] aX12_bestFor_21 (by decide) rfl ?_
    refine J_pick [3, 4, 5, 6, 2, 1, 0] rfl ?_
    exact h
  · replace h := h.2 q
    refine J_iconst (-1) aX12_bestFor_8 (by decide +kernel) ?_
    exact J_iret aX12_bestFor_9 rfl h
theorem S_X12_bestFor_23 {E : EE} {d : Nat} {I : IH} {Q : QT} (x1 : Int32) (x2 : Int32) (x3 : Int32) (x4 : Int32) (x5 : Int32) (x6 : Int32) (h :
((x3 < x6 → Q (some (.int x4)) I) ∧
 (¬ x3 < x6 → (Mt E d mX12_puts [.ref (eb E + 115), .int x1, .int x2, .int x6] I (fun rv I1 => rv = none ∧
 (Mt E d mX12_restOf [.ref (eb E + 115), .int (nI 16)] I1 (fun rv I2 => ∃ v3 : Int32, rv = some (.int v3) ∧
 ((v3 ≤ x5 → J E (d + 1) mX12_bestFor 59 [(0, .ref (eb E + 115)), (1, .int x1), (2, .int x2), (3, .int x3), (5, .int x5), (6, .int x6), (7, .int v3)] [.int x4] I2 Q) ∧
 (¬ v3 ≤ x5 → J E (d + 1) mX12_bestFor 59 [(0, .ref (eb E + 115)), (1, .int x1), (2, .int x2), (3, .int x3), (5, .int x5), (6, .int x6), (7, .int v3)] [.int x6] I2 Q))))))))) : J E (d + 1) mX12_bestFor 23 [(0, .ref (eb E + 115)), (1, .int x1), (2, .int x2), (3, .int x3), (4, .int x4), (5, .int x5), (6, .int x6)] [] I Q := by
  refine J_iload 6 aX12_bestFor_23 rfl ?_
  refine J_iload_n 3 aX12_bestFor_25 rfl ?_
  refine J_icmp_gt aX12_bestFor_26 (fun q => ?_) (fun q => ?_)
  · replace h := h.1 q
    refine J_iload 4 aX12_bestFor_87 rfl ?_
    exact J_iret aX12_bestFor_89 rfl h
  · replace h := h.2 q
    refine J_aload_n 0 aX12_bestFor_29 rfl ?_
    refine J_iload_n 1 aX12_bestFor_30 rfl ?_
    refine J_iload_n 2 aX12_bestFor_31 rfl ?_
    refine J_iload 6 aX12_bestFor_32 rfl ?_
    refine J_callV [.int x1, .int x2, .int x6] [] aX12_bestFor_34 lkX12_100_X12 okX12_puts sh115 rfl rfl rfl (Nat.le_of_ble_eq_true rfl) (Nat.le_refl _) (Mt_mono h (fun rv I1 h => ?_))
    obtain ⟨rfl, h⟩ := h
    refine J_r0 ?_
    refine J_aload_n 0 aX12_bestFor_37 rfl ?_
    refine J_bipush (nI 16) aX12_bestFor_38 (by decide +kernel) ?_
    refine J_callV [.int (nI 16)] [] aX12_bestFor_40 lkX12_240_X12 okX12_restOf sh115 rfl rfl rfl (Nat.le_of_ble_eq_true rfl) (Nat.le_refl _) (Mt_mono h (fun rv I2 h => ?_))
    obtain ⟨v3, rfl, h⟩ := h
    refine J_r1 ?_
    refine J_istore [(7, .int v3), (0, .ref (eb E + 115)), (1, .int x1), (2, .int x2), (3, .int x3), (4, .int x4), (5, .int x5), (6, .int x6)] aX12_bestFor_43 (by decide) rfl ?_
    refine J_iload 0 aX12_bestFor_45 rfl ?_
    refine J_iload 6 aX12_bestFor_47 rfl ?_
    refine J_icmp_le aX12_bestFor_49 (fun q => ?_) (fun q => ?_)
    · replace h := h.1 q
      refine J_iload 5 aX12_bestFor_57 rfl ?_
      refine J_pick [1, 2, 3, 4, 6, 7, 0] rfl ?_
      exact h
    · replace h := h.2 q
      refine J_iload 7 aX12_bestFor_52 rfl ?_
      refine J_goto aX12_bestFor_54 ?_
      refine J_pick [1, 2, 3, 4, 6, 7, 0] rfl ?_
      exact h
theorem S_X12_bestFor_59 {E : EE} {d : Nat} {I : IH} {Q : QT} (x1 : Int32) (x2 : Int32) (x3 : Int32) (x5 : Int32) (x6 : Int32) (x7 : Int32) (t0 : Int32) (h :
((x7 ≤ x5 → J E (d + 1) mX12_bestFor 75 [(0, .ref (eb E + 115)), (1, .int x1), (2, .int x2), (3, .int x3), (4, .int t0), (6, .int x6)] [.int x5] I Q) ∧
 (¬ x7 ≤ x5 → J E (d + 1) mX12_bestFor 75 [(0, .ref (eb E + 115)), (1, .int x1), (2, .int x2), (3, .int x3), (4, .int t0), (6, .int x6)] [.int x7] I Q))) : J E (d + 1) mX12_bestFor 59 [(0, .ref (eb E + 115)), (1, .int x1), (2, .int x2), (3, .int x3), (5, .int x5), (6, .int x6), (7, .int x7)] [.int t0] I Q := by
  refine J_istore [(4, .int t0), (0, .ref (eb E + 115)), (1, .int x1), (2, .int x2), (3, .int x3), (5, .int x5), (6, .int x6), (7, .int x7)] aX12_bestFor_59 (by decide) rfl ?_
  refine J_iload 7 aX12_bestFor_61 rfl ?_
  refine J_iload 5 aX12_bestFor_63 rfl ?_
  refine J_icmp_le aX12_bestFor_65 (fun q => ?_) (fun q => ?_)
  · replace h := h.1 q
    refine J_iload 5 aX12_bestFor_73 rfl ?_
    refine J_pick [1, 2, 3, 4, 0, 6] rfl ?_
    exact h
  · replace h := h.2 q
    refine J_iload 7 aX12_bestFor_68 rfl ?_
    refine J_goto aX12_bestFor_70 ?_
    refine J_pick [1, 2, 3, 4, 0, 6] rfl ?_
    exact h
theorem S_X12_bestFor_75 {E : EE} {d : Nat} {I : IH} {Q : QT} (x1 : Int32) (x2 : Int32) (x3 : Int32) (x4 : Int32) (x6 : Int32) (t0 : Int32) (h :
(Mt E d mX12_layBack [.ref (eb E + 115)] I (fun rv I1 => rv = none ∧
 J E (d + 1) mX12_bestFor 23 [(0, .ref (eb E + 115)), (1, .int x1), (2, .int x2), (3, .int x3), (4, .int x4), (5, .int t0), (6, .int (x6 + nI 1))] [] I1 Q))) : J E (d + 1) mX12_bestFor 75 [(0, .ref (eb E + 115)), (1, .int x1), (2, .int x2), (3, .int x3), (4, .int x4), (6, .int x6)] [.int t0] I Q := by
  refine J_istore [(5, .int t0), (0, .ref (eb E + 115)), (1, .int x1), (2, .int x2), (3, .int x3), (4, .int x4), (6, .int x6)] aX12_bestFor_75 (by decide) rfl ?_
  refine J_aload_n 1 aX12_bestFor_77 rfl ?_
  refine J_callV [] [] aX12_bestFor_78 lkX12_243_X12 okX12_layBack sh115 rfl rfl rfl (Nat.le_of_ble_eq_true rfl) (Nat.le_refl _) (Mt_mono h (fun rv I1 h => ?_))
  obtain ⟨rfl, h⟩ := h
  refine J_r0 ?_
  refine J_iinc (x6 + nI 1) [(6, .int (x6 + nI 1)), (5, .int t0), (0, .ref (eb E + 115)), (1, .int x1), (2, .int x2), (3, .int x3), (4, .int x4)] 6 aX12_bestFor_81 rfl (by first | rfl | (congr 1; decide +kernel)) (by decide) rfl ?_
  refine J_goto aX12_bestFor_84 ?_
  refine J_pick [2, 3, 4, 5, 6, 1, 0] rfl ?_
  exact h
theorem aX12_sceneFor_0 : decode mX12_sceneFor.2.1 0 = .ok (.aload_n 0, 1) ∧ 0 + 1 = 1 := ⟨by decide +kernel, rfl⟩
theorem aX12_sceneFor_1 : decode mX12_sceneFor.2.1 1 = .ok (.iload_n 1, 1) ∧ 1 + 1 = 2 := ⟨by decide +kernel, rfl⟩
theorem aX12_sceneFor_2 : decode mX12_sceneFor.2.1 2 = .ok (.iconst 1, 1) ∧ 2 + 1 = 3 := ⟨by decide +kernel, rfl⟩
theorem aX12_sceneFor_3 : decode mX12_sceneFor.2.1 3 = .ok (.sipush 255, 3) ∧ 3 + 3 = 6 := ⟨by decide +kernel, rfl⟩
theorem aX12_sceneFor_6 : decode mX12_sceneFor.2.1 6 = .ok (.invokevirtual 246, 3) ∧ 6 + 3 = 9 := ⟨by decide +kernel, rfl⟩
theorem aX12_sceneFor_9 : decode mX12_sceneFor.2.1 9 = .ok (.ireturn, 1) := by decide +kernel
theorem S_X12_sceneFor {E : EE} {d : Nat} {I : IH} {Q : QT} (x1 : Int32) (h :
(Mt E d mX12_bestFor [.ref (eb E + 115), .int x1, .int (nI 1), .int (nI 255)] I (fun rv I1 => ∃ v2 : Int32, rv = some (.int v2) ∧
 Q (some (.int v2)) I1))) : Mt E (d + 1) mX12_sceneFor [.ref (eb E + 115), .int x1] I Q := by
  refine Mt_of [(0, .ref (eb E + 115)), (1, .int x1)] (by decide +kernel) (by simp [lg_sl, Value.category, mX12_sceneFor]) rfl ?_
  refine J_aload_n 0 aX12_sceneFor_0 rfl ?_
  refine J_iload_n 1 aX12_sceneFor_1 rfl ?_
  refine J_iconst (nI 1) aX12_sceneFor_2 (by decide +kernel) ?_
  refine J_sipush (nI 255) aX12_sceneFor_3 (by decide +kernel) ?_
  refine J_callV [.int x1, .int (nI 1), .int (nI 255)] [] aX12_sceneFor_6 lkX12_246_X12 okX12_bestFor sh115 rfl rfl rfl (Nat.le_of_ble_eq_true rfl) (Nat.le_refl _) (Mt_mono h (fun rv I1 h => ?_))
  obtain ⟨v2, rfl, h⟩ := h
  refine J_r1 ?_
  exact J_iret aX12_sceneFor_9 rfl h
theorem aX12_wardFor_0 : decode mX12_wardFor.2.1 0 = .ok (.aload_n 0, 1) ∧ 0 + 1 = 1 := ⟨by decide +kernel, rfl⟩
theorem aX12_wardFor_1 : decode mX12_wardFor.2.1 1 = .ok (.iload_n 1, 1) ∧ 1 + 1 = 2 := ⟨by decide +kernel, rfl⟩
theorem aX12_wardFor_2 : decode mX12_wardFor.2.1 2 = .ok (.iconst 3, 1) ∧ 2 + 1 = 3 := ⟨by decide +kernel, rfl⟩
theorem aX12_wardFor_3 : decode mX12_wardFor.2.1 3 = .ok (.iconst 5, 1) ∧ 3 + 1 = 4 := ⟨by decide +kernel, rfl⟩
theorem aX12_wardFor_4 : decode mX12_wardFor.2.1 4 = .ok (.invokevirtual 246, 3) ∧ 4 + 3 = 7 := ⟨by decide +kernel, rfl⟩
theorem aX12_wardFor_7 : decode mX12_wardFor.2.1 7 = .ok (.ireturn, 1) := by decide +kernel
theorem S_X12_wardFor {E : EE} {d : Nat} {I : IH} {Q : QT} (x1 : Int32) (h :
(Mt E d mX12_bestFor [.ref (eb E + 115), .int x1, .int (nI 3), .int (nI 5)] I (fun rv I1 => ∃ v2 : Int32, rv = some (.int v2) ∧
 Q (some (.int v2)) I1))) : Mt E (d + 1) mX12_wardFor [.ref (eb E + 115), .int x1] I Q := by
  refine Mt_of [(0, .ref (eb E + 115)), (1, .int x1)] (by decide +kernel) (by simp [lg_sl, Value.category, mX12_wardFor]) rfl ?_
  refine J_aload_n 0 aX12_wardFor_0 rfl ?_
  refine J_iload_n 1 aX12_wardFor_1 rfl ?_
  refine J_iconst (nI 3) aX12_wardFor_2 (by decide +kernel) ?_
  refine J_iconst (nI 5) aX12_wardFor_3 (by decide +kernel) ?_
  refine J_callV [.int x1, .int (nI 3), .int (nI 5)] [] aX12_wardFor_4 lkX12_246_X12 okX12_bestFor sh115 rfl rfl rfl (Nat.le_of_ble_eq_true rfl) (Nat.le_refl _) (Mt_mono h (fun rv I1 h => ?_))
  obtain ⟨v2, rfl, h⟩ := h
  refine J_r1 ?_
  exact J_iret aX12_wardFor_7 rfl h
theorem aX12_dark_0 : decode mX12_dark.2.1 0 = .ok (.aload_n 0, 1) ∧ 0 + 1 = 1 := ⟨by decide +kernel, rfl⟩
theorem aX12_dark_1 : decode mX12_dark.2.1 1 = .ok (.iload_n 1, 1) ∧ 1 + 1 = 2 := ⟨by decide +kernel, rfl⟩
theorem aX12_dark_2 : decode mX12_dark.2.1 2 = .ok (.invokevirtual 219, 3) ∧ 2 + 3 = 5 := ⟨by decide +kernel, rfl⟩
theorem aX12_dark_5 : decode mX12_dark.2.1 5 = .ok (.ifCond .ne 5, 3) ∧ ((5 : Nat) : Int) + 5 = ((10 : Nat) : Int) ∧ 5 + 3 = 8 := ⟨by decide +kernel, by decide, rfl⟩
theorem aX12_dark_8 : decode mX12_dark.2.1 8 = .ok (.iconst (-1), 1) ∧ 8 + 1 = 9 := ⟨by decide +kernel, rfl⟩
theorem aX12_dark_9 : decode mX12_dark.2.1 9 = .ok (.ireturn, 1) := by decide +kernel
theorem aX12_dark_10 : decode mX12_dark.2.1 10 = .ok (.aload_n 0, 1) ∧ 10 + 1 = 11 := ⟨by decide +kernel, rfl⟩
theorem aX12_dark_11 : decode mX12_dark.2.1 11 = .ok (.iload_n 1, 1) ∧ 11 + 1 = 12 := ⟨by decide +kernel, rfl⟩
theorem aX12_dark_12 : decode mX12_dark.2.1 12 = .ok (.iconst 1, 1) ∧ 12 + 1 = 13 := ⟨by decide +kernel, rfl⟩
theorem aX12_dark_13 : decode mX12_dark.2.1 13 = .ok (.invokevirtual 80, 3) ∧ 13 + 3 = 16 := ⟨by decide +kernel, rfl⟩
theorem aX12_dark_16 : decode mX12_dark.2.1 16 = .ok (.istore_n 2, 1) ∧ 16 + 1 = 17 := ⟨by decide +kernel, rfl⟩
theorem aX12_dark_17 : decode mX12_dark.2.1 17 = .ok (.aload_n 0, 1) ∧ 17 + 1 = 18 := ⟨by decide +kernel, rfl⟩
theorem aX12_dark_18 : decode mX12_dark.2.1 18 = .ok (.getfield 9, 3) ∧ 18 + 3 = 21 := ⟨by decide +kernel, rfl⟩
theorem aX12_dark_21 : decode mX12_dark.2.1 21 = .ok (.iconst 0, 1) ∧ 21 + 1 = 22 := ⟨by decide +kernel, rfl⟩
theorem aX12_dark_22 : decode mX12_dark.2.1 22 = .ok (.iaload, 1) ∧ 22 + 1 = 23 := ⟨by decide +kernel, rfl⟩
theorem aX12_dark_23 : decode mX12_dark.2.1 23 = .ok (.istore_n 3, 1) ∧ 23 + 1 = 24 := ⟨by decide +kernel, rfl⟩
theorem aX12_dark_24 : decode mX12_dark.2.1 24 = .ok (.iload_n 3, 1) ∧ 24 + 1 = 25 := ⟨by decide +kernel, rfl⟩
theorem aX12_dark_25 : decode mX12_dark.2.1 25 = .ok (.aload_n 0, 1) ∧ 25 + 1 = 26 := ⟨by decide +kernel, rfl⟩
theorem aX12_dark_26 : decode mX12_dark.2.1 26 = .ok (.getfield 9, 3) ∧ 26 + 3 = 29 := ⟨by decide +kernel, rfl⟩
theorem aX12_dark_29 : decode mX12_dark.2.1 29 = .ok (.iconst 1, 1) ∧ 29 + 1 = 30 := ⟨by decide +kernel, rfl⟩
theorem aX12_dark_30 : decode mX12_dark.2.1 30 = .ok (.iaload, 1) ∧ 30 + 1 = 31 := ⟨by decide +kernel, rfl⟩
theorem aX12_dark_31 : decode mX12_dark.2.1 31 = .ok (.if_icmp .ge 27, 3) ∧ ((31 : Nat) : Int) + 27 = ((58 : Nat) : Int) ∧ 31 + 3 = 34 := ⟨by decide +kernel, by decide, rfl⟩
theorem aX12_dark_34 : decode mX12_dark.2.1 34 = .ok (.aload_n 0, 1) ∧ 34 + 1 = 35 := ⟨by decide +kernel, rfl⟩
theorem aX12_dark_35 : decode mX12_dark.2.1 35 = .ok (.iload_n 1, 1) ∧ 35 + 1 = 36 := ⟨by decide +kernel, rfl⟩
theorem aX12_dark_36 : decode mX12_dark.2.1 36 = .ok (.iconst 0, 1) ∧ 36 + 1 = 37 := ⟨by decide +kernel, rfl⟩
theorem aX12_dark_37 : decode mX12_dark.2.1 37 = .ok (.invokevirtual 80, 3) ∧ 37 + 3 = 40 := ⟨by decide +kernel, rfl⟩
theorem aX12_dark_40 : decode mX12_dark.2.1 40 = .ok (.iload_n 2, 1) ∧ 40 + 1 = 41 := ⟨by decide +kernel, rfl⟩
theorem aX12_dark_41 : decode mX12_dark.2.1 41 = .ok (.iload_n 3, 1) ∧ 41 + 1 = 42 := ⟨by decide +kernel, rfl⟩
theorem aX12_dark_42 : decode mX12_dark.2.1 42 = .ok (.invokestatic 96, 3) ∧ 42 + 3 = 45 := ⟨by decide +kernel, rfl⟩
theorem aX12_dark_45 : decode mX12_dark.2.1 45 = .ok (.istore_n 2, 1) ∧ 45 + 1 = 46 := ⟨by decide +kernel, rfl⟩
theorem aX12_dark_46 : decode mX12_dark.2.1 46 = .ok (.iload_n 2, 1) ∧ 46 + 1 = 47 := ⟨by decide +kernel, rfl⟩
theorem aX12_dark_47 : decode mX12_dark.2.1 47 = .ok (.ifCond .ne 5, 3) ∧ ((47 : Nat) : Int) + 5 = ((52 : Nat) : Int) ∧ 47 + 3 = 50 := ⟨by decide +kernel, by decide, rfl⟩
theorem aX12_dark_50 : decode mX12_dark.2.1 50 = .ok (.iload_n 3, 1) ∧ 50 + 1 = 51 := ⟨by decide +kernel, rfl⟩
theorem aX12_dark_51 : decode mX12_dark.2.1 51 = .ok (.ireturn, 1) := by decide +kernel
theorem aX12_dark_52 : decode mX12_dark.2.1 52 = .ok (.iinc 3 1, 3) ∧ 52 + 3 = 55 := ⟨by decide +kernel, rfl⟩
theorem aX12_dark_55 : decode mX12_dark.2.1 55 = .ok (.goto (-31), 3) ∧ ((55 : Nat) : Int) + (-31) = ((24 : Nat) : Int) := ⟨by decide +kernel, by decide⟩
theorem aX12_dark_58 : decode mX12_dark.2.1 58 = .ok (.bipush (-3), 2) ∧ 58 + 2 = 60 := ⟨by decide +kernel, rfl⟩
theorem aX12_dark_60 : decode mX12_dark.2.1 60 = .ok (.ireturn, 1) := by decide +kernel
theorem S_X12_dark {E : EE} {d : Nat} {I : IH} {Q : QT} (x1 : Int32) (h :
(Mt E d mX12_isPane [.ref (eb E + 115), .int x1] I (fun rv I1 => ∃ v2 : Int32, rv = some (.int v2) ∧
 ((¬ v2 = 0 → (Mt E d mX12_get [.ref (eb E + 115), .int x1, .int (nI 1)] I1 (fun rv I3 => ∃ v4 : Int32, rv = some (.int v4) ∧
 J E (d + 1) mX12_dark 24 [(0, .ref (eb E + 115)), (1, .int x1), (2, .int v4), (3, .int (I3 116 0))] [] I3 Q))) ∧
 (v2 = 0 → Q (some (.int (-1))) I1))))) : Mt E (d + 1) mX12_dark [.ref (eb E + 115), .int x1] I Q := by
  refine Mt_of [(0, .ref (eb E + 115)), (1, .int x1)] (by decide +kernel) (by simp [lg_sl, Value.category, mX12_dark]) rfl ?_
  refine J_aload_n 0 aX12_dark_0 rfl ?_
  refine J_iload_n 1 aX12_dark_1 rfl ?_
  refine J_callV [.int x1] [] aX12_dark_2 lkX12_219_X12 okX12_isPane sh115 rfl rfl rfl (Nat.le_of_ble_eq_true rfl) (Nat.le_refl _) (Mt_mono h (fun rv I1 h => ?_))
  obtain ⟨v2, rfl, h⟩ := h
  refine J_r1 ?_
  refine J_if_ne aX12_dark_5 (fun q => ?_) (fun q => ?_)
  · replace h := h.1 q
    refine J_aload_n 0 aX12_dark_10 rfl ?_
    refine J_iload_n 1 aX12_dark_11 rfl ?_
    refine J_iconst (nI 1) aX12_dark_12 (by decide +kernel) ?_
    refine J_callV [.int x1, .int (nI 1)] [] aX12_dark_13 lkX12_80_X12 okX12_get sh115 rfl rfl rfl (Nat.le_of_ble_eq_true rfl) (Nat.le_refl _) (Mt_mono h (fun rv I3 h => ?_))
    obtain ⟨v4, rfl, h⟩ := h
    refine J_r1 ?_
    refine J_istore_n [(2, .int v4), (0, .ref (eb E + 115)), (1, .int x1)] aX12_dark_16 (by decide) rfl ?_
    refine J_aload_n 1 aX12_dark_17 rfl ?_
    refine J_getR aX12_dark_18 flX12_9 sh115 rfl ?_
    refine J_iconst (nI 0) aX12_dark_21 (by decide +kernel) ?_
    refine J_iaload 0 aX12_dark_22 sh116 rfl (by decide) (by decide) ?_
    refine J_istore_n [(3, .int (I3 116 0)), (2, .int v4), (0, .ref (eb E + 115)), (1, .int x1)] aX12_dark_23 (by decide) rfl ?_
    refine J_pick [2, 3, 1, 0] rfl ?_
    exact h
  · replace h := h.2 q
    refine J_iconst (-1) aX12_dark_8 (by decide +kernel) ?_
    exact J_iret aX12_dark_9 rfl h
theorem S_X12_dark_24 {E : EE} {d : Nat} {I : IH} {Q : QT} (x1 : Int32) (x2 : Int32) (x3 : Int32) (h :
(((I 116 1) ≤ x3 → Q (some (.int (-3))) I) ∧
 (¬ (I 116 1) ≤ x3 → (Mt E d mX12_get [.ref (eb E + 115), .int x1, .int (nI 0)] I (fun rv I1 => ∃ v2 : Int32, rv = some (.int v2) ∧
 (Mt E d mX12_sceneBy [.int v2, .int x2, .int x3] I1 (fun rv I3 => ∃ v4 : Int32, rv = some (.int v4) ∧
 ((¬ v4 = 0 → J E (d + 1) mX12_dark 24 [(0, .ref (eb E + 115)), (1, .int x1), (2, .int v4), (3, .int (x3 + nI 1))] [] I3 Q) ∧
 (v4 = 0 → Q (some (.int x3)) I3))))))))) : J E (d + 1) mX12_dark 24 [(0, .ref (eb E + 115)), (1, .int x1), (2, .int x2), (3, .int x3)] [] I Q := by
  refine J_iload_n 3 aX12_dark_24 rfl ?_
  refine J_aload_n 0 aX12_dark_25 rfl ?_
  refine J_getR aX12_dark_26 flX12_9 sh115 rfl ?_
  refine J_iconst (nI 1) aX12_dark_29 (by decide +kernel) ?_
  refine J_iaload 1 aX12_dark_30 sh116 rfl (by decide) (by decide) ?_
  refine J_icmp_ge aX12_dark_31 (fun q => ?_) (fun q => ?_)
  · replace h := h.1 q
    refine J_bipush (-3) aX12_dark_58 (by decide +kernel) ?_
    exact J_iret aX12_dark_60 rfl h
  · replace h := h.2 q
    refine J_aload_n 0 aX12_dark_34 rfl ?_
    refine J_iload_n 1 aX12_dark_35 rfl ?_
    refine J_iconst (nI 0) aX12_dark_36 (by decide +kernel) ?_
    refine J_callV [.int x1, .int (nI 0)] [] aX12_dark_37 lkX12_80_X12 okX12_get sh115 rfl rfl rfl (Nat.le_of_ble_eq_true rfl) (Nat.le_refl _) (Mt_mono h (fun rv I1 h => ?_))
    obtain ⟨v2, rfl, h⟩ := h
    refine J_r1 ?_
    refine J_iload_n 2 aX12_dark_40 rfl ?_
    refine J_iload_n 3 aX12_dark_41 rfl ?_
    refine J_callS [.int v2, .int x2, .int x3] [] aX12_dark_42 lkX12_96 okX12_sceneBy rfl rfl (Nat.le_of_ble_eq_true rfl) (Nat.le_refl _) (Mt_mono h (fun rv I3 h => ?_))
    obtain ⟨v4, rfl, h⟩ := h
    refine J_r1 ?_
    refine J_istore_n [(2, .int v4), (0, .ref (eb E + 115)), (1, .int x1), (3, .int x3)] aX12_dark_45 (by decide) rfl ?_
    refine J_iload_n 0 aX12_dark_46 rfl ?_
    refine J_if_ne aX12_dark_47 (fun q => ?_) (fun q => ?_)
    · replace h := h.1 q
      refine J_iinc (x3 + nI 1) [(3, .int (x3 + nI 1)), (2, .int v4), (0, .ref (eb E + 115)), (1, .int x1)] 3 aX12_dark_52 rfl (by first | rfl | (congr 1; decide +kernel)) (by decide) rfl ?_
      refine J_goto aX12_dark_55 ?_
      refine J_pick [2, 3, 1, 0] rfl ?_
      exact h
    · replace h := h.2 q
      refine J_iload_n 3 aX12_dark_50 rfl ?_
      exact J_iret aX12_dark_51 rfl h
theorem aX12_back_0 : decode mX12_back.2.1 0 = .ok (.aload_n 0, 1) ∧ 0 + 1 = 1 := ⟨by decide +kernel, rfl⟩
theorem aX12_back_1 : decode mX12_back.2.1 1 = .ok (.iload_n 1, 1) ∧ 1 + 1 = 2 := ⟨by decide +kernel, rfl⟩
theorem aX12_back_2 : decode mX12_back.2.1 2 = .ok (.invokevirtual 219, 3) ∧ 2 + 3 = 5 := ⟨by decide +kernel, rfl⟩
theorem aX12_back_5 : decode mX12_back.2.1 5 = .ok (.ifCond .ne 5, 3) ∧ ((5 : Nat) : Int) + 5 = ((10 : Nat) : Int) ∧ 5 + 3 = 8 := ⟨by decide +kernel, by decide, rfl⟩
theorem aX12_back_8 : decode mX12_back.2.1 8 = .ok (.iconst (-1), 1) ∧ 8 + 1 = 9 := ⟨by decide +kernel, rfl⟩
theorem aX12_back_9 : decode mX12_back.2.1 9 = .ok (.ireturn, 1) := by decide +kernel
theorem aX12_back_10 : decode mX12_back.2.1 10 = .ok (.aload_n 0, 1) ∧ 10 + 1 = 11 := ⟨by decide +kernel, rfl⟩
theorem aX12_back_11 : decode mX12_back.2.1 11 = .ok (.iload_n 1, 1) ∧ 11 + 1 = 12 := ⟨by decide +kernel, rfl⟩
theorem aX12_back_12 : decode mX12_back.2.1 12 = .ok (.iconst 1, 1) ∧ 12 + 1 = 13 := ⟨by decide +kernel, rfl⟩
theorem aX12_back_13 : decode mX12_back.2.1 13 = .ok (.invokevirtual 80, 3) ∧ 13 + 3 = 16 := ⟨by decide +kernel, rfl⟩
theorem aX12_back_16 : decode mX12_back.2.1 16 = .ok (.istore_n 2, 1) ∧ 16 + 1 = 17 := ⟨by decide +kernel, rfl⟩
theorem aX12_back_17 : decode mX12_back.2.1 17 = .ok (.iconst 1, 1) ∧ 17 + 1 = 18 := ⟨by decide +kernel, rfl⟩
theorem aX12_back_18 : decode mX12_back.2.1 18 = .ok (.istore_n 3, 1) ∧ 18 + 1 = 19 := ⟨by decide +kernel, rfl⟩
theorem aX12_back_19 : decode mX12_back.2.1 19 = .ok (.iload_n 3, 1) ∧ 19 + 1 = 20 := ⟨by decide +kernel, rfl⟩
theorem aX12_back_20 : decode mX12_back.2.1 20 = .ok (.bipush 64, 2) ∧ 20 + 2 = 22 := ⟨by decide +kernel, rfl⟩
theorem aX12_back_22 : decode mX12_back.2.1 22 = .ok (.if_icmp .gt 42, 3) ∧ ((22 : Nat) : Int) + 42 = ((64 : Nat) : Int) ∧ 22 + 3 = 25 := ⟨by decide +kernel, by decide, rfl⟩
theorem aX12_back_25 : decode mX12_back.2.1 25 = .ok (.aload_n 0, 1) ∧ 25 + 1 = 26 := ⟨by decide +kernel, rfl⟩
theorem aX12_back_26 : decode mX12_back.2.1 26 = .ok (.iload_n 1, 1) ∧ 26 + 1 = 27 := ⟨by decide +kernel, rfl⟩
theorem aX12_back_27 : decode mX12_back.2.1 27 = .ok (.iconst 0, 1) ∧ 27 + 1 = 28 := ⟨by decide +kernel, rfl⟩
theorem aX12_back_28 : decode mX12_back.2.1 28 = .ok (.invokevirtual 80, 3) ∧ 28 + 3 = 31 := ⟨by decide +kernel, rfl⟩
theorem aX12_back_31 : decode mX12_back.2.1 31 = .ok (.iload_n 2, 1) ∧ 31 + 1 = 32 := ⟨by decide +kernel, rfl⟩
theorem aX12_back_32 : decode mX12_back.2.1 32 = .ok (.aload_n 0, 1) ∧ 32 + 1 = 33 := ⟨by decide +kernel, rfl⟩
theorem aX12_back_33 : decode mX12_back.2.1 33 = .ok (.getfield 9, 3) ∧ 33 + 3 = 36 := ⟨by decide +kernel, rfl⟩
theorem aX12_back_36 : decode mX12_back.2.1 36 = .ok (.iconst 0, 1) ∧ 36 + 1 = 37 := ⟨by decide +kernel, rfl⟩
theorem aX12_back_37 : decode mX12_back.2.1 37 = .ok (.iaload, 1) ∧ 37 + 1 = 38 := ⟨by decide +kernel, rfl⟩
theorem aX12_back_38 : decode mX12_back.2.1 38 = .ok (.iload_n 3, 1) ∧ 38 + 1 = 39 := ⟨by decide +kernel, rfl⟩
theorem aX12_back_39 : decode mX12_back.2.1 39 = .ok (.iadd, 1) ∧ 39 + 1 = 40 := ⟨by decide +kernel, rfl⟩
theorem aX12_back_40 : decode mX12_back.2.1 40 = .ok (.iconst 1, 1) ∧ 40 + 1 = 41 := ⟨by decide +kernel, rfl⟩
theorem aX12_back_41 : decode mX12_back.2.1 41 = .ok (.isub, 1) ∧ 41 + 1 = 42 := ⟨by decide +kernel, rfl⟩
theorem aX12_back_42 : decode mX12_back.2.1 42 = .ok (.invokestatic 96, 3) ∧ 42 + 3 = 45 := ⟨by decide +kernel, rfl⟩
theorem aX12_back_45 : decode mX12_back.2.1 45 = .ok (.istore_n 2, 1) ∧ 45 + 1 = 46 := ⟨by decide +kernel, rfl⟩
theorem aX12_back_46 : decode mX12_back.2.1 46 = .ok (.iload_n 2, 1) ∧ 46 + 1 = 47 := ⟨by decide +kernel, rfl⟩
theorem aX12_back_47 : decode mX12_back.2.1 47 = .ok (.aload_n 0, 1) ∧ 47 + 1 = 48 := ⟨by decide +kernel, rfl⟩
theorem aX12_back_48 : decode mX12_back.2.1 48 = .ok (.iload_n 1, 1) ∧ 48 + 1 = 49 := ⟨by decide +kernel, rfl⟩
theorem aX12_back_49 : decode mX12_back.2.1 49 = .ok (.iconst 1, 1) ∧ 49 + 1 = 50 := ⟨by decide +kernel, rfl⟩
theorem aX12_back_50 : decode mX12_back.2.1 50 = .ok (.invokevirtual 80, 3) ∧ 50 + 3 = 53 := ⟨by decide +kernel, rfl⟩
theorem aX12_back_53 : decode mX12_back.2.1 53 = .ok (.if_icmp .ne 5, 3) ∧ ((53 : Nat) : Int) + 5 = ((58 : Nat) : Int) ∧ 53 + 3 = 56 := ⟨by decide +kernel, by decide, rfl⟩
theorem aX12_back_56 : decode mX12_back.2.1 56 = .ok (.iload_n 3, 1) ∧ 56 + 1 = 57 := ⟨by decide +kernel, rfl⟩
theorem aX12_back_57 : decode mX12_back.2.1 57 = .ok (.ireturn, 1) := by decide +kernel
theorem aX12_back_58 : decode mX12_back.2.1 58 = .ok (.iinc 3 1, 3) ∧ 58 + 3 = 61 := ⟨by decide +kernel, rfl⟩
theorem aX12_back_61 : decode mX12_back.2.1 61 = .ok (.goto (-42), 3) ∧ ((61 : Nat) : Int) + (-42) = ((19 : Nat) : Int) := ⟨by decide +kernel, by decide⟩
theorem aX12_back_64 : decode mX12_back.2.1 64 = .ok (.bipush (-3), 2) ∧ 64 + 2 = 66 := ⟨by decide +kernel, rfl⟩
theorem aX12_back_66 : decode mX12_back.2.1 66 = .ok (.ireturn, 1) := by decide +kernel
theorem S_X12_back {E : EE} {d : Nat} {I : IH} {Q : QT} (x1 : Int32) (h :
(Mt E d mX12_isPane [.ref (eb E + 115), .int x1] I (fun rv I1 => ∃ v2 : Int32, rv = some (.int v2) ∧
 ((¬ v2 = 0 → (Mt E d mX12_get [.ref (eb E + 115), .int x1, .int (nI 1)] I1 (fun rv I3 => ∃ v4 : Int32, rv = some (.int v4) ∧
 J E (d + 1) mX12_back 19 [(0, .ref (eb E + 115)), (1, .int x1), (2, .int v4), (3, .int (nI 1))] [] I3 Q))) ∧
 (v2 = 0 → Q (some (.int (-1))) I1))))) : Mt E (d + 1) mX12_back [.ref (eb E + 115), .int x1] I Q := by
  refine Mt_of [(0, .ref (eb E + 115)), (1, .int x1)] (by decide +kernel) (by simp [lg_sl, Value.category, mX12_back]) rfl ?_
  refine J_aload_n 0 aX12_back_0 rfl ?_
  refine J_iload_n 1 aX12_back_1 rfl ?_
  refine J_callV [.int x1] [] aX12_back_2 lkX12_219_X12 okX12_isPane sh115 rfl rfl rfl (Nat.le_of_ble_eq_true rfl) (Nat.le_refl _) (Mt_mono h (fun rv I1 h => ?_))
  obtain ⟨v2, rfl, h⟩ := h
  refine J_r1 ?_
  refine J_if_ne aX12_back_5 (fun q => ?_) (fun q => ?_)
  · replace h := h.1 q
    refine J_aload_n 0 aX12_back_10 rfl ?_
    refine J_iload_n 1 aX12_back_11 rfl ?_
    refine J_iconst (nI 1) aX12_back_12 (by decide +kernel) ?_
    refine J_callV [.int x1, .int (nI 1)] [] aX12_back_13 lkX12_80_X12 okX12_get sh115 rfl rfl rfl (Nat.le_of_ble_eq_true rfl) (Nat.le_refl _) (Mt_mono h (fun rv I3 h => ?_))
    obtain ⟨v4, rfl, h⟩ := h
    refine J_r1 ?_
    refine J_istore_n [(2, .int v4), (0, .ref (eb E + 115)), (1, .int x1)] aX12_back_16 (by decide) rfl ?_
    refine J_iconst (nI 1) aX12_back_17 (by decide +kernel) ?_
    refine J_istore_n [(3, .int (nI 1)), (2, .int v4), (0, .ref (eb E + 115)), (1, .int x1)] aX12_back_18 (by decide) rfl ?_
    refine J_pick [2, 3, 1, 0] rfl ?_
    exact h
  · replace h := h.2 q
    refine J_iconst (-1) aX12_back_8 (by decide +kernel) ?_
    exact J_iret aX12_back_9 rfl h
theorem S_X12_back_19 {E : EE} {d : Nat} {I : IH} {Q : QT} (x1 : Int32) (x2 : Int32) (x3 : Int32) (h :
(((nI 64) < x3 → Q (some (.int (-3))) I) ∧
 (¬ (nI 64) < x3 → (Mt E d mX12_get [.ref (eb E + 115), .int x1, .int (nI 0)] I (fun rv I1 => ∃ v2 : Int32, rv = some (.int v2) ∧
 (Mt E d mX12_sceneBy [.int v2, .int x2, .int (((I1 116 0) + x3) - (nI 1))] I1 (fun rv I3 => ∃ v4 : Int32, rv = some (.int v4) ∧
 (Mt E d mX12_get [.ref (eb E + 115), .int x1, .int (nI 1)] I3 (fun rv I5 => ∃ v6 : Int32, rv = some (.int v6) ∧
 ((¬ v4 = v6 → J E (d + 1) mX12_back 19 [(0, .ref (eb E + 115)), (1, .int x1), (2, .int v4), (3, .int (x3 + nI 1))] [] I5 Q) ∧
 (v4 = v6 → Q (some (.int x3)) I5))))))))))) : J E (d + 1) mX12_back 19 [(0, .ref (eb E + 115)), (1, .int x1), (2, .int x2), (3, .int x3)] [] I Q := by
  refine J_iload_n 3 aX12_back_19 rfl ?_
  refine J_bipush (nI 64) aX12_back_20 (by decide +kernel) ?_
  refine J_icmp_gt aX12_back_22 (fun q => ?_) (fun q => ?_)
  · replace h := h.1 q
    refine J_bipush (-3) aX12_back_64 (by decide +kernel) ?_
    exact J_iret aX12_back_66 rfl h
  · replace h := h.2 q
    refine J_aload_n 0 aX12_back_25 rfl ?_
    refine J_iload_n 1 aX12_back_26 rfl ?_
    refine J_iconst (nI 0) aX12_back_27 (by decide +kernel) ?_
    refine J_callV [.int x1, .int (nI 0)] [] aX12_back_28 lkX12_80_X12 okX12_get sh115 rfl rfl rfl (Nat.le_of_ble_eq_true rfl) (Nat.le_refl _) (Mt_mono h (fun rv I1 h => ?_))
    obtain ⟨v2, rfl, h⟩ := h
    refine J_r1 ?_
    refine J_iload_n 2 aX12_back_31 rfl ?_
    refine J_aload_n 0 aX12_back_32 rfl ?_
    refine J_getR aX12_back_33 flX12_9 sh115 rfl ?_
    refine J_iconst (nI 0) aX12_back_36 (by decide +kernel) ?_
    refine J_iaload 0 aX12_back_37 sh116 rfl (by decide) (by decide) ?_
    refine J_iload_n 3 aX12_back_38 rfl ?_
    refine J_iadd aX12_back_39 ?_
    refine J_iconst (nI 1) aX12_back_40 (by decide +kernel) ?_
    refine J_isub aX12_back_41 ?_
    refine J_callS [.int v2, .int x2, .int (((I1 116 0) + x3) - (nI 1))] [] aX12_back_42 lkX12_96 okX12_sceneBy rfl rfl (Nat.le_of_ble_eq_true rfl) (Nat.le_refl _) (Mt_mono h (fun rv I3 h => ?_))
    obtain ⟨v4, rfl, h⟩ := h
    refine J_r1 ?_
    refine J_istore_n [(2, .int v4), (0, .ref (eb E + 115)), (1, .int x1), (3, .int x3)] aX12_back_45 (by decide) rfl ?_
    refine J_iload_n 0 aX12_back_46 rfl ?_
    refine J_aload_n 1 aX12_back_47 rfl ?_
    refine J_iload_n 2 aX12_back_48 rfl ?_
    refine J_iconst (nI 1) aX12_back_49 (by decide +kernel) ?_
    refine J_callV [.int x1, .int (nI 1)] [.int v4] aX12_back_50 lkX12_80_X12 okX12_get sh115 rfl rfl rfl (Nat.le_of_ble_eq_true rfl) (Nat.le_refl _) (Mt_mono h (fun rv I5 h => ?_))
    obtain ⟨v6, rfl, h⟩ := h
    refine J_r1 ?_
    refine J_icmp_ne aX12_back_53 (fun q => ?_) (fun q => ?_)
    · replace h := h.1 q
      refine J_iinc (x3 + nI 1) [(3, .int (x3 + nI 1)), (2, .int v4), (0, .ref (eb E + 115)), (1, .int x1)] 3 aX12_back_58 rfl (by first | rfl | (congr 1; decide +kernel)) (by decide) rfl ?_
      refine J_goto aX12_back_61 ?_
      refine J_pick [2, 3, 1, 0] rfl ?_
      exact h
    · replace h := h.2 q
      refine J_iload_n 3 aX12_back_56 rfl ?_
      exact J_iret aX12_back_57 rfl h
theorem aX12_areClose_0 : decode mX12_areClose.2.1 0 = .ok (.aload_n 0, 1) ∧ 0 + 1 = 1 := ⟨by decide +kernel, rfl⟩
theorem aX12_areClose_1 : decode mX12_areClose.2.1 1 = .ok (.iload_n 1, 1) ∧ 1 + 1 = 2 := ⟨by decide +kernel, rfl⟩
theorem aX12_areClose_2 : decode mX12_areClose.2.1 2 = .ok (.iconst 1, 1) ∧ 2 + 1 = 3 := ⟨by decide +kernel, rfl⟩
theorem aX12_areClose_3 : decode mX12_areClose.2.1 3 = .ok (.invokevirtual 80, 3) ∧ 3 + 3 = 6 := ⟨by decide +kernel, rfl⟩
theorem aX12_areClose_6 : decode mX12_areClose.2.1 6 = .ok (.aload_n 0, 1) ∧ 6 + 1 = 7 := ⟨by decide +kernel, rfl⟩
theorem aX12_areClose_7 : decode mX12_areClose.2.1 7 = .ok (.iload_n 2, 1) ∧ 7 + 1 = 8 := ⟨by decide +kernel, rfl⟩
theorem aX12_areClose_8 : decode mX12_areClose.2.1 8 = .ok (.iconst 1, 1) ∧ 8 + 1 = 9 := ⟨by decide +kernel, rfl⟩
theorem aX12_areClose_9 : decode mX12_areClose.2.1 9 = .ok (.invokevirtual 80, 3) ∧ 9 + 3 = 12 := ⟨by decide +kernel, rfl⟩
theorem aX12_areClose_12 : decode mX12_areClose.2.1 12 = .ok (.ixor, 1) ∧ 12 + 1 = 13 := ⟨by decide +kernel, rfl⟩
theorem aX12_areClose_13 : decode mX12_areClose.2.1 13 = .ok (.invokestatic 83, 3) ∧ 13 + 3 = 16 := ⟨by decide +kernel, rfl⟩
theorem aX12_areClose_16 : decode mX12_areClose.2.1 16 = .ok (.istore_n 3, 1) ∧ 16 + 1 = 17 := ⟨by decide +kernel, rfl⟩
theorem aX12_areClose_17 : decode mX12_areClose.2.1 17 = .ok (.aload_n 0, 1) ∧ 17 + 1 = 18 := ⟨by decide +kernel, rfl⟩
theorem aX12_areClose_18 : decode mX12_areClose.2.1 18 = .ok (.iload_n 1, 1) ∧ 18 + 1 = 19 := ⟨by decide +kernel, rfl⟩
theorem aX12_areClose_19 : decode mX12_areClose.2.1 19 = .ok (.iconst 4, 1) ∧ 19 + 1 = 20 := ⟨by decide +kernel, rfl⟩
theorem aX12_areClose_20 : decode mX12_areClose.2.1 20 = .ok (.invokevirtual 80, 3) ∧ 20 + 3 = 23 := ⟨by decide +kernel, rfl⟩
theorem aX12_areClose_23 : decode mX12_areClose.2.1 23 = .ok (.ifCond .ne 36, 3) ∧ ((23 : Nat) : Int) + 36 = ((59 : Nat) : Int) ∧ 23 + 3 = 26 := ⟨by decide +kernel, by decide, rfl⟩
theorem aX12_areClose_26 : decode mX12_areClose.2.1 26 = .ok (.aload_n 0, 1) ∧ 26 + 1 = 27 := ⟨by decide +kernel, rfl⟩
theorem aX12_areClose_27 : decode mX12_areClose.2.1 27 = .ok (.iload_n 2, 1) ∧ 27 + 1 = 28 := ⟨by decide +kernel, rfl⟩
theorem aX12_areClose_28 : decode mX12_areClose.2.1 28 = .ok (.iconst 4, 1) ∧ 28 + 1 = 29 := ⟨by decide +kernel, rfl⟩
theorem aX12_areClose_29 : decode mX12_areClose.2.1 29 = .ok (.invokevirtual 80, 3) ∧ 29 + 3 = 32 := ⟨by decide +kernel, rfl⟩
theorem aX12_areClose_32 : decode mX12_areClose.2.1 32 = .ok (.ifCond .ne 27, 3) ∧ ((32 : Nat) : Int) + 27 = ((59 : Nat) : Int) ∧ 32 + 3 = 35 := ⟨by decide +kernel, by decide, rfl⟩
theorem aX12_areClose_35 : decode mX12_areClose.2.1 35 = .ok (.aload_n 0, 1) ∧ 35 + 1 = 36 := ⟨by decide +kernel, rfl⟩
theorem aX12_areClose_36 : decode mX12_areClose.2.1 36 = .ok (.iload_n 1, 1) ∧ 36 + 1 = 37 := ⟨by decide +kernel, rfl⟩
theorem aX12_areClose_37 : decode mX12_areClose.2.1 37 = .ok (.iconst 3, 1) ∧ 37 + 1 = 38 := ⟨by decide +kernel, rfl⟩
theorem aX12_areClose_38 : decode mX12_areClose.2.1 38 = .ok (.invokevirtual 80, 3) ∧ 38 + 3 = 41 := ⟨by decide +kernel, rfl⟩
theorem aX12_areClose_41 : decode mX12_areClose.2.1 41 = .ok (.aload_n 0, 1) ∧ 41 + 1 = 42 := ⟨by decide +kernel, rfl⟩
theorem aX12_areClose_42 : decode mX12_areClose.2.1 42 = .ok (.iload_n 2, 1) ∧ 42 + 1 = 43 := ⟨by decide +kernel, rfl⟩
theorem aX12_areClose_43 : decode mX12_areClose.2.1 43 = .ok (.iconst 3, 1) ∧ 43 + 1 = 44 := ⟨by decide +kernel, rfl⟩
theorem aX12_areClose_44 : decode mX12_areClose.2.1 44 = .ok (.invokevirtual 80, 3) ∧ 44 + 3 = 47 := ⟨by decide +kernel, rfl⟩
theorem aX12_areClose_47 : decode mX12_areClose.2.1 47 = .ok (.if_icmp .eq 8, 3) ∧ ((47 : Nat) : Int) + 8 = ((55 : Nat) : Int) ∧ 47 + 3 = 50 := ⟨by decide +kernel, by decide, rfl⟩
theorem aX12_areClose_50 : decode mX12_areClose.2.1 50 = .ok (.iload_n 3, 1) ∧ 50 + 1 = 51 := ⟨by decide +kernel, rfl⟩
theorem aX12_areClose_51 : decode mX12_areClose.2.1 51 = .ok (.iconst 2, 1) ∧ 51 + 1 = 52 := ⟨by decide +kernel, rfl⟩
theorem aX12_areClose_52 : decode mX12_areClose.2.1 52 = .ok (.if_icmp .gt 7, 3) ∧ ((52 : Nat) : Int) + 7 = ((59 : Nat) : Int) ∧ 52 + 3 = 55 := ⟨by decide +kernel, by decide, rfl⟩
theorem aX12_areClose_55 : decode mX12_areClose.2.1 55 = .ok (.iconst 1, 1) ∧ 55 + 1 = 56 := ⟨by decide +kernel, rfl⟩
theorem aX12_areClose_56 : decode mX12_areClose.2.1 56 = .ok (.goto 4, 3) ∧ ((56 : Nat) : Int) + 4 = ((60 : Nat) : Int) := ⟨by decide +kernel, by decide⟩
theorem aX12_areClose_59 : decode mX12_areClose.2.1 59 = .ok (.iconst 0, 1) ∧ 59 + 1 = 60 := ⟨by decide +kernel, rfl⟩
theorem aX12_areClose_60 : decode mX12_areClose.2.1 60 = .ok (.ireturn, 1) := by decide +kernel
theorem S_X12_areClose {E : EE} {d : Nat} {I : IH} {Q : QT} (x1 : Int32) (x2 : Int32) (h :
(Mt E d mX12_get [.ref (eb E + 115), .int x1, .int (nI 1)] I (fun rv I1 => ∃ v2 : Int32, rv = some (.int v2) ∧
 (Mt E d mX12_get [.ref (eb E + 115), .int x2, .int (nI 1)] I1 (fun rv I3 => ∃ v4 : Int32, rv = some (.int v4) ∧
 (Mt E d mX12_ones [.int (v2 ^^^ v4)] I3 (fun rv I5 => ∃ v6 : Int32, rv = some (.int v6) ∧
 (Mt E d mX12_get [.ref (eb E + 115), .int x1, .int (nI 4)] I5 (fun rv I7 => ∃ v8 : Int32, rv = some (.int v8) ∧
 ((¬ v8 = 0 → Q (some (.int (nI 0))) I7) ∧
 (v8 = 0 → (Mt E d mX12_get [.ref (eb E + 115), .int x2, .int (nI 4)] I7 (fun rv I9 => ∃ v10 : Int32, rv = some (.int v10) ∧
 ((¬ v10 = 0 → Q (some (.int (nI 0))) I9) ∧
 (v10 = 0 → (Mt E d mX12_get [.ref (eb E + 115), .int x1, .int (nI 3)] I9 (fun rv I11 => ∃ v12 : Int32, rv = some (.int v12) ∧
 (Mt E d mX12_get [.ref (eb E + 115), .int x2, .int (nI 3)] I11 (fun rv I13 => ∃ v14 : Int32, rv = some (.int v14) ∧
 ((v12 = v14 → Q (some (.int (nI 1))) I13) ∧
 (¬ v12 = v14 → (((nI 2) < v6 → Q (some (.int (nI 0))) I13) ∧
 (¬ (nI 2) < v6 → Q (some (.int (nI 1))) I13))))))))))))))))))))))) : Mt E (d + 1) mX12_areClose [.ref (eb E + 115), .int x1, .int x2] I Q := by
  refine Mt_of [(0, .ref (eb E + 115)), (1, .int x1), (2, .int x2)] (by decide +kernel) (by simp [lg_sl, Value.category, mX12_areClose]) rfl ?_
  refine J_aload_n 0 aX12_areClose_0 rfl ?_
  refine J_iload_n 1 aX12_areClose_1 rfl ?_
  refine J_iconst (nI 1) aX12_areClose_2 (by decide +kernel) ?_
  refine J_callV [.int x1, .int (nI 1)] [] aX12_areClose_3 lkX12_80_X12 okX12_get sh115 rfl rfl rfl (Nat.le_of_ble_eq_true rfl) (Nat.le_refl _) (Mt_mono h (fun rv I1 h => ?_))
  obtain ⟨v2, rfl, h⟩ := h
  refine J_r1 ?_
  refine J_aload_n 0 aX12_areClose_6 rfl ?_
  refine J_iload_n 2 aX12_areClose_7 rfl ?_
  refine J_iconst (nI 1) aX12_areClose_8 (by decide +kernel) ?_
  refine J_callV [.int x2, .int (nI 1)] [.int v2] aX12_areClose_9 lkX12_80_X12 okX12_get sh115 rfl rfl rfl (Nat.le_of_ble_eq_true rfl) (Nat.le_refl _) (Mt_mono h (fun rv I3 h => ?_))
  obtain ⟨v4, rfl, h⟩ := h
  refine J_r1 ?_
  refine J_ixor aX12_areClose_12 ?_
  refine J_callS [.int (v2 ^^^ v4)] [] aX12_areClose_13 lkX12_83 okX12_ones rfl rfl (Nat.le_of_ble_eq_true rfl) (Nat.le_refl _) (Mt_mono h (fun rv I5 h => ?_))
  obtain ⟨v6, rfl, h⟩ := h
  refine J_r1 ?_
  refine J_istore_n [(3, .int v6), (0, .ref (eb E + 115)), (1, .int x1), (2, .int x2)] aX12_areClose_16 (by decide) rfl ?_
  refine J_aload_n 1 aX12_areClose_17 rfl ?_
  refine J_iload_n 2 aX12_areClose_18 rfl ?_
  refine J_iconst (nI 4) aX12_areClose_19 (by decide +kernel) ?_
  refine J_callV [.int x1, .int (nI 4)] [] aX12_areClose_20 lkX12_80_X12 okX12_get sh115 rfl rfl rfl (Nat.le_of_ble_eq_true rfl) (Nat.le_refl _) (Mt_mono h (fun rv I7 h => ?_))
  obtain ⟨v8, rfl, h⟩ := h
  refine J_r1 ?_
  refine J_if_ne aX12_areClose_23 (fun q => ?_) (fun q => ?_)
  · replace h := h.1 q
    refine J_iconst (nI 0) aX12_areClose_59 (by decide +kernel) ?_
    exact J_zret aX12_areClose_60 rfl (by decide +kernel) h
  · replace h := h.2 q
    refine J_aload_n 1 aX12_areClose_26 rfl ?_
    refine J_iload_n 3 aX12_areClose_27 rfl ?_
    refine J_iconst (nI 4) aX12_areClose_28 (by decide +kernel) ?_
    refine J_callV [.int x2, .int (nI 4)] [] aX12_areClose_29 lkX12_80_X12 okX12_get sh115 rfl rfl rfl (Nat.le_of_ble_eq_true rfl) (Nat.le_refl _) (Mt_mono h (fun rv I9 h => ?_))
    obtain ⟨v10, rfl, h⟩ := h
    refine J_r1 ?_
    refine J_if_ne aX12_areClose_32 (fun q => ?_) (fun q => ?_)
    · replace h := h.1 q
      refine J_iconst (nI 0) aX12_areClose_59 (by decide +kernel) ?_
      exact J_zret aX12_areClose_60 rfl (by decide +kernel) h
    · replace h := h.2 q
      refine J_aload_n 1 aX12_areClose_35 rfl ?_
      refine J_iload_n 2 aX12_areClose_36 rfl ?_
      refine J_iconst (nI 3) aX12_areClose_37 (by decide +kernel) ?_
      refine J_callV [.int x1, .int (nI 3)] [] aX12_areClose_38 lkX12_80_X12 okX12_get sh115 rfl rfl rfl (Nat.le_of_ble_eq_true rfl) (Nat.le_refl _) (Mt_mono h (fun rv I11 h => ?_))
      obtain ⟨v12, rfl, h⟩ := h
      refine J_r1 ?_
      refine J_aload_n 1 aX12_areClose_41 rfl ?_
      refine J_iload_n 3 aX12_areClose_42 rfl ?_
      refine J_iconst (nI 3) aX12_areClose_43 (by decide +kernel) ?_
      refine J_callV [.int x2, .int (nI 3)] [.int v12] aX12_areClose_44 lkX12_80_X12 okX12_get sh115 rfl rfl rfl (Nat.le_of_ble_eq_true rfl) (Nat.le_refl _) (Mt_mono h (fun rv I13 h => ?_))
      obtain ⟨v14, rfl, h⟩ := h
      refine J_r1 ?_
      refine J_icmp_eq aX12_areClose_47 (fun q => ?_) (fun q => ?_)
      · replace h := h.1 q
        refine J_iconst (nI 1) aX12_areClose_55 (by decide +kernel) ?_
        refine J_goto aX12_areClose_56 ?_
        exact J_zret aX12_areClose_60 rfl (by decide +kernel) h
      · replace h := h.2 q
        refine J_iload_n 0 aX12_areClose_50 rfl ?_
        refine J_iconst (nI 2) aX12_areClose_51 (by decide +kernel) ?_
        refine J_icmp_gt aX12_areClose_52 (fun q => ?_) (fun q => ?_)
        · replace h := h.1 q
          refine J_iconst (nI 0) aX12_areClose_59 (by decide +kernel) ?_
          exact J_zret aX12_areClose_60 rfl (by decide +kernel) h
        · replace h := h.2 q
          refine J_iconst (nI 1) aX12_areClose_55 (by decide +kernel) ?_
          refine J_goto aX12_areClose_56 ?_
          exact J_zret aX12_areClose_60 rfl (by decide +kernel) h
theorem aX12_companyOf_0 : decode mX12_companyOf.2.1 0 = .ok (.iconst 1, 1) ∧ 0 + 1 = 1 := ⟨by decide +kernel, rfl⟩
theorem aX12_companyOf_1 : decode mX12_companyOf.2.1 1 = .ok (.iload_n 1, 1) ∧ 1 + 1 = 2 := ⟨by decide +kernel, rfl⟩
theorem aX12_companyOf_2 : decode mX12_companyOf.2.1 2 = .ok (.ishl, 1) ∧ 2 + 1 = 3 := ⟨by decide +kernel, rfl⟩
theorem aX12_companyOf_3 : decode mX12_companyOf.2.1 3 = .ok (.istore_n 2, 1) ∧ 3 + 1 = 4 := ⟨by decide +kernel, rfl⟩
theorem aX12_companyOf_4 : decode mX12_companyOf.2.1 4 = .ok (.iconst 0, 1) ∧ 4 + 1 = 5 := ⟨by decide +kernel, rfl⟩
theorem aX12_companyOf_5 : decode mX12_companyOf.2.1 5 = .ok (.istore_n 3, 1) ∧ 5 + 1 = 6 := ⟨by decide +kernel, rfl⟩
theorem aX12_companyOf_6 : decode mX12_companyOf.2.1 6 = .ok (.iload_n 3, 1) ∧ 6 + 1 = 7 := ⟨by decide +kernel, rfl⟩
theorem aX12_companyOf_7 : decode mX12_companyOf.2.1 7 = .ok (.aload_n 0, 1) ∧ 7 + 1 = 8 := ⟨by decide +kernel, rfl⟩
theorem aX12_companyOf_8 : decode mX12_companyOf.2.1 8 = .ok (.getfield 9, 3) ∧ 8 + 3 = 11 := ⟨by decide +kernel, rfl⟩
theorem aX12_companyOf_11 : decode mX12_companyOf.2.1 11 = .ok (.bipush 6, 2) ∧ 11 + 2 = 13 := ⟨by decide +kernel, rfl⟩
theorem aX12_companyOf_13 : decode mX12_companyOf.2.1 13 = .ok (.iaload, 1) ∧ 13 + 1 = 14 := ⟨by decide +kernel, rfl⟩
theorem aX12_companyOf_14 : decode mX12_companyOf.2.1 14 = .ok (.if_icmp .ge 83, 3) ∧ ((14 : Nat) : Int) + 83 = ((97 : Nat) : Int) ∧ 14 + 3 = 17 := ⟨by decide +kernel, by decide, rfl⟩
theorem aX12_companyOf_17 : decode mX12_companyOf.2.1 17 = .ok (.iconst 0, 1) ∧ 17 + 1 = 18 := ⟨by decide +kernel, rfl⟩
theorem aX12_companyOf_18 : decode mX12_companyOf.2.1 18 = .ok (.istore 4, 2) ∧ 18 + 2 = 20 := ⟨by decide +kernel, rfl⟩
theorem aX12_companyOf_20 : decode mX12_companyOf.2.1 20 = .ok (.iload 4, 2) ∧ 20 + 2 = 22 := ⟨by decide +kernel, rfl⟩
theorem aX12_companyOf_22 : decode mX12_companyOf.2.1 22 = .ok (.aload_n 0, 1) ∧ 22 + 1 = 23 := ⟨by decide +kernel, rfl⟩
theorem aX12_companyOf_23 : decode mX12_companyOf.2.1 23 = .ok (.getfield 9, 3) ∧ 23 + 3 = 26 := ⟨by decide +kernel, rfl⟩
theorem aX12_companyOf_26 : decode mX12_companyOf.2.1 26 = .ok (.bipush 6, 2) ∧ 26 + 2 = 28 := ⟨by decide +kernel, rfl⟩
theorem aX12_companyOf_28 : decode mX12_companyOf.2.1 28 = .ok (.iaload, 1) ∧ 28 + 1 = 29 := ⟨by decide +kernel, rfl⟩
theorem aX12_companyOf_29 : decode mX12_companyOf.2.1 29 = .ok (.if_icmp .ge 62, 3) ∧ ((29 : Nat) : Int) + 62 = ((91 : Nat) : Int) ∧ 29 + 3 = 32 := ⟨by decide +kernel, by decide, rfl⟩
theorem aX12_companyOf_32 : decode mX12_companyOf.2.1 32 = .ok (.iconst 0, 1) ∧ 32 + 1 = 33 := ⟨by decide +kernel, rfl⟩
theorem aX12_companyOf_33 : decode mX12_companyOf.2.1 33 = .ok (.istore 5, 2) ∧ 33 + 2 = 35 := ⟨by decide +kernel, rfl⟩
theorem aX12_companyOf_35 : decode mX12_companyOf.2.1 35 = .ok (.iload 5, 2) ∧ 35 + 2 = 37 := ⟨by decide +kernel, rfl⟩
theorem aX12_companyOf_37 : decode mX12_companyOf.2.1 37 = .ok (.aload_n 0, 1) ∧ 37 + 1 = 38 := ⟨by decide +kernel, rfl⟩
theorem aX12_companyOf_38 : decode mX12_companyOf.2.1 38 = .ok (.getfield 9, 3) ∧ 38 + 3 = 41 := ⟨by decide +kernel, rfl⟩
theorem aX12_companyOf_41 : decode mX12_companyOf.2.1 41 = .ok (.bipush 6, 2) ∧ 41 + 2 = 43 := ⟨by decide +kernel, rfl⟩
theorem aX12_companyOf_43 : decode mX12_companyOf.2.1 43 = .ok (.iaload, 1) ∧ 43 + 1 = 44 := ⟨by decide +kernel, rfl⟩
theorem aX12_companyOf_44 : decode mX12_companyOf.2.1 44 = .ok (.if_icmp .ge 41, 3) ∧ ((44 : Nat) : Int) + 41 = ((85 : Nat) : Int) ∧ 44 + 3 = 47 := ⟨by decide +kernel, by decide, rfl⟩
theorem aX12_companyOf_47 : decode mX12_companyOf.2.1 47 = .ok (.iload_n 2, 1) ∧ 47 + 1 = 48 := ⟨by decide +kernel, rfl⟩
theorem aX12_companyOf_48 : decode mX12_companyOf.2.1 48 = .ok (.iload_n 2, 1) ∧ 48 + 1 = 49 := ⟨by decide +kernel, rfl⟩
theorem aX12_companyOf_49 : decode mX12_companyOf.2.1 49 = .ok (.iload 4, 2) ∧ 49 + 2 = 51 := ⟨by decide +kernel, rfl⟩
theorem aX12_companyOf_51 : decode mX12_companyOf.2.1 51 = .ok (.ishr, 1) ∧ 51 + 1 = 52 := ⟨by decide +kernel, rfl⟩
theorem aX12_companyOf_52 : decode mX12_companyOf.2.1 52 = .ok (.iconst 1, 1) ∧ 52 + 1 = 53 := ⟨by decide +kernel, rfl⟩
theorem aX12_companyOf_53 : decode mX12_companyOf.2.1 53 = .ok (.iand, 1) ∧ 53 + 1 = 54 := ⟨by decide +kernel, rfl⟩
theorem aX12_companyOf_54 : decode mX12_companyOf.2.1 54 = .ok (.iconst 1, 1) ∧ 54 + 1 = 55 := ⟨by decide +kernel, rfl⟩
theorem aX12_companyOf_55 : decode mX12_companyOf.2.1 55 = .ok (.if_icmp .ne 21, 3) ∧ ((55 : Nat) : Int) + 21 = ((76 : Nat) : Int) ∧ 55 + 3 = 58 := ⟨by decide +kernel, by decide, rfl⟩
theorem aX12_companyOf_58 : decode mX12_companyOf.2.1 58 = .ok (.aload_n 0, 1) ∧ 58 + 1 = 59 := ⟨by decide +kernel, rfl⟩
theorem aX12_companyOf_59 : decode mX12_companyOf.2.1 59 = .ok (.iload 4, 2) ∧ 59 + 2 = 61 := ⟨by decide +kernel, rfl⟩
theorem aX12_companyOf_61 : decode mX12_companyOf.2.1 61 = .ok (.iload 5, 2) ∧ 61 + 2 = 63 := ⟨by decide +kernel, rfl⟩
theorem aX12_companyOf_63 : decode mX12_companyOf.2.1 63 = .ok (.invokevirtual 249, 3) ∧ 63 + 3 = 66 := ⟨by decide +kernel, rfl⟩
theorem aX12_companyOf_66 : decode mX12_companyOf.2.1 66 = .ok (.ifCond .eq 10, 3) ∧ ((66 : Nat) : Int) + 10 = ((76 : Nat) : Int) ∧ 66 + 3 = 69 := ⟨by decide +kernel, by decide, rfl⟩
theorem aX12_companyOf_69 : decode mX12_companyOf.2.1 69 = .ok (.iconst 1, 1) ∧ 69 + 1 = 70 := ⟨by decide +kernel, rfl⟩
theorem aX12_companyOf_70 : decode mX12_companyOf.2.1 70 = .ok (.iload 5, 2) ∧ 70 + 2 = 72 := ⟨by decide +kernel, rfl⟩
theorem aX12_companyOf_72 : decode mX12_companyOf.2.1 72 = .ok (.ishl, 1) ∧ 72 + 1 = 73 := ⟨by decide +kernel, rfl⟩
theorem aX12_companyOf_73 : decode mX12_companyOf.2.1 73 = .ok (.goto 4, 3) ∧ ((73 : Nat) : Int) + 4 = ((77 : Nat) : Int) := ⟨by decide +kernel, by decide⟩
theorem aX12_companyOf_76 : decode mX12_companyOf.2.1 76 = .ok (.iconst 0, 1) ∧ 76 + 1 = 77 := ⟨by decide +kernel, rfl⟩
theorem aX12_companyOf_77 : decode mX12_companyOf.2.1 77 = .ok (.ior, 1) ∧ 77 + 1 = 78 := ⟨by decide +kernel, rfl⟩
theorem aX12_companyOf_78 : decode mX12_companyOf.2.1 78 = .ok (.istore_n 2, 1) ∧ 78 + 1 = 79 := ⟨by decide +kernel, rfl⟩
theorem aX12_companyOf_79 : decode mX12_companyOf.2.1 79 = .ok (.iinc 5 1, 3) ∧ 79 + 3 = 82 := ⟨by decide +kernel, rfl⟩
theorem aX12_companyOf_82 : decode mX12_companyOf.2.1 82 = .ok (.goto (-47), 3) ∧ ((82 : Nat) : Int) + (-47) = ((35 : Nat) : Int) := ⟨by decide +kernel, by decide⟩
theorem aX12_companyOf_85 : decode mX12_companyOf.2.1 85 = .ok (.iinc 4 1, 3) ∧ 85 + 3 = 88 := ⟨by decide +kernel, rfl⟩
theorem aX12_companyOf_88 : decode mX12_companyOf.2.1 88 = .ok (.goto (-68), 3) ∧ ((88 : Nat) : Int) + (-68) = ((20 : Nat) : Int) := ⟨by decide +kernel, by decide⟩
theorem aX12_companyOf_91 : decode mX12_companyOf.2.1 91 = .ok (.iinc 3 1, 3) ∧ 91 + 3 = 94 := ⟨by decide +kernel, rfl⟩
theorem aX12_companyOf_94 : decode mX12_companyOf.2.1 94 = .ok (.goto (-88), 3) ∧ ((94 : Nat) : Int) + (-88) = ((6 : Nat) : Int) := ⟨by decide +kernel, by decide⟩
theorem aX12_companyOf_97 : decode mX12_companyOf.2.1 97 = .ok (.aload_n 0, 1) ∧ 97 + 1 = 98 := ⟨by decide +kernel, rfl⟩
theorem aX12_companyOf_98 : decode mX12_companyOf.2.1 98 = .ok (.iload_n 1, 1) ∧ 98 + 1 = 99 := ⟨by decide +kernel, rfl⟩
theorem aX12_companyOf_99 : decode mX12_companyOf.2.1 99 = .ok (.iconst 4, 1) ∧ 99 + 1 = 100 := ⟨by decide +kernel, rfl⟩
theorem aX12_companyOf_100 : decode mX12_companyOf.2.1 100 = .ok (.invokevirtual 80, 3) ∧ 100 + 3 = 103 := ⟨by decide +kernel, rfl⟩
theorem aX12_companyOf_103 : decode mX12_companyOf.2.1 103 = .ok (.iconst 1, 1) ∧ 103 + 1 = 104 := ⟨by decide +kernel, rfl⟩
theorem aX12_companyOf_104 : decode mX12_companyOf.2.1 104 = .ok (.if_icmp .ne 7, 3) ∧ ((104 : Nat) : Int) + 7 = ((111 : Nat) : Int) ∧ 104 + 3 = 107 := ⟨by decide +kernel, by decide, rfl⟩
theorem aX12_companyOf_107 : decode mX12_companyOf.2.1 107 = .ok (.iconst 0, 1) ∧ 107 + 1 = 108 := ⟨by decide +kernel, rfl⟩
theorem aX12_companyOf_108 : decode mX12_companyOf.2.1 108 = .ok (.goto 4, 3) ∧ ((108 : Nat) : Int) + 4 = ((112 : Nat) : Int) := ⟨by decide +kernel, by decide⟩
theorem aX12_companyOf_111 : decode mX12_companyOf.2.1 111 = .ok (.iload_n 2, 1) ∧ 111 + 1 = 112 := ⟨by decide +kernel, rfl⟩
theorem aX12_companyOf_112 : decode mX12_companyOf.2.1 112 = .ok (.ireturn, 1) := by decide +kernel
theorem S_X12_companyOf {E : EE} {d : Nat} {I : IH} {Q : QT} (x1 : Int32) (h :
J E (d + 1) mX12_companyOf 6 [(0, .ref (eb E + 115)), (1, .int x1), (2, .int ((nI 1) <<< (x1 &&& 31))), (3, .int (nI 0))] [] I Q) : Mt E (d + 1) mX12_companyOf [.ref (eb E + 115), .int x1] I Q := by
  refine Mt_of [(0, .ref (eb E + 115)), (1, .int x1)] (by decide +kernel) (by simp [lg_sl, Value.category, mX12_companyOf]) rfl ?_
  refine J_iconst (nI 1) aX12_companyOf_0 (by decide +kernel) ?_
  refine J_iload_n 1 aX12_companyOf_1 rfl ?_
  refine J_ishl aX12_companyOf_2 ?_
  refine J_istore_n [(2, .int ((nI 1) <<< (x1 &&& 31))), (0, .ref (eb E + 115)), (1, .int x1)] aX12_companyOf_3 (by decide) rfl ?_
  refine J_iconst (nI 0) aX12_companyOf_4 (by decide +kernel) ?_
  refine J_istore_n [(3, .int (nI 0)), (2, .int ((nI 1) <<< (x1 &&& 31))), (0, .ref (eb E + 115)), (1, .int x1)] aX12_companyOf_5 (by decide) rfl ?_
  refine J_pick [2, 3, 1, 0] rfl ?_
  exact h
theorem S_X12_companyOf_6 {E : EE} {d : Nat} {I : IH} {Q : QT} (x1 : Int32) (x2 : Int32) (x3 : Int32) (h :
(((I 116 6) ≤ x3 → (Mt E d mX12_get [.ref (eb E + 115), .int x1, .int (nI 4)] I (fun rv I1 => ∃ v2 : Int32, rv = some (.int v2) ∧
 ((¬ v2 = (nI 1) → Q (some (.int x2)) I1) ∧
 (v2 = (nI 1) → Q (some (.int (nI 0))) I1))))) ∧
 (¬ (I 116 6) ≤ x3 → J E (d + 1) mX12_companyOf 20 [(0, .ref (eb E + 115)), (1, .int x1), (2, .int x2), (3, .int x3), (4, .int (nI 0))] [] I Q))) : J E (d + 1) mX12_companyOf 6 [(0, .ref (eb E + 115)), (1, .int x1), (2, .int x2), (3, .int x3)] [] I Q := by
  refine J_iload_n 3 aX12_companyOf_6 rfl ?_
  refine J_aload_n 0 aX12_companyOf_7 rfl ?_
  refine J_getR aX12_companyOf_8 flX12_9 sh115 rfl ?_
  refine J_bipush (nI 6) aX12_companyOf_11 (by decide +kernel) ?_
  refine J_iaload 6 aX12_companyOf_13 sh116 rfl (by decide) (by decide) ?_
  refine J_icmp_ge aX12_companyOf_14 (fun q => ?_) (fun q => ?_)
  · replace h := h.1 q
    refine J_aload_n 0 aX12_companyOf_97 rfl ?_
    refine J_iload_n 1 aX12_companyOf_98 rfl ?_
    refine J_iconst (nI 4) aX12_companyOf_99 (by decide +kernel) ?_
    refine J_callV [.int x1, .int (nI 4)] [] aX12_companyOf_100 lkX12_80_X12 okX12_get sh115 rfl rfl rfl (Nat.le_of_ble_eq_true rfl) (Nat.le_refl _) (Mt_mono h (fun rv I1 h => ?_))
    obtain ⟨v2, rfl, h⟩ := h
    refine J_r1 ?_
    refine J_iconst (nI 1) aX12_companyOf_103 (by decide +kernel) ?_
    refine J_icmp_ne aX12_companyOf_104 (fun q => ?_) (fun q => ?_)
    · replace h := h.1 q
      refine J_iload_n 2 aX12_companyOf_111 rfl ?_
      exact J_iret aX12_companyOf_112 rfl h
    · replace h := h.2 q
      refine J_iconst (nI 0) aX12_companyOf_107 (by decide +kernel) ?_
      refine J_goto aX12_companyOf_108 ?_
      exact J_iret aX12_companyOf_112 rfl h
  · replace h := h.2 q
    refine J_iconst (nI 0) aX12_companyOf_17 (by decide +kernel) ?_
    refine J_istore [(4, .int (nI 0)), (0, .ref (eb E + 115)), (1, .int x1), (2, .int x2), (3, .int x3)] aX12_companyOf_18 (by decide) rfl ?_
    refine J_pick [1, 2, 3, 4, 0] rfl ?_
    exact h
theorem S_X12_companyOf_20 {E : EE} {d : Nat} {I : IH} {Q : QT} (x1 : Int32) (x2 : Int32) (x3 : Int32) (x4 : Int32) (h :
(((I 116 6) ≤ x4 → J E (d + 1) mX12_companyOf 6 [(0, .ref (eb E + 115)), (1, .int x1), (2, .int x2), (3, .int (x3 + nI 1))] [] I Q) ∧
 (¬ (I 116 6) ≤ x4 → J E (d + 1) mX12_companyOf 35 [(0, .ref (eb E + 115)), (1, .int x1), (2, .int x2), (3, .int x3), (4, .int x4), (5, .int (nI 0))] [] I Q))) : J E (d + 1) mX12_companyOf 20 [(0, .ref (eb E + 115)), (1, .int x1), (2, .int x2), (3, .int x3), (4, .int x4)] [] I Q := by
  refine J_iload 4 aX12_companyOf_20 rfl ?_
  refine J_aload_n 0 aX12_companyOf_22 rfl ?_
  refine J_getR aX12_companyOf_23 flX12_9 sh115 rfl ?_
  refine J_bipush (nI 6) aX12_companyOf_26 (by decide +kernel) ?_
  refine J_iaload 6 aX12_companyOf_28 sh116 rfl (by decide) (by decide) ?_
  refine J_icmp_ge aX12_companyOf_29 (fun q => ?_) (fun q => ?_)
  · replace h := h.1 q
    refine J_iinc (x3 + nI 1) [(3, .int (x3 + nI 1)), (0, .ref (eb E + 115)), (1, .int x1), (2, .int x2), (4, .int x4)] 3 aX12_companyOf_91 rfl (by first | rfl | (congr 1; decide +kernel)) (by decide) rfl ?_
    refine J_goto aX12_companyOf_94 ?_
    refine J_pick [1, 2, 3, 0] rfl ?_
    exact h
  · replace h := h.2 q
    refine J_iconst (nI 0) aX12_companyOf_32 (by decide +kernel) ?_
    refine J_istore [(5, .int (nI 0)), (0, .ref (eb E + 115)), (1, .int x1), (2, .int x2), (3, .int x3), (4, .int x4)] aX12_companyOf_33 (by decide) rfl ?_
    refine J_pick [1, 2, 3, 4, 5, 0] rfl ?_
    exact h
theorem S_X12_companyOf_35 {E : EE} {d : Nat} {I : IH} {Q : QT} (x1 : Int32) (x2 : Int32) (x3 : Int32) (x4 : Int32) (x5 : Int32) (h :
(((I 116 6) ≤ x5 → J E (d + 1) mX12_companyOf 20 [(0, .ref (eb E + 115)), (1, .int x1), (2, .int x2), (3, .int x3), (4, .int (x4 + nI 1))] [] I Q) ∧
 (¬ (I 116 6) ≤ x5 → ((¬ ((x2 >>> (x4 &&& 31)) &&& (nI 1)) = (nI 1) → J E (d + 1) mX12_companyOf 35 [(0, .ref (eb E + 115)), (1, .int x1), (2, .int (x2 ||| (nI 0))), (3, .int x3), (4, .int x4), (5, .int (x5 + nI 1))] [] I Q) ∧
 (((x2 >>> (x4 &&& 31)) &&& (nI 1)) = (nI 1) → (Mt E d mX12_areClose [.ref (eb E + 115), .int x4, .int x5] I (fun rv I1 => ∃ v2 : Int32, rv = some (.int v2) ∧
 ((v2 = 0 → J E (d + 1) mX12_companyOf 35 [(0, .ref (eb E + 115)), (1, .int x1), (2, .int (x2 ||| (nI 0))), (3, .int x3), (4, .int x4), (5, .int (x5 + nI 1))] [] I1 Q) ∧
 (¬ v2 = 0 → J E (d + 1) mX12_companyOf 35 [(0, .ref (eb E + 115)), (1, .int x1), (2, .int (x2 ||| ((nI 1) <<< (x5 &&& 31)))), (3, .int x3), (4, .int x4), (5, .int (x5 + nI 1))] [] I1 Q))))))))) : J E (d + 1) mX12_companyOf 35 [(0, .ref (eb E + 115)), (1, .int x1), (2, .int x2), (3, .int x3), (4, .int x4), (5, .int x5)] [] I Q := by
  refine J_iload 5 aX12_companyOf_35 rfl ?_
  refine J_aload_n 0 aX12_companyOf_37 rfl ?_
  refine J_getR aX12_companyOf_38 flX12_9 sh115 rfl ?_
  refine J_bipush (nI 6) aX12_companyOf_41 (by decide +kernel) ?_
  refine J_iaload 6 aX12_companyOf_43 sh116 rfl (by decide) (by decide) ?_
  refine J_icmp_ge aX12_companyOf_44 (fun q => ?_) (fun q => ?_)
  · replace h := h.1 q
    refine J_iinc (x4 + nI 1) [(4, .int (x4 + nI 1)), (0, .ref (eb E + 115)), (1, .int x1), (2, .int x2), (3, .int x3), (5, .int x5)] 4 aX12_companyOf_85 rfl (by first | rfl | (congr 1; decide +kernel)) (by decide) rfl ?_
    refine J_goto aX12_companyOf_88 ?_
    refine J_pick [1, 2, 3, 4, 0] rfl ?_
    exact h
  · replace h := h.2 q
    refine J_iload_n 2 aX12_companyOf_47 rfl ?_
    refine J_iload_n 2 aX12_companyOf_48 rfl ?_
    refine J_iload 4 aX12_companyOf_49 rfl ?_
    refine J_ishr aX12_companyOf_51 ?_
    refine J_iconst (nI 1) aX12_companyOf_52 (by decide +kernel) ?_
    refine J_iand aX12_companyOf_53 ?_
    refine J_iconst (nI 1) aX12_companyOf_54 (by decide +kernel) ?_
    refine J_icmp_ne aX12_companyOf_55 (fun q => ?_) (fun q => ?_)
    · replace h := h.1 q
      refine J_iconst (nI 0) aX12_companyOf_76 (by decide +kernel) ?_
      refine J_ior aX12_companyOf_77 ?_
      refine J_istore_n [(2, .int (x2 ||| (nI 0))), (0, .ref (eb E + 115)), (1, .int x1), (3, .int x3), (4, .int x4), (5, .int x5)] aX12_companyOf_78 (by decide) rfl ?_
      refine J_iinc (x5 + nI 1) [(5, .int (x5 + nI 1)), (2, .int (x2 ||| (nI 0))), (0, .ref (eb E + 115)), (1, .int x1), (3, .int x3), (4, .int x4)] 5 aX12_companyOf_79 rfl (by first | rfl | (congr 1; decide +kernel)) (by decide) rfl ?_
      refine J_goto aX12_companyOf_82 ?_
      refine J_pick [2, 3, 1, 4, 5, 0] rfl ?_
      exact h
    · replace h := h.2 q
      refine J_aload_n 0 aX12_companyOf_58 rfl ?_
      refine J_iload 4 aX12_companyOf_59 rfl ?_
      refine J_iload 5 aX12_companyOf_61 rfl ?_
      refine J_callV [.int x4, .int x5] [.int x2] aX12_companyOf_63 lkX12_249_X12 okX12_areClose sh115 rfl rfl rfl (Nat.le_of_ble_eq_true rfl) (Nat.le_refl _) (Mt_mono h (fun rv I1 h => ?_))
      obtain ⟨v2, rfl, h⟩ := h
      refine J_r1 ?_
      refine J_if_eq aX12_companyOf_66 (fun q => ?_) (fun q => ?_)
      · replace h := h.1 q
        refine J_iconst (nI 0) aX12_companyOf_76 (by decide +kernel) ?_
        refine J_ior aX12_companyOf_77 ?_
        refine J_istore_n [(2, .int (x2 ||| (nI 0))), (0, .ref (eb E + 115)), (1, .int x1), (3, .int x3), (4, .int x4), (5, .int x5)] aX12_companyOf_78 (by decide) rfl ?_
        refine J_iinc (x5 + nI 1) [(5, .int (x5 + nI 1)), (2, .int (x2 ||| (nI 0))), (0, .ref (eb E + 115)), (1, .int x1), (3, .int x3), (4, .int x4)] 5 aX12_companyOf_79 rfl (by first | rfl | (congr 1; decide +kernel)) (by decide) rfl ?_
        refine J_goto aX12_companyOf_82 ?_
        refine J_pick [2, 3, 1, 4, 5, 0] rfl ?_
        exact h
      · replace h := h.2 q
        refine J_iconst (nI 1) aX12_companyOf_69 (by decide +kernel) ?_
        refine J_iload 5 aX12_companyOf_70 rfl ?_
        refine J_ishl aX12_companyOf_72 ?_
        refine J_goto aX12_companyOf_73 ?_
        refine J_ior aX12_companyOf_77 ?_
        refine J_istore_n [(2, .int (x2 ||| ((nI 1) <<< (x5 &&& 31)))), (0, .ref (eb E + 115)), (1, .int x1), (3, .int x3), (4, .int x4), (5, .int x5)] aX12_companyOf_78 (by decide) rfl ?_
        refine J_iinc (x5 + nI 1) [(5, .int (x5 + nI 1)), (2, .int (x2 ||| ((nI 1) <<< (x5 &&& 31)))), (0, .ref (eb E + 115)), (1, .int x1), (3, .int x3), (4, .int x4)] 5 aX12_companyOf_79 rfl (by first | rfl | (congr 1; decide +kernel)) (by decide) rfl ?_
        refine J_goto aX12_companyOf_82 ?_
        refine J_pick [2, 3, 1, 4, 5, 0] rfl ?_
        exact h
theorem aX12_companies_0 : decode mX12_companies.2.1 0 = .ok (.iload_n 1, 1) ∧ 0 + 1 = 1 := ⟨by decide +kernel, rfl⟩
theorem aX12_companies_1 : decode mX12_companies.2.1 1 = .ok (.iconst (-1), 1) ∧ 1 + 1 = 2 := ⟨by decide +kernel, rfl⟩
theorem aX12_companies_2 : decode mX12_companies.2.1 2 = .ok (.if_icmp .eq 13, 3) ∧ ((2 : Nat) : Int) + 13 = ((15 : Nat) : Int) ∧ 2 + 3 = 5 := ⟨by decide +kernel, by decide, rfl⟩
theorem aX12_companies_5 : decode mX12_companies.2.1 5 = .ok (.aload_n 0, 1) ∧ 5 + 1 = 6 := ⟨by decide +kernel, rfl⟩
theorem aX12_companies_6 : decode mX12_companies.2.1 6 = .ok (.iload_n 1, 1) ∧ 6 + 1 = 7 := ⟨by decide +kernel, rfl⟩
theorem aX12_companies_7 : decode mX12_companies.2.1 7 = .ok (.invokevirtual 219, 3) ∧ 7 + 3 = 10 := ⟨by decide +kernel, rfl⟩
theorem aX12_companies_10 : decode mX12_companies.2.1 10 = .ok (.ifCond .ne 5, 3) ∧ ((10 : Nat) : Int) + 5 = ((15 : Nat) : Int) ∧ 10 + 3 = 13 := ⟨by decide +kernel, by decide, rfl⟩
theorem aX12_companies_13 : decode mX12_companies.2.1 13 = .ok (.iconst (-1), 1) ∧ 13 + 1 = 14 := ⟨by decide +kernel, rfl⟩
theorem aX12_companies_14 : decode mX12_companies.2.1 14 = .ok (.ireturn, 1) := by decide +kernel
theorem aX12_companies_15 : decode mX12_companies.2.1 15 = .ok (.iload_n 1, 1) ∧ 15 + 1 = 16 := ⟨by decide +kernel, rfl⟩
theorem aX12_companies_16 : decode mX12_companies.2.1 16 = .ok (.ifCond .lt 9, 3) ∧ ((16 : Nat) : Int) + 9 = ((25 : Nat) : Int) ∧ 16 + 3 = 19 := ⟨by decide +kernel, by decide, rfl⟩
theorem aX12_companies_19 : decode mX12_companies.2.1 19 = .ok (.aload_n 0, 1) ∧ 19 + 1 = 20 := ⟨by decide +kernel, rfl⟩
theorem aX12_companies_20 : decode mX12_companies.2.1 20 = .ok (.iload_n 1, 1) ∧ 20 + 1 = 21 := ⟨by decide +kernel, rfl⟩
theorem aX12_companies_21 : decode mX12_companies.2.1 21 = .ok (.invokevirtual 252, 3) ∧ 21 + 3 = 24 := ⟨by decide +kernel, rfl⟩
theorem aX12_companies_24 : decode mX12_companies.2.1 24 = .ok (.ireturn, 1) := by decide +kernel
theorem aX12_companies_25 : decode mX12_companies.2.1 25 = .ok (.iconst 0, 1) ∧ 25 + 1 = 26 := ⟨by decide +kernel, rfl⟩
theorem aX12_companies_26 : decode mX12_companies.2.1 26 = .ok (.istore_n 2, 1) ∧ 26 + 1 = 27 := ⟨by decide +kernel, rfl⟩
theorem aX12_companies_27 : decode mX12_companies.2.1 27 = .ok (.iconst 0, 1) ∧ 27 + 1 = 28 := ⟨by decide +kernel, rfl⟩
theorem aX12_companies_28 : decode mX12_companies.2.1 28 = .ok (.istore_n 3, 1) ∧ 28 + 1 = 29 := ⟨by decide +kernel, rfl⟩
theorem aX12_companies_29 : decode mX12_companies.2.1 29 = .ok (.iload_n 3, 1) ∧ 29 + 1 = 30 := ⟨by decide +kernel, rfl⟩
theorem aX12_companies_30 : decode mX12_companies.2.1 30 = .ok (.aload_n 0, 1) ∧ 30 + 1 = 31 := ⟨by decide +kernel, rfl⟩
theorem aX12_companies_31 : decode mX12_companies.2.1 31 = .ok (.getfield 9, 3) ∧ 31 + 3 = 34 := ⟨by decide +kernel, rfl⟩
theorem aX12_companies_34 : decode mX12_companies.2.1 34 = .ok (.bipush 6, 2) ∧ 34 + 2 = 36 := ⟨by decide +kernel, rfl⟩
theorem aX12_companies_36 : decode mX12_companies.2.1 36 = .ok (.iaload, 1) ∧ 36 + 1 = 37 := ⟨by decide +kernel, rfl⟩
theorem aX12_companies_37 : decode mX12_companies.2.1 37 = .ok (.if_icmp .ge 38, 3) ∧ ((37 : Nat) : Int) + 38 = ((75 : Nat) : Int) ∧ 37 + 3 = 40 := ⟨by decide +kernel, by decide, rfl⟩
theorem aX12_companies_40 : decode mX12_companies.2.1 40 = .ok (.aload_n 0, 1) ∧ 40 + 1 = 41 := ⟨by decide +kernel, rfl⟩
theorem aX12_companies_41 : decode mX12_companies.2.1 41 = .ok (.iload_n 3, 1) ∧ 41 + 1 = 42 := ⟨by decide +kernel, rfl⟩
theorem aX12_companies_42 : decode mX12_companies.2.1 42 = .ok (.invokevirtual 252, 3) ∧ 42 + 3 = 45 := ⟨by decide +kernel, rfl⟩
theorem aX12_companies_45 : decode mX12_companies.2.1 45 = .ok (.istore 4, 2) ∧ 45 + 2 = 47 := ⟨by decide +kernel, rfl⟩
theorem aX12_companies_47 : decode mX12_companies.2.1 47 = .ok (.iload_n 2, 1) ∧ 47 + 1 = 48 := ⟨by decide +kernel, rfl⟩
theorem aX12_companies_48 : decode mX12_companies.2.1 48 = .ok (.iload 4, 2) ∧ 48 + 2 = 50 := ⟨by decide +kernel, rfl⟩
theorem aX12_companies_50 : decode mX12_companies.2.1 50 = .ok (.ifCond .eq 16, 3) ∧ ((50 : Nat) : Int) + 16 = ((66 : Nat) : Int) ∧ 50 + 3 = 53 := ⟨by decide +kernel, by decide, rfl⟩
theorem aX12_companies_53 : decode mX12_companies.2.1 53 = .ok (.iload 4, 2) ∧ 53 + 2 = 55 := ⟨by decide +kernel, rfl⟩
theorem aX12_companies_55 : decode mX12_companies.2.1 55 = .ok (.iconst 1, 1) ∧ 55 + 1 = 56 := ⟨by decide +kernel, rfl⟩
theorem aX12_companies_56 : decode mX12_companies.2.1 56 = .ok (.iload_n 3, 1) ∧ 56 + 1 = 57 := ⟨by decide +kernel, rfl⟩
theorem aX12_companies_57 : decode mX12_companies.2.1 57 = .ok (.ishl, 1) ∧ 57 + 1 = 58 := ⟨by decide +kernel, rfl⟩
theorem aX12_companies_58 : decode mX12_companies.2.1 58 = .ok (.irem, 1) ∧ 58 + 1 = 59 := ⟨by decide +kernel, rfl⟩
theorem aX12_companies_59 : decode mX12_companies.2.1 59 = .ok (.ifCond .ne 7, 3) ∧ ((59 : Nat) : Int) + 7 = ((66 : Nat) : Int) ∧ 59 + 3 = 62 := ⟨by decide +kernel, by decide, rfl⟩
theorem aX12_companies_62 : decode mX12_companies.2.1 62 = .ok (.iconst 1, 1) ∧ 62 + 1 = 63 := ⟨by decide +kernel, rfl⟩
theorem aX12_companies_63 : decode mX12_companies.2.1 63 = .ok (.goto 4, 3) ∧ ((63 : Nat) : Int) + 4 = ((67 : Nat) : Int) := ⟨by decide +kernel, by decide⟩
theorem aX12_companies_66 : decode mX12_companies.2.1 66 = .ok (.iconst 0, 1) ∧ 66 + 1 = 67 := ⟨by decide +kernel, rfl⟩
theorem aX12_companies_67 : decode mX12_companies.2.1 67 = .ok (.iadd, 1) ∧ 67 + 1 = 68 := ⟨by decide +kernel, rfl⟩
theorem aX12_companies_68 : decode mX12_companies.2.1 68 = .ok (.istore_n 2, 1) ∧ 68 + 1 = 69 := ⟨by decide +kernel, rfl⟩
theorem aX12_companies_69 : decode mX12_companies.2.1 69 = .ok (.iinc 3 1, 3) ∧ 69 + 3 = 72 := ⟨by decide +kernel, rfl⟩
theorem aX12_companies_72 : decode mX12_companies.2.1 72 = .ok (.goto (-43), 3) ∧ ((72 : Nat) : Int) + (-43) = ((29 : Nat) : Int) := ⟨by decide +kernel, by decide⟩
theorem aX12_companies_75 : decode mX12_companies.2.1 75 = .ok (.iload_n 2, 1) ∧ 75 + 1 = 76 := ⟨by decide +kernel, rfl⟩
theorem aX12_companies_76 : decode mX12_companies.2.1 76 = .ok (.ireturn, 1) := by decide +kernel
theorem S_X12_companies {E : EE} {d : Nat} {I : IH} {Q : QT} (x1 : Int32) (h :
((x1 = (-1) → J E (d + 1) mX12_companies 15 [(0, .ref (eb E + 115)), (1, .int x1)] [] I Q) ∧
 (¬ x1 = (-1) → (Mt E d mX12_isPane [.ref (eb E + 115), .int x1] I (fun rv I1 => ∃ v2 : Int32, rv = some (.int v2) ∧
 ((¬ v2 = 0 → J E (d + 1) mX12_companies 15 [(0, .ref (eb E + 115)), (1, .int x1)] [] I1 Q) ∧
 (v2 = 0 → Q (some (.int (-1))) I1))))))) : Mt E (d + 1) mX12_companies [.ref (eb E + 115), .int x1] I Q := by
  refine Mt_of [(0, .ref (eb E + 115)), (1, .int x1)] (by decide +kernel) (by simp [lg_sl, Value.category, mX12_companies]) rfl ?_
  refine J_iload_n 1 aX12_companies_0 rfl ?_
  refine J_iconst (-1) aX12_companies_1 (by decide +kernel) ?_
  refine J_icmp_eq aX12_companies_2 (fun q => ?_) (fun q => ?_)
  · replace h := h.1 q
    refine J_pick [0, 1] rfl ?_
    exact h
  · replace h := h.2 q
    refine J_aload_n 0 aX12_companies_5 rfl ?_
    refine J_iload_n 1 aX12_companies_6 rfl ?_
    refine J_callV [.int x1] [] aX12_companies_7 lkX12_219_X12 okX12_isPane sh115 rfl rfl rfl (Nat.le_of_ble_eq_true rfl) (Nat.le_refl _) (Mt_mono h (fun rv I1 h => ?_))
    obtain ⟨v2, rfl, h⟩ := h
    refine J_r1 ?_
    refine J_if_ne aX12_companies_10 (fun q => ?_) (fun q => ?_)
    · replace h := h.1 q
      refine J_pick [0, 1] rfl ?_
      exact h
    · replace h := h.2 q
      refine J_iconst (-1) aX12_companies_13 (by decide +kernel) ?_
      exact J_iret aX12_companies_14 rfl h
theorem S_X12_companies_15 {E : EE} {d : Nat} {I : IH} {Q : QT} (x1 : Int32) (h :
((x1 < 0 → J E (d + 1) mX12_companies 29 [(0, .ref (eb E + 115)), (2, .int (nI 0)), (3, .int (nI 0))] [] I Q) ∧
 (¬ x1 < 0 → (Mt E d mX12_companyOf [.ref (eb E + 115), .int x1] I (fun rv I1 => ∃ v2 : Int32, rv = some (.int v2) ∧
 Q (some (.int v2)) I1))))) : J E (d + 1) mX12_companies 15 [(0, .ref (eb E + 115)), (1, .int x1)] [] I Q := by
  refine J_iload_n 1 aX12_companies_15 rfl ?_
  refine J_if_lt aX12_companies_16 (fun q => ?_) (fun q => ?_)
  · replace h := h.1 q
    refine J_iconst (nI 0) aX12_companies_25 (by decide +kernel) ?_
    refine J_istore_n [(2, .int (nI 0)), (0, .ref (eb E + 115)), (1, .int x1)] aX12_companies_26 (by decide) rfl ?_
    refine J_iconst (nI 0) aX12_companies_27 (by decide +kernel) ?_
    refine J_istore_n [(3, .int (nI 0)), (2, .int (nI 0)), (0, .ref (eb E + 115)), (1, .int x1)] aX12_companies_28 (by decide) rfl ?_
    refine J_pick [2, 1, 0] rfl ?_
    exact h
  · replace h := h.2 q
    refine J_aload_n 0 aX12_companies_19 rfl ?_
    refine J_iload_n 1 aX12_companies_20 rfl ?_
    refine J_callV [.int x1] [] aX12_companies_21 lkX12_252_X12 okX12_companyOf sh115 rfl rfl rfl (Nat.le_of_ble_eq_true rfl) (Nat.le_refl _) (Mt_mono h (fun rv I1 h => ?_))
    obtain ⟨v2, rfl, h⟩ := h
    refine J_r1 ?_
    exact J_iret aX12_companies_24 rfl h
theorem S_X12_companies_29 {E : EE} {d : Nat} {I : IH} {Q : QT} (x2 : Int32) (x3 : Int32) (h :
(((I 116 6) ≤ x3 → Q (some (.int x2)) I) ∧
 (¬ (I 116 6) ≤ x3 → (Mt E d mX12_companyOf [.ref (eb E + 115), .int x3] I (fun rv I1 => ∃ v2 : Int32, rv = some (.int v2) ∧
 ((v2 = 0 → J E (d + 1) mX12_companies 29 [(0, .ref (eb E + 115)), (2, .int (x2 + (nI 0))), (3, .int (x3 + nI 1))] [] I1 Q) ∧
 (¬ v2 = 0 → (¬ ((nI 1) <<< (x3 &&& 31)) = 0 ∧ ((¬ (v2 - v2 / ((nI 1) <<< (x3 &&& 31)) * ((nI 1) <<< (x3 &&& 31))) = 0 → J E (d + 1) mX12_companies 29 [(0, .ref (eb E + 115)), (2, .int (x2 + (nI 0))), (3, .int (x3 + nI 1))] [] I1 Q) ∧
 ((v2 - v2 / ((nI 1) <<< (x3 &&& 31)) * ((nI 1) <<< (x3 &&& 31))) = 0 → J E (d + 1) mX12_companies 29 [(0, .ref (eb E + 115)), (2, .int (x2 + (nI 1))), (3, .int (x3 + nI 1))] [] I1 Q)))))))))) : J E (d + 1) mX12_companies 29 [(0, .ref (eb E + 115)), (2, .int x2), (3, .int x3)] [] I Q := by
  refine J_iload_n 2 aX12_companies_29 rfl ?_
  refine J_aload_n 0 aX12_companies_30 rfl ?_
  refine J_getR aX12_companies_31 flX12_9 sh115 rfl ?_
  refine J_bipush (nI 6) aX12_companies_34 (by decide +kernel) ?_
  refine J_iaload 6 aX12_companies_36 sh116 rfl (by decide) (by decide) ?_
  refine J_icmp_ge aX12_companies_37 (fun q => ?_) (fun q => ?_)
  · replace h := h.1 q
    refine J_iload_n 1 aX12_companies_75 rfl ?_
    exact J_iret aX12_companies_76 rfl h
  · replace h := h.2 q
    refine J_aload_n 0 aX12_companies_40 rfl ?_
    refine J_iload_n 2 aX12_companies_41 rfl ?_
    refine J_callV [.int x3] [] aX12_companies_42 lkX12_252_X12 okX12_companyOf sh115 rfl rfl rfl (Nat.le_of_ble_eq_true rfl) (Nat.le_refl _) (Mt_mono h (fun rv I1 h => ?_))
    obtain ⟨v2, rfl, h⟩ := h
    refine J_r1 ?_
    refine J_istore [(4, .int v2), (0, .ref (eb E + 115)), (2, .int x2), (3, .int x3)] aX12_companies_45 (by decide) rfl ?_
    refine J_iload_n 2 aX12_companies_47 rfl ?_
    refine J_iload 0 aX12_companies_48 rfl ?_
    refine J_if_eq aX12_companies_50 (fun q => ?_) (fun q => ?_)
    · replace h := h.1 q
      refine J_iconst (nI 0) aX12_companies_66 (by decide +kernel) ?_
      refine J_iadd aX12_companies_67 ?_
      refine J_istore_n [(2, .int (x2 + (nI 0))), (4, .int v2), (0, .ref (eb E + 115)), (3, .int x3)] aX12_companies_68 (by decide) rfl ?_
      refine J_iinc (x3 + nI 1) [(3, .int (x3 + nI 1)), (2, .int (x2 + (nI 0))), (4, .int v2), (0, .ref (eb E + 115))] 3 aX12_companies_69 rfl (by first | rfl | (congr 1; decide +kernel)) (by decide) rfl ?_
      refine J_goto aX12_companies_72 ?_
      refine J_pick [3, 1, 0] rfl ?_
      exact h
    · replace h := h.2 q
      refine J_iload 0 aX12_companies_53 rfl ?_
      refine J_iconst (nI 1) aX12_companies_55 (by decide +kernel) ?_
      refine J_iload_n 3 aX12_companies_56 rfl ?_
      refine J_ishl aX12_companies_57 ?_
      obtain ⟨n3, h⟩ := h
      refine J_irem aX12_companies_58 n3 ?_
      refine J_if_ne aX12_companies_59 (fun q => ?_) (fun q => ?_)
      · replace h := h.1 q
        refine J_iconst (nI 0) aX12_companies_66 (by decide +kernel) ?_
        refine J_iadd aX12_companies_67 ?_
        refine J_istore_n [(2, .int (x2 + (nI 0))), (4, .int v2), (0, .ref (eb E + 115)), (3, .int x3)] aX12_companies_68 (by decide) rfl ?_
        refine J_iinc (x3 + nI 1) [(3, .int (x3 + nI 1)), (2, .int (x2 + (nI 0))), (4, .int v2), (0, .ref (eb E + 115))] 3 aX12_companies_69 rfl (by first | rfl | (congr 1; decide +kernel)) (by decide) rfl ?_
        refine J_goto aX12_companies_72 ?_
        refine J_pick [3, 1, 0] rfl ?_
        exact h
      · replace h := h.2 q
        refine J_iconst (nI 1) aX12_companies_62 (by decide +kernel) ?_
        refine J_goto aX12_companies_63 ?_
        refine J_iadd aX12_companies_67 ?_
        refine J_istore_n [(2, .int (x2 + (nI 1))), (4, .int v2), (0, .ref (eb E + 115)), (3, .int x3)] aX12_companies_68 (by decide) rfl ?_
        refine J_iinc (x3 + nI 1) [(3, .int (x3 + nI 1)), (2, .int (x2 + (nI 1))), (4, .int v2), (0, .ref (eb E + 115))] 3 aX12_companies_69 rfl (by first | rfl | (congr 1; decide +kernel)) (by decide) rfl ?_
        refine J_goto aX12_companies_72 ?_
        refine J_pick [3, 1, 0] rfl ?_
        exact h
theorem aX12_goesRound_0 : decode mX12_goesRound.2.1 0 = .ok (.iload_n 1, 1) ∧ 0 + 1 = 1 := ⟨by decide +kernel, rfl⟩
theorem aX12_goesRound_1 : decode mX12_goesRound.2.1 1 = .ok (.ifCond .ne 30, 3) ∧ ((1 : Nat) : Int) + 30 = ((31 : Nat) : Int) ∧ 1 + 3 = 4 := ⟨by decide +kernel, by decide, rfl⟩
theorem aX12_goesRound_4 : decode mX12_goesRound.2.1 4 = .ok (.aload_n 0, 1) ∧ 4 + 1 = 5 := ⟨by decide +kernel, rfl⟩
theorem aX12_goesRound_5 : decode mX12_goesRound.2.1 5 = .ok (.getfield 255, 3) ∧ 5 + 3 = 8 := ⟨by decide +kernel, rfl⟩
theorem aX12_goesRound_8 : decode mX12_goesRound.2.1 8 = .ok (.ifCond .lt 11, 3) ∧ ((8 : Nat) : Int) + 11 = ((19 : Nat) : Int) ∧ 8 + 3 = 11 := ⟨by decide +kernel, by decide, rfl⟩
theorem aX12_goesRound_11 : decode mX12_goesRound.2.1 11 = .ok (.iload_n 3, 1) ∧ 11 + 1 = 12 := ⟨by decide +kernel, rfl⟩
theorem aX12_goesRound_12 : decode mX12_goesRound.2.1 12 = .ok (.aload_n 0, 1) ∧ 12 + 1 = 13 := ⟨by decide +kernel, rfl⟩
theorem aX12_goesRound_13 : decode mX12_goesRound.2.1 13 = .ok (.getfield 255, 3) ∧ 13 + 3 = 16 := ⟨by decide +kernel, rfl⟩
theorem aX12_goesRound_16 : decode mX12_goesRound.2.1 16 = .ok (.if_icmp .ge 14, 3) ∧ ((16 : Nat) : Int) + 14 = ((30 : Nat) : Int) ∧ 16 + 3 = 19 := ⟨by decide +kernel, by decide, rfl⟩
theorem aX12_goesRound_19 : decode mX12_goesRound.2.1 19 = .ok (.aload_n 0, 1) ∧ 19 + 1 = 20 := ⟨by decide +kernel, rfl⟩
theorem aX12_goesRound_20 : decode mX12_goesRound.2.1 20 = .ok (.iload_n 3, 1) ∧ 20 + 1 = 21 := ⟨by decide +kernel, rfl⟩
theorem aX12_goesRound_21 : decode mX12_goesRound.2.1 21 = .ok (.putfield 255, 3) ∧ 21 + 3 = 24 := ⟨by decide +kernel, rfl⟩
theorem aX12_goesRound_24 : decode mX12_goesRound.2.1 24 = .ok (.aload_n 0, 1) ∧ 24 + 1 = 25 := ⟨by decide +kernel, rfl⟩
theorem aX12_goesRound_25 : decode mX12_goesRound.2.1 25 = .ok (.iload 4, 2) ∧ 25 + 2 = 27 := ⟨by decide +kernel, rfl⟩
theorem aX12_goesRound_27 : decode mX12_goesRound.2.1 27 = .ok (.putfield 258, 3) ∧ 27 + 3 = 30 := ⟨by decide +kernel, rfl⟩
theorem aX12_goesRound_30 : decode mX12_goesRound.2.1 30 = .ok (.return_, 1) := by decide +kernel
theorem aX12_goesRound_31 : decode mX12_goesRound.2.1 31 = .ok (.iconst 0, 1) ∧ 31 + 1 = 32 := ⟨by decide +kernel, rfl⟩
theorem aX12_goesRound_32 : decode mX12_goesRound.2.1 32 = .ok (.istore 5, 2) ∧ 32 + 2 = 34 := ⟨by decide +kernel, rfl⟩
theorem aX12_goesRound_34 : decode mX12_goesRound.2.1 34 = .ok (.iload 5, 2) ∧ 34 + 2 = 36 := ⟨by decide +kernel, rfl⟩
theorem aX12_goesRound_36 : decode mX12_goesRound.2.1 36 = .ok (.aload_n 0, 1) ∧ 36 + 1 = 37 := ⟨by decide +kernel, rfl⟩
theorem aX12_goesRound_37 : decode mX12_goesRound.2.1 37 = .ok (.getfield 9, 3) ∧ 37 + 3 = 40 := ⟨by decide +kernel, rfl⟩
theorem aX12_goesRound_40 : decode mX12_goesRound.2.1 40 = .ok (.bipush 6, 2) ∧ 40 + 2 = 42 := ⟨by decide +kernel, rfl⟩
theorem aX12_goesRound_42 : decode mX12_goesRound.2.1 42 = .ok (.iaload, 1) ∧ 42 + 1 = 43 := ⟨by decide +kernel, rfl⟩
theorem aX12_goesRound_43 : decode mX12_goesRound.2.1 43 = .ok (.if_icmp .ge 68, 3) ∧ ((43 : Nat) : Int) + 68 = ((111 : Nat) : Int) ∧ 43 + 3 = 46 := ⟨by decide +kernel, by decide, rfl⟩
theorem aX12_goesRound_46 : decode mX12_goesRound.2.1 46 = .ok (.iload_n 1, 1) ∧ 46 + 1 = 47 := ⟨by decide +kernel, rfl⟩
theorem aX12_goesRound_47 : decode mX12_goesRound.2.1 47 = .ok (.iload 5, 2) ∧ 47 + 2 = 49 := ⟨by decide +kernel, rfl⟩
theorem aX12_goesRound_49 : decode mX12_goesRound.2.1 49 = .ok (.ishr, 1) ∧ 49 + 1 = 50 := ⟨by decide +kernel, rfl⟩
theorem aX12_goesRound_50 : decode mX12_goesRound.2.1 50 = .ok (.iconst 1, 1) ∧ 50 + 1 = 51 := ⟨by decide +kernel, rfl⟩
theorem aX12_goesRound_51 : decode mX12_goesRound.2.1 51 = .ok (.iand, 1) ∧ 51 + 1 = 52 := ⟨by decide +kernel, rfl⟩
theorem aX12_goesRound_52 : decode mX12_goesRound.2.1 52 = .ok (.iconst 1, 1) ∧ 52 + 1 = 53 := ⟨by decide +kernel, rfl⟩
theorem aX12_goesRound_53 : decode mX12_goesRound.2.1 53 = .ok (.if_icmp .ne 52, 3) ∧ ((53 : Nat) : Int) + 52 = ((105 : Nat) : Int) ∧ 53 + 3 = 56 := ⟨by decide +kernel, by decide, rfl⟩
theorem aX12_goesRound_56 : decode mX12_goesRound.2.1 56 = .ok (.aload_n 0, 1) ∧ 56 + 1 = 57 := ⟨by decide +kernel, rfl⟩
theorem aX12_goesRound_57 : decode mX12_goesRound.2.1 57 = .ok (.iload 5, 2) ∧ 57 + 2 = 59 := ⟨by decide +kernel, rfl⟩
theorem aX12_goesRound_59 : decode mX12_goesRound.2.1 59 = .ok (.iconst 1, 1) ∧ 59 + 1 = 60 := ⟨by decide +kernel, rfl⟩
theorem aX12_goesRound_60 : decode mX12_goesRound.2.1 60 = .ok (.invokevirtual 80, 3) ∧ 60 + 3 = 63 := ⟨by decide +kernel, rfl⟩
theorem aX12_goesRound_63 : decode mX12_goesRound.2.1 63 = .ok (.iload_n 2, 1) ∧ 63 + 1 = 64 := ⟨by decide +kernel, rfl⟩
theorem aX12_goesRound_64 : decode mX12_goesRound.2.1 64 = .ok (.ixor, 1) ∧ 64 + 1 = 65 := ⟨by decide +kernel, rfl⟩
theorem aX12_goesRound_65 : decode mX12_goesRound.2.1 65 = .ok (.invokestatic 83, 3) ∧ 65 + 3 = 68 := ⟨by decide +kernel, rfl⟩
theorem aX12_goesRound_68 : decode mX12_goesRound.2.1 68 = .ok (.istore 6, 2) ∧ 68 + 2 = 70 := ⟨by decide +kernel, rfl⟩
theorem aX12_goesRound_70 : decode mX12_goesRound.2.1 70 = .ok (.aload_n 0, 1) ∧ 70 + 1 = 71 := ⟨by decide +kernel, rfl⟩
theorem aX12_goesRound_71 : decode mX12_goesRound.2.1 71 = .ok (.iload_n 1, 1) ∧ 71 + 1 = 72 := ⟨by decide +kernel, rfl⟩
theorem aX12_goesRound_72 : decode mX12_goesRound.2.1 72 = .ok (.iconst 1, 1) ∧ 72 + 1 = 73 := ⟨by decide +kernel, rfl⟩
theorem aX12_goesRound_73 : decode mX12_goesRound.2.1 73 = .ok (.iload 5, 2) ∧ 73 + 2 = 75 := ⟨by decide +kernel, rfl⟩
theorem aX12_goesRound_75 : decode mX12_goesRound.2.1 75 = .ok (.ishl, 1) ∧ 75 + 1 = 76 := ⟨by decide +kernel, rfl⟩
theorem aX12_goesRound_76 : decode mX12_goesRound.2.1 76 = .ok (.iconst (-1), 1) ∧ 76 + 1 = 77 := ⟨by decide +kernel, rfl⟩
theorem aX12_goesRound_77 : decode mX12_goesRound.2.1 77 = .ok (.ixor, 1) ∧ 77 + 1 = 78 := ⟨by decide +kernel, rfl⟩
theorem aX12_goesRound_78 : decode mX12_goesRound.2.1 78 = .ok (.iand, 1) ∧ 78 + 1 = 79 := ⟨by decide +kernel, rfl⟩
theorem aX12_goesRound_79 : decode mX12_goesRound.2.1 79 = .ok (.aload_n 0, 1) ∧ 79 + 1 = 80 := ⟨by decide +kernel, rfl⟩
theorem aX12_goesRound_80 : decode mX12_goesRound.2.1 80 = .ok (.iload 5, 2) ∧ 80 + 2 = 82 := ⟨by decide +kernel, rfl⟩
theorem aX12_goesRound_82 : decode mX12_goesRound.2.1 82 = .ok (.iconst 1, 1) ∧ 82 + 1 = 83 := ⟨by decide +kernel, rfl⟩
theorem aX12_goesRound_83 : decode mX12_goesRound.2.1 83 = .ok (.invokevirtual 80, 3) ∧ 83 + 3 = 86 := ⟨by decide +kernel, rfl⟩
theorem aX12_goesRound_86 : decode mX12_goesRound.2.1 86 = .ok (.iload_n 3, 1) ∧ 86 + 1 = 87 := ⟨by decide +kernel, rfl⟩
theorem aX12_goesRound_87 : decode mX12_goesRound.2.1 87 = .ok (.iload 6, 2) ∧ 87 + 2 = 89 := ⟨by decide +kernel, rfl⟩
theorem aX12_goesRound_89 : decode mX12_goesRound.2.1 89 = .ok (.iadd, 1) ∧ 89 + 1 = 90 := ⟨by decide +kernel, rfl⟩
theorem aX12_goesRound_90 : decode mX12_goesRound.2.1 90 = .ok (.iload 4, 2) ∧ 90 + 2 = 92 := ⟨by decide +kernel, rfl⟩
theorem aX12_goesRound_92 : decode mX12_goesRound.2.1 92 = .ok (.ifCond .ge 8, 3) ∧ ((92 : Nat) : Int) + 8 = ((100 : Nat) : Int) ∧ 92 + 3 = 95 := ⟨by decide +kernel, by decide, rfl⟩
theorem aX12_goesRound_95 : decode mX12_goesRound.2.1 95 = .ok (.iload 5, 2) ∧ 95 + 2 = 97 := ⟨by decide +kernel, rfl⟩
theorem aX12_goesRound_97 : decode mX12_goesRound.2.1 97 = .ok (.goto 5, 3) ∧ ((97 : Nat) : Int) + 5 = ((102 : Nat) : Int) := ⟨by decide +kernel, by decide⟩
theorem aX12_goesRound_100 : decode mX12_goesRound.2.1 100 = .ok (.iload 4, 2) ∧ 100 + 2 = 102 := ⟨by decide +kernel, rfl⟩
theorem aX12_goesRound_102 : decode mX12_goesRound.2.1 102 = .ok (.invokevirtual 261, 3) ∧ 102 + 3 = 105 := ⟨by decide +kernel, rfl⟩
theorem aX12_goesRound_105 : decode mX12_goesRound.2.1 105 = .ok (.iinc 5 1, 3) ∧ 105 + 3 = 108 := ⟨by decide +kernel, rfl⟩
theorem aX12_goesRound_108 : decode mX12_goesRound.2.1 108 = .ok (.goto (-74), 3) ∧ ((108 : Nat) : Int) + (-74) = ((34 : Nat) : Int) := ⟨by decide +kernel, by decide⟩
theorem aX12_goesRound_111 : decode mX12_goesRound.2.1 111 = .ok (.return_, 1) := by decide +kernel
theorem S_X12_goesRound {E : EE} {d : Nat} {I : IH} {Q : QT} (x1 : Int32) (x2 : Int32) (x3 : Int32) (x4 : Int32) (h :
((¬ x1 = 0 → J E (d + 1) mX12_goesRound 34 [(0, .ref (eb E + 115)), (1, .int x1), (2, .int x2), (3, .int x3), (4, .int x4), (5, .int (nI 0))] [] I Q) ∧
 (x1 = 0 → (((I 115 16) < 0 → (∀ I1 : IH, I1 = stI I 115 16 x3 →
 (∀ I3 : IH, I3 = stI I1 115 17 x4 →
 Q none I3))) ∧
 (¬ (I 115 16) < 0 → (((I 115 16) ≤ x3 → Q none I) ∧
 (¬ (I 115 16) ≤ x3 → (∀ I5 : IH, I5 = stI I 115 16 x3 →
 (∀ I7 : IH, I7 = stI I5 115 17 x4 →
 Q none I7))))))))) : Mt E (d + 1) mX12_goesRound [.ref (eb E + 115), .int x1, .int x2, .int x3, .int x4] I Q := by
  refine Mt_of [(0, .ref (eb E + 115)), (1, .int x1), (2, .int x2), (3, .int x3), (4, .int x4)] (by decide +kernel) (by simp [lg_sl, Value.category, mX12_goesRound]) rfl ?_
  refine J_iload_n 1 aX12_goesRound_0 rfl ?_
  refine J_if_ne aX12_goesRound_1 (fun q => ?_) (fun q => ?_)
  · replace h := h.1 q
    refine J_iconst (nI 0) aX12_goesRound_31 (by decide +kernel) ?_
    refine J_istore [(5, .int (nI 0)), (0, .ref (eb E + 115)), (1, .int x1), (2, .int x2), (3, .int x3), (4, .int x4)] aX12_goesRound_32 (by decide) rfl ?_
    refine J_pick [1, 2, 3, 4, 5, 0] rfl ?_
    exact h
  · replace h := h.2 q
    refine J_aload_n 0 aX12_goesRound_4 rfl ?_
    refine J_getI aX12_goesRound_5 flX12_255 sh115 rfl ?_
    refine J_if_lt aX12_goesRound_8 (fun q => ?_) (fun q => ?_)
    · replace h := h.1 q
      refine J_aload_n 0 aX12_goesRound_19 rfl ?_
      refine J_iload_n 3 aX12_goesRound_20 rfl ?_
      refine J_putI aX12_goesRound_21 fpX12_255 sh115 rfl (fun I1 e2 => ?_)
      replace h := h I1 e2
      refine J_aload_n 0 aX12_goesRound_24 rfl ?_
      refine J_iload 4 aX12_goesRound_25 rfl ?_
      refine J_putI aX12_goesRound_27 fpX12_258 sh115 rfl (fun I3 e4 => ?_)
      replace h := h I3 e4
      exact J_vret aX12_goesRound_30 rfl h
    · replace h := h.2 q
      refine J_iload_n 3 aX12_goesRound_11 rfl ?_
      refine J_aload_n 0 aX12_goesRound_12 rfl ?_
      refine J_getI aX12_goesRound_13 flX12_255 sh115 rfl ?_
      refine J_icmp_ge aX12_goesRound_16 (fun q => ?_) (fun q => ?_)
      · replace h := h.1 q
        exact J_vret aX12_goesRound_30 rfl h
      · replace h := h.2 q
        refine J_aload_n 0 aX12_goesRound_19 rfl ?_
        refine J_iload_n 3 aX12_goesRound_20 rfl ?_
        refine J_putI aX12_goesRound_21 fpX12_255 sh115 rfl (fun I5 e6 => ?_)
        replace h := h I5 e6
        refine J_aload_n 0 aX12_goesRound_24 rfl ?_
        refine J_iload 4 aX12_goesRound_25 rfl ?_
        refine J_putI aX12_goesRound_27 fpX12_258 sh115 rfl (fun I7 e8 => ?_)
        replace h := h I7 e8
        exact J_vret aX12_goesRound_30 rfl h
theorem S_X12_goesRound_34 {E : EE} {d : Nat} {I : IH} {Q : QT} (x1 : Int32) (x2 : Int32) (x3 : Int32) (x4 : Int32) (x5 : Int32) (h :
(((I 116 6) ≤ x5 → Q none I) ∧
 (¬ (I 116 6) ≤ x5 → ((¬ ((x1 >>> (x5 &&& 31)) &&& (nI 1)) = (nI 1) → J E (d + 1) mX12_goesRound 34 [(0, .ref (eb E + 115)), (1, .int x1), (2, .int x2), (3, .int x3), (4, .int x4), (5, .int (x5 + nI 1))] [] I Q) ∧
 (((x1 >>> (x5 &&& 31)) &&& (nI 1)) = (nI 1) → (Mt E d mX12_get [.ref (eb E + 115), .int x5, .int (nI 1)] I (fun rv I1 => ∃ v2 : Int32, rv = some (.int v2) ∧
 (Mt E d mX12_ones [.int (v2 ^^^ x2)] I1 (fun rv I3 => ∃ v4 : Int32, rv = some (.int v4) ∧
 (Mt E d mX12_get [.ref (eb E + 115), .int x5, .int (nI 1)] I3 (fun rv I5 => ∃ v6 : Int32, rv = some (.int v6) ∧
 ((0 ≤ x4 → J E (d + 1) mX12_goesRound 102 [(0, .ref (eb E + 115)), (1, .int x1), (2, .int x2), (3, .int x3), (4, .int x4), (5, .int x5)] [.int x4, .int (x3 + v4), .int v6, .int (x1 &&& (((nI 1) <<< (x5 &&& 31)) ^^^ (-1))), .ref (eb E + 115)] I5 Q) ∧
 (¬ 0 ≤ x4 → J E (d + 1) mX12_goesRound 102 [(0, .ref (eb E + 115)), (1, .int x1), (2, .int x2), (3, .int x3), (4, .int x4), (5, .int x5)] [.int x5, .int (x3 + v4), .int v6, .int (x1 &&& (((nI 1) <<< (x5 &&& 31)) ^^^ (-1))), .ref (eb E + 115)] I5 Q))))))))))))) : J E (d + 1) mX12_goesRound 34 [(0, .ref (eb E + 115)), (1, .int x1), (2, .int x2), (3, .int x3), (4, .int x4), (5, .int x5)] [] I Q := by
  refine J_iload 5 aX12_goesRound_34 rfl ?_
  refine J_aload_n 0 aX12_goesRound_36 rfl ?_
  refine J_getR aX12_goesRound_37 flX12_9 sh115 rfl ?_
  refine J_bipush (nI 6) aX12_goesRound_40 (by decide +kernel) ?_
  refine J_iaload 6 aX12_goesRound_42 sh116 rfl (by decide) (by decide) ?_
  refine J_icmp_ge aX12_goesRound_43 (fun q => ?_) (fun q => ?_)
  · replace h := h.1 q
    exact J_vret aX12_goesRound_111 rfl h
  · replace h := h.2 q
    refine J_iload_n 1 aX12_goesRound_46 rfl ?_
    refine J_iload 5 aX12_goesRound_47 rfl ?_
    refine J_ishr aX12_goesRound_49 ?_
    refine J_iconst (nI 1) aX12_goesRound_50 (by decide +kernel) ?_
    refine J_iand aX12_goesRound_51 ?_
    refine J_iconst (nI 1) aX12_goesRound_52 (by decide +kernel) ?_
    refine J_icmp_ne aX12_goesRound_53 (fun q => ?_) (fun q => ?_)
    · replace h := h.1 q
      refine J_iinc (x5 + nI 1) [(5, .int (x5 + nI 1)), (0, .ref (eb E + 115)), (1, .int x1), (2, .int x2), (3, .int x3), (4, .int x4)] 5 aX12_goesRound_105 rfl (by first | rfl | (congr 1; decide +kernel)) (by decide) rfl ?_
      refine J_goto aX12_goesRound_108 ?_
      refine J_pick [1, 2, 3, 4, 5, 0] rfl ?_
      exact h
    · replace h := h.2 q
      refine J_aload_n 0 aX12_goesRound_56 rfl ?_
      refine J_iload 5 aX12_goesRound_57 rfl ?_
      refine J_iconst (nI 1) aX12_goesRound_59 (by decide +kernel) ?_
      refine J_callV [.int x5, .int (nI 1)] [] aX12_goesRound_60 lkX12_80_X12 okX12_get sh115 rfl rfl rfl (Nat.le_of_ble_eq_true rfl) (Nat.le_refl _) (Mt_mono h (fun rv I1 h => ?_))
      obtain ⟨v2, rfl, h⟩ := h
      refine J_r1 ?_
      refine J_iload_n 2 aX12_goesRound_63 rfl ?_
      refine J_ixor aX12_goesRound_64 ?_
      refine J_callS [.int (v2 ^^^ x2)] [] aX12_goesRound_65 lkX12_83 okX12_ones rfl rfl (Nat.le_of_ble_eq_true rfl) (Nat.le_refl _) (Mt_mono h (fun rv I3 h => ?_))
      obtain ⟨v4, rfl, h⟩ := h
      refine J_r1 ?_
      refine J_istore [(6, .int v4), (0, .ref (eb E + 115)), (1, .int x1), (2, .int x2), (3, .int x3), (4, .int x4), (5, .int x5)] aX12_goesRound_68 (by decide) rfl ?_
      refine J_aload_n 1 aX12_goesRound_70 rfl ?_
      refine J_iload_n 2 aX12_goesRound_71 rfl ?_
      refine J_iconst (nI 1) aX12_goesRound_72 (by decide +kernel) ?_
      refine J_iload 6 aX12_goesRound_73 rfl ?_
      refine J_ishl aX12_goesRound_75 ?_
      refine J_iconst (-1) aX12_goesRound_76 (by decide +kernel) ?_
      refine J_ixor aX12_goesRound_77 ?_
      refine J_iand aX12_goesRound_78 ?_
      refine J_aload_n 1 aX12_goesRound_79 rfl ?_
      refine J_iload 6 aX12_goesRound_80 rfl ?_
      refine J_iconst (nI 1) aX12_goesRound_82 (by decide +kernel) ?_
      refine J_callV [.int x5, .int (nI 1)] [.int (x1 &&& (((nI 1) <<< (x5 &&& 31)) ^^^ (-1))), .ref (eb E + 115)] aX12_goesRound_83 lkX12_80_X12 okX12_get sh115 rfl rfl rfl (Nat.le_of_ble_eq_true rfl) (Nat.le_refl _) (Mt_mono h (fun rv I5 h => ?_))
      obtain ⟨v6, rfl, h⟩ := h
      refine J_r1 ?_
      refine J_iload_n 4 aX12_goesRound_86 rfl ?_
      refine J_iload 0 aX12_goesRound_87 rfl ?_
      refine J_iadd aX12_goesRound_89 ?_
      refine J_iload 5 aX12_goesRound_90 rfl ?_
      refine J_if_ge aX12_goesRound_92 (fun q => ?_) (fun q => ?_)
      · replace h := h.1 q
        refine J_iload 5 aX12_goesRound_100 rfl ?_
        refine J_pick [1, 2, 3, 4, 5, 6] rfl ?_
        exact h
      · replace h := h.2 q
        refine J_iload 6 aX12_goesRound_95 rfl ?_
        refine J_goto aX12_goesRound_97 ?_
        refine J_pick [1, 2, 3, 4, 5, 6] rfl ?_
        exact h
theorem S_X12_goesRound_102 {E : EE} {d : Nat} {I : IH} {Q : QT} (x1 : Int32) (x2 : Int32) (x3 : Int32) (x4 : Int32) (x5 : Int32) (t0 : Int32) (t1 : Int32) (t2 : Int32) (t3 : Int32) (h :
(Mt E d mX12_goesRound [.ref (eb E + 115), .int t3, .int t2, .int t1, .int t0] I (fun rv I1 => rv = none ∧
 J E (d + 1) mX12_goesRound 34 [(0, .ref (eb E + 115)), (1, .int x1), (2, .int x2), (3, .int x3), (4, .int x4), (5, .int (x5 + nI 1))] [] I1 Q))) : J E (d + 1) mX12_goesRound 102 [(0, .ref (eb E + 115)), (1, .int x1), (2, .int x2), (3, .int x3), (4, .int x4), (5, .int x5)] [.int t0, .int t1, .int t2, .int t3, .ref (eb E + 115)] I Q := by
  refine J_callV [.int t3, .int t2, .int t1, .int t0] [] aX12_goesRound_102 lkX12_261_X12 okX12_goesRound sh115 rfl rfl rfl (Nat.le_of_ble_eq_true rfl) (Nat.le_refl _) (Mt_mono h (fun rv I1 h => ?_))
  obtain ⟨rfl, h⟩ := h
  refine J_r0 ?_
  refine J_iinc (x5 + nI 1) [(5, .int (x5 + nI 1)), (0, .ref (eb E + 115)), (1, .int x1), (2, .int x2), (3, .int x3), (4, .int x4)] 5 aX12_goesRound_105 rfl (by first | rfl | (congr 1; decide +kernel)) (by decide) rfl ?_
  refine J_goto aX12_goesRound_108 ?_
  refine J_pick [1, 2, 3, 4, 5, 0] rfl ?_
  exact h
theorem aX12_tour_0 : decode mX12_tour.2.1 0 = .ok (.iload_n 1, 1) ∧ 0 + 1 = 1 := ⟨by decide +kernel, rfl⟩
theorem aX12_tour_1 : decode mX12_tour.2.1 1 = .ok (.invokestatic 213, 3) ∧ 1 + 3 = 4 := ⟨by decide +kernel, rfl⟩
theorem aX12_tour_4 : decode mX12_tour.2.1 4 = .ok (.ifCond .eq 12, 3) ∧ ((4 : Nat) : Int) + 12 = ((16 : Nat) : Int) ∧ 4 + 3 = 7 := ⟨by decide +kernel, by decide, rfl⟩
theorem aX12_tour_7 : decode mX12_tour.2.1 7 = .ok (.iload_n 2, 1) ∧ 7 + 1 = 8 := ⟨by decide +kernel, rfl⟩
theorem aX12_tour_8 : decode mX12_tour.2.1 8 = .ok (.iconst 0, 1) ∧ 8 + 1 = 9 := ⟨by decide +kernel, rfl⟩
theorem aX12_tour_9 : decode mX12_tour.2.1 9 = .ok (.iconst 1, 1) ∧ 9 + 1 = 10 := ⟨by decide +kernel, rfl⟩
theorem aX12_tour_10 : decode mX12_tour.2.1 10 = .ok (.invokestatic 68, 3) ∧ 10 + 3 = 13 := ⟨by decide +kernel, rfl⟩
theorem aX12_tour_13 : decode mX12_tour.2.1 13 = .ok (.ifCond .ne 5, 3) ∧ ((13 : Nat) : Int) + 5 = ((18 : Nat) : Int) ∧ 13 + 3 = 16 := ⟨by decide +kernel, by decide, rfl⟩
theorem aX12_tour_16 : decode mX12_tour.2.1 16 = .ok (.iconst (-1), 1) ∧ 16 + 1 = 17 := ⟨by decide +kernel, rfl⟩
theorem aX12_tour_17 : decode mX12_tour.2.1 17 = .ok (.ireturn, 1) := by decide +kernel
theorem aX12_tour_18 : decode mX12_tour.2.1 18 = .ok (.iconst 1, 1) ∧ 18 + 1 = 19 := ⟨by decide +kernel, rfl⟩
theorem aX12_tour_19 : decode mX12_tour.2.1 19 = .ok (.aload_n 0, 1) ∧ 19 + 1 = 20 := ⟨by decide +kernel, rfl⟩
theorem aX12_tour_20 : decode mX12_tour.2.1 20 = .ok (.getfield 9, 3) ∧ 20 + 3 = 23 := ⟨by decide +kernel, rfl⟩
theorem aX12_tour_23 : decode mX12_tour.2.1 23 = .ok (.bipush 6, 2) ∧ 23 + 2 = 25 := ⟨by decide +kernel, rfl⟩
theorem aX12_tour_25 : decode mX12_tour.2.1 25 = .ok (.iaload, 1) ∧ 25 + 1 = 26 := ⟨by decide +kernel, rfl⟩
theorem aX12_tour_26 : decode mX12_tour.2.1 26 = .ok (.ishl, 1) ∧ 26 + 1 = 27 := ⟨by decide +kernel, rfl⟩
theorem aX12_tour_27 : decode mX12_tour.2.1 27 = .ok (.iconst 1, 1) ∧ 27 + 1 = 28 := ⟨by decide +kernel, rfl⟩
theorem aX12_tour_28 : decode mX12_tour.2.1 28 = .ok (.isub, 1) ∧ 28 + 1 = 29 := ⟨by decide +kernel, rfl⟩
theorem aX12_tour_29 : decode mX12_tour.2.1 29 = .ok (.aload_n 0, 1) ∧ 29 + 1 = 30 := ⟨by decide +kernel, rfl⟩
theorem aX12_tour_30 : decode mX12_tour.2.1 30 = .ok (.iconst 4, 1) ∧ 30 + 1 = 31 := ⟨by decide +kernel, rfl⟩
theorem aX12_tour_31 : decode mX12_tour.2.1 31 = .ok (.invokevirtual 231, 3) ∧ 31 + 3 = 34 := ⟨by decide +kernel, rfl⟩
theorem aX12_tour_34 : decode mX12_tour.2.1 34 = .ok (.iconst (-1), 1) ∧ 34 + 1 = 35 := ⟨by decide +kernel, rfl⟩
theorem aX12_tour_35 : decode mX12_tour.2.1 35 = .ok (.ixor, 1) ∧ 35 + 1 = 36 := ⟨by decide +kernel, rfl⟩
theorem aX12_tour_36 : decode mX12_tour.2.1 36 = .ok (.iand, 1) ∧ 36 + 1 = 37 := ⟨by decide +kernel, rfl⟩
theorem aX12_tour_37 : decode mX12_tour.2.1 37 = .ok (.istore_n 3, 1) ∧ 37 + 1 = 38 := ⟨by decide +kernel, rfl⟩
theorem aX12_tour_38 : decode mX12_tour.2.1 38 = .ok (.aload_n 0, 1) ∧ 38 + 1 = 39 := ⟨by decide +kernel, rfl⟩
theorem aX12_tour_39 : decode mX12_tour.2.1 39 = .ok (.iconst (-1), 1) ∧ 39 + 1 = 40 := ⟨by decide +kernel, rfl⟩
theorem aX12_tour_40 : decode mX12_tour.2.1 40 = .ok (.putfield 255, 3) ∧ 40 + 3 = 43 := ⟨by decide +kernel, rfl⟩
theorem aX12_tour_43 : decode mX12_tour.2.1 43 = .ok (.aload_n 0, 1) ∧ 43 + 1 = 44 := ⟨by decide +kernel, rfl⟩
theorem aX12_tour_44 : decode mX12_tour.2.1 44 = .ok (.iload_n 3, 1) ∧ 44 + 1 = 45 := ⟨by decide +kernel, rfl⟩
theorem aX12_tour_45 : decode mX12_tour.2.1 45 = .ok (.iload_n 1, 1) ∧ 45 + 1 = 46 := ⟨by decide +kernel, rfl⟩
theorem aX12_tour_46 : decode mX12_tour.2.1 46 = .ok (.iconst 0, 1) ∧ 46 + 1 = 47 := ⟨by decide +kernel, rfl⟩
theorem aX12_tour_47 : decode mX12_tour.2.1 47 = .ok (.iconst (-1), 1) ∧ 47 + 1 = 48 := ⟨by decide +kernel, rfl⟩
theorem aX12_tour_48 : decode mX12_tour.2.1 48 = .ok (.invokevirtual 261, 3) ∧ 48 + 3 = 51 := ⟨by decide +kernel, rfl⟩
theorem aX12_tour_51 : decode mX12_tour.2.1 51 = .ok (.iload_n 2, 1) ∧ 51 + 1 = 52 := ⟨by decide +kernel, rfl⟩
theorem aX12_tour_52 : decode mX12_tour.2.1 52 = .ok (.ifCond .ne 10, 3) ∧ ((52 : Nat) : Int) + 10 = ((62 : Nat) : Int) ∧ 52 + 3 = 55 := ⟨by decide +kernel, by decide, rfl⟩
theorem aX12_tour_55 : decode mX12_tour.2.1 55 = .ok (.aload_n 0, 1) ∧ 55 + 1 = 56 := ⟨by decide +kernel, rfl⟩
theorem aX12_tour_56 : decode mX12_tour.2.1 56 = .ok (.getfield 255, 3) ∧ 56 + 3 = 59 := ⟨by decide +kernel, rfl⟩
theorem aX12_tour_59 : decode mX12_tour.2.1 59 = .ok (.goto 16, 3) ∧ ((59 : Nat) : Int) + 16 = ((75 : Nat) : Int) := ⟨by decide +kernel, by decide⟩
theorem aX12_tour_62 : decode mX12_tour.2.1 62 = .ok (.iload_n 3, 1) ∧ 62 + 1 = 63 := ⟨by decide +kernel, rfl⟩
theorem aX12_tour_63 : decode mX12_tour.2.1 63 = .ok (.ifCond .ne 8, 3) ∧ ((63 : Nat) : Int) + 8 = ((71 : Nat) : Int) ∧ 63 + 3 = 66 := ⟨by decide +kernel, by decide, rfl⟩
theorem aX12_tour_66 : decode mX12_tour.2.1 66 = .ok (.bipush (-3), 2) ∧ 66 + 2 = 68 := ⟨by decide +kernel, rfl⟩
theorem aX12_tour_68 : decode mX12_tour.2.1 68 = .ok (.goto 7, 3) ∧ ((68 : Nat) : Int) + 7 = ((75 : Nat) : Int) := ⟨by decide +kernel, by decide⟩
theorem aX12_tour_71 : decode mX12_tour.2.1 71 = .ok (.aload_n 0, 1) ∧ 71 + 1 = 72 := ⟨by decide +kernel, rfl⟩
theorem aX12_tour_72 : decode mX12_tour.2.1 72 = .ok (.getfield 258, 3) ∧ 72 + 3 = 75 := ⟨by decide +kernel, rfl⟩
theorem aX12_tour_75 : decode mX12_tour.2.1 75 = .ok (.ireturn, 1) := by decide +kernel
theorem S_X12_tour {E : EE} {d : Nat} {I : IH} {Q : QT} (x1 : Int32) (x2 : Int32) (h :
(Mt E d mX12_isScene [.int x1] I (fun rv I1 => ∃ v2 : Int32, rv = some (.int v2) ∧
 ((v2 = 0 → Q (some (.int (-1))) I1) ∧
 (¬ v2 = 0 → (Mt E d mX12_in1 [.int x2, .int (nI 0), .int (nI 1)] I1 (fun rv I3 => ∃ v4 : Int32, rv = some (.int v4) ∧
 ((¬ v4 = 0 → (Mt E d mX12_those [.ref (eb E + 115), .int (nI 4)] I3 (fun rv I5 => ∃ v6 : Int32, rv = some (.int v6) ∧
 (∀ I7 : IH, I7 = stI I5 115 16 (-1) →
 (Mt E d mX12_goesRound [.ref (eb E + 115), .int ((((nI 1) <<< ((I3 116 6) &&& 31)) - (nI 1)) &&& (v6 ^^^ (-1))), .int x1, .int (nI 0), .int (-1)] I7 (fun rv I9 => rv = none ∧
 ((¬ x2 = 0 → ((¬ ((((nI 1) <<< ((I3 116 6) &&& 31)) - (nI 1)) &&& (v6 ^^^ (-1))) = 0 → Q (some (.int (I9 115 17))) I9) ∧
 (((((nI 1) <<< ((I3 116 6) &&& 31)) - (nI 1)) &&& (v6 ^^^ (-1))) = 0 → Q (some (.int (-3))) I9))) ∧
 (x2 = 0 → Q (some (.int (I9 115 16))) I9)))))))) ∧
 (v4 = 0 → Q (some (.int (-1))) I3))))))))) : Mt E (d + 1) mX12_tour [.ref (eb E + 115), .int x1, .int x2] I Q := by
  refine Mt_of [(0, .ref (eb E + 115)), (1, .int x1), (2, .int x2)] (by decide +kernel) (by simp [lg_sl, Value.category, mX12_tour]) rfl ?_
  refine J_iload_n 1 aX12_tour_0 rfl ?_
  refine J_callS [.int x1] [] aX12_tour_1 lkX12_213 okX12_isScene rfl rfl (Nat.le_of_ble_eq_true rfl) (Nat.le_refl _) (Mt_mono h (fun rv I1 h => ?_))
  obtain ⟨v2, rfl, h⟩ := h
  refine J_r1 ?_
  refine J_if_eq aX12_tour_4 (fun q => ?_) (fun q => ?_)
  · replace h := h.1 q
    refine J_iconst (-1) aX12_tour_16 (by decide +kernel) ?_
    exact J_iret aX12_tour_17 rfl h
  · replace h := h.2 q
    refine J_iload_n 2 aX12_tour_7 rfl ?_
    refine J_iconst (nI 0) aX12_tour_8 (by decide +kernel) ?_
    refine J_iconst (nI 1) aX12_tour_9 (by decide +kernel) ?_
    refine J_callS [.int x2, .int (nI 0), .int (nI 1)] [] aX12_tour_10 lkX12_68 okX12_in1 rfl rfl (Nat.le_of_ble_eq_true rfl) (Nat.le_refl _) (Mt_mono h (fun rv I3 h => ?_))
    obtain ⟨v4, rfl, h⟩ := h
    refine J_r1 ?_
    refine J_if_ne aX12_tour_13 (fun q => ?_) (fun q => ?_)
    · replace h := h.1 q
      refine J_iconst (nI 1) aX12_tour_18 (by decide +kernel) ?_
      refine J_aload_n 0 aX12_tour_19 rfl ?_
      refine J_getR aX12_tour_20 flX12_9 sh115 rfl ?_
      refine J_bipush (nI 6) aX12_tour_23 (by decide +kernel) ?_
      refine J_iaload 6 aX12_tour_25 sh116 rfl (by decide) (by decide) ?_
      refine J_ishl aX12_tour_26 ?_
      refine J_iconst (nI 1) aX12_tour_27 (by decide +kernel) ?_
      refine J_isub aX12_tour_28 ?_
      refine J_aload_n 0 aX12_tour_29 rfl ?_
      refine J_iconst (nI 4) aX12_tour_30 (by decide +kernel) ?_
      refine J_callV [.int (nI 4)] [.int (((nI 1) <<< ((I3 116 6) &&& 31)) - (nI 1))] aX12_tour_31 lkX12_231_X12 okX12_those sh115 rfl rfl rfl (Nat.le_of_ble_eq_true rfl) (Nat.le_refl _) (Mt_mono h (fun rv I5 h => ?_))
      obtain ⟨v6, rfl, h⟩ := h
      refine J_r1 ?_
      refine J_iconst (-1) aX12_tour_34 (by decide +kernel) ?_
      refine J_ixor aX12_tour_35 ?_
      refine J_iand aX12_tour_36 ?_
      refine J_istore_n [(3, .int ((((nI 1) <<< ((I3 116 6) &&& 31)) - (nI 1)) &&& (v6 ^^^ (-1)))), (0, .ref (eb E + 115)), (1, .int x1), (2, .int x2)] aX12_tour_37 (by decide) rfl ?_
      refine J_aload_n 1 aX12_tour_38 rfl ?_
      refine J_iconst (-1) aX12_tour_39 (by decide +kernel) ?_
      refine J_putI aX12_tour_40 fpX12_255 sh115 rfl (fun I7 e8 => ?_)
      replace h := h I7 e8
      refine J_aload_n 1 aX12_tour_43 rfl ?_
      refine J_iload_n 0 aX12_tour_44 rfl ?_
      refine J_iload_n 2 aX12_tour_45 rfl ?_
      refine J_iconst (nI 0) aX12_tour_46 (by decide +kernel) ?_
      refine J_iconst (-1) aX12_tour_47 (by decide +kernel) ?_
      refine J_callV [.int ((((nI 1) <<< ((I3 116 6) &&& 31)) - (nI 1)) &&& (v6 ^^^ (-1))), .int x1, .int (nI 0), .int (-1)] [] aX12_tour_48 lkX12_261_X12 okX12_goesRound sh115 rfl rfl rfl (Nat.le_of_ble_eq_true rfl) (Nat.le_refl _) (Mt_mono h (fun rv I9 h => ?_))
      obtain ⟨rfl, h⟩ := h
      refine J_r0 ?_
      refine J_iload_n 3 aX12_tour_51 rfl ?_
      refine J_if_ne aX12_tour_52 (fun q => ?_) (fun q => ?_)
      · replace h := h.1 q
        refine J_iload_n 0 aX12_tour_62 rfl ?_
        refine J_if_ne aX12_tour_63 (fun q => ?_) (fun q => ?_)
        · replace h := h.1 q
          refine J_aload_n 1 aX12_tour_71 rfl ?_
          refine J_getI aX12_tour_72 flX12_258 sh115 rfl ?_
          exact J_iret aX12_tour_75 rfl h
        · replace h := h.2 q
          refine J_bipush (-3) aX12_tour_66 (by decide +kernel) ?_
          refine J_goto aX12_tour_68 ?_
          exact J_iret aX12_tour_75 rfl h
      · replace h := h.2 q
        refine J_aload_n 1 aX12_tour_55 rfl ?_
        refine J_getI aX12_tour_56 flX12_255 sh115 rfl ?_
        refine J_goto aX12_tour_59 ?_
        exact J_iret aX12_tour_75 rfl h
    · replace h := h.2 q
      refine J_iconst (-1) aX12_tour_16 (by decide +kernel) ?_
      exact J_iret aX12_tour_17 rfl h
theorem aX12_saves_0 : decode mX12_saves.2.1 0 = .ok (.iconst 0, 1) ∧ 0 + 1 = 1 := ⟨by decide +kernel, rfl⟩
theorem aX12_saves_1 : decode mX12_saves.2.1 1 = .ok (.istore_n 2, 1) ∧ 1 + 1 = 2 := ⟨by decide +kernel, rfl⟩
theorem aX12_saves_2 : decode mX12_saves.2.1 2 = .ok (.iload_n 2, 1) ∧ 2 + 1 = 3 := ⟨by decide +kernel, rfl⟩
theorem aX12_saves_3 : decode mX12_saves.2.1 3 = .ok (.bipush 74, 2) ∧ 3 + 2 = 5 := ⟨by decide +kernel, rfl⟩
theorem aX12_saves_5 : decode mX12_saves.2.1 5 = .ok (.if_icmp .ge 26, 3) ∧ ((5 : Nat) : Int) + 26 = ((31 : Nat) : Int) ∧ 5 + 3 = 8 := ⟨by decide +kernel, by decide, rfl⟩
theorem aX12_saves_8 : decode mX12_saves.2.1 8 = .ok (.aload_n 0, 1) ∧ 8 + 1 = 9 := ⟨by decide +kernel, rfl⟩
theorem aX12_saves_9 : decode mX12_saves.2.1 9 = .ok (.getfield 35, 3) ∧ 9 + 3 = 12 := ⟨by decide +kernel, rfl⟩
theorem aX12_saves_12 : decode mX12_saves.2.1 12 = .ok (.bipush 74, 2) ∧ 12 + 2 = 14 := ⟨by decide +kernel, rfl⟩
theorem aX12_saves_14 : decode mX12_saves.2.1 14 = .ok (.iload_n 1, 1) ∧ 14 + 1 = 15 := ⟨by decide +kernel, rfl⟩
theorem aX12_saves_15 : decode mX12_saves.2.1 15 = .ok (.imul, 1) ∧ 15 + 1 = 16 := ⟨by decide +kernel, rfl⟩
theorem aX12_saves_16 : decode mX12_saves.2.1 16 = .ok (.iload_n 2, 1) ∧ 16 + 1 = 17 := ⟨by decide +kernel, rfl⟩
theorem aX12_saves_17 : decode mX12_saves.2.1 17 = .ok (.iadd, 1) ∧ 17 + 1 = 18 := ⟨by decide +kernel, rfl⟩
theorem aX12_saves_18 : decode mX12_saves.2.1 18 = .ok (.aload_n 0, 1) ∧ 18 + 1 = 19 := ⟨by decide +kernel, rfl⟩
theorem aX12_saves_19 : decode mX12_saves.2.1 19 = .ok (.getfield 9, 3) ∧ 19 + 3 = 22 := ⟨by decide +kernel, rfl⟩
theorem aX12_saves_22 : decode mX12_saves.2.1 22 = .ok (.iload_n 2, 1) ∧ 22 + 1 = 23 := ⟨by decide +kernel, rfl⟩
theorem aX12_saves_23 : decode mX12_saves.2.1 23 = .ok (.iaload, 1) ∧ 23 + 1 = 24 := ⟨by decide +kernel, rfl⟩
theorem aX12_saves_24 : decode mX12_saves.2.1 24 = .ok (.iastore, 1) ∧ 24 + 1 = 25 := ⟨by decide +kernel, rfl⟩
theorem aX12_saves_25 : decode mX12_saves.2.1 25 = .ok (.iinc 2 1, 3) ∧ 25 + 3 = 28 := ⟨by decide +kernel, rfl⟩
theorem aX12_saves_28 : decode mX12_saves.2.1 28 = .ok (.goto (-26), 3) ∧ ((28 : Nat) : Int) + (-26) = ((2 : Nat) : Int) := ⟨by decide +kernel, by decide⟩
theorem aX12_saves_31 : decode mX12_saves.2.1 31 = .ok (.return_, 1) := by decide +kernel
theorem S_X12_saves {E : EE} {d : Nat} {I : IH} {Q : QT} (x1 : Int32) (h :
J E d mX12_saves 2 [(0, .ref (eb E + 115)), (1, .int x1), (2, .int (nI 0))] [] I Q) : Mt E d mX12_saves [.ref (eb E + 115), .int x1] I Q := by
  refine Mt_of [(0, .ref (eb E + 115)), (1, .int x1)] (by decide +kernel) (by simp [lg_sl, Value.category, mX12_saves]) rfl ?_
  refine J_iconst (nI 0) aX12_saves_0 (by decide +kernel) ?_
  refine J_istore_n [(2, .int (nI 0)), (0, .ref (eb E + 115)), (1, .int x1)] aX12_saves_1 (by decide) rfl ?_
  refine J_pick [1, 2, 0] rfl ?_
  exact h
theorem S_X12_saves_2 {E : EE} {d : Nat} {I : IH} {Q : QT} (x1 : Int32) (x2 : Int32) (h :
(((nI 74) ≤ x2 → Q none I) ∧
 (¬ (nI 74) ≤ x2 → (∃ j1 : Nat, x2 = nI j1 ∧ j1 < 322 ∧ (∃ j6 : Nat, (((nI 74) * x1) + x2) = nI j6 ∧ j6 < 370 ∧ (∀ I4 : IH, I4 = stI I 124 j6 (I 116 j1) →
 J E d mX12_saves 2 [(0, .ref (eb E + 115)), (1, .int x1), (2, .int (x2 + nI 1))] [] I4 Q)))))) : J E d mX12_saves 2 [(0, .ref (eb E + 115)), (1, .int x1), (2, .int x2)] [] I Q := by
  refine J_iload_n 2 aX12_saves_2 rfl ?_
  refine J_bipush (nI 74) aX12_saves_3 (by decide +kernel) ?_
  refine J_icmp_ge aX12_saves_5 (fun q => ?_) (fun q => ?_)
  · replace h := h.1 q
    exact J_vret aX12_saves_31 rfl h
  · replace h := h.2 q
    refine J_aload_n 0 aX12_saves_8 rfl ?_
    refine J_getR aX12_saves_9 flX12_35 sh115 rfl ?_
    refine J_bipush (nI 74) aX12_saves_12 (by decide +kernel) ?_
    refine J_iload_n 1 aX12_saves_14 rfl ?_
    refine J_imul aX12_saves_15 ?_
    refine J_iload_n 2 aX12_saves_16 rfl ?_
    refine J_iadd aX12_saves_17 ?_
    refine J_aload_n 0 aX12_saves_18 rfl ?_
    refine J_getR aX12_saves_19 flX12_9 sh115 rfl ?_
    refine J_iload_n 2 aX12_saves_22 rfl ?_
    obtain ⟨j1, e2, b3, h⟩ := h
    refine J_iaload j1 aX12_saves_23 sh116 e2 b3 (by decide) ?_
    obtain ⟨j6, e7, b8, h⟩ := h
    refine J_iastore j6 aX12_saves_24 sh124 e7 b8 (by decide) (fun I4 e5 => ?_)
    replace h := h I4 e5
    refine J_iinc (x2 + nI 1) [(2, .int (x2 + nI 1)), (0, .ref (eb E + 115)), (1, .int x1)] 2 aX12_saves_25 rfl (by first | rfl | (congr 1; decide +kernel)) (by decide) rfl ?_
    refine J_goto aX12_saves_28 ?_
    refine J_pick [1, 2, 0] rfl ?_
    exact h
theorem aX12_restores_0 : decode mX12_restores.2.1 0 = .ok (.iconst 0, 1) ∧ 0 + 1 = 1 := ⟨by decide +kernel, rfl⟩
theorem aX12_restores_1 : decode mX12_restores.2.1 1 = .ok (.istore_n 2, 1) ∧ 1 + 1 = 2 := ⟨by decide +kernel, rfl⟩
theorem aX12_restores_2 : decode mX12_restores.2.1 2 = .ok (.iload_n 2, 1) ∧ 2 + 1 = 3 := ⟨by decide +kernel, rfl⟩
theorem aX12_restores_3 : decode mX12_restores.2.1 3 = .ok (.bipush 74, 2) ∧ 3 + 2 = 5 := ⟨by decide +kernel, rfl⟩
theorem aX12_restores_5 : decode mX12_restores.2.1 5 = .ok (.if_icmp .ge 26, 3) ∧ ((5 : Nat) : Int) + 26 = ((31 : Nat) : Int) ∧ 5 + 3 = 8 := ⟨by decide +kernel, by decide, rfl⟩
theorem aX12_restores_8 : decode mX12_restores.2.1 8 = .ok (.aload_n 0, 1) ∧ 8 + 1 = 9 := ⟨by decide +kernel, rfl⟩
theorem aX12_restores_9 : decode mX12_restores.2.1 9 = .ok (.getfield 9, 3) ∧ 9 + 3 = 12 := ⟨by decide +kernel, rfl⟩
theorem aX12_restores_12 : decode mX12_restores.2.1 12 = .ok (.iload_n 2, 1) ∧ 12 + 1 = 13 := ⟨by decide +kernel, rfl⟩
theorem aX12_restores_13 : decode mX12_restores.2.1 13 = .ok (.aload_n 0, 1) ∧ 13 + 1 = 14 := ⟨by decide +kernel, rfl⟩
theorem aX12_restores_14 : decode mX12_restores.2.1 14 = .ok (.getfield 35, 3) ∧ 14 + 3 = 17 := ⟨by decide +kernel, rfl⟩
theorem aX12_restores_17 : decode mX12_restores.2.1 17 = .ok (.bipush 74, 2) ∧ 17 + 2 = 19 := ⟨by decide +kernel, rfl⟩
theorem aX12_restores_19 : decode mX12_restores.2.1 19 = .ok (.iload_n 1, 1) ∧ 19 + 1 = 20 := ⟨by decide +kernel, rfl⟩
theorem aX12_restores_20 : decode mX12_restores.2.1 20 = .ok (.imul, 1) ∧ 20 + 1 = 21 := ⟨by decide +kernel, rfl⟩
theorem aX12_restores_21 : decode mX12_restores.2.1 21 = .ok (.iload_n 2, 1) ∧ 21 + 1 = 22 := ⟨by decide +kernel, rfl⟩
theorem aX12_restores_22 : decode mX12_restores.2.1 22 = .ok (.iadd, 1) ∧ 22 + 1 = 23 := ⟨by decide +kernel, rfl⟩
theorem aX12_restores_23 : decode mX12_restores.2.1 23 = .ok (.iaload, 1) ∧ 23 + 1 = 24 := ⟨by decide +kernel, rfl⟩
theorem aX12_restores_24 : decode mX12_restores.2.1 24 = .ok (.iastore, 1) ∧ 24 + 1 = 25 := ⟨by decide +kernel, rfl⟩
theorem aX12_restores_25 : decode mX12_restores.2.1 25 = .ok (.iinc 2 1, 3) ∧ 25 + 3 = 28 := ⟨by decide +kernel, rfl⟩
theorem aX12_restores_28 : decode mX12_restores.2.1 28 = .ok (.goto (-26), 3) ∧ ((28 : Nat) : Int) + (-26) = ((2 : Nat) : Int) := ⟨by decide +kernel, by decide⟩
theorem aX12_restores_31 : decode mX12_restores.2.1 31 = .ok (.return_, 1) := by decide +kernel
theorem S_X12_restores {E : EE} {d : Nat} {I : IH} {Q : QT} (x1 : Int32) (h :
J E d mX12_restores 2 [(0, .ref (eb E + 115)), (1, .int x1), (2, .int (nI 0))] [] I Q) : Mt E d mX12_restores [.ref (eb E + 115), .int x1] I Q := by
  refine Mt_of [(0, .ref (eb E + 115)), (1, .int x1)] (by decide +kernel) (by simp [lg_sl, Value.category, mX12_restores]) rfl ?_
  refine J_iconst (nI 0) aX12_restores_0 (by decide +kernel) ?_
  refine J_istore_n [(2, .int (nI 0)), (0, .ref (eb E + 115)), (1, .int x1)] aX12_restores_1 (by decide) rfl ?_
  refine J_pick [1, 2, 0] rfl ?_
  exact h
theorem S_X12_restores_2 {E : EE} {d : Nat} {I : IH} {Q : QT} (x1 : Int32) (x2 : Int32) (h :
(((nI 74) ≤ x2 → Q none I) ∧
 (¬ (nI 74) ≤ x2 → (∃ j1 : Nat, (((nI 74) * x1) + x2) = nI j1 ∧ j1 < 370 ∧ (∃ j6 : Nat, x2 = nI j6 ∧ j6 < 322 ∧ (∀ I4 : IH, I4 = stI I 116 j6 (I 124 j1) →
 J E d mX12_restores 2 [(0, .ref (eb E + 115)), (1, .int x1), (2, .int (x2 + nI 1))] [] I4 Q)))))) : J E d mX12_restores 2 [(0, .ref (eb E + 115)), (1, .int x1), (2, .int x2)] [] I Q := by
  refine J_iload_n 2 aX12_restores_2 rfl ?_
  refine J_bipush (nI 74) aX12_restores_3 (by decide +kernel) ?_
  refine J_icmp_ge aX12_restores_5 (fun q => ?_) (fun q => ?_)
  · replace h := h.1 q
    exact J_vret aX12_restores_31 rfl h
  · replace h := h.2 q
    refine J_aload_n 0 aX12_restores_8 rfl ?_
    refine J_getR aX12_restores_9 flX12_9 sh115 rfl ?_
    refine J_iload_n 2 aX12_restores_12 rfl ?_
    refine J_aload_n 0 aX12_restores_13 rfl ?_
    refine J_getR aX12_restores_14 flX12_35 sh115 rfl ?_
    refine J_bipush (nI 74) aX12_restores_17 (by decide +kernel) ?_
    refine J_iload_n 1 aX12_restores_19 rfl ?_
    refine J_imul aX12_restores_20 ?_
    refine J_iload_n 2 aX12_restores_21 rfl ?_
    refine J_iadd aX12_restores_22 ?_
    obtain ⟨j1, e2, b3, h⟩ := h
    refine J_iaload j1 aX12_restores_23 sh124 e2 b3 (by decide) ?_
    obtain ⟨j6, e7, b8, h⟩ := h
    refine J_iastore j6 aX12_restores_24 sh116 e7 b8 (by decide) (fun I4 e5 => ?_)
    replace h := h I4 e5
    refine J_iinc (x2 + nI 1) [(2, .int (x2 + nI 1)), (0, .ref (eb E + 115)), (1, .int x1)] 2 aX12_restores_25 rfl (by first | rfl | (congr 1; decide +kernel)) (by decide) rfl ?_
    refine J_goto aX12_restores_28 ?_
    refine J_pick [1, 2, 0] rfl ?_
    exact h
theorem aX12_daysOf_0 : decode mX12_daysOf.2.1 0 = .ok (.aload_n 0, 1) ∧ 0 + 1 = 1 := ⟨by decide +kernel, rfl⟩
theorem aX12_daysOf_1 : decode mX12_daysOf.2.1 1 = .ok (.invokevirtual 228, 3) ∧ 1 + 3 = 4 := ⟨by decide +kernel, rfl⟩
theorem aX12_daysOf_4 : decode mX12_daysOf.2.1 4 = .ok (.ifCond .eq 7, 3) ∧ ((4 : Nat) : Int) + 7 = ((11 : Nat) : Int) ∧ 4 + 3 = 7 := ⟨by decide +kernel, by decide, rfl⟩
theorem aX12_daysOf_7 : decode mX12_daysOf.2.1 7 = .ok (.iconst 0, 1) ∧ 7 + 1 = 8 := ⟨by decide +kernel, rfl⟩
theorem aX12_daysOf_8 : decode mX12_daysOf.2.1 8 = .ok (.goto 16, 3) ∧ ((8 : Nat) : Int) + 16 = ((24 : Nat) : Int) := ⟨by decide +kernel, by decide⟩
theorem aX12_daysOf_11 : decode mX12_daysOf.2.1 11 = .ok (.aload_n 0, 1) ∧ 11 + 1 = 12 := ⟨by decide +kernel, rfl⟩
theorem aX12_daysOf_12 : decode mX12_daysOf.2.1 12 = .ok (.getfield 9, 3) ∧ 12 + 3 = 15 := ⟨by decide +kernel, rfl⟩
theorem aX12_daysOf_15 : decode mX12_daysOf.2.1 15 = .ok (.iconst 1, 1) ∧ 15 + 1 = 16 := ⟨by decide +kernel, rfl⟩
theorem aX12_daysOf_16 : decode mX12_daysOf.2.1 16 = .ok (.iaload, 1) ∧ 16 + 1 = 17 := ⟨by decide +kernel, rfl⟩
theorem aX12_daysOf_17 : decode mX12_daysOf.2.1 17 = .ok (.aload_n 0, 1) ∧ 17 + 1 = 18 := ⟨by decide +kernel, rfl⟩
theorem aX12_daysOf_18 : decode mX12_daysOf.2.1 18 = .ok (.getfield 9, 3) ∧ 18 + 3 = 21 := ⟨by decide +kernel, rfl⟩
theorem aX12_daysOf_21 : decode mX12_daysOf.2.1 21 = .ok (.iconst 0, 1) ∧ 21 + 1 = 22 := ⟨by decide +kernel, rfl⟩
theorem aX12_daysOf_22 : decode mX12_daysOf.2.1 22 = .ok (.iaload, 1) ∧ 22 + 1 = 23 := ⟨by decide +kernel, rfl⟩
theorem aX12_daysOf_23 : decode mX12_daysOf.2.1 23 = .ok (.isub, 1) ∧ 23 + 1 = 24 := ⟨by decide +kernel, rfl⟩
theorem aX12_daysOf_24 : decode mX12_daysOf.2.1 24 = .ok (.istore_n 2, 1) ∧ 24 + 1 = 25 := ⟨by decide +kernel, rfl⟩
theorem aX12_daysOf_25 : decode mX12_daysOf.2.1 25 = .ok (.iload_n 1, 1) ∧ 25 + 1 = 26 := ⟨by decide +kernel, rfl⟩
theorem aX12_daysOf_26 : decode mX12_daysOf.2.1 26 = .ok (.iload_n 2, 1) ∧ 26 + 1 = 27 := ⟨by decide +kernel, rfl⟩
theorem aX12_daysOf_27 : decode mX12_daysOf.2.1 27 = .ok (.if_icmp .ge 7, 3) ∧ ((27 : Nat) : Int) + 7 = ((34 : Nat) : Int) ∧ 27 + 3 = 30 := ⟨by decide +kernel, by decide, rfl⟩
theorem aX12_daysOf_30 : decode mX12_daysOf.2.1 30 = .ok (.iload_n 1, 1) ∧ 30 + 1 = 31 := ⟨by decide +kernel, rfl⟩
theorem aX12_daysOf_31 : decode mX12_daysOf.2.1 31 = .ok (.goto 4, 3) ∧ ((31 : Nat) : Int) + 4 = ((35 : Nat) : Int) := ⟨by decide +kernel, by decide⟩
theorem aX12_daysOf_34 : decode mX12_daysOf.2.1 34 = .ok (.iload_n 2, 1) ∧ 34 + 1 = 35 := ⟨by decide +kernel, rfl⟩
theorem aX12_daysOf_35 : decode mX12_daysOf.2.1 35 = .ok (.ireturn, 1) := by decide +kernel
theorem S_X12_daysOf {E : EE} {d : Nat} {I : IH} {Q : QT} (x1 : Int32) (h :
(Mt E d mX12_isOver [.ref (eb E + 115)] I (fun rv I1 => ∃ v2 : Int32, rv = some (.int v2) ∧
 ((v2 = 0 → ((((I1 116 1) - (I1 116 0)) ≤ x1 → Q (some (.int ((I1 116 1) - (I1 116 0)))) I1) ∧
 (¬ ((I1 116 1) - (I1 116 0)) ≤ x1 → Q (some (.int x1)) I1))) ∧
 (¬ v2 = 0 → (((nI 0) ≤ x1 → Q (some (.int (nI 0))) I1) ∧
 (¬ (nI 0) ≤ x1 → Q (some (.int x1)) I1))))))) : Mt E (d + 1) mX12_daysOf [.ref (eb E + 115), .int x1] I Q := by
  refine Mt_of [(0, .ref (eb E + 115)), (1, .int x1)] (by decide +kernel) (by simp [lg_sl, Value.category, mX12_daysOf]) rfl ?_
  refine J_aload_n 0 aX12_daysOf_0 rfl ?_
  refine J_callV [] [] aX12_daysOf_1 lkX12_228_X12 okX12_isOver sh115 rfl rfl rfl (Nat.le_of_ble_eq_true rfl) (Nat.le_refl _) (Mt_mono h (fun rv I1 h => ?_))
  obtain ⟨v2, rfl, h⟩ := h
  refine J_r1 ?_
  refine J_if_eq aX12_daysOf_4 (fun q => ?_) (fun q => ?_)
  · replace h := h.1 q
    refine J_aload_n 0 aX12_daysOf_11 rfl ?_
    refine J_getR aX12_daysOf_12 flX12_9 sh115 rfl ?_
    refine J_iconst (nI 1) aX12_daysOf_15 (by decide +kernel) ?_
    refine J_iaload 1 aX12_daysOf_16 sh116 rfl (by decide) (by decide) ?_
    refine J_aload_n 0 aX12_daysOf_17 rfl ?_
    refine J_getR aX12_daysOf_18 flX12_9 sh115 rfl ?_
    refine J_iconst (nI 0) aX12_daysOf_21 (by decide +kernel) ?_
    refine J_iaload 0 aX12_daysOf_22 sh116 rfl (by decide) (by decide) ?_
    refine J_isub aX12_daysOf_23 ?_
    refine J_istore_n [(2, .int ((I1 116 1) - (I1 116 0))), (0, .ref (eb E + 115)), (1, .int x1)] aX12_daysOf_24 (by decide) rfl ?_
    refine J_iload_n 2 aX12_daysOf_25 rfl ?_
    refine J_iload_n 0 aX12_daysOf_26 rfl ?_
    refine J_icmp_ge aX12_daysOf_27 (fun q => ?_) (fun q => ?_)
    · replace h := h.1 q
      refine J_iload_n 0 aX12_daysOf_34 rfl ?_
      exact J_iret aX12_daysOf_35 rfl h
    · replace h := h.2 q
      refine J_iload_n 2 aX12_daysOf_30 rfl ?_
      refine J_goto aX12_daysOf_31 ?_
      exact J_iret aX12_daysOf_35 rfl h
  · replace h := h.2 q
    refine J_iconst (nI 0) aX12_daysOf_7 (by decide +kernel) ?_
    refine J_goto aX12_daysOf_8 ?_
    refine J_istore_n [(2, .int (nI 0)), (0, .ref (eb E + 115)), (1, .int x1)] aX12_daysOf_24 (by decide) rfl ?_
    refine J_iload_n 2 aX12_daysOf_25 rfl ?_
    refine J_iload_n 0 aX12_daysOf_26 rfl ?_
    refine J_icmp_ge aX12_daysOf_27 (fun q => ?_) (fun q => ?_)
    · replace h := h.1 q
      refine J_iload_n 0 aX12_daysOf_34 rfl ?_
      exact J_iret aX12_daysOf_35 rfl h
    · replace h := h.2 q
      refine J_iload_n 2 aX12_daysOf_30 rfl ?_
      refine J_goto aX12_daysOf_31 ?_
      exact J_iret aX12_daysOf_35 rfl h
theorem aX12_endsPlan_0 : decode mX12_endsPlan.2.1 0 = .ok (.iload_n 2, 1) ∧ 0 + 1 = 1 := ⟨by decide +kernel, rfl⟩
theorem aX12_endsPlan_1 : decode mX12_endsPlan.2.1 1 = .ok (.aload_n 0, 1) ∧ 1 + 1 = 2 := ⟨by decide +kernel, rfl⟩
theorem aX12_endsPlan_2 : decode mX12_endsPlan.2.1 2 = .ok (.getfield 265, 3) ∧ 2 + 3 = 5 := ⟨by decide +kernel, rfl⟩
theorem aX12_endsPlan_5 : decode mX12_endsPlan.2.1 5 = .ok (.if_icmp .le 42, 3) ∧ ((5 : Nat) : Int) + 42 = ((47 : Nat) : Int) ∧ 5 + 3 = 8 := ⟨by decide +kernel, by decide, rfl⟩
theorem aX12_endsPlan_8 : decode mX12_endsPlan.2.1 8 = .ok (.aload_n 0, 1) ∧ 8 + 1 = 9 := ⟨by decide +kernel, rfl⟩
theorem aX12_endsPlan_9 : decode mX12_endsPlan.2.1 9 = .ok (.iconst 0, 1) ∧ 9 + 1 = 10 := ⟨by decide +kernel, rfl⟩
theorem aX12_endsPlan_10 : decode mX12_endsPlan.2.1 10 = .ok (.putfield 268, 3) ∧ 10 + 3 = 13 := ⟨by decide +kernel, rfl⟩
theorem aX12_endsPlan_13 : decode mX12_endsPlan.2.1 13 = .ok (.aload_n 0, 1) ∧ 13 + 1 = 14 := ⟨by decide +kernel, rfl⟩
theorem aX12_endsPlan_14 : decode mX12_endsPlan.2.1 14 = .ok (.iload_n 2, 1) ∧ 14 + 1 = 15 := ⟨by decide +kernel, rfl⟩
theorem aX12_endsPlan_15 : decode mX12_endsPlan.2.1 15 = .ok (.putfield 265, 3) ∧ 15 + 3 = 18 := ⟨by decide +kernel, rfl⟩
theorem aX12_endsPlan_18 : decode mX12_endsPlan.2.1 18 = .ok (.iconst 0, 1) ∧ 18 + 1 = 19 := ⟨by decide +kernel, rfl⟩
theorem aX12_endsPlan_19 : decode mX12_endsPlan.2.1 19 = .ok (.istore 5, 2) ∧ 19 + 2 = 21 := ⟨by decide +kernel, rfl⟩
theorem aX12_endsPlan_21 : decode mX12_endsPlan.2.1 21 = .ok (.iload 5, 2) ∧ 21 + 2 = 23 := ⟨by decide +kernel, rfl⟩
theorem aX12_endsPlan_23 : decode mX12_endsPlan.2.1 23 = .ok (.iload_n 1, 1) ∧ 23 + 1 = 24 := ⟨by decide +kernel, rfl⟩
theorem aX12_endsPlan_24 : decode mX12_endsPlan.2.1 24 = .ok (.if_icmp .ge 23, 3) ∧ ((24 : Nat) : Int) + 23 = ((47 : Nat) : Int) ∧ 24 + 3 = 27 := ⟨by decide +kernel, by decide, rfl⟩
theorem aX12_endsPlan_27 : decode mX12_endsPlan.2.1 27 = .ok (.aload_n 0, 1) ∧ 27 + 1 = 28 := ⟨by decide +kernel, rfl⟩
theorem aX12_endsPlan_28 : decode mX12_endsPlan.2.1 28 = .ok (.getfield 41, 3) ∧ 28 + 3 = 31 := ⟨by decide +kernel, rfl⟩
theorem aX12_endsPlan_31 : decode mX12_endsPlan.2.1 31 = .ok (.iload 5, 2) ∧ 31 + 2 = 33 := ⟨by decide +kernel, rfl⟩
theorem aX12_endsPlan_33 : decode mX12_endsPlan.2.1 33 = .ok (.aload_n 0, 1) ∧ 33 + 1 = 34 := ⟨by decide +kernel, rfl⟩
theorem aX12_endsPlan_34 : decode mX12_endsPlan.2.1 34 = .ok (.getfield 38, 3) ∧ 34 + 3 = 37 := ⟨by decide +kernel, rfl⟩
theorem aX12_endsPlan_37 : decode mX12_endsPlan.2.1 37 = .ok (.iload 5, 2) ∧ 37 + 2 = 39 := ⟨by decide +kernel, rfl⟩
theorem aX12_endsPlan_39 : decode mX12_endsPlan.2.1 39 = .ok (.iaload, 1) ∧ 39 + 1 = 40 := ⟨by decide +kernel, rfl⟩
theorem aX12_endsPlan_40 : decode mX12_endsPlan.2.1 40 = .ok (.iastore, 1) ∧ 40 + 1 = 41 := ⟨by decide +kernel, rfl⟩
theorem aX12_endsPlan_41 : decode mX12_endsPlan.2.1 41 = .ok (.iinc 5 1, 3) ∧ 41 + 3 = 44 := ⟨by decide +kernel, rfl⟩
theorem aX12_endsPlan_44 : decode mX12_endsPlan.2.1 44 = .ok (.goto (-23), 3) ∧ ((44 : Nat) : Int) + (-23) = ((21 : Nat) : Int) := ⟨by decide +kernel, by decide⟩
theorem aX12_endsPlan_47 : decode mX12_endsPlan.2.1 47 = .ok (.aload_n 0, 1) ∧ 47 + 1 = 48 := ⟨by decide +kernel, rfl⟩
theorem aX12_endsPlan_48 : decode mX12_endsPlan.2.1 48 = .ok (.dup, 1) ∧ 48 + 1 = 49 := ⟨by decide +kernel, rfl⟩
theorem aX12_endsPlan_49 : decode mX12_endsPlan.2.1 49 = .ok (.getfield 268, 3) ∧ 49 + 3 = 52 := ⟨by decide +kernel, rfl⟩
theorem aX12_endsPlan_52 : decode mX12_endsPlan.2.1 52 = .ok (.iload_n 2, 1) ∧ 52 + 1 = 53 := ⟨by decide +kernel, rfl⟩
theorem aX12_endsPlan_53 : decode mX12_endsPlan.2.1 53 = .ok (.aload_n 0, 1) ∧ 53 + 1 = 54 := ⟨by decide +kernel, rfl⟩
theorem aX12_endsPlan_54 : decode mX12_endsPlan.2.1 54 = .ok (.getfield 265, 3) ∧ 54 + 3 = 57 := ⟨by decide +kernel, rfl⟩
theorem aX12_endsPlan_57 : decode mX12_endsPlan.2.1 57 = .ok (.if_icmp .ne 7, 3) ∧ ((57 : Nat) : Int) + 7 = ((64 : Nat) : Int) ∧ 57 + 3 = 60 := ⟨by decide +kernel, by decide, rfl⟩
theorem aX12_endsPlan_60 : decode mX12_endsPlan.2.1 60 = .ok (.iconst 1, 1) ∧ 60 + 1 = 61 := ⟨by decide +kernel, rfl⟩
theorem aX12_endsPlan_61 : decode mX12_endsPlan.2.1 61 = .ok (.goto 4, 3) ∧ ((61 : Nat) : Int) + 4 = ((65 : Nat) : Int) := ⟨by decide +kernel, by decide⟩
theorem aX12_endsPlan_64 : decode mX12_endsPlan.2.1 64 = .ok (.iconst 0, 1) ∧ 64 + 1 = 65 := ⟨by decide +kernel, rfl⟩
theorem aX12_endsPlan_65 : decode mX12_endsPlan.2.1 65 = .ok (.iadd, 1) ∧ 65 + 1 = 66 := ⟨by decide +kernel, rfl⟩
theorem aX12_endsPlan_66 : decode mX12_endsPlan.2.1 66 = .ok (.putfield 268, 3) ∧ 66 + 3 = 69 := ⟨by decide +kernel, rfl⟩
theorem aX12_endsPlan_69 : decode mX12_endsPlan.2.1 69 = .ok (.aload_n 0, 1) ∧ 69 + 1 = 70 := ⟨by decide +kernel, rfl⟩
theorem aX12_endsPlan_70 : decode mX12_endsPlan.2.1 70 = .ok (.iconst 4, 1) ∧ 70 + 1 = 71 := ⟨by decide +kernel, rfl⟩
theorem aX12_endsPlan_71 : decode mX12_endsPlan.2.1 71 = .ok (.invokevirtual 231, 3) ∧ 71 + 3 = 74 := ⟨by decide +kernel, rfl⟩
theorem aX12_endsPlan_74 : decode mX12_endsPlan.2.1 74 = .ok (.istore 5, 2) ∧ 74 + 2 = 76 := ⟨by decide +kernel, rfl⟩
theorem aX12_endsPlan_76 : decode mX12_endsPlan.2.1 76 = .ok (.aload_n 0, 1) ∧ 76 + 1 = 77 := ⟨by decide +kernel, rfl⟩
theorem aX12_endsPlan_77 : decode mX12_endsPlan.2.1 77 = .ok (.iload 4, 2) ∧ 77 + 2 = 79 := ⟨by decide +kernel, rfl⟩
theorem aX12_endsPlan_79 : decode mX12_endsPlan.2.1 79 = .ok (.iload 5, 2) ∧ 79 + 2 = 81 := ⟨by decide +kernel, rfl⟩
theorem aX12_endsPlan_81 : decode mX12_endsPlan.2.1 81 = .ok (.iconst (-1), 1) ∧ 81 + 1 = 82 := ⟨by decide +kernel, rfl⟩
theorem aX12_endsPlan_82 : decode mX12_endsPlan.2.1 82 = .ok (.ixor, 1) ∧ 82 + 1 = 83 := ⟨by decide +kernel, rfl⟩
theorem aX12_endsPlan_83 : decode mX12_endsPlan.2.1 83 = .ok (.iand, 1) ∧ 83 + 1 = 84 := ⟨by decide +kernel, rfl⟩
theorem aX12_endsPlan_84 : decode mX12_endsPlan.2.1 84 = .ok (.ifCond .ne 15, 3) ∧ ((84 : Nat) : Int) + 15 = ((99 : Nat) : Int) ∧ 84 + 3 = 87 := ⟨by decide +kernel, by decide, rfl⟩
theorem aX12_endsPlan_87 : decode mX12_endsPlan.2.1 87 = .ok (.iload_n 3, 1) ∧ 87 + 1 = 88 := ⟨by decide +kernel, rfl⟩
theorem aX12_endsPlan_88 : decode mX12_endsPlan.2.1 88 = .ok (.aload_n 0, 1) ∧ 88 + 1 = 89 := ⟨by decide +kernel, rfl⟩
theorem aX12_endsPlan_89 : decode mX12_endsPlan.2.1 89 = .ok (.getfield 271, 3) ∧ 89 + 3 = 92 := ⟨by decide +kernel, rfl⟩
theorem aX12_endsPlan_92 : decode mX12_endsPlan.2.1 92 = .ok (.if_icmp .ge 7, 3) ∧ ((92 : Nat) : Int) + 7 = ((99 : Nat) : Int) ∧ 92 + 3 = 95 := ⟨by decide +kernel, by decide, rfl⟩
theorem aX12_endsPlan_95 : decode mX12_endsPlan.2.1 95 = .ok (.iload_n 3, 1) ∧ 95 + 1 = 96 := ⟨by decide +kernel, rfl⟩
theorem aX12_endsPlan_96 : decode mX12_endsPlan.2.1 96 = .ok (.goto 7, 3) ∧ ((96 : Nat) : Int) + 7 = ((103 : Nat) : Int) := ⟨by decide +kernel, by decide⟩
theorem aX12_endsPlan_99 : decode mX12_endsPlan.2.1 99 = .ok (.aload_n 0, 1) ∧ 99 + 1 = 100 := ⟨by decide +kernel, rfl⟩
theorem aX12_endsPlan_100 : decode mX12_endsPlan.2.1 100 = .ok (.getfield 271, 3) ∧ 100 + 3 = 103 := ⟨by decide +kernel, rfl⟩
theorem aX12_endsPlan_103 : decode mX12_endsPlan.2.1 103 = .ok (.putfield 271, 3) ∧ 103 + 3 = 106 := ⟨by decide +kernel, rfl⟩
theorem aX12_endsPlan_106 : decode mX12_endsPlan.2.1 106 = .ok (.aload_n 0, 1) ∧ 106 + 1 = 107 := ⟨by decide +kernel, rfl⟩
theorem aX12_endsPlan_107 : decode mX12_endsPlan.2.1 107 = .ok (.dup, 1) ∧ 107 + 1 = 108 := ⟨by decide +kernel, rfl⟩
theorem aX12_endsPlan_108 : decode mX12_endsPlan.2.1 108 = .ok (.getfield 274, 3) ∧ 108 + 3 = 111 := ⟨by decide +kernel, rfl⟩
theorem aX12_endsPlan_111 : decode mX12_endsPlan.2.1 111 = .ok (.iload 5, 2) ∧ 111 + 2 = 113 := ⟨by decide +kernel, rfl⟩
theorem aX12_endsPlan_113 : decode mX12_endsPlan.2.1 113 = .ok (.ior, 1) ∧ 113 + 1 = 114 := ⟨by decide +kernel, rfl⟩
theorem aX12_endsPlan_114 : decode mX12_endsPlan.2.1 114 = .ok (.putfield 274, 3) ∧ 114 + 3 = 117 := ⟨by decide +kernel, rfl⟩
theorem aX12_endsPlan_117 : decode mX12_endsPlan.2.1 117 = .ok (.return_, 1) := by decide +kernel
theorem S_X12_endsPlan {E : EE} {d : Nat} {I : IH} {Q : QT} (x1 : Int32) (x2 : Int32) (x3 : Int32) (x4 : Int32) (h :
((x2 ≤ (I 115 21) → J E (d + 1) mX12_endsPlan 47 [(0, .ref (eb E + 115)), (2, .int x2), (3, .int x3), (4, .int x4)] [] I Q) ∧
 (¬ x2 ≤ (I 115 21) → (∀ I1 : IH, I1 = stI I 115 22 (nI 0) →
 (∀ I3 : IH, I3 = stI I1 115 21 x2 →
 J E (d + 1) mX12_endsPlan 21 [(0, .ref (eb E + 115)), (1, .int x1), (2, .int x2), (3, .int x3), (4, .int x4), (5, .int (nI 0))] [] I3 Q))))) : Mt E (d + 1) mX12_endsPlan [.ref (eb E + 115), .int x1, .int x2, .int x3, .int x4] I Q := by
  refine Mt_of [(0, .ref (eb E + 115)), (1, .int x1), (2, .int x2), (3, .int x3), (4, .int x4)] (by decide +kernel) (by simp [lg_sl, Value.category, mX12_endsPlan]) rfl ?_
  refine J_iload_n 2 aX12_endsPlan_0 rfl ?_
  refine J_aload_n 0 aX12_endsPlan_1 rfl ?_
  refine J_getI aX12_endsPlan_2 flX12_265 sh115 rfl ?_
  refine J_icmp_le aX12_endsPlan_5 (fun q => ?_) (fun q => ?_)
  · replace h := h.1 q
    refine J_pick [0, 2, 3, 4] rfl ?_
    exact h
  · replace h := h.2 q
    refine J_aload_n 0 aX12_endsPlan_8 rfl ?_
    refine J_iconst (nI 0) aX12_endsPlan_9 (by decide +kernel) ?_
    refine J_putI aX12_endsPlan_10 fpX12_268 sh115 rfl (fun I1 e2 => ?_)
    replace h := h I1 e2
    refine J_aload_n 0 aX12_endsPlan_13 rfl ?_
    refine J_iload_n 2 aX12_endsPlan_14 rfl ?_
    refine J_putI aX12_endsPlan_15 fpX12_265 sh115 rfl (fun I3 e4 => ?_)
    replace h := h I3 e4
    refine J_iconst (nI 0) aX12_endsPlan_18 (by decide +kernel) ?_
    refine J_istore [(5, .int (nI 0)), (0, .ref (eb E + 115)), (1, .int x1), (2, .int x2), (3, .int x3), (4, .int x4)] aX12_endsPlan_19 (by decide) rfl ?_
    refine J_pick [1, 2, 3, 4, 5, 0] rfl ?_
    exact h
theorem S_X12_endsPlan_47 {E : EE} {d : Nat} {I : IH} {Q : QT} (x2 : Int32) (x3 : Int32) (x4 : Int32) (h :
((¬ x2 = (I 115 21) → J E (d + 1) mX12_endsPlan 65 [(0, .ref (eb E + 115)), (3, .int x3), (4, .int x4)] [.int (nI 0), .int (I 115 22), .ref (eb E + 115)] I Q) ∧
 (x2 = (I 115 21) → J E (d + 1) mX12_endsPlan 65 [(0, .ref (eb E + 115)), (3, .int x3), (4, .int x4)] [.int (nI 1), .int (I 115 22), .ref (eb E + 115)] I Q))) : J E (d + 1) mX12_endsPlan 47 [(0, .ref (eb E + 115)), (2, .int x2), (3, .int x3), (4, .int x4)] [] I Q := by
  refine J_aload_n 0 aX12_endsPlan_47 rfl ?_
  refine J_dup aX12_endsPlan_48 rfl ?_
  refine J_getI aX12_endsPlan_49 flX12_268 sh115 rfl ?_
  refine J_iload_n 1 aX12_endsPlan_52 rfl ?_
  refine J_aload_n 0 aX12_endsPlan_53 rfl ?_
  refine J_getI aX12_endsPlan_54 flX12_265 sh115 rfl ?_
  refine J_icmp_ne aX12_endsPlan_57 (fun q => ?_) (fun q => ?_)
  · replace h := h.1 q
    refine J_iconst (nI 0) aX12_endsPlan_64 (by decide +kernel) ?_
    refine J_pick [0, 2, 3] rfl ?_
    exact h
  · replace h := h.2 q
    refine J_iconst (nI 1) aX12_endsPlan_60 (by decide +kernel) ?_
    refine J_goto aX12_endsPlan_61 ?_
    refine J_pick [0, 2, 3] rfl ?_
    exact h
theorem S_X12_endsPlan_21 {E : EE} {d : Nat} {I : IH} {Q : QT} (x1 : Int32) (x2 : Int32) (x3 : Int32) (x4 : Int32) (x5 : Int32) (h :
((x1 ≤ x5 → J E (d + 1) mX12_endsPlan 47 [(0, .ref (eb E + 115)), (2, .int x2), (3, .int x3), (4, .int x4)] [] I Q) ∧
 (¬ x1 ≤ x5 → (∃ j1 : Nat, x5 = nI j1 ∧ j1 < 4 ∧ (∃ j6 : Nat, x5 = nI j6 ∧ j6 < 4 ∧ (∀ I4 : IH, I4 = stI I 126 j6 (I 125 j1) →
 J E (d + 1) mX12_endsPlan 21 [(0, .ref (eb E + 115)), (1, .int x1), (2, .int x2), (3, .int x3), (4, .int x4), (5, .int (x5 + nI 1))] [] I4 Q)))))) : J E (d + 1) mX12_endsPlan 21 [(0, .ref (eb E + 115)), (1, .int x1), (2, .int x2), (3, .int x3), (4, .int x4), (5, .int x5)] [] I Q := by
  refine J_iload 5 aX12_endsPlan_21 rfl ?_
  refine J_iload_n 1 aX12_endsPlan_23 rfl ?_
  refine J_icmp_ge aX12_endsPlan_24 (fun q => ?_) (fun q => ?_)
  · replace h := h.1 q
    refine J_pick [0, 2, 3, 4] rfl ?_
    exact h
  · replace h := h.2 q
    refine J_aload_n 0 aX12_endsPlan_27 rfl ?_
    refine J_getR aX12_endsPlan_28 flX12_41 sh115 rfl ?_
    refine J_iload 5 aX12_endsPlan_31 rfl ?_
    refine J_aload_n 0 aX12_endsPlan_33 rfl ?_
    refine J_getR aX12_endsPlan_34 flX12_38 sh115 rfl ?_
    refine J_iload 5 aX12_endsPlan_37 rfl ?_
    obtain ⟨j1, e2, b3, h⟩ := h
    refine J_iaload j1 aX12_endsPlan_39 sh125 e2 b3 (by decide) ?_
    obtain ⟨j6, e7, b8, h⟩ := h
    refine J_iastore j6 aX12_endsPlan_40 sh126 e7 b8 (by decide) (fun I4 e5 => ?_)
    replace h := h I4 e5
    refine J_iinc (x5 + nI 1) [(5, .int (x5 + nI 1)), (0, .ref (eb E + 115)), (1, .int x1), (2, .int x2), (3, .int x3), (4, .int x4)] 5 aX12_endsPlan_41 rfl (by first | rfl | (congr 1; decide +kernel)) (by decide) rfl ?_
    refine J_goto aX12_endsPlan_44 ?_
    refine J_pick [1, 2, 3, 4, 5, 0] rfl ?_
    exact h
theorem S_X12_endsPlan_65 {E : EE} {d : Nat} {I : IH} {Q : QT} (x3 : Int32) (x4 : Int32) (t0 : Int32) (t1 : Int32) (h :
(∀ I1 : IH, I1 = stI I 115 22 (t1 + t0) →
 (Mt E d mX12_those [.ref (eb E + 115), .int (nI 4)] I1 (fun rv I3 => ∃ v4 : Int32, rv = some (.int v4) ∧
 ((¬ (x4 &&& (v4 ^^^ (-1))) = 0 → (∀ I5 : IH, I5 = stI I3 115 23 (I3 115 23) →
 (∀ I7 : IH, I7 = stI I5 115 24 ((I5 115 24) ||| v4) →
 Q none I7))) ∧
 ((x4 &&& (v4 ^^^ (-1))) = 0 → (((I3 115 23) ≤ x3 → (∀ I9 : IH, I9 = stI I3 115 23 (I3 115 23) →
 (∀ I11 : IH, I11 = stI I9 115 24 ((I9 115 24) ||| v4) →
 Q none I11))) ∧
 (¬ (I3 115 23) ≤ x3 → (∀ I13 : IH, I13 = stI I3 115 23 x3 →
 (∀ I15 : IH, I15 = stI I13 115 24 ((I13 115 24) ||| v4) →
 Q none I15)))))))))) : J E (d + 1) mX12_endsPlan 65 [(0, .ref (eb E + 115)), (3, .int x3), (4, .int x4)] [.int t0, .int t1, .ref (eb E + 115)] I Q := by
  refine J_iadd aX12_endsPlan_65 ?_
  refine J_putI aX12_endsPlan_66 fpX12_268 sh115 rfl (fun I1 e2 => ?_)
  replace h := h I1 e2
  refine J_aload_n 0 aX12_endsPlan_69 rfl ?_
  refine J_iconst (nI 4) aX12_endsPlan_70 (by decide +kernel) ?_
  refine J_callV [.int (nI 4)] [] aX12_endsPlan_71 lkX12_231_X12 okX12_those sh115 rfl rfl rfl (Nat.le_of_ble_eq_true rfl) (Nat.le_refl _) (Mt_mono h (fun rv I3 h => ?_))
  obtain ⟨v4, rfl, h⟩ := h
  refine J_r1 ?_
  refine J_istore [(5, .int v4), (0, .ref (eb E + 115)), (3, .int x3), (4, .int x4)] aX12_endsPlan_74 (by decide) rfl ?_
  refine J_aload_n 1 aX12_endsPlan_76 rfl ?_
  refine J_iload 3 aX12_endsPlan_77 rfl ?_
  refine J_iload 0 aX12_endsPlan_79 rfl ?_
  refine J_iconst (-1) aX12_endsPlan_81 (by decide +kernel) ?_
  refine J_ixor aX12_endsPlan_82 ?_
  refine J_iand aX12_endsPlan_83 ?_
  refine J_if_ne aX12_endsPlan_84 (fun q => ?_) (fun q => ?_)
  · replace h := h.1 q
    refine J_aload_n 1 aX12_endsPlan_99 rfl ?_
    refine J_getI aX12_endsPlan_100 flX12_271 sh115 rfl ?_
    refine J_putI aX12_endsPlan_103 fpX12_271 sh115 rfl (fun I5 e6 => ?_)
    replace h := h I5 e6
    refine J_aload_n 1 aX12_endsPlan_106 rfl ?_
    refine J_dup aX12_endsPlan_107 rfl ?_
    refine J_getI aX12_endsPlan_108 flX12_274 sh115 rfl ?_
    refine J_iload 0 aX12_endsPlan_111 rfl ?_
    refine J_ior aX12_endsPlan_113 ?_
    refine J_putI aX12_endsPlan_114 fpX12_274 sh115 rfl (fun I7 e8 => ?_)
    replace h := h I7 e8
    exact J_vret aX12_endsPlan_117 rfl h
  · replace h := h.2 q
    refine J_iload_n 2 aX12_endsPlan_87 rfl ?_
    refine J_aload_n 1 aX12_endsPlan_88 rfl ?_
    refine J_getI aX12_endsPlan_89 flX12_271 sh115 rfl ?_
    refine J_icmp_ge aX12_endsPlan_92 (fun q => ?_) (fun q => ?_)
    · replace h := h.1 q
      refine J_aload_n 1 aX12_endsPlan_99 rfl ?_
      refine J_getI aX12_endsPlan_100 flX12_271 sh115 rfl ?_
      refine J_putI aX12_endsPlan_103 fpX12_271 sh115 rfl (fun I9 e10 => ?_)
      replace h := h I9 e10
      refine J_aload_n 1 aX12_endsPlan_106 rfl ?_
      refine J_dup aX12_endsPlan_107 rfl ?_
      refine J_getI aX12_endsPlan_108 flX12_274 sh115 rfl ?_
      refine J_iload 0 aX12_endsPlan_111 rfl ?_
      refine J_ior aX12_endsPlan_113 ?_
      refine J_putI aX12_endsPlan_114 fpX12_274 sh115 rfl (fun I11 e12 => ?_)
      replace h := h I11 e12
      exact J_vret aX12_endsPlan_117 rfl h
    · replace h := h.2 q
      refine J_iload_n 2 aX12_endsPlan_95 rfl ?_
      refine J_goto aX12_endsPlan_96 ?_
      refine J_putI aX12_endsPlan_103 fpX12_271 sh115 rfl (fun I13 e14 => ?_)
      replace h := h I13 e14
      refine J_aload_n 1 aX12_endsPlan_106 rfl ?_
      refine J_dup aX12_endsPlan_107 rfl ?_
      refine J_getI aX12_endsPlan_108 flX12_274 sh115 rfl ?_
      refine J_iload 0 aX12_endsPlan_111 rfl ?_
      refine J_ior aX12_endsPlan_113 ?_
      refine J_putI aX12_endsPlan_114 fpX12_274 sh115 rfl (fun I15 e16 => ?_)
      replace h := h I15 e16
      exact J_vret aX12_endsPlan_117 rfl h
