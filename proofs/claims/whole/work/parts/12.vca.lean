theorem aX9_readOne_0 : decode mX9_readOne.2.1 0 = .ok (.iconst 0, 1) ∧ 0 + 1 = 1 := ⟨by decide +kernel, rfl⟩
theorem aX9_readOne_1 : decode mX9_readOne.2.1 1 = .ok (.istore_n 3, 1) ∧ 1 + 1 = 2 := ⟨by decide +kernel, rfl⟩
theorem aX9_readOne_2 : decode mX9_readOne.2.1 2 = .ok (.iconst 0, 1) ∧ 2 + 1 = 3 := ⟨by decide +kernel, rfl⟩
theorem aX9_readOne_3 : decode mX9_readOne.2.1 3 = .ok (.istore 4, 2) ∧ 3 + 2 = 5 := ⟨by decide +kernel, rfl⟩
theorem aX9_readOne_5 : decode mX9_readOne.2.1 5 = .ok (.iload 4, 2) ∧ 5 + 2 = 7 := ⟨by decide +kernel, rfl⟩
theorem aX9_readOne_7 : decode mX9_readOne.2.1 7 = .ok (.sipush 200, 3) ∧ 7 + 3 = 10 := ⟨by decide +kernel, rfl⟩
theorem aX9_readOne_10 : decode mX9_readOne.2.1 10 = .ok (.if_icmp .ge 28, 3) ∧ ((10 : Nat) : Int) + 28 = ((38 : Nat) : Int) ∧ 10 + 3 = 13 := ⟨by decide +kernel, by decide, rfl⟩
theorem aX9_readOne_13 : decode mX9_readOne.2.1 13 = .ok (.aload_n 0, 1) ∧ 13 + 1 = 14 := ⟨by decide +kernel, rfl⟩
theorem aX9_readOne_14 : decode mX9_readOne.2.1 14 = .ok (.bipush 12, 2) ∧ 14 + 2 = 16 := ⟨by decide +kernel, rfl⟩
theorem aX9_readOne_16 : decode mX9_readOne.2.1 16 = .ok (.invokevirtual 84, 3) ∧ 16 + 3 = 19 := ⟨by decide +kernel, rfl⟩
theorem aX9_readOne_19 : decode mX9_readOne.2.1 19 = .ok (.ifCond .eq 19, 3) ∧ ((19 : Nat) : Int) + 19 = ((38 : Nat) : Int) ∧ 19 + 3 = 22 := ⟨by decide +kernel, by decide, rfl⟩
theorem aX9_readOne_22 : decode mX9_readOne.2.1 22 = .ok (.iload_n 3, 1) ∧ 22 + 1 = 23 := ⟨by decide +kernel, rfl⟩
theorem aX9_readOne_23 : decode mX9_readOne.2.1 23 = .ok (.ifCond .ne 7, 3) ∧ ((23 : Nat) : Int) + 7 = ((30 : Nat) : Int) ∧ 23 + 3 = 26 := ⟨by decide +kernel, by decide, rfl⟩
theorem aX9_readOne_26 : decode mX9_readOne.2.1 26 = .ok (.iconst 1, 1) ∧ 26 + 1 = 27 := ⟨by decide +kernel, rfl⟩
theorem aX9_readOne_27 : decode mX9_readOne.2.1 27 = .ok (.goto 4, 3) ∧ ((27 : Nat) : Int) + 4 = ((31 : Nat) : Int) := ⟨by decide +kernel, by decide⟩
theorem aX9_readOne_30 : decode mX9_readOne.2.1 30 = .ok (.iconst 0, 1) ∧ 30 + 1 = 31 := ⟨by decide +kernel, rfl⟩
theorem aX9_readOne_31 : decode mX9_readOne.2.1 31 = .ok (.istore_n 3, 1) ∧ 31 + 1 = 32 := ⟨by decide +kernel, rfl⟩
theorem aX9_readOne_32 : decode mX9_readOne.2.1 32 = .ok (.iinc 4 1, 3) ∧ 32 + 3 = 35 := ⟨by decide +kernel, rfl⟩
theorem aX9_readOne_35 : decode mX9_readOne.2.1 35 = .ok (.goto (-30), 3) ∧ ((35 : Nat) : Int) + (-30) = ((5 : Nat) : Int) := ⟨by decide +kernel, by decide⟩
theorem aX9_readOne_38 : decode mX9_readOne.2.1 38 = .ok (.iload_n 2, 1) ∧ 38 + 1 = 39 := ⟨by decide +kernel, rfl⟩
theorem aX9_readOne_39 : decode mX9_readOne.2.1 39 = .ok (.iconst 3, 1) ∧ 39 + 1 = 40 := ⟨by decide +kernel, rfl⟩
theorem aX9_readOne_40 : decode mX9_readOne.2.1 40 = .ok (.if_icmp .ge 32, 3) ∧ ((40 : Nat) : Int) + 32 = ((72 : Nat) : Int) ∧ 40 + 3 = 43 := ⟨by decide +kernel, by decide, rfl⟩
theorem aX9_readOne_43 : decode mX9_readOne.2.1 43 = .ok (.aload_n 0, 1) ∧ 43 + 1 = 44 := ⟨by decide +kernel, rfl⟩
theorem aX9_readOne_44 : decode mX9_readOne.2.1 44 = .ok (.bipush 40, 2) ∧ 44 + 2 = 46 := ⟨by decide +kernel, rfl⟩
theorem aX9_readOne_46 : decode mX9_readOne.2.1 46 = .ok (.invokevirtual 84, 3) ∧ 46 + 3 = 49 := ⟨by decide +kernel, rfl⟩
theorem aX9_readOne_49 : decode mX9_readOne.2.1 49 = .ok (.ifCond .eq 23, 3) ∧ ((49 : Nat) : Int) + 23 = ((72 : Nat) : Int) ∧ 49 + 3 = 52 := ⟨by decide +kernel, by decide, rfl⟩
theorem aX9_readOne_52 : decode mX9_readOne.2.1 52 = .ok (.aload_n 0, 1) ∧ 52 + 1 = 53 := ⟨by decide +kernel, rfl⟩
theorem aX9_readOne_53 : decode mX9_readOne.2.1 53 = .ok (.aload_n 1, 1) ∧ 53 + 1 = 54 := ⟨by decide +kernel, rfl⟩
theorem aX9_readOne_54 : decode mX9_readOne.2.1 54 = .ok (.iload_n 2, 1) ∧ 54 + 1 = 55 := ⟨by decide +kernel, rfl⟩
theorem aX9_readOne_55 : decode mX9_readOne.2.1 55 = .ok (.iconst 1, 1) ∧ 55 + 1 = 56 := ⟨by decide +kernel, rfl⟩
theorem aX9_readOne_56 : decode mX9_readOne.2.1 56 = .ok (.iadd, 1) ∧ 56 + 1 = 57 := ⟨by decide +kernel, rfl⟩
theorem aX9_readOne_57 : decode mX9_readOne.2.1 57 = .ok (.invokevirtual 88, 3) ∧ 57 + 3 = 60 := ⟨by decide +kernel, rfl⟩
theorem aX9_readOne_60 : decode mX9_readOne.2.1 60 = .ok (.aload_n 0, 1) ∧ 60 + 1 = 61 := ⟨by decide +kernel, rfl⟩
theorem aX9_readOne_61 : decode mX9_readOne.2.1 61 = .ok (.bipush 41, 2) ∧ 61 + 2 = 63 := ⟨by decide +kernel, rfl⟩
theorem aX9_readOne_63 : decode mX9_readOne.2.1 63 = .ok (.bipush 41, 2) ∧ 63 + 2 = 65 := ⟨by decide +kernel, rfl⟩
theorem aX9_readOne_65 : decode mX9_readOne.2.1 65 = .ok (.invokevirtual 81, 3) ∧ 65 + 3 = 68 := ⟨by decide +kernel, rfl⟩
theorem aX9_readOne_68 : decode mX9_readOne.2.1 68 = .ok (.pop, 1) ∧ 68 + 1 = 69 := ⟨by decide +kernel, rfl⟩
theorem aX9_readOne_69 : decode mX9_readOne.2.1 69 = .ok (.goto 8, 3) ∧ ((69 : Nat) : Int) + 8 = ((77 : Nat) : Int) := ⟨by decide +kernel, by decide⟩
theorem aX9_readOne_72 : decode mX9_readOne.2.1 72 = .ok (.aload_n 0, 1) ∧ 72 + 1 = 73 := ⟨by decide +kernel, rfl⟩
theorem aX9_readOne_73 : decode mX9_readOne.2.1 73 = .ok (.aload_n 1, 1) ∧ 73 + 1 = 74 := ⟨by decide +kernel, rfl⟩
theorem aX9_readOne_74 : decode mX9_readOne.2.1 74 = .ok (.invokevirtual 106, 3) ∧ 74 + 3 = 77 := ⟨by decide +kernel, rfl⟩
theorem aX9_readOne_77 : decode mX9_readOne.2.1 77 = .ok (.iload_n 3, 1) ∧ 77 + 1 = 78 := ⟨by decide +kernel, rfl⟩
theorem aX9_readOne_78 : decode mX9_readOne.2.1 78 = .ok (.ifCond .eq 8, 3) ∧ ((78 : Nat) : Int) + 8 = ((86 : Nat) : Int) ∧ 78 + 3 = 81 := ⟨by decide +kernel, by decide, rfl⟩
theorem aX9_readOne_81 : decode mX9_readOne.2.1 81 = .ok (.aload_n 1, 1) ∧ 81 + 1 = 82 := ⟨by decide +kernel, rfl⟩
theorem aX9_readOne_82 : decode mX9_readOne.2.1 82 = .ok (.iconst 3, 1) ∧ 82 + 1 = 83 := ⟨by decide +kernel, rfl⟩
theorem aX9_readOne_83 : decode mX9_readOne.2.1 83 = .ok (.invokevirtual 99, 3) ∧ 83 + 3 = 86 := ⟨by decide +kernel, rfl⟩
theorem aX9_readOne_86 : decode mX9_readOne.2.1 86 = .ok (.return_, 1) := by decide +kernel
theorem S_X9_readOne {E : EE} {d : Nat} {I : IH} {Q : QT} {r1 : Nat} (hR1 : isRu r1) (x2 : Int32) (h :
J E (d + 1) mX9_readOne 5 [(0, .ref (eb E + 1)), (1, .ref (eb E + r1)), (2, .int x2), (3, .int (nI 0)), (4, .int (nI 0))] [] I Q) : Mt E (d + 1) mX9_readOne [.ref (eb E + 1), .ref (eb E + r1), .int x2] I Q := by
  refine Mt_of [(0, .ref (eb E + 1)), (1, .ref (eb E + r1)), (2, .int x2)] (by decide +kernel) (by simp [lg_sl, Value.category, mX9_readOne]) rfl ?_
  refine J_iconst (nI 0) aX9_readOne_0 (by decide +kernel) ?_
  refine J_istore_n [(3, .int (nI 0)), (0, .ref (eb E + 1)), (1, .ref (eb E + r1)), (2, .int x2)] aX9_readOne_1 (by decide) rfl ?_
  refine J_iconst (nI 0) aX9_readOne_2 (by decide +kernel) ?_
  refine J_istore [(4, .int (nI 0)), (3, .int (nI 0)), (0, .ref (eb E + 1)), (1, .ref (eb E + r1)), (2, .int x2)] aX9_readOne_3 (by decide) rfl ?_
  refine J_pick [2, 3, 4, 1, 0] rfl ?_
  exact h
theorem S_X9_readOne_5 {E : EE} {d : Nat} {I : IH} {Q : QT} {r1 : Nat} (hR1 : isRu r1) (x2 : Int32) (x3 : Int32) (x4 : Int32) (h :
(((nI 200) ≤ x4 → J E (d + 1) mX9_readOne 38 [(0, .ref (eb E + 1)), (1, .ref (eb E + r1)), (2, .int x2), (3, .int x3)] [] I Q) ∧
 (¬ (nI 200) ≤ x4 → (Mt E d mX9_passes [.ref (eb E + 1), .int (nI 12)] I (fun rv I1 => ∃ v2 : Int32, rv = some (.int v2) ∧
 ((v2 = 0 → J E (d + 1) mX9_readOne 38 [(0, .ref (eb E + 1)), (1, .ref (eb E + r1)), (2, .int x2), (3, .int x3)] [] I1 Q) ∧
 (¬ v2 = 0 → ((¬ x3 = 0 → J E (d + 1) mX9_readOne 5 [(0, .ref (eb E + 1)), (1, .ref (eb E + r1)), (2, .int x2), (3, .int (nI 0)), (4, .int (x4 + nI 1))] [] I1 Q) ∧
 (x3 = 0 → J E (d + 1) mX9_readOne 5 [(0, .ref (eb E + 1)), (1, .ref (eb E + r1)), (2, .int x2), (3, .int (nI 1)), (4, .int (x4 + nI 1))] [] I1 Q))))))))) : J E (d + 1) mX9_readOne 5 [(0, .ref (eb E + 1)), (1, .ref (eb E + r1)), (2, .int x2), (3, .int x3), (4, .int x4)] [] I Q := by
  refine J_iload 4 aX9_readOne_5 rfl ?_
  refine J_sipush (nI 200) aX9_readOne_7 (by decide +kernel) ?_
  refine J_icmp_ge aX9_readOne_10 (fun q => ?_) (fun q => ?_)
  · replace h := h.1 q
    refine J_pick [0, 1, 2, 3] rfl ?_
    exact h
  · replace h := h.2 q
    refine J_aload_n 0 aX9_readOne_13 rfl ?_
    refine J_bipush (nI 12) aX9_readOne_14 (by decide +kernel) ?_
    refine J_callV [.int (nI 12)] [] aX9_readOne_16 lkX9_84_X9 okX9_passes sh1 rfl rfl rfl (Nat.le_of_ble_eq_true rfl) (Nat.le_refl _) (Mt_mono h (fun rv I1 h => ?_))
    obtain ⟨v2, rfl, h⟩ := h
    refine J_r1 ?_
    refine J_if_eq aX9_readOne_19 (fun q => ?_) (fun q => ?_)
    · replace h := h.1 q
      refine J_pick [0, 1, 2, 3] rfl ?_
      exact h
    · replace h := h.2 q
      refine J_iload_n 3 aX9_readOne_22 rfl ?_
      refine J_if_ne aX9_readOne_23 (fun q => ?_) (fun q => ?_)
      · replace h := h.1 q
        refine J_iconst (nI 0) aX9_readOne_30 (by decide +kernel) ?_
        refine J_istore_n [(3, .int (nI 0)), (0, .ref (eb E + 1)), (1, .ref (eb E + r1)), (2, .int x2), (4, .int x4)] aX9_readOne_31 (by decide) rfl ?_
        refine J_iinc (x4 + nI 1) [(4, .int (x4 + nI 1)), (3, .int (nI 0)), (0, .ref (eb E + 1)), (1, .ref (eb E + r1)), (2, .int x2)] 4 aX9_readOne_32 rfl (by first | rfl | (congr 1; decide +kernel)) (by decide) rfl ?_
        refine J_goto aX9_readOne_35 ?_
        refine J_pick [2, 3, 4, 1, 0] rfl ?_
        exact h
      · replace h := h.2 q
        refine J_iconst (nI 1) aX9_readOne_26 (by decide +kernel) ?_
        refine J_goto aX9_readOne_27 ?_
        refine J_istore_n [(3, .int (nI 1)), (0, .ref (eb E + 1)), (1, .ref (eb E + r1)), (2, .int x2), (4, .int x4)] aX9_readOne_31 (by decide) rfl ?_
        refine J_iinc (x4 + nI 1) [(4, .int (x4 + nI 1)), (3, .int (nI 1)), (0, .ref (eb E + 1)), (1, .ref (eb E + r1)), (2, .int x2)] 4 aX9_readOne_32 rfl (by first | rfl | (congr 1; decide +kernel)) (by decide) rfl ?_
        refine J_goto aX9_readOne_35 ?_
        refine J_pick [2, 3, 4, 1, 0] rfl ?_
        exact h
theorem S_X9_readOne_38 {E : EE} {d : Nat} {I : IH} {Q : QT} {r1 : Nat} (hR1 : isRu r1) (x2 : Int32) (x3 : Int32) (h :
(((nI 3) ≤ x2 → J E (d + 1) mX9_readOne 72 [(0, .ref (eb E + 1)), (1, .ref (eb E + r1)), (3, .int x3)] [] I Q) ∧
 (¬ (nI 3) ≤ x2 → (Mt E d mX9_passes [.ref (eb E + 1), .int (nI 40)] I (fun rv I1 => ∃ v2 : Int32, rv = some (.int v2) ∧
 ((v2 = 0 → J E (d + 1) mX9_readOne 72 [(0, .ref (eb E + 1)), (1, .ref (eb E + r1)), (3, .int x3)] [] I1 Q) ∧
 (¬ v2 = 0 → (Mt E d mX9_readCondition [.ref (eb E + 1), .ref (eb E + r1), .int (x2 + (nI 1))] I1 (fun rv I3 => rv = none ∧
 (Mt E d mX9_expect [.ref (eb E + 1), .int (nI 41), .int (nI 41)] I3 (fun rv I4 => ∃ v5 : Int32, rv = some (.int v5) ∧
 J E (d + 1) mX9_readOne 77 [(1, .ref (eb E + r1)), (3, .int x3)] [] I4 Q))))))))))) : J E (d + 1) mX9_readOne 38 [(0, .ref (eb E + 1)), (1, .ref (eb E + r1)), (2, .int x2), (3, .int x3)] [] I Q := by
  refine J_iload_n 2 aX9_readOne_38 rfl ?_
  refine J_iconst (nI 3) aX9_readOne_39 (by decide +kernel) ?_
  refine J_icmp_ge aX9_readOne_40 (fun q => ?_) (fun q => ?_)
  · replace h := h.1 q
    refine J_pick [0, 1, 3] rfl ?_
    exact h
  · replace h := h.2 q
    refine J_aload_n 0 aX9_readOne_43 rfl ?_
    refine J_bipush (nI 40) aX9_readOne_44 (by decide +kernel) ?_
    refine J_callV [.int (nI 40)] [] aX9_readOne_46 lkX9_84_X9 okX9_passes sh1 rfl rfl rfl (Nat.le_of_ble_eq_true rfl) (Nat.le_refl _) (Mt_mono h (fun rv I1 h => ?_))
    obtain ⟨v2, rfl, h⟩ := h
    refine J_r1 ?_
    refine J_if_eq aX9_readOne_49 (fun q => ?_) (fun q => ?_)
    · replace h := h.1 q
      refine J_pick [0, 1, 3] rfl ?_
      exact h
    · replace h := h.2 q
      refine J_aload_n 0 aX9_readOne_52 rfl ?_
      refine J_aload_n 1 aX9_readOne_53 rfl ?_
      refine J_iload_n 2 aX9_readOne_54 rfl ?_
      refine J_iconst (nI 1) aX9_readOne_55 (by decide +kernel) ?_
      refine J_iadd aX9_readOne_56 ?_
      refine J_callV [.ref (eb E + r1), .int (x2 + (nI 1))] [] aX9_readOne_57 lkX9_88_X9 okX9_readCondition sh1 rfl rfl rfl (Nat.le_of_ble_eq_true rfl) (Nat.le_refl _) (Mt_mono h (fun rv I3 h => ?_))
      obtain ⟨rfl, h⟩ := h
      refine J_r0 ?_
      refine J_aload_n 0 aX9_readOne_60 rfl ?_
      refine J_bipush (nI 41) aX9_readOne_61 (by decide +kernel) ?_
      refine J_bipush (nI 41) aX9_readOne_63 (by decide +kernel) ?_
      refine J_callV [.int (nI 41), .int (nI 41)] [] aX9_readOne_65 lkX9_81_X9 okX9_expect sh1 rfl rfl rfl (Nat.le_of_ble_eq_true rfl) (Nat.le_refl _) (Mt_mono h (fun rv I4 h => ?_))
      obtain ⟨v5, rfl, h⟩ := h
      refine J_r1 ?_
      refine J_pop aX9_readOne_68 rfl ?_
      refine J_goto aX9_readOne_69 ?_
      refine J_pick [1, 3] rfl ?_
      exact h
theorem S_X9_readOne_72 {E : EE} {d : Nat} {I : IH} {Q : QT} {r1 : Nat} (hR1 : isRu r1) (x3 : Int32) (h :
(Mt E d mX9_readComparison [.ref (eb E + 1), .ref (eb E + r1)] I (fun rv I1 => rv = none ∧
 J E (d + 1) mX9_readOne 77 [(1, .ref (eb E + r1)), (3, .int x3)] [] I1 Q))) : J E (d + 1) mX9_readOne 72 [(0, .ref (eb E + 1)), (1, .ref (eb E + r1)), (3, .int x3)] [] I Q := by
  refine J_aload_n 0 aX9_readOne_72 rfl ?_
  refine J_aload_n 1 aX9_readOne_73 rfl ?_
  refine J_callV [.ref (eb E + r1)] [] aX9_readOne_74 lkX9_106_X9 okX9_readComparison sh1 rfl rfl rfl (Nat.le_of_ble_eq_true rfl) (Nat.le_refl _) (Mt_mono h (fun rv I1 h => ?_))
  obtain ⟨rfl, h⟩ := h
  refine J_r0 ?_
  refine J_pick [1, 2] rfl ?_
  exact h
theorem S_X9_readOne_77 {E : EE} {d : Nat} {I : IH} {Q : QT} {r1 : Nat} (hR1 : isRu r1) (x3 : Int32) (h :
((x3 = 0 → Q none I) ∧
 (¬ x3 = 0 → (Mt E d mX6_emit [.ref (eb E + r1), .int (nI 3)] I (fun rv I1 => rv = none ∧
 Q none I1))))) : J E (d + 1) mX9_readOne 77 [(1, .ref (eb E + r1)), (3, .int x3)] [] I Q := by
  refine J_iload_n 1 aX9_readOne_77 rfl ?_
  refine J_if_eq aX9_readOne_78 (fun q => ?_) (fun q => ?_)
  · replace h := h.1 q
    exact J_vret aX9_readOne_86 rfl h
  · replace h := h.2 q
    refine J_aload_n 0 aX9_readOne_81 rfl ?_
    refine J_iconst (nI 3) aX9_readOne_82 (by decide +kernel) ?_
    refine J_callV [.int (nI 3)] [] aX9_readOne_83 lkX9_99_X6 okX6_emit (shRu hR1) rfl rfl rfl (Nat.le_of_ble_eq_true rfl) (Nat.le_refl _) (Mt_mono h (fun rv I1 h => ?_))
    obtain ⟨rfl, h⟩ := h
    refine J_r0 ?_
    exact J_vret aX9_readOne_86 rfl h
theorem aX9_readComparison_0 : decode mX9_readComparison.2.1 0 = .ok (.aload_n 0, 1) ∧ 0 + 1 = 1 := ⟨by decide +kernel, rfl⟩
theorem aX9_readComparison_1 : decode mX9_readComparison.2.1 1 = .ok (.sipush 995, 3) ∧ 1 + 3 = 4 := ⟨by decide +kernel, rfl⟩
theorem aX9_readComparison_4 : decode mX9_readComparison.2.1 4 = .ok (.sipush 10999, 3) ∧ 4 + 3 = 7 := ⟨by decide +kernel, rfl⟩
theorem aX9_readComparison_7 : decode mX9_readComparison.2.1 7 = .ok (.invokevirtual 81, 3) ∧ 7 + 3 = 10 := ⟨by decide +kernel, rfl⟩
theorem aX9_readComparison_10 : decode mX9_readComparison.2.1 10 = .ok (.sipush 1000, 3) ∧ 10 + 3 = 13 := ⟨by decide +kernel, rfl⟩
theorem aX9_readComparison_13 : decode mX9_readComparison.2.1 13 = .ok (.isub, 1) ∧ 13 + 1 = 14 := ⟨by decide +kernel, rfl⟩
theorem aX9_readComparison_14 : decode mX9_readComparison.2.1 14 = .ok (.istore_n 2, 1) ∧ 14 + 1 = 15 := ⟨by decide +kernel, rfl⟩
theorem aX9_readComparison_15 : decode mX9_readComparison.2.1 15 = .ok (.aload_n 0, 1) ∧ 15 + 1 = 16 := ⟨by decide +kernel, rfl⟩
theorem aX9_readComparison_16 : decode mX9_readComparison.2.1 16 = .ok (.bipush 60, 2) ∧ 16 + 2 = 18 := ⟨by decide +kernel, rfl⟩
theorem aX9_readComparison_18 : decode mX9_readComparison.2.1 18 = .ok (.bipush 62, 2) ∧ 18 + 2 = 20 := ⟨by decide +kernel, rfl⟩
theorem aX9_readComparison_20 : decode mX9_readComparison.2.1 20 = .ok (.invokevirtual 81, 3) ∧ 20 + 3 = 23 := ⟨by decide +kernel, rfl⟩
theorem aX9_readComparison_23 : decode mX9_readComparison.2.1 23 = .ok (.bipush 60, 2) ∧ 23 + 2 = 25 := ⟨by decide +kernel, rfl⟩
theorem aX9_readComparison_25 : decode mX9_readComparison.2.1 25 = .ok (.isub, 1) ∧ 25 + 1 = 26 := ⟨by decide +kernel, rfl⟩
theorem aX9_readComparison_26 : decode mX9_readComparison.2.1 26 = .ok (.istore_n 3, 1) ∧ 26 + 1 = 27 := ⟨by decide +kernel, rfl⟩
theorem aX9_readComparison_27 : decode mX9_readComparison.2.1 27 = .ok (.aload_n 0, 1) ∧ 27 + 1 = 28 := ⟨by decide +kernel, rfl⟩
theorem aX9_readComparison_28 : decode mX9_readComparison.2.1 28 = .ok (.sipush 995, 3) ∧ 28 + 3 = 31 := ⟨by decide +kernel, rfl⟩
theorem aX9_readComparison_31 : decode mX9_readComparison.2.1 31 = .ok (.sipush 10999, 3) ∧ 31 + 3 = 34 := ⟨by decide +kernel, rfl⟩
theorem aX9_readComparison_34 : decode mX9_readComparison.2.1 34 = .ok (.invokevirtual 81, 3) ∧ 34 + 3 = 37 := ⟨by decide +kernel, rfl⟩
theorem aX9_readComparison_37 : decode mX9_readComparison.2.1 37 = .ok (.sipush 1000, 3) ∧ 37 + 3 = 40 := ⟨by decide +kernel, rfl⟩
theorem aX9_readComparison_40 : decode mX9_readComparison.2.1 40 = .ok (.isub, 1) ∧ 40 + 1 = 41 := ⟨by decide +kernel, rfl⟩
theorem aX9_readComparison_41 : decode mX9_readComparison.2.1 41 = .ok (.istore 4, 2) ∧ 41 + 2 = 43 := ⟨by decide +kernel, rfl⟩
theorem aX9_readComparison_43 : decode mX9_readComparison.2.1 43 = .ok (.aload_n 1, 1) ∧ 43 + 1 = 44 := ⟨by decide +kernel, rfl⟩
theorem aX9_readComparison_44 : decode mX9_readComparison.2.1 44 = .ok (.iload_n 3, 1) ∧ 44 + 1 = 45 := ⟨by decide +kernel, rfl⟩
theorem aX9_readComparison_45 : decode mX9_readComparison.2.1 45 = .ok (.invokevirtual 99, 3) ∧ 45 + 3 = 48 := ⟨by decide +kernel, rfl⟩
theorem aX9_readComparison_48 : decode mX9_readComparison.2.1 48 = .ok (.aload_n 1, 1) ∧ 48 + 1 = 49 := ⟨by decide +kernel, rfl⟩
theorem aX9_readComparison_49 : decode mX9_readComparison.2.1 49 = .ok (.iload_n 2, 1) ∧ 49 + 1 = 50 := ⟨by decide +kernel, rfl⟩
theorem aX9_readComparison_50 : decode mX9_readComparison.2.1 50 = .ok (.invokevirtual 99, 3) ∧ 50 + 3 = 53 := ⟨by decide +kernel, rfl⟩
theorem aX9_readComparison_53 : decode mX9_readComparison.2.1 53 = .ok (.aload_n 1, 1) ∧ 53 + 1 = 54 := ⟨by decide +kernel, rfl⟩
theorem aX9_readComparison_54 : decode mX9_readComparison.2.1 54 = .ok (.iload 4, 2) ∧ 54 + 2 = 56 := ⟨by decide +kernel, rfl⟩
theorem aX9_readComparison_56 : decode mX9_readComparison.2.1 56 = .ok (.invokevirtual 99, 3) ∧ 56 + 3 = 59 := ⟨by decide +kernel, rfl⟩
theorem aX9_readComparison_59 : decode mX9_readComparison.2.1 59 = .ok (.return_, 1) := by decide +kernel
theorem S_X9_readComparison {E : EE} {d : Nat} {I : IH} {Q : QT} {r1 : Nat} (hR1 : isRu r1) (h :
(Mt E d mX9_expect [.ref (eb E + 1), .int (nI 995), .int (nI 10999)] I (fun rv I1 => ∃ v2 : Int32, rv = some (.int v2) ∧
 (Mt E d mX9_expect [.ref (eb E + 1), .int (nI 60), .int (nI 62)] I1 (fun rv I3 => ∃ v4 : Int32, rv = some (.int v4) ∧
 (Mt E d mX9_expect [.ref (eb E + 1), .int (nI 995), .int (nI 10999)] I3 (fun rv I5 => ∃ v6 : Int32, rv = some (.int v6) ∧
 (Mt E d mX6_emit [.ref (eb E + r1), .int (v4 - (nI 60))] I5 (fun rv I7 => rv = none ∧
 (Mt E d mX6_emit [.ref (eb E + r1), .int (v2 - (nI 1000))] I7 (fun rv I8 => rv = none ∧
 (Mt E d mX6_emit [.ref (eb E + r1), .int (v6 - (nI 1000))] I8 (fun rv I9 => rv = none ∧
 Q none I9))))))))))))) : Mt E (d + 1) mX9_readComparison [.ref (eb E + 1), .ref (eb E + r1)] I Q := by
  refine Mt_of [(0, .ref (eb E + 1)), (1, .ref (eb E + r1))] (by decide +kernel) (by simp [lg_sl, Value.category, mX9_readComparison]) rfl ?_
  refine J_aload_n 0 aX9_readComparison_0 rfl ?_
  refine J_sipush (nI 995) aX9_readComparison_1 (by decide +kernel) ?_
  refine J_sipush (nI 10999) aX9_readComparison_4 (by decide +kernel) ?_
  refine J_callV [.int (nI 995), .int (nI 10999)] [] aX9_readComparison_7 lkX9_81_X9 okX9_expect sh1 rfl rfl rfl (Nat.le_of_ble_eq_true rfl) (Nat.le_refl _) (Mt_mono h (fun rv I1 h => ?_))
  obtain ⟨v2, rfl, h⟩ := h
  refine J_r1 ?_
  refine J_sipush (nI 1000) aX9_readComparison_10 (by decide +kernel) ?_
  refine J_isub aX9_readComparison_13 ?_
  refine J_istore_n [(2, .int (v2 - (nI 1000))), (0, .ref (eb E + 1)), (1, .ref (eb E + r1))] aX9_readComparison_14 (by decide) rfl ?_
  refine J_aload_n 1 aX9_readComparison_15 rfl ?_
  refine J_bipush (nI 60) aX9_readComparison_16 (by decide +kernel) ?_
  refine J_bipush (nI 62) aX9_readComparison_18 (by decide +kernel) ?_
  refine J_callV [.int (nI 60), .int (nI 62)] [] aX9_readComparison_20 lkX9_81_X9 okX9_expect sh1 rfl rfl rfl (Nat.le_of_ble_eq_true rfl) (Nat.le_refl _) (Mt_mono h (fun rv I3 h => ?_))
  obtain ⟨v4, rfl, h⟩ := h
  refine J_r1 ?_
  refine J_bipush (nI 60) aX9_readComparison_23 (by decide +kernel) ?_
  refine J_isub aX9_readComparison_25 ?_
  refine J_istore_n [(3, .int (v4 - (nI 60))), (2, .int (v2 - (nI 1000))), (0, .ref (eb E + 1)), (1, .ref (eb E + r1))] aX9_readComparison_26 (by decide) rfl ?_
  refine J_aload_n 2 aX9_readComparison_27 rfl ?_
  refine J_sipush (nI 995) aX9_readComparison_28 (by decide +kernel) ?_
  refine J_sipush (nI 10999) aX9_readComparison_31 (by decide +kernel) ?_
  refine J_callV [.int (nI 995), .int (nI 10999)] [] aX9_readComparison_34 lkX9_81_X9 okX9_expect sh1 rfl rfl rfl (Nat.le_of_ble_eq_true rfl) (Nat.le_refl _) (Mt_mono h (fun rv I5 h => ?_))
  obtain ⟨v6, rfl, h⟩ := h
  refine J_r1 ?_
  refine J_sipush (nI 1000) aX9_readComparison_37 (by decide +kernel) ?_
  refine J_isub aX9_readComparison_40 ?_
  refine J_istore [(4, .int (v6 - (nI 1000))), (3, .int (v4 - (nI 60))), (2, .int (v2 - (nI 1000))), (0, .ref (eb E + 1)), (1, .ref (eb E + r1))] aX9_readComparison_41 (by decide) rfl ?_
  refine J_aload_n 4 aX9_readComparison_43 rfl ?_
  refine J_iload_n 1 aX9_readComparison_44 rfl ?_
  refine J_callV [.int (v4 - (nI 60))] [] aX9_readComparison_45 lkX9_99_X6 okX6_emit (shRu hR1) rfl rfl rfl (Nat.le_of_ble_eq_true rfl) (Nat.le_refl _) (Mt_mono h (fun rv I7 h => ?_))
  obtain ⟨rfl, h⟩ := h
  refine J_r0 ?_
  refine J_aload_n 4 aX9_readComparison_48 rfl ?_
  refine J_iload_n 2 aX9_readComparison_49 rfl ?_
  refine J_callV [.int (v2 - (nI 1000))] [] aX9_readComparison_50 lkX9_99_X6 okX6_emit (shRu hR1) rfl rfl rfl (Nat.le_of_ble_eq_true rfl) (Nat.le_refl _) (Mt_mono h (fun rv I8 h => ?_))
  obtain ⟨rfl, h⟩ := h
  refine J_r0 ?_
  refine J_aload_n 4 aX9_readComparison_53 rfl ?_
  refine J_iload 0 aX9_readComparison_54 rfl ?_
  refine J_callV [.int (v6 - (nI 1000))] [] aX9_readComparison_56 lkX9_99_X6 okX6_emit (shRu hR1) rfl rfl rfl (Nat.le_of_ble_eq_true rfl) (Nat.le_refl _) (Mt_mono h (fun rv I9 h => ?_))
  obtain ⟨rfl, h⟩ := h
  refine J_r0 ?_
  exact J_vret aX9_readComparison_59 rfl h
