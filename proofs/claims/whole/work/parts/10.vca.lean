theorem aJ6_numberOfTrailingZeros_0f7a4_0 : decode mJ6_numberOfTrailingZeros_0f7a4.2.1 0 = .ok (.iload_n 0, 1) ∧ 0 + 1 = 1 := ⟨by decide +kernel, rfl⟩
theorem aJ6_numberOfTrailingZeros_0f7a4_1 : decode mJ6_numberOfTrailingZeros_0f7a4.2.1 1 = .ok (.iconst (-1), 1) ∧ 1 + 1 = 2 := ⟨by decide +kernel, rfl⟩
theorem aJ6_numberOfTrailingZeros_0f7a4_2 : decode mJ6_numberOfTrailingZeros_0f7a4.2.1 2 = .ok (.ixor, 1) ∧ 2 + 1 = 3 := ⟨by decide +kernel, rfl⟩
theorem aJ6_numberOfTrailingZeros_0f7a4_3 : decode mJ6_numberOfTrailingZeros_0f7a4.2.1 3 = .ok (.iload_n 0, 1) ∧ 3 + 1 = 4 := ⟨by decide +kernel, rfl⟩
theorem aJ6_numberOfTrailingZeros_0f7a4_4 : decode mJ6_numberOfTrailingZeros_0f7a4.2.1 4 = .ok (.iconst 1, 1) ∧ 4 + 1 = 5 := ⟨by decide +kernel, rfl⟩
theorem aJ6_numberOfTrailingZeros_0f7a4_5 : decode mJ6_numberOfTrailingZeros_0f7a4.2.1 5 = .ok (.isub, 1) ∧ 5 + 1 = 6 := ⟨by decide +kernel, rfl⟩
theorem aJ6_numberOfTrailingZeros_0f7a4_6 : decode mJ6_numberOfTrailingZeros_0f7a4.2.1 6 = .ok (.iand, 1) ∧ 6 + 1 = 7 := ⟨by decide +kernel, rfl⟩
theorem aJ6_numberOfTrailingZeros_0f7a4_7 : decode mJ6_numberOfTrailingZeros_0f7a4.2.1 7 = .ok (.istore_n 0, 1) ∧ 7 + 1 = 8 := ⟨by decide +kernel, rfl⟩
theorem aJ6_numberOfTrailingZeros_0f7a4_8 : decode mJ6_numberOfTrailingZeros_0f7a4.2.1 8 = .ok (.iload_n 0, 1) ∧ 8 + 1 = 9 := ⟨by decide +kernel, rfl⟩
theorem aJ6_numberOfTrailingZeros_0f7a4_9 : decode mJ6_numberOfTrailingZeros_0f7a4.2.1 9 = .ok (.ifCond .gt 8, 3) ∧ ((9 : Nat) : Int) + 8 = ((17 : Nat) : Int) ∧ 9 + 3 = 12 := ⟨by decide +kernel, by decide, rfl⟩
theorem aJ6_numberOfTrailingZeros_0f7a4_12 : decode mJ6_numberOfTrailingZeros_0f7a4.2.1 12 = .ok (.iload_n 0, 1) ∧ 12 + 1 = 13 := ⟨by decide +kernel, rfl⟩
theorem aJ6_numberOfTrailingZeros_0f7a4_13 : decode mJ6_numberOfTrailingZeros_0f7a4.2.1 13 = .ok (.bipush 32, 2) ∧ 13 + 2 = 15 := ⟨by decide +kernel, rfl⟩
theorem aJ6_numberOfTrailingZeros_0f7a4_15 : decode mJ6_numberOfTrailingZeros_0f7a4.2.1 15 = .ok (.iand, 1) ∧ 15 + 1 = 16 := ⟨by decide +kernel, rfl⟩
theorem aJ6_numberOfTrailingZeros_0f7a4_16 : decode mJ6_numberOfTrailingZeros_0f7a4.2.1 16 = .ok (.ireturn, 1) := by decide +kernel
theorem aJ6_numberOfTrailingZeros_0f7a4_17 : decode mJ6_numberOfTrailingZeros_0f7a4.2.1 17 = .ok (.iconst 1, 1) ∧ 17 + 1 = 18 := ⟨by decide +kernel, rfl⟩
theorem aJ6_numberOfTrailingZeros_0f7a4_18 : decode mJ6_numberOfTrailingZeros_0f7a4.2.1 18 = .ok (.istore_n 1, 1) ∧ 18 + 1 = 19 := ⟨by decide +kernel, rfl⟩
theorem aJ6_numberOfTrailingZeros_0f7a4_19 : decode mJ6_numberOfTrailingZeros_0f7a4.2.1 19 = .ok (.iload_n 0, 1) ∧ 19 + 1 = 20 := ⟨by decide +kernel, rfl⟩
theorem aJ6_numberOfTrailingZeros_0f7a4_20 : decode mJ6_numberOfTrailingZeros_0f7a4.2.1 20 = .ok (.ldc_w 264, 3) ∧ 20 + 3 = 23 := ⟨by decide +kernel, rfl⟩
theorem aJ6_numberOfTrailingZeros_0f7a4_23 : decode mJ6_numberOfTrailingZeros_0f7a4.2.1 23 = .ok (.if_icmp .le 11, 3) ∧ ((23 : Nat) : Int) + 11 = ((34 : Nat) : Int) ∧ 23 + 3 = 26 := ⟨by decide +kernel, by decide, rfl⟩
theorem aJ6_numberOfTrailingZeros_0f7a4_26 : decode mJ6_numberOfTrailingZeros_0f7a4.2.1 26 = .ok (.iinc 1 16, 3) ∧ 26 + 3 = 29 := ⟨by decide +kernel, rfl⟩
theorem aJ6_numberOfTrailingZeros_0f7a4_29 : decode mJ6_numberOfTrailingZeros_0f7a4.2.1 29 = .ok (.iload_n 0, 1) ∧ 29 + 1 = 30 := ⟨by decide +kernel, rfl⟩
theorem aJ6_numberOfTrailingZeros_0f7a4_30 : decode mJ6_numberOfTrailingZeros_0f7a4.2.1 30 = .ok (.bipush 16, 2) ∧ 30 + 2 = 32 := ⟨by decide +kernel, rfl⟩
theorem aJ6_numberOfTrailingZeros_0f7a4_32 : decode mJ6_numberOfTrailingZeros_0f7a4.2.1 32 = .ok (.iushr, 1) ∧ 32 + 1 = 33 := ⟨by decide +kernel, rfl⟩
theorem aJ6_numberOfTrailingZeros_0f7a4_33 : decode mJ6_numberOfTrailingZeros_0f7a4.2.1 33 = .ok (.istore_n 0, 1) ∧ 33 + 1 = 34 := ⟨by decide +kernel, rfl⟩
theorem aJ6_numberOfTrailingZeros_0f7a4_34 : decode mJ6_numberOfTrailingZeros_0f7a4.2.1 34 = .ok (.iload_n 0, 1) ∧ 34 + 1 = 35 := ⟨by decide +kernel, rfl⟩
theorem aJ6_numberOfTrailingZeros_0f7a4_35 : decode mJ6_numberOfTrailingZeros_0f7a4.2.1 35 = .ok (.sipush 256, 3) ∧ 35 + 3 = 38 := ⟨by decide +kernel, rfl⟩
theorem aJ6_numberOfTrailingZeros_0f7a4_38 : decode mJ6_numberOfTrailingZeros_0f7a4.2.1 38 = .ok (.if_icmp .le 11, 3) ∧ ((38 : Nat) : Int) + 11 = ((49 : Nat) : Int) ∧ 38 + 3 = 41 := ⟨by decide +kernel, by decide, rfl⟩
theorem aJ6_numberOfTrailingZeros_0f7a4_41 : decode mJ6_numberOfTrailingZeros_0f7a4.2.1 41 = .ok (.iinc 1 8, 3) ∧ 41 + 3 = 44 := ⟨by decide +kernel, rfl⟩
theorem aJ6_numberOfTrailingZeros_0f7a4_44 : decode mJ6_numberOfTrailingZeros_0f7a4.2.1 44 = .ok (.iload_n 0, 1) ∧ 44 + 1 = 45 := ⟨by decide +kernel, rfl⟩
theorem aJ6_numberOfTrailingZeros_0f7a4_45 : decode mJ6_numberOfTrailingZeros_0f7a4.2.1 45 = .ok (.bipush 8, 2) ∧ 45 + 2 = 47 := ⟨by decide +kernel, rfl⟩
theorem aJ6_numberOfTrailingZeros_0f7a4_47 : decode mJ6_numberOfTrailingZeros_0f7a4.2.1 47 = .ok (.iushr, 1) ∧ 47 + 1 = 48 := ⟨by decide +kernel, rfl⟩
theorem aJ6_numberOfTrailingZeros_0f7a4_48 : decode mJ6_numberOfTrailingZeros_0f7a4.2.1 48 = .ok (.istore_n 0, 1) ∧ 48 + 1 = 49 := ⟨by decide +kernel, rfl⟩
theorem aJ6_numberOfTrailingZeros_0f7a4_49 : decode mJ6_numberOfTrailingZeros_0f7a4.2.1 49 = .ok (.iload_n 0, 1) ∧ 49 + 1 = 50 := ⟨by decide +kernel, rfl⟩
theorem aJ6_numberOfTrailingZeros_0f7a4_50 : decode mJ6_numberOfTrailingZeros_0f7a4.2.1 50 = .ok (.bipush 16, 2) ∧ 50 + 2 = 52 := ⟨by decide +kernel, rfl⟩
theorem aJ6_numberOfTrailingZeros_0f7a4_52 : decode mJ6_numberOfTrailingZeros_0f7a4.2.1 52 = .ok (.if_icmp .le 10, 3) ∧ ((52 : Nat) : Int) + 10 = ((62 : Nat) : Int) ∧ 52 + 3 = 55 := ⟨by decide +kernel, by decide, rfl⟩
theorem aJ6_numberOfTrailingZeros_0f7a4_55 : decode mJ6_numberOfTrailingZeros_0f7a4.2.1 55 = .ok (.iinc 1 4, 3) ∧ 55 + 3 = 58 := ⟨by decide +kernel, rfl⟩
theorem aJ6_numberOfTrailingZeros_0f7a4_58 : decode mJ6_numberOfTrailingZeros_0f7a4.2.1 58 = .ok (.iload_n 0, 1) ∧ 58 + 1 = 59 := ⟨by decide +kernel, rfl⟩
theorem aJ6_numberOfTrailingZeros_0f7a4_59 : decode mJ6_numberOfTrailingZeros_0f7a4.2.1 59 = .ok (.iconst 4, 1) ∧ 59 + 1 = 60 := ⟨by decide +kernel, rfl⟩
theorem aJ6_numberOfTrailingZeros_0f7a4_60 : decode mJ6_numberOfTrailingZeros_0f7a4.2.1 60 = .ok (.iushr, 1) ∧ 60 + 1 = 61 := ⟨by decide +kernel, rfl⟩
theorem aJ6_numberOfTrailingZeros_0f7a4_61 : decode mJ6_numberOfTrailingZeros_0f7a4.2.1 61 = .ok (.istore_n 0, 1) ∧ 61 + 1 = 62 := ⟨by decide +kernel, rfl⟩
theorem aJ6_numberOfTrailingZeros_0f7a4_62 : decode mJ6_numberOfTrailingZeros_0f7a4.2.1 62 = .ok (.iload_n 0, 1) ∧ 62 + 1 = 63 := ⟨by decide +kernel, rfl⟩
theorem aJ6_numberOfTrailingZeros_0f7a4_63 : decode mJ6_numberOfTrailingZeros_0f7a4.2.1 63 = .ok (.iconst 4, 1) ∧ 63 + 1 = 64 := ⟨by decide +kernel, rfl⟩
theorem aJ6_numberOfTrailingZeros_0f7a4_64 : decode mJ6_numberOfTrailingZeros_0f7a4.2.1 64 = .ok (.if_icmp .le 10, 3) ∧ ((64 : Nat) : Int) + 10 = ((74 : Nat) : Int) ∧ 64 + 3 = 67 := ⟨by decide +kernel, by decide, rfl⟩
theorem aJ6_numberOfTrailingZeros_0f7a4_67 : decode mJ6_numberOfTrailingZeros_0f7a4.2.1 67 = .ok (.iinc 1 2, 3) ∧ 67 + 3 = 70 := ⟨by decide +kernel, rfl⟩
theorem aJ6_numberOfTrailingZeros_0f7a4_70 : decode mJ6_numberOfTrailingZeros_0f7a4.2.1 70 = .ok (.iload_n 0, 1) ∧ 70 + 1 = 71 := ⟨by decide +kernel, rfl⟩
theorem aJ6_numberOfTrailingZeros_0f7a4_71 : decode mJ6_numberOfTrailingZeros_0f7a4.2.1 71 = .ok (.iconst 2, 1) ∧ 71 + 1 = 72 := ⟨by decide +kernel, rfl⟩
theorem aJ6_numberOfTrailingZeros_0f7a4_72 : decode mJ6_numberOfTrailingZeros_0f7a4.2.1 72 = .ok (.iushr, 1) ∧ 72 + 1 = 73 := ⟨by decide +kernel, rfl⟩
theorem aJ6_numberOfTrailingZeros_0f7a4_73 : decode mJ6_numberOfTrailingZeros_0f7a4.2.1 73 = .ok (.istore_n 0, 1) ∧ 73 + 1 = 74 := ⟨by decide +kernel, rfl⟩
theorem aJ6_numberOfTrailingZeros_0f7a4_74 : decode mJ6_numberOfTrailingZeros_0f7a4.2.1 74 = .ok (.iload_n 1, 1) ∧ 74 + 1 = 75 := ⟨by decide +kernel, rfl⟩
theorem aJ6_numberOfTrailingZeros_0f7a4_75 : decode mJ6_numberOfTrailingZeros_0f7a4.2.1 75 = .ok (.iload_n 0, 1) ∧ 75 + 1 = 76 := ⟨by decide +kernel, rfl⟩
theorem aJ6_numberOfTrailingZeros_0f7a4_76 : decode mJ6_numberOfTrailingZeros_0f7a4.2.1 76 = .ok (.iconst 1, 1) ∧ 76 + 1 = 77 := ⟨by decide +kernel, rfl⟩
theorem aJ6_numberOfTrailingZeros_0f7a4_77 : decode mJ6_numberOfTrailingZeros_0f7a4.2.1 77 = .ok (.iushr, 1) ∧ 77 + 1 = 78 := ⟨by decide +kernel, rfl⟩
theorem aJ6_numberOfTrailingZeros_0f7a4_78 : decode mJ6_numberOfTrailingZeros_0f7a4.2.1 78 = .ok (.iadd, 1) ∧ 78 + 1 = 79 := ⟨by decide +kernel, rfl⟩
theorem aJ6_numberOfTrailingZeros_0f7a4_79 : decode mJ6_numberOfTrailingZeros_0f7a4.2.1 79 = .ok (.ireturn, 1) := by decide +kernel
theorem S_J6_numberOfTrailingZeros_0f7a4 {E : EE} {d : Nat} {I : IH} {Q : QT} (x0 : Int32) (h :
((0 < ((x0 ^^^ (-1)) &&& (x0 - (nI 1))) → ((((x0 ^^^ (-1)) &&& (x0 - (nI 1))) ≤ (nI 65536) → J E d mJ6_numberOfTrailingZeros_0f7a4 34 [(0, .int ((x0 ^^^ (-1)) &&& (x0 - (nI 1)))), (1, .int (nI 1))] [] I Q) ∧
 (¬ ((x0 ^^^ (-1)) &&& (x0 - (nI 1))) ≤ (nI 65536) → J E d mJ6_numberOfTrailingZeros_0f7a4 34 [(0, .int (ushr ((x0 ^^^ (-1)) &&& (x0 - (nI 1))) (nI 16))), (1, .int ((nI 1) + nI 16))] [] I Q))) ∧
 (¬ 0 < ((x0 ^^^ (-1)) &&& (x0 - (nI 1))) → Q (some (.int (((x0 ^^^ (-1)) &&& (x0 - (nI 1))) &&& (nI 32)))) I))) : Mt E d mJ6_numberOfTrailingZeros_0f7a4 [.int x0] I Q := by
  refine Mt_of [(0, .int x0)] (by decide +kernel) (by simp [lg_sl, Value.category, mJ6_numberOfTrailingZeros_0f7a4]) rfl ?_
  refine J_iload_n 0 aJ6_numberOfTrailingZeros_0f7a4_0 rfl ?_
  refine J_iconst (-1) aJ6_numberOfTrailingZeros_0f7a4_1 (by decide +kernel) ?_
  refine J_ixor aJ6_numberOfTrailingZeros_0f7a4_2 ?_
  refine J_iload_n 0 aJ6_numberOfTrailingZeros_0f7a4_3 rfl ?_
  refine J_iconst (nI 1) aJ6_numberOfTrailingZeros_0f7a4_4 (by decide +kernel) ?_
  refine J_isub aJ6_numberOfTrailingZeros_0f7a4_5 ?_
  refine J_iand aJ6_numberOfTrailingZeros_0f7a4_6 ?_
  refine J_istore_n [(0, .int ((x0 ^^^ (-1)) &&& (x0 - (nI 1))))] aJ6_numberOfTrailingZeros_0f7a4_7 (by decide) rfl ?_
  refine J_iload_n 0 aJ6_numberOfTrailingZeros_0f7a4_8 rfl ?_
  refine J_if_gt aJ6_numberOfTrailingZeros_0f7a4_9 (fun q => ?_) (fun q => ?_)
  · replace h := h.1 q
    refine J_iconst (nI 1) aJ6_numberOfTrailingZeros_0f7a4_17 (by decide +kernel) ?_
    refine J_istore_n [(1, .int (nI 1)), (0, .int ((x0 ^^^ (-1)) &&& (x0 - (nI 1))))] aJ6_numberOfTrailingZeros_0f7a4_18 (by decide) rfl ?_
    refine J_iload_n 1 aJ6_numberOfTrailingZeros_0f7a4_19 rfl ?_
    refine J_ldcw (nI 65536) aJ6_numberOfTrailingZeros_0f7a4_20 (gx4 98 rfl rfl) ?_
    refine J_icmp_le aJ6_numberOfTrailingZeros_0f7a4_23 (fun q => ?_) (fun q => ?_)
    · replace h := h.1 q
      refine J_pick [1, 0] rfl ?_
      exact h
    · replace h := h.2 q
      refine J_iinc ((nI 1) + nI 16) [(1, .int ((nI 1) + nI 16)), (0, .int ((x0 ^^^ (-1)) &&& (x0 - (nI 1))))] 0 aJ6_numberOfTrailingZeros_0f7a4_26 rfl (by first | rfl | (congr 1; decide +kernel)) (by decide) rfl ?_
      refine J_iload_n 1 aJ6_numberOfTrailingZeros_0f7a4_29 rfl ?_
      refine J_bipush (nI 16) aJ6_numberOfTrailingZeros_0f7a4_30 (by decide +kernel) ?_
      refine J_iushr aJ6_numberOfTrailingZeros_0f7a4_32 ?_
      refine J_istore_n [(0, .int (ushr ((x0 ^^^ (-1)) &&& (x0 - (nI 1))) (nI 16))), (1, .int ((nI 1) + nI 16))] aJ6_numberOfTrailingZeros_0f7a4_33 (by decide) rfl ?_
      refine J_pick [0, 1] rfl ?_
      exact h
  · replace h := h.2 q
    refine J_iload_n 0 aJ6_numberOfTrailingZeros_0f7a4_12 rfl ?_
    refine J_bipush (nI 32) aJ6_numberOfTrailingZeros_0f7a4_13 (by decide +kernel) ?_
    refine J_iand aJ6_numberOfTrailingZeros_0f7a4_15 ?_
    exact J_iret aJ6_numberOfTrailingZeros_0f7a4_16 rfl h
theorem S_J6_numberOfTrailingZeros_0f7a4_34 {E : EE} {d : Nat} {I : IH} {Q : QT} (x0 : Int32) (x1 : Int32) (h :
((x0 ≤ (nI 256) → J E d mJ6_numberOfTrailingZeros_0f7a4 49 [(0, .int x0), (1, .int x1)] [] I Q) ∧
 (¬ x0 ≤ (nI 256) → J E d mJ6_numberOfTrailingZeros_0f7a4 49 [(0, .int (ushr x0 (nI 8))), (1, .int (x1 + nI 8))] [] I Q))) : J E d mJ6_numberOfTrailingZeros_0f7a4 34 [(0, .int x0), (1, .int x1)] [] I Q := by
  refine J_iload_n 0 aJ6_numberOfTrailingZeros_0f7a4_34 rfl ?_
  refine J_sipush (nI 256) aJ6_numberOfTrailingZeros_0f7a4_35 (by decide +kernel) ?_
  refine J_icmp_le aJ6_numberOfTrailingZeros_0f7a4_38 (fun q => ?_) (fun q => ?_)
  · replace h := h.1 q
    refine J_pick [0, 1] rfl ?_
    exact h
  · replace h := h.2 q
    refine J_iinc (x1 + nI 8) [(1, .int (x1 + nI 8)), (0, .int x0)] 1 aJ6_numberOfTrailingZeros_0f7a4_41 rfl (by first | rfl | (congr 1; decide +kernel)) (by decide) rfl ?_
    refine J_iload_n 1 aJ6_numberOfTrailingZeros_0f7a4_44 rfl ?_
    refine J_bipush (nI 8) aJ6_numberOfTrailingZeros_0f7a4_45 (by decide +kernel) ?_
    refine J_iushr aJ6_numberOfTrailingZeros_0f7a4_47 ?_
    refine J_istore_n [(0, .int (ushr x0 (nI 8))), (1, .int (x1 + nI 8))] aJ6_numberOfTrailingZeros_0f7a4_48 (by decide) rfl ?_
    refine J_pick [0, 1] rfl ?_
    exact h
theorem S_J6_numberOfTrailingZeros_0f7a4_49 {E : EE} {d : Nat} {I : IH} {Q : QT} (x0 : Int32) (x1 : Int32) (h :
((x0 ≤ (nI 16) → ((x0 ≤ (nI 4) → Q (some (.int (x1 + (ushr x0 (nI 1))))) I) ∧
 (¬ x0 ≤ (nI 4) → Q (some (.int ((x1 + nI 2) + (ushr (ushr x0 (nI 2)) (nI 1))))) I))) ∧
 (¬ x0 ≤ (nI 16) → (((ushr x0 (nI 4)) ≤ (nI 4) → Q (some (.int ((x1 + nI 4) + (ushr (ushr x0 (nI 4)) (nI 1))))) I) ∧
 (¬ (ushr x0 (nI 4)) ≤ (nI 4) → Q (some (.int (((x1 + nI 4) + nI 2) + (ushr (ushr (ushr x0 (nI 4)) (nI 2)) (nI 1))))) I))))) : J E d mJ6_numberOfTrailingZeros_0f7a4 49 [(0, .int x0), (1, .int x1)] [] I Q := by
  refine J_iload_n 0 aJ6_numberOfTrailingZeros_0f7a4_49 rfl ?_
  refine J_bipush (nI 16) aJ6_numberOfTrailingZeros_0f7a4_50 (by decide +kernel) ?_
  refine J_icmp_le aJ6_numberOfTrailingZeros_0f7a4_52 (fun q => ?_) (fun q => ?_)
  · replace h := h.1 q
    refine J_iload_n 0 aJ6_numberOfTrailingZeros_0f7a4_62 rfl ?_
    refine J_iconst (nI 4) aJ6_numberOfTrailingZeros_0f7a4_63 (by decide +kernel) ?_
    refine J_icmp_le aJ6_numberOfTrailingZeros_0f7a4_64 (fun q => ?_) (fun q => ?_)
    · replace h := h.1 q
      refine J_iload_n 1 aJ6_numberOfTrailingZeros_0f7a4_74 rfl ?_
      refine J_iload_n 0 aJ6_numberOfTrailingZeros_0f7a4_75 rfl ?_
      refine J_iconst (nI 1) aJ6_numberOfTrailingZeros_0f7a4_76 (by decide +kernel) ?_
      refine J_iushr aJ6_numberOfTrailingZeros_0f7a4_77 ?_
      refine J_iadd aJ6_numberOfTrailingZeros_0f7a4_78 ?_
      exact J_iret aJ6_numberOfTrailingZeros_0f7a4_79 rfl h
    · replace h := h.2 q
      refine J_iinc (x1 + nI 2) [(1, .int (x1 + nI 2)), (0, .int x0)] 1 aJ6_numberOfTrailingZeros_0f7a4_67 rfl (by first | rfl | (congr 1; decide +kernel)) (by decide) rfl ?_
      refine J_iload_n 1 aJ6_numberOfTrailingZeros_0f7a4_70 rfl ?_
      refine J_iconst (nI 2) aJ6_numberOfTrailingZeros_0f7a4_71 (by decide +kernel) ?_
      refine J_iushr aJ6_numberOfTrailingZeros_0f7a4_72 ?_
      refine J_istore_n [(0, .int (ushr x0 (nI 2))), (1, .int (x1 + nI 2))] aJ6_numberOfTrailingZeros_0f7a4_73 (by decide) rfl ?_
      refine J_iload_n 1 aJ6_numberOfTrailingZeros_0f7a4_74 rfl ?_
      refine J_iload_n 0 aJ6_numberOfTrailingZeros_0f7a4_75 rfl ?_
      refine J_iconst (nI 1) aJ6_numberOfTrailingZeros_0f7a4_76 (by decide +kernel) ?_
      refine J_iushr aJ6_numberOfTrailingZeros_0f7a4_77 ?_
      refine J_iadd aJ6_numberOfTrailingZeros_0f7a4_78 ?_
      exact J_iret aJ6_numberOfTrailingZeros_0f7a4_79 rfl h
  · replace h := h.2 q
    refine J_iinc (x1 + nI 4) [(1, .int (x1 + nI 4)), (0, .int x0)] 1 aJ6_numberOfTrailingZeros_0f7a4_55 rfl (by first | rfl | (congr 1; decide +kernel)) (by decide) rfl ?_
    refine J_iload_n 1 aJ6_numberOfTrailingZeros_0f7a4_58 rfl ?_
    refine J_iconst (nI 4) aJ6_numberOfTrailingZeros_0f7a4_59 (by decide +kernel) ?_
    refine J_iushr aJ6_numberOfTrailingZeros_0f7a4_60 ?_
    refine J_istore_n [(0, .int (ushr x0 (nI 4))), (1, .int (x1 + nI 4))] aJ6_numberOfTrailingZeros_0f7a4_61 (by decide) rfl ?_
    refine J_iload_n 0 aJ6_numberOfTrailingZeros_0f7a4_62 rfl ?_
    refine J_iconst (nI 4) aJ6_numberOfTrailingZeros_0f7a4_63 (by decide +kernel) ?_
    refine J_icmp_le aJ6_numberOfTrailingZeros_0f7a4_64 (fun q => ?_) (fun q => ?_)
    · replace h := h.1 q
      refine J_iload_n 1 aJ6_numberOfTrailingZeros_0f7a4_74 rfl ?_
      refine J_iload_n 0 aJ6_numberOfTrailingZeros_0f7a4_75 rfl ?_
      refine J_iconst (nI 1) aJ6_numberOfTrailingZeros_0f7a4_76 (by decide +kernel) ?_
      refine J_iushr aJ6_numberOfTrailingZeros_0f7a4_77 ?_
      refine J_iadd aJ6_numberOfTrailingZeros_0f7a4_78 ?_
      exact J_iret aJ6_numberOfTrailingZeros_0f7a4_79 rfl h
    · replace h := h.2 q
      refine J_iinc ((x1 + nI 4) + nI 2) [(1, .int ((x1 + nI 4) + nI 2)), (0, .int (ushr x0 (nI 4)))] 1 aJ6_numberOfTrailingZeros_0f7a4_67 rfl (by first | rfl | (congr 1; decide +kernel)) (by decide) rfl ?_
      refine J_iload_n 1 aJ6_numberOfTrailingZeros_0f7a4_70 rfl ?_
      refine J_iconst (nI 2) aJ6_numberOfTrailingZeros_0f7a4_71 (by decide +kernel) ?_
      refine J_iushr aJ6_numberOfTrailingZeros_0f7a4_72 ?_
      refine J_istore_n [(0, .int (ushr (ushr x0 (nI 4)) (nI 2))), (1, .int ((x1 + nI 4) + nI 2))] aJ6_numberOfTrailingZeros_0f7a4_73 (by decide) rfl ?_
      refine J_iload_n 1 aJ6_numberOfTrailingZeros_0f7a4_74 rfl ?_
      refine J_iload_n 0 aJ6_numberOfTrailingZeros_0f7a4_75 rfl ?_
      refine J_iconst (nI 1) aJ6_numberOfTrailingZeros_0f7a4_76 (by decide +kernel) ?_
      refine J_iushr aJ6_numberOfTrailingZeros_0f7a4_77 ?_
      refine J_iadd aJ6_numberOfTrailingZeros_0f7a4_78 ?_
      exact J_iret aJ6_numberOfTrailingZeros_0f7a4_79 rfl h
theorem aJ6_bitCount_0f7a4_0 : decode mJ6_bitCount_0f7a4.2.1 0 = .ok (.iload_n 0, 1) ∧ 0 + 1 = 1 := ⟨by decide +kernel, rfl⟩
theorem aJ6_bitCount_0f7a4_1 : decode mJ6_bitCount_0f7a4.2.1 1 = .ok (.iload_n 0, 1) ∧ 1 + 1 = 2 := ⟨by decide +kernel, rfl⟩
theorem aJ6_bitCount_0f7a4_2 : decode mJ6_bitCount_0f7a4.2.1 2 = .ok (.iconst 1, 1) ∧ 2 + 1 = 3 := ⟨by decide +kernel, rfl⟩
theorem aJ6_bitCount_0f7a4_3 : decode mJ6_bitCount_0f7a4.2.1 3 = .ok (.iushr, 1) ∧ 3 + 1 = 4 := ⟨by decide +kernel, rfl⟩
theorem aJ6_bitCount_0f7a4_4 : decode mJ6_bitCount_0f7a4.2.1 4 = .ok (.ldc_w 265, 3) ∧ 4 + 3 = 7 := ⟨by decide +kernel, rfl⟩
theorem aJ6_bitCount_0f7a4_7 : decode mJ6_bitCount_0f7a4.2.1 7 = .ok (.iand, 1) ∧ 7 + 1 = 8 := ⟨by decide +kernel, rfl⟩
theorem aJ6_bitCount_0f7a4_8 : decode mJ6_bitCount_0f7a4.2.1 8 = .ok (.isub, 1) ∧ 8 + 1 = 9 := ⟨by decide +kernel, rfl⟩
theorem aJ6_bitCount_0f7a4_9 : decode mJ6_bitCount_0f7a4.2.1 9 = .ok (.istore_n 0, 1) ∧ 9 + 1 = 10 := ⟨by decide +kernel, rfl⟩
theorem aJ6_bitCount_0f7a4_10 : decode mJ6_bitCount_0f7a4.2.1 10 = .ok (.iload_n 0, 1) ∧ 10 + 1 = 11 := ⟨by decide +kernel, rfl⟩
theorem aJ6_bitCount_0f7a4_11 : decode mJ6_bitCount_0f7a4.2.1 11 = .ok (.ldc_w 266, 3) ∧ 11 + 3 = 14 := ⟨by decide +kernel, rfl⟩
theorem aJ6_bitCount_0f7a4_14 : decode mJ6_bitCount_0f7a4.2.1 14 = .ok (.iand, 1) ∧ 14 + 1 = 15 := ⟨by decide +kernel, rfl⟩
theorem aJ6_bitCount_0f7a4_15 : decode mJ6_bitCount_0f7a4.2.1 15 = .ok (.iload_n 0, 1) ∧ 15 + 1 = 16 := ⟨by decide +kernel, rfl⟩
theorem aJ6_bitCount_0f7a4_16 : decode mJ6_bitCount_0f7a4.2.1 16 = .ok (.iconst 2, 1) ∧ 16 + 1 = 17 := ⟨by decide +kernel, rfl⟩
theorem aJ6_bitCount_0f7a4_17 : decode mJ6_bitCount_0f7a4.2.1 17 = .ok (.iushr, 1) ∧ 17 + 1 = 18 := ⟨by decide +kernel, rfl⟩
theorem aJ6_bitCount_0f7a4_18 : decode mJ6_bitCount_0f7a4.2.1 18 = .ok (.ldc_w 266, 3) ∧ 18 + 3 = 21 := ⟨by decide +kernel, rfl⟩
theorem aJ6_bitCount_0f7a4_21 : decode mJ6_bitCount_0f7a4.2.1 21 = .ok (.iand, 1) ∧ 21 + 1 = 22 := ⟨by decide +kernel, rfl⟩
theorem aJ6_bitCount_0f7a4_22 : decode mJ6_bitCount_0f7a4.2.1 22 = .ok (.iadd, 1) ∧ 22 + 1 = 23 := ⟨by decide +kernel, rfl⟩
theorem aJ6_bitCount_0f7a4_23 : decode mJ6_bitCount_0f7a4.2.1 23 = .ok (.istore_n 0, 1) ∧ 23 + 1 = 24 := ⟨by decide +kernel, rfl⟩
theorem aJ6_bitCount_0f7a4_24 : decode mJ6_bitCount_0f7a4.2.1 24 = .ok (.iload_n 0, 1) ∧ 24 + 1 = 25 := ⟨by decide +kernel, rfl⟩
theorem aJ6_bitCount_0f7a4_25 : decode mJ6_bitCount_0f7a4.2.1 25 = .ok (.iload_n 0, 1) ∧ 25 + 1 = 26 := ⟨by decide +kernel, rfl⟩
theorem aJ6_bitCount_0f7a4_26 : decode mJ6_bitCount_0f7a4.2.1 26 = .ok (.iconst 4, 1) ∧ 26 + 1 = 27 := ⟨by decide +kernel, rfl⟩
theorem aJ6_bitCount_0f7a4_27 : decode mJ6_bitCount_0f7a4.2.1 27 = .ok (.iushr, 1) ∧ 27 + 1 = 28 := ⟨by decide +kernel, rfl⟩
theorem aJ6_bitCount_0f7a4_28 : decode mJ6_bitCount_0f7a4.2.1 28 = .ok (.iadd, 1) ∧ 28 + 1 = 29 := ⟨by decide +kernel, rfl⟩
theorem aJ6_bitCount_0f7a4_29 : decode mJ6_bitCount_0f7a4.2.1 29 = .ok (.ldc_w 267, 3) ∧ 29 + 3 = 32 := ⟨by decide +kernel, rfl⟩
theorem aJ6_bitCount_0f7a4_32 : decode mJ6_bitCount_0f7a4.2.1 32 = .ok (.iand, 1) ∧ 32 + 1 = 33 := ⟨by decide +kernel, rfl⟩
theorem aJ6_bitCount_0f7a4_33 : decode mJ6_bitCount_0f7a4.2.1 33 = .ok (.istore_n 0, 1) ∧ 33 + 1 = 34 := ⟨by decide +kernel, rfl⟩
theorem aJ6_bitCount_0f7a4_34 : decode mJ6_bitCount_0f7a4.2.1 34 = .ok (.iload_n 0, 1) ∧ 34 + 1 = 35 := ⟨by decide +kernel, rfl⟩
theorem aJ6_bitCount_0f7a4_35 : decode mJ6_bitCount_0f7a4.2.1 35 = .ok (.iload_n 0, 1) ∧ 35 + 1 = 36 := ⟨by decide +kernel, rfl⟩
theorem aJ6_bitCount_0f7a4_36 : decode mJ6_bitCount_0f7a4.2.1 36 = .ok (.bipush 8, 2) ∧ 36 + 2 = 38 := ⟨by decide +kernel, rfl⟩
theorem aJ6_bitCount_0f7a4_38 : decode mJ6_bitCount_0f7a4.2.1 38 = .ok (.iushr, 1) ∧ 38 + 1 = 39 := ⟨by decide +kernel, rfl⟩
theorem aJ6_bitCount_0f7a4_39 : decode mJ6_bitCount_0f7a4.2.1 39 = .ok (.iadd, 1) ∧ 39 + 1 = 40 := ⟨by decide +kernel, rfl⟩
theorem aJ6_bitCount_0f7a4_40 : decode mJ6_bitCount_0f7a4.2.1 40 = .ok (.istore_n 0, 1) ∧ 40 + 1 = 41 := ⟨by decide +kernel, rfl⟩
theorem aJ6_bitCount_0f7a4_41 : decode mJ6_bitCount_0f7a4.2.1 41 = .ok (.iload_n 0, 1) ∧ 41 + 1 = 42 := ⟨by decide +kernel, rfl⟩
theorem aJ6_bitCount_0f7a4_42 : decode mJ6_bitCount_0f7a4.2.1 42 = .ok (.iload_n 0, 1) ∧ 42 + 1 = 43 := ⟨by decide +kernel, rfl⟩
theorem aJ6_bitCount_0f7a4_43 : decode mJ6_bitCount_0f7a4.2.1 43 = .ok (.bipush 16, 2) ∧ 43 + 2 = 45 := ⟨by decide +kernel, rfl⟩
theorem aJ6_bitCount_0f7a4_45 : decode mJ6_bitCount_0f7a4.2.1 45 = .ok (.iushr, 1) ∧ 45 + 1 = 46 := ⟨by decide +kernel, rfl⟩
theorem aJ6_bitCount_0f7a4_46 : decode mJ6_bitCount_0f7a4.2.1 46 = .ok (.iadd, 1) ∧ 46 + 1 = 47 := ⟨by decide +kernel, rfl⟩
theorem aJ6_bitCount_0f7a4_47 : decode mJ6_bitCount_0f7a4.2.1 47 = .ok (.istore_n 0, 1) ∧ 47 + 1 = 48 := ⟨by decide +kernel, rfl⟩
theorem aJ6_bitCount_0f7a4_48 : decode mJ6_bitCount_0f7a4.2.1 48 = .ok (.iload_n 0, 1) ∧ 48 + 1 = 49 := ⟨by decide +kernel, rfl⟩
theorem aJ6_bitCount_0f7a4_49 : decode mJ6_bitCount_0f7a4.2.1 49 = .ok (.bipush 63, 2) ∧ 49 + 2 = 51 := ⟨by decide +kernel, rfl⟩
theorem aJ6_bitCount_0f7a4_51 : decode mJ6_bitCount_0f7a4.2.1 51 = .ok (.iand, 1) ∧ 51 + 1 = 52 := ⟨by decide +kernel, rfl⟩
theorem aJ6_bitCount_0f7a4_52 : decode mJ6_bitCount_0f7a4.2.1 52 = .ok (.ireturn, 1) := by decide +kernel
theorem S_J6_bitCount_0f7a4 {E : EE} {d : Nat} {I : IH} {Q : QT} (x0 : Int32) (h :
Q (some (.int ((((((((x0 - ((ushr x0 (nI 1)) &&& (nI 1431655765))) &&& (nI 858993459)) + ((ushr (x0 - ((ushr x0 (nI 1)) &&& (nI 1431655765))) (nI 2)) &&& (nI 858993459))) + (ushr (((x0 - ((ushr x0 (nI 1)) &&& (nI 1431655765))) &&& (nI 858993459)) + ((ushr (x0 - ((ushr x0 (nI 1)) &&& (nI 1431655765))) (nI 2)) &&& (nI 858993459))) (nI 4))) &&& (nI 252645135)) + (ushr (((((x0 - ((ushr x0 (nI 1)) &&& (nI 1431655765))) &&& (nI 858993459)) + ((ushr (x0 - ((ushr x0 (nI 1)) &&& (nI 1431655765))) (nI 2)) &&& (nI 858993459))) + (ushr (((x0 - ((ushr x0 (nI 1)) &&& (nI 1431655765))) &&& (nI 858993459)) + ((ushr (x0 - ((ushr x0 (nI 1)) &&& (nI 1431655765))) (nI 2)) &&& (nI 858993459))) (nI 4))) &&& (nI 252645135)) (nI 8))) + (ushr ((((((x0 - ((ushr x0 (nI 1)) &&& (nI 1431655765))) &&& (nI 858993459)) + ((ushr (x0 - ((ushr x0 (nI 1)) &&& (nI 1431655765))) (nI 2)) &&& (nI 858993459))) + (ushr (((x0 - ((ushr x0 (nI 1)) &&& (nI 1431655765))) &&& (nI 858993459)) + ((ushr (x0 - ((ushr x0 (nI 1)) &&& (nI 1431655765))) (nI 2)) &&& (nI 858993459))) (nI 4))) &&& (nI 252645135)) + (ushr (((((x0 - ((ushr x0 (nI 1)) &&& (nI 1431655765))) &&& (nI 858993459)) + ((ushr (x0 - ((ushr x0 (nI 1)) &&& (nI 1431655765))) (nI 2)) &&& (nI 858993459))) + (ushr (((x0 - ((ushr x0 (nI 1)) &&& (nI 1431655765))) &&& (nI 858993459)) + ((ushr (x0 - ((ushr x0 (nI 1)) &&& (nI 1431655765))) (nI 2)) &&& (nI 858993459))) (nI 4))) &&& (nI 252645135)) (nI 8))) (nI 16))) &&& (nI 63)))) I) : Mt E d mJ6_bitCount_0f7a4 [.int x0] I Q := by
  refine Mt_of [(0, .int x0)] (by decide +kernel) (by simp [lg_sl, Value.category, mJ6_bitCount_0f7a4]) rfl ?_
  refine J_iload_n 0 aJ6_bitCount_0f7a4_0 rfl ?_
  refine J_iload_n 0 aJ6_bitCount_0f7a4_1 rfl ?_
  refine J_iconst (nI 1) aJ6_bitCount_0f7a4_2 (by decide +kernel) ?_
  refine J_iushr aJ6_bitCount_0f7a4_3 ?_
  refine J_ldcw (nI 1431655765) aJ6_bitCount_0f7a4_4 (gx2 139 rfl rfl) ?_
  refine J_iand aJ6_bitCount_0f7a4_7 ?_
  refine J_isub aJ6_bitCount_0f7a4_8 ?_
  refine J_istore_n [(0, .int (x0 - ((ushr x0 (nI 1)) &&& (nI 1431655765))))] aJ6_bitCount_0f7a4_9 (by decide) rfl ?_
  refine J_iload_n 0 aJ6_bitCount_0f7a4_10 rfl ?_
  refine J_ldcw (nI 858993459) aJ6_bitCount_0f7a4_11 (gx2 140 rfl rfl) ?_
  refine J_iand aJ6_bitCount_0f7a4_14 ?_
  refine J_iload_n 0 aJ6_bitCount_0f7a4_15 rfl ?_
  refine J_iconst (nI 2) aJ6_bitCount_0f7a4_16 (by decide +kernel) ?_
  refine J_iushr aJ6_bitCount_0f7a4_17 ?_
  refine J_ldcw (nI 858993459) aJ6_bitCount_0f7a4_18 (gx2 140 rfl rfl) ?_
  refine J_iand aJ6_bitCount_0f7a4_21 ?_
  refine J_iadd aJ6_bitCount_0f7a4_22 ?_
  refine J_istore_n [(0, .int (((x0 - ((ushr x0 (nI 1)) &&& (nI 1431655765))) &&& (nI 858993459)) + ((ushr (x0 - ((ushr x0 (nI 1)) &&& (nI 1431655765))) (nI 2)) &&& (nI 858993459))))] aJ6_bitCount_0f7a4_23 (by decide) rfl ?_
  refine J_iload_n 0 aJ6_bitCount_0f7a4_24 rfl ?_
  refine J_iload_n 0 aJ6_bitCount_0f7a4_25 rfl ?_
  refine J_iconst (nI 4) aJ6_bitCount_0f7a4_26 (by decide +kernel) ?_
  refine J_iushr aJ6_bitCount_0f7a4_27 ?_
  refine J_iadd aJ6_bitCount_0f7a4_28 ?_
  refine J_ldcw (nI 252645135) aJ6_bitCount_0f7a4_29 (gx2 141 rfl rfl) ?_
  refine J_iand aJ6_bitCount_0f7a4_32 ?_
  refine J_istore_n [(0, .int (((((x0 - ((ushr x0 (nI 1)) &&& (nI 1431655765))) &&& (nI 858993459)) + ((ushr (x0 - ((ushr x0 (nI 1)) &&& (nI 1431655765))) (nI 2)) &&& (nI 858993459))) + (ushr (((x0 - ((ushr x0 (nI 1)) &&& (nI 1431655765))) &&& (nI 858993459)) + ((ushr (x0 - ((ushr x0 (nI 1)) &&& (nI 1431655765))) (nI 2)) &&& (nI 858993459))) (nI 4))) &&& (nI 252645135)))] aJ6_bitCount_0f7a4_33 (by decide) rfl ?_
  refine J_iload_n 0 aJ6_bitCount_0f7a4_34 rfl ?_
  refine J_iload_n 0 aJ6_bitCount_0f7a4_35 rfl ?_
  refine J_bipush (nI 8) aJ6_bitCount_0f7a4_36 (by decide +kernel) ?_
  refine J_iushr aJ6_bitCount_0f7a4_38 ?_
  refine J_iadd aJ6_bitCount_0f7a4_39 ?_
  refine J_istore_n [(0, .int ((((((x0 - ((ushr x0 (nI 1)) &&& (nI 1431655765))) &&& (nI 858993459)) + ((ushr (x0 - ((ushr x0 (nI 1)) &&& (nI 1431655765))) (nI 2)) &&& (nI 858993459))) + (ushr (((x0 - ((ushr x0 (nI 1)) &&& (nI 1431655765))) &&& (nI 858993459)) + ((ushr (x0 - ((ushr x0 (nI 1)) &&& (nI 1431655765))) (nI 2)) &&& (nI 858993459))) (nI 4))) &&& (nI 252645135)) + (ushr (((((x0 - ((ushr x0 (nI 1)) &&& (nI 1431655765))) &&& (nI 858993459)) + ((ushr (x0 - ((ushr x0 (nI 1)) &&& (nI 1431655765))) (nI 2)) &&& (nI 858993459))) + (ushr (((x0 - ((ushr x0 (nI 1)) &&& (nI 1431655765))) &&& (nI 858993459)) + ((ushr (x0 - ((ushr x0 (nI 1)) &&& (nI 1431655765))) (nI 2)) &&& (nI 858993459))) (nI 4))) &&& (nI 252645135)) (nI 8))))] aJ6_bitCount_0f7a4_40 (by decide) rfl ?_
  refine J_iload_n 0 aJ6_bitCount_0f7a4_41 rfl ?_
  refine J_iload_n 0 aJ6_bitCount_0f7a4_42 rfl ?_
  refine J_bipush (nI 16) aJ6_bitCount_0f7a4_43 (by decide +kernel) ?_
  refine J_iushr aJ6_bitCount_0f7a4_45 ?_
  refine J_iadd aJ6_bitCount_0f7a4_46 ?_
  refine J_istore_n [(0, .int (((((((x0 - ((ushr x0 (nI 1)) &&& (nI 1431655765))) &&& (nI 858993459)) + ((ushr (x0 - ((ushr x0 (nI 1)) &&& (nI 1431655765))) (nI 2)) &&& (nI 858993459))) + (ushr (((x0 - ((ushr x0 (nI 1)) &&& (nI 1431655765))) &&& (nI 858993459)) + ((ushr (x0 - ((ushr x0 (nI 1)) &&& (nI 1431655765))) (nI 2)) &&& (nI 858993459))) (nI 4))) &&& (nI 252645135)) + (ushr (((((x0 - ((ushr x0 (nI 1)) &&& (nI 1431655765))) &&& (nI 858993459)) + ((ushr (x0 - ((ushr x0 (nI 1)) &&& (nI 1431655765))) (nI 2)) &&& (nI 858993459))) + (ushr (((x0 - ((ushr x0 (nI 1)) &&& (nI 1431655765))) &&& (nI 858993459)) + ((ushr (x0 - ((ushr x0 (nI 1)) &&& (nI 1431655765))) (nI 2)) &&& (nI 858993459))) (nI 4))) &&& (nI 252645135)) (nI 8))) + (ushr ((((((x0 - ((ushr x0 (nI 1)) &&& (nI 1431655765))) &&& (nI 858993459)) + ((ushr (x0 - ((ushr x0 (nI 1)) &&& (nI 1431655765))) (nI 2)) &&& (nI 858993459))) + (ushr (((x0 - ((ushr x0 (nI 1)) &&& (nI 1431655765))) &&& (nI 858993459)) + ((ushr (x0 - ((ushr x0 (nI 1)) &&& (nI 1431655765))) (nI 2)) &&& (nI 858993459))) (nI 4))) &&& (nI 252645135)) + (ushr (((((x0 - ((ushr x0 (nI 1)) &&& (nI 1431655765))) &&& (nI 858993459)) + ((ushr (x0 - ((ushr x0 (nI 1)) &&& (nI 1431655765))) (nI 2)) &&& (nI 858993459))) + (ushr (((x0 - ((ushr x0 (nI 1)) &&& (nI 1431655765))) &&& (nI 858993459)) + ((ushr (x0 - ((ushr x0 (nI 1)) &&& (nI 1431655765))) (nI 2)) &&& (nI 858993459))) (nI 4))) &&& (nI 252645135)) (nI 8))) (nI 16))))] aJ6_bitCount_0f7a4_47 (by decide) rfl ?_
  refine J_iload_n 0 aJ6_bitCount_0f7a4_48 rfl ?_
  refine J_bipush (nI 63) aJ6_bitCount_0f7a4_49 (by decide +kernel) ?_
  refine J_iand aJ6_bitCount_0f7a4_51 ?_
  exact J_iret aJ6_bitCount_0f7a4_52 rfl h
theorem aJ7_fill_53178_0 : decode mJ7_fill_53178.2.1 0 = .ok (.iconst 0, 1) ∧ 0 + 1 = 1 := ⟨by decide +kernel, rfl⟩
theorem aJ7_fill_53178_1 : decode mJ7_fill_53178.2.1 1 = .ok (.istore_n 2, 1) ∧ 1 + 1 = 2 := ⟨by decide +kernel, rfl⟩
theorem aJ7_fill_53178_2 : decode mJ7_fill_53178.2.1 2 = .ok (.aload_n 0, 1) ∧ 2 + 1 = 3 := ⟨by decide +kernel, rfl⟩
theorem aJ7_fill_53178_3 : decode mJ7_fill_53178.2.1 3 = .ok (.arraylength, 1) ∧ 3 + 1 = 4 := ⟨by decide +kernel, rfl⟩
theorem aJ7_fill_53178_4 : decode mJ7_fill_53178.2.1 4 = .ok (.istore_n 3, 1) ∧ 4 + 1 = 5 := ⟨by decide +kernel, rfl⟩
theorem aJ7_fill_53178_5 : decode mJ7_fill_53178.2.1 5 = .ok (.iload_n 2, 1) ∧ 5 + 1 = 6 := ⟨by decide +kernel, rfl⟩
theorem aJ7_fill_53178_6 : decode mJ7_fill_53178.2.1 6 = .ok (.iload_n 3, 1) ∧ 6 + 1 = 7 := ⟨by decide +kernel, rfl⟩
theorem aJ7_fill_53178_7 : decode mJ7_fill_53178.2.1 7 = .ok (.if_icmp .ge 13, 3) ∧ ((7 : Nat) : Int) + 13 = ((20 : Nat) : Int) ∧ 7 + 3 = 10 := ⟨by decide +kernel, by decide, rfl⟩
theorem aJ7_fill_53178_10 : decode mJ7_fill_53178.2.1 10 = .ok (.aload_n 0, 1) ∧ 10 + 1 = 11 := ⟨by decide +kernel, rfl⟩
theorem aJ7_fill_53178_11 : decode mJ7_fill_53178.2.1 11 = .ok (.iload_n 2, 1) ∧ 11 + 1 = 12 := ⟨by decide +kernel, rfl⟩
theorem aJ7_fill_53178_12 : decode mJ7_fill_53178.2.1 12 = .ok (.iload_n 1, 1) ∧ 12 + 1 = 13 := ⟨by decide +kernel, rfl⟩
theorem aJ7_fill_53178_13 : decode mJ7_fill_53178.2.1 13 = .ok (.iastore, 1) ∧ 13 + 1 = 14 := ⟨by decide +kernel, rfl⟩
theorem aJ7_fill_53178_14 : decode mJ7_fill_53178.2.1 14 = .ok (.iinc 2 1, 3) ∧ 14 + 3 = 17 := ⟨by decide +kernel, rfl⟩
theorem aJ7_fill_53178_17 : decode mJ7_fill_53178.2.1 17 = .ok (.goto (-12), 3) ∧ ((17 : Nat) : Int) + (-12) = ((5 : Nat) : Int) := ⟨by decide +kernel, by decide⟩
theorem aJ7_fill_53178_20 : decode mJ7_fill_53178.2.1 20 = .ok (.return_, 1) := by decide +kernel
theorem S_J7_fill_53178 {E : EE} {d : Nat} {I : IH} {Q : QT} {o0 n0 : Nat} (hs0 : shape[o0]? = some (.inr (0, n0, []))) (hn0 : n0 < 2 ^ 30) (x1 : Int32) (h :
J E d mJ7_fill_53178 5 [(0, .ref (eb E + o0)), (1, .int x1), (2, .int (nI 0)), (3, .int (nI n0))] [] I Q) : Mt E d mJ7_fill_53178 [.ref (eb E + o0), .int x1] I Q := by
  refine Mt_of [(0, .ref (eb E + o0)), (1, .int x1)] (by decide +kernel) (by simp [lg_sl, Value.category, mJ7_fill_53178]) rfl ?_
  refine J_iconst (nI 0) aJ7_fill_53178_0 (by decide +kernel) ?_
  refine J_istore_n [(2, .int (nI 0)), (0, .ref (eb E + o0)), (1, .int x1)] aJ7_fill_53178_1 (by decide) rfl ?_
  refine J_aload_n 1 aJ7_fill_53178_2 rfl ?_
  refine J_alen (v := nI n0) aJ7_fill_53178_3 hs0 (by decide) rfl ?_
  refine J_istore_n [(3, .int (nI n0)), (2, .int (nI 0)), (0, .ref (eb E + o0)), (1, .int x1)] aJ7_fill_53178_4 (by decide) rfl ?_
  refine J_pick [2, 3, 1, 0] rfl ?_
  exact h
theorem S_J7_fill_53178_5 {E : EE} {d : Nat} {I : IH} {Q : QT} {o0 n0 : Nat} (hs0 : shape[o0]? = some (.inr (0, n0, []))) (hn0 : n0 < 2 ^ 30) (x1 : Int32) (x2 : Int32) (x3 : Int32) (h :
((x3 ≤ x2 → Q none I) ∧
 (¬ x3 ≤ x2 → (∃ j3 : Nat, x2 = nI j3 ∧ j3 < n0 ∧ (∀ I1 : IH, I1 = stI I o0 j3 x1 →
 J E d mJ7_fill_53178 5 [(0, .ref (eb E + o0)), (1, .int x1), (2, .int (x2 + nI 1)), (3, .int x3)] [] I1 Q))))) : J E d mJ7_fill_53178 5 [(0, .ref (eb E + o0)), (1, .int x1), (2, .int x2), (3, .int x3)] [] I Q := by
  refine J_iload_n 2 aJ7_fill_53178_5 rfl ?_
  refine J_iload_n 3 aJ7_fill_53178_6 rfl ?_
  refine J_icmp_ge aJ7_fill_53178_7 (fun q => ?_) (fun q => ?_)
  · replace h := h.1 q
    exact J_vret aJ7_fill_53178_20 rfl h
  · replace h := h.2 q
    refine J_aload_n 0 aJ7_fill_53178_10 rfl ?_
    refine J_iload_n 2 aJ7_fill_53178_11 rfl ?_
    refine J_iload_n 1 aJ7_fill_53178_12 rfl ?_
    obtain ⟨j3, e4, b5, h⟩ := h
    refine J_iastore j3 aJ7_fill_53178_13 hs0 e4 b5 (by omega) (fun I1 e2 => ?_)
    replace h := h I1 e2
    refine J_iinc (x2 + nI 1) [(2, .int (x2 + nI 1)), (0, .ref (eb E + o0)), (1, .int x1), (3, .int x3)] 2 aJ7_fill_53178_14 rfl (by first | rfl | (congr 1; decide +kernel)) (by decide) rfl ?_
    refine J_goto aJ7_fill_53178_17 ?_
    refine J_pick [1, 2, 0, 3] rfl ?_
    exact h
theorem aX8_clear_0 : decode mX8_clear.2.1 0 = .ok (.aload_n 0, 1) ∧ 0 + 1 = 1 := ⟨by decide +kernel, rfl⟩
theorem aX8_clear_1 : decode mX8_clear.2.1 1 = .ok (.iconst 0, 1) ∧ 1 + 1 = 2 := ⟨by decide +kernel, rfl⟩
theorem aX8_clear_2 : decode mX8_clear.2.1 2 = .ok (.putfield 13, 3) ∧ 2 + 3 = 5 := ⟨by decide +kernel, rfl⟩
theorem aX8_clear_5 : decode mX8_clear.2.1 5 = .ok (.aload_n 0, 1) ∧ 5 + 1 = 6 := ⟨by decide +kernel, rfl⟩
theorem aX8_clear_6 : decode mX8_clear.2.1 6 = .ok (.iconst 0, 1) ∧ 6 + 1 = 7 := ⟨by decide +kernel, rfl⟩
theorem aX8_clear_7 : decode mX8_clear.2.1 7 = .ok (.putfield 23, 3) ∧ 7 + 3 = 10 := ⟨by decide +kernel, rfl⟩
theorem aX8_clear_10 : decode mX8_clear.2.1 10 = .ok (.return_, 1) := by decide +kernel
theorem S_X8_clear {E : EE} {d : Nat} {I : IH} {Q : QT}  (h :
(∀ I1 : IH, I1 = stI I 11 1 (nI 0) →
 (∀ I3 : IH, I3 = stI I1 11 4 (nI 0) →
 Q none I3))) : Mt E d mX8_clear [.ref (eb E + 11)] I Q := by
  refine Mt_of [(0, .ref (eb E + 11))] (by decide +kernel) (by simp [lg_sl, Value.category, mX8_clear]) rfl ?_
  refine J_aload_n 0 aX8_clear_0 rfl ?_
  refine J_iconst (nI 0) aX8_clear_1 (by decide +kernel) ?_
  refine J_putI aX8_clear_2 fpX8_13 sh11 rfl (fun I1 e2 => ?_)
  replace h := h I1 e2
  refine J_aload_n 0 aX8_clear_5 rfl ?_
  refine J_iconst (nI 0) aX8_clear_6 (by decide +kernel) ?_
  refine J_putZ aX8_clear_7 fpX8_23 sh11 rfl (by decide +kernel) (fun I3 e4 => ?_)
  replace h := h I3 e4
  exact J_vret aX8_clear_10 rfl h
theorem aX8_begins_0 : decode mX8_begins.2.1 0 = .ok (.aload_n 0, 1) ∧ 0 + 1 = 1 := ⟨by decide +kernel, rfl⟩
theorem aX8_begins_1 : decode mX8_begins.2.1 1 = .ok (.getfield 23, 3) ∧ 1 + 3 = 4 := ⟨by decide +kernel, rfl⟩
theorem aX8_begins_4 : decode mX8_begins.2.1 4 = .ok (.ifCond .eq 5, 3) ∧ ((4 : Nat) : Int) + 5 = ((9 : Nat) : Int) ∧ 4 + 3 = 7 := ⟨by decide +kernel, by decide, rfl⟩
theorem aX8_begins_7 : decode mX8_begins.2.1 7 = .ok (.iconst 0, 1) ∧ 7 + 1 = 8 := ⟨by decide +kernel, rfl⟩
theorem aX8_begins_8 : decode mX8_begins.2.1 8 = .ok (.ireturn, 1) := by decide +kernel
theorem aX8_begins_9 : decode mX8_begins.2.1 9 = .ok (.aload_n 0, 1) ∧ 9 + 1 = 10 := ⟨by decide +kernel, rfl⟩
theorem aX8_begins_10 : decode mX8_begins.2.1 10 = .ok (.getfield 13, 3) ∧ 10 + 3 = 13 := ⟨by decide +kernel, rfl⟩
theorem aX8_begins_13 : decode mX8_begins.2.1 13 = .ok (.aload_n 0, 1) ∧ 13 + 1 = 14 := ⟨by decide +kernel, rfl⟩
theorem aX8_begins_14 : decode mX8_begins.2.1 14 = .ok (.getfield 7, 3) ∧ 14 + 3 = 17 := ⟨by decide +kernel, rfl⟩
theorem aX8_begins_17 : decode mX8_begins.2.1 17 = .ok (.arraylength, 1) ∧ 17 + 1 = 18 := ⟨by decide +kernel, rfl⟩
theorem aX8_begins_18 : decode mX8_begins.2.1 18 = .ok (.if_icmp .ge 23, 3) ∧ ((18 : Nat) : Int) + 23 = ((41 : Nat) : Int) ∧ 18 + 3 = 21 := ⟨by decide +kernel, by decide, rfl⟩
theorem aX8_begins_21 : decode mX8_begins.2.1 21 = .ok (.aload_n 0, 1) ∧ 21 + 1 = 22 := ⟨by decide +kernel, rfl⟩
theorem aX8_begins_22 : decode mX8_begins.2.1 22 = .ok (.getfield 7, 3) ∧ 22 + 3 = 25 := ⟨by decide +kernel, rfl⟩
theorem aX8_begins_25 : decode mX8_begins.2.1 25 = .ok (.aload_n 0, 1) ∧ 25 + 1 = 26 := ⟨by decide +kernel, rfl⟩
theorem aX8_begins_26 : decode mX8_begins.2.1 26 = .ok (.getfield 13, 3) ∧ 26 + 3 = 29 := ⟨by decide +kernel, rfl⟩
theorem aX8_begins_29 : decode mX8_begins.2.1 29 = .ok (.iload_n 1, 1) ∧ 29 + 1 = 30 := ⟨by decide +kernel, rfl⟩
theorem aX8_begins_30 : decode mX8_begins.2.1 30 = .ok (.iastore, 1) ∧ 30 + 1 = 31 := ⟨by decide +kernel, rfl⟩
theorem aX8_begins_31 : decode mX8_begins.2.1 31 = .ok (.aload_n 0, 1) ∧ 31 + 1 = 32 := ⟨by decide +kernel, rfl⟩
theorem aX8_begins_32 : decode mX8_begins.2.1 32 = .ok (.dup, 1) ∧ 32 + 1 = 33 := ⟨by decide +kernel, rfl⟩
theorem aX8_begins_33 : decode mX8_begins.2.1 33 = .ok (.getfield 13, 3) ∧ 33 + 3 = 36 := ⟨by decide +kernel, rfl⟩
theorem aX8_begins_36 : decode mX8_begins.2.1 36 = .ok (.iconst 1, 1) ∧ 36 + 1 = 37 := ⟨by decide +kernel, rfl⟩
theorem aX8_begins_37 : decode mX8_begins.2.1 37 = .ok (.iadd, 1) ∧ 37 + 1 = 38 := ⟨by decide +kernel, rfl⟩
theorem aX8_begins_38 : decode mX8_begins.2.1 38 = .ok (.putfield 13, 3) ∧ 38 + 3 = 41 := ⟨by decide +kernel, rfl⟩
theorem aX8_begins_41 : decode mX8_begins.2.1 41 = .ok (.iconst 1, 1) ∧ 41 + 1 = 42 := ⟨by decide +kernel, rfl⟩
theorem aX8_begins_42 : decode mX8_begins.2.1 42 = .ok (.ireturn, 1) := by decide +kernel
theorem S_X8_begins {E : EE} {d : Nat} {I : IH} {Q : QT} (x1 : Int32) (h :
(((I 11 4) = 0 → (((nI 30) ≤ (I 11 1) → Q (some (.int (nI 1))) I) ∧
 (¬ (nI 30) ≤ (I 11 1) → (∃ j3 : Nat, (I 11 1) = nI j3 ∧ j3 < 30 ∧ (∀ I1 : IH, I1 = stI I 12 j3 x1 →
 (∀ I6 : IH, I6 = stI I1 11 1 ((I1 11 1) + (nI 1)) →
 Q (some (.int (nI 1))) I6)))))) ∧
 (¬ (I 11 4) = 0 → Q (some (.int (nI 0))) I))) : Mt E d mX8_begins [.ref (eb E + 11), .int x1] I Q := by
  refine Mt_of [(0, .ref (eb E + 11)), (1, .int x1)] (by decide +kernel) (by simp [lg_sl, Value.category, mX8_begins]) rfl ?_
  refine J_aload_n 0 aX8_begins_0 rfl ?_
  refine J_getI aX8_begins_1 flX8_23 sh11 rfl ?_
  refine J_if_eq aX8_begins_4 (fun q => ?_) (fun q => ?_)
  · replace h := h.1 q
    refine J_aload_n 0 aX8_begins_9 rfl ?_
    refine J_getI aX8_begins_10 flX8_13 sh11 rfl ?_
    refine J_aload_n 0 aX8_begins_13 rfl ?_
    refine J_getR aX8_begins_14 flX8_7 sh11 rfl ?_
    refine J_alen (v := nI 30) aX8_begins_17 sh12 (by decide) rfl ?_
    refine J_icmp_ge aX8_begins_18 (fun q => ?_) (fun q => ?_)
    · replace h := h.1 q
      refine J_iconst (nI 1) aX8_begins_41 (by decide +kernel) ?_
      exact J_zret aX8_begins_42 rfl (by decide +kernel) h
    · replace h := h.2 q
      refine J_aload_n 0 aX8_begins_21 rfl ?_
      refine J_getR aX8_begins_22 flX8_7 sh11 rfl ?_
      refine J_aload_n 0 aX8_begins_25 rfl ?_
      refine J_getI aX8_begins_26 flX8_13 sh11 rfl ?_
      refine J_iload_n 1 aX8_begins_29 rfl ?_
      obtain ⟨j3, e4, b5, h⟩ := h
      refine J_iastore j3 aX8_begins_30 sh12 e4 b5 (by decide) (fun I1 e2 => ?_)
      replace h := h I1 e2
      refine J_aload_n 0 aX8_begins_31 rfl ?_
      refine J_dup aX8_begins_32 rfl ?_
      refine J_getI aX8_begins_33 flX8_13 sh11 rfl ?_
      refine J_iconst (nI 1) aX8_begins_36 (by decide +kernel) ?_
      refine J_iadd aX8_begins_37 ?_
      refine J_putI aX8_begins_38 fpX8_13 sh11 rfl (fun I6 e7 => ?_)
      replace h := h I6 e7
      refine J_iconst (nI 1) aX8_begins_41 (by decide +kernel) ?_
      exact J_zret aX8_begins_42 rfl (by decide +kernel) h
  · replace h := h.2 q
    refine J_iconst (nI 0) aX8_begins_7 (by decide +kernel) ?_
    exact J_zret aX8_begins_8 rfl (by decide +kernel) h
theorem aX4_next_0 : decode mX4_next.2.1 0 = .ok (.iload_n 1, 1) ∧ 0 + 1 = 1 := ⟨by decide +kernel, rfl⟩
theorem aX4_next_1 : decode mX4_next.2.1 1 = .ok (.iconst 1, 1) ∧ 1 + 1 = 2 := ⟨by decide +kernel, rfl⟩
theorem aX4_next_2 : decode mX4_next.2.1 2 = .ok (.ishl, 1) ∧ 2 + 1 = 3 := ⟨by decide +kernel, rfl⟩
theorem aX4_next_3 : decode mX4_next.2.1 3 = .ok (.iload_n 1, 1) ∧ 3 + 1 = 4 := ⟨by decide +kernel, rfl⟩
theorem aX4_next_4 : decode mX4_next.2.1 4 = .ok (.bipush 7, 2) ∧ 4 + 2 = 6 := ⟨by decide +kernel, rfl⟩
theorem aX4_next_6 : decode mX4_next.2.1 6 = .ok (.ishr, 1) ∧ 6 + 1 = 7 := ⟨by decide +kernel, rfl⟩
theorem aX4_next_7 : decode mX4_next.2.1 7 = .ok (.ior, 1) ∧ 7 + 1 = 8 := ⟨by decide +kernel, rfl⟩
theorem aX4_next_8 : decode mX4_next.2.1 8 = .ok (.sipush 255, 3) ∧ 8 + 3 = 11 := ⟨by decide +kernel, rfl⟩
theorem aX4_next_11 : decode mX4_next.2.1 11 = .ok (.iand, 1) ∧ 11 + 1 = 12 := ⟨by decide +kernel, rfl⟩
theorem aX4_next_12 : decode mX4_next.2.1 12 = .ok (.ireturn, 1) := by decide +kernel
theorem S_X4_next_21 {E : EE} {d : Nat} {I : IH} {Q : QT} (x1 : Int32) (x2 : Int32) (h :
Q (some (.int (((x1 <<< ((nI 1) &&& 31)) ||| (x1 >>> ((nI 7) &&& 31))) &&& (nI 255)))) I) : Mt E d mX4_next [.ref (eb E + 21), .int x1, .int x2] I Q := by
  refine Mt_of [(0, .ref (eb E + 21)), (1, .int x1), (2, .int x2)] (by decide +kernel) (by simp [lg_sl, Value.category, mX4_next]) rfl ?_
  refine J_iload_n 1 aX4_next_0 rfl ?_
  refine J_iconst (nI 1) aX4_next_1 (by decide +kernel) ?_
  refine J_ishl aX4_next_2 ?_
  refine J_iload_n 1 aX4_next_3 rfl ?_
  refine J_bipush (nI 7) aX4_next_4 (by decide +kernel) ?_
  refine J_ishr aX4_next_6 ?_
  refine J_ior aX4_next_7 ?_
  refine J_sipush (nI 255) aX4_next_8 (by decide +kernel) ?_
  refine J_iand aX4_next_11 ?_
  exact J_iret aX4_next_12 rfl h
theorem S_X4_next_22 {E : EE} {d : Nat} {I : IH} {Q : QT} (x1 : Int32) (x2 : Int32) (h :
Q (some (.int (((x1 <<< ((nI 1) &&& 31)) ||| (x1 >>> ((nI 7) &&& 31))) &&& (nI 255)))) I) : Mt E d mX4_next [.ref (eb E + 22), .int x1, .int x2] I Q := by
  refine Mt_of [(0, .ref (eb E + 22)), (1, .int x1), (2, .int x2)] (by decide +kernel) (by simp [lg_sl, Value.category, mX4_next]) rfl ?_
  refine J_iload_n 1 aX4_next_0 rfl ?_
  refine J_iconst (nI 1) aX4_next_1 (by decide +kernel) ?_
  refine J_ishl aX4_next_2 ?_
  refine J_iload_n 1 aX4_next_3 rfl ?_
  refine J_bipush (nI 7) aX4_next_4 (by decide +kernel) ?_
  refine J_ishr aX4_next_6 ?_
  refine J_ior aX4_next_7 ?_
  refine J_sipush (nI 255) aX4_next_8 (by decide +kernel) ?_
  refine J_iand aX4_next_11 ?_
  exact J_iret aX4_next_12 rfl h
theorem S_X4_next_23 {E : EE} {d : Nat} {I : IH} {Q : QT} (x1 : Int32) (x2 : Int32) (h :
Q (some (.int (((x1 <<< ((nI 1) &&& 31)) ||| (x1 >>> ((nI 7) &&& 31))) &&& (nI 255)))) I) : Mt E d mX4_next [.ref (eb E + 23), .int x1, .int x2] I Q := by
  refine Mt_of [(0, .ref (eb E + 23)), (1, .int x1), (2, .int x2)] (by decide +kernel) (by simp [lg_sl, Value.category, mX4_next]) rfl ?_
  refine J_iload_n 1 aX4_next_0 rfl ?_
  refine J_iconst (nI 1) aX4_next_1 (by decide +kernel) ?_
  refine J_ishl aX4_next_2 ?_
  refine J_iload_n 1 aX4_next_3 rfl ?_
  refine J_bipush (nI 7) aX4_next_4 (by decide +kernel) ?_
  refine J_ishr aX4_next_6 ?_
  refine J_ior aX4_next_7 ?_
  refine J_sipush (nI 255) aX4_next_8 (by decide +kernel) ?_
  refine J_iand aX4_next_11 ?_
  exact J_iret aX4_next_12 rfl h
theorem S_X4_next_24 {E : EE} {d : Nat} {I : IH} {Q : QT} (x1 : Int32) (x2 : Int32) (h :
Q (some (.int (((x1 <<< ((nI 1) &&& 31)) ||| (x1 >>> ((nI 7) &&& 31))) &&& (nI 255)))) I) : Mt E d mX4_next [.ref (eb E + 24), .int x1, .int x2] I Q := by
  refine Mt_of [(0, .ref (eb E + 24)), (1, .int x1), (2, .int x2)] (by decide +kernel) (by simp [lg_sl, Value.category, mX4_next]) rfl ?_
  refine J_iload_n 1 aX4_next_0 rfl ?_
  refine J_iconst (nI 1) aX4_next_1 (by decide +kernel) ?_
  refine J_ishl aX4_next_2 ?_
  refine J_iload_n 1 aX4_next_3 rfl ?_
  refine J_bipush (nI 7) aX4_next_4 (by decide +kernel) ?_
  refine J_ishr aX4_next_6 ?_
  refine J_ior aX4_next_7 ?_
  refine J_sipush (nI 255) aX4_next_8 (by decide +kernel) ?_
  refine J_iand aX4_next_11 ?_
  exact J_iret aX4_next_12 rfl h
theorem S_X4_next_25 {E : EE} {d : Nat} {I : IH} {Q : QT} (x1 : Int32) (x2 : Int32) (h :
Q (some (.int (((x1 <<< ((nI 1) &&& 31)) ||| (x1 >>> ((nI 7) &&& 31))) &&& (nI 255)))) I) : Mt E d mX4_next [.ref (eb E + 25), .int x1, .int x2] I Q := by
  refine Mt_of [(0, .ref (eb E + 25)), (1, .int x1), (2, .int x2)] (by decide +kernel) (by simp [lg_sl, Value.category, mX4_next]) rfl ?_
  refine J_iload_n 1 aX4_next_0 rfl ?_
  refine J_iconst (nI 1) aX4_next_1 (by decide +kernel) ?_
  refine J_ishl aX4_next_2 ?_
  refine J_iload_n 1 aX4_next_3 rfl ?_
  refine J_bipush (nI 7) aX4_next_4 (by decide +kernel) ?_
  refine J_ishr aX4_next_6 ?_
  refine J_ior aX4_next_7 ?_
  refine J_sipush (nI 255) aX4_next_8 (by decide +kernel) ?_
  refine J_iand aX4_next_11 ?_
  exact J_iret aX4_next_12 rfl h
theorem S_X4_next_26 {E : EE} {d : Nat} {I : IH} {Q : QT} (x1 : Int32) (x2 : Int32) (h :
Q (some (.int (((x1 <<< ((nI 1) &&& 31)) ||| (x1 >>> ((nI 7) &&& 31))) &&& (nI 255)))) I) : Mt E d mX4_next [.ref (eb E + 26), .int x1, .int x2] I Q := by
  refine Mt_of [(0, .ref (eb E + 26)), (1, .int x1), (2, .int x2)] (by decide +kernel) (by simp [lg_sl, Value.category, mX4_next]) rfl ?_
  refine J_iload_n 1 aX4_next_0 rfl ?_
  refine J_iconst (nI 1) aX4_next_1 (by decide +kernel) ?_
  refine J_ishl aX4_next_2 ?_
  refine J_iload_n 1 aX4_next_3 rfl ?_
  refine J_bipush (nI 7) aX4_next_4 (by decide +kernel) ?_
  refine J_ishr aX4_next_6 ?_
  refine J_ior aX4_next_7 ?_
  refine J_sipush (nI 255) aX4_next_8 (by decide +kernel) ?_
  refine J_iand aX4_next_11 ?_
  exact J_iret aX4_next_12 rfl h
theorem aX4_price_0 : decode mX4_price.2.1 0 = .ok (.iload_n 1, 1) ∧ 0 + 1 = 1 := ⟨by decide +kernel, rfl⟩
theorem aX4_price_1 : decode mX4_price.2.1 1 = .ok (.ireturn, 1) := by decide +kernel
theorem S_X4_price_21 {E : EE} {d : Nat} {I : IH} {Q : QT} (x1 : Int32) (x2 : Int32) (h :
Q (some (.int x1)) I) : Mt E d mX4_price [.ref (eb E + 21), .int x1, .int x2] I Q := by
  refine Mt_of [(0, .ref (eb E + 21)), (1, .int x1), (2, .int x2)] (by decide +kernel) (by simp [lg_sl, Value.category, mX4_price]) rfl ?_
  refine J_iload_n 1 aX4_price_0 rfl ?_
  exact J_iret aX4_price_1 rfl h
theorem S_X4_price_22 {E : EE} {d : Nat} {I : IH} {Q : QT} (x1 : Int32) (x2 : Int32) (h :
Q (some (.int x1)) I) : Mt E d mX4_price [.ref (eb E + 22), .int x1, .int x2] I Q := by
  refine Mt_of [(0, .ref (eb E + 22)), (1, .int x1), (2, .int x2)] (by decide +kernel) (by simp [lg_sl, Value.category, mX4_price]) rfl ?_
  refine J_iload_n 1 aX4_price_0 rfl ?_
  exact J_iret aX4_price_1 rfl h
theorem S_X4_price_23 {E : EE} {d : Nat} {I : IH} {Q : QT} (x1 : Int32) (x2 : Int32) (h :
Q (some (.int x1)) I) : Mt E d mX4_price [.ref (eb E + 23), .int x1, .int x2] I Q := by
  refine Mt_of [(0, .ref (eb E + 23)), (1, .int x1), (2, .int x2)] (by decide +kernel) (by simp [lg_sl, Value.category, mX4_price]) rfl ?_
  refine J_iload_n 1 aX4_price_0 rfl ?_
  exact J_iret aX4_price_1 rfl h
theorem S_X4_price_24 {E : EE} {d : Nat} {I : IH} {Q : QT} (x1 : Int32) (x2 : Int32) (h :
Q (some (.int x1)) I) : Mt E d mX4_price [.ref (eb E + 24), .int x1, .int x2] I Q := by
  refine Mt_of [(0, .ref (eb E + 24)), (1, .int x1), (2, .int x2)] (by decide +kernel) (by simp [lg_sl, Value.category, mX4_price]) rfl ?_
  refine J_iload_n 1 aX4_price_0 rfl ?_
  exact J_iret aX4_price_1 rfl h
theorem S_X4_price_25 {E : EE} {d : Nat} {I : IH} {Q : QT} (x1 : Int32) (x2 : Int32) (h :
Q (some (.int x1)) I) : Mt E d mX4_price [.ref (eb E + 25), .int x1, .int x2] I Q := by
  refine Mt_of [(0, .ref (eb E + 25)), (1, .int x1), (2, .int x2)] (by decide +kernel) (by simp [lg_sl, Value.category, mX4_price]) rfl ?_
  refine J_iload_n 1 aX4_price_0 rfl ?_
  exact J_iret aX4_price_1 rfl h
theorem S_X4_price_26 {E : EE} {d : Nat} {I : IH} {Q : QT} (x1 : Int32) (x2 : Int32) (h :
Q (some (.int x1)) I) : Mt E d mX4_price [.ref (eb E + 26), .int x1, .int x2] I Q := by
  refine Mt_of [(0, .ref (eb E + 26)), (1, .int x1), (2, .int x2)] (by decide +kernel) (by simp [lg_sl, Value.category, mX4_price]) rfl ?_
  refine J_iload_n 1 aX4_price_0 rfl ?_
  exact J_iret aX4_price_1 rfl h
theorem aX4_glows_0 : decode mX4_glows.2.1 0 = .ok (.aload_n 1, 1) ∧ 0 + 1 = 1 := ⟨by decide +kernel, rfl⟩
theorem aX4_glows_1 : decode mX4_glows.2.1 1 = .ok (.bipush 10, 2) ∧ 1 + 2 = 3 := ⟨by decide +kernel, rfl⟩
theorem aX4_glows_3 : decode mX4_glows.2.1 3 = .ok (.invokevirtual 9, 3) ∧ 3 + 3 = 6 := ⟨by decide +kernel, rfl⟩
theorem aX4_glows_6 : decode mX4_glows.2.1 6 = .ok (.ifCond .ne 5, 3) ∧ ((6 : Nat) : Int) + 5 = ((11 : Nat) : Int) ∧ 6 + 3 = 9 := ⟨by decide +kernel, by decide, rfl⟩
theorem aX4_glows_9 : decode mX4_glows.2.1 9 = .ok (.iconst 0, 1) ∧ 9 + 1 = 10 := ⟨by decide +kernel, rfl⟩
theorem aX4_glows_10 : decode mX4_glows.2.1 10 = .ok (.ireturn, 1) := by decide +kernel
theorem aX4_glows_11 : decode mX4_glows.2.1 11 = .ok (.iload_n 2, 1) ∧ 11 + 1 = 12 := ⟨by decide +kernel, rfl⟩
theorem aX4_glows_12 : decode mX4_glows.2.1 12 = .ok (.iconst 3, 1) ∧ 12 + 1 = 13 := ⟨by decide +kernel, rfl⟩
theorem aX4_glows_13 : decode mX4_glows.2.1 13 = .ok (.aload_n 1, 1) ∧ 13 + 1 = 14 := ⟨by decide +kernel, rfl⟩
theorem aX4_glows_14 : decode mX4_glows.2.1 14 = .ok (.getfield 15, 3) ∧ 14 + 3 = 17 := ⟨by decide +kernel, rfl⟩
theorem aX4_glows_17 : decode mX4_glows.2.1 17 = .ok (.imul, 1) ∧ 17 + 1 = 18 := ⟨by decide +kernel, rfl⟩
theorem aX4_glows_18 : decode mX4_glows.2.1 18 = .ok (.iadd, 1) ∧ 18 + 1 = 19 := ⟨by decide +kernel, rfl⟩
theorem aX4_glows_19 : decode mX4_glows.2.1 19 = .ok (.ireturn, 1) := by decide +kernel
theorem S_X4_glows_21 {E : EE} {d : Nat} {I : IH} {Q : QT} (x2 : Int32) (h :
(Mt E d mX8_begins [.ref (eb E + 11), .int (nI 10)] I (fun rv I1 => ∃ v2 : Int32, rv = some (.int v2) ∧
 ((¬ v2 = 0 → Q (some (.int (x2 + ((nI 3) * (I1 11 2))))) I1) ∧
 (v2 = 0 → Q (some (.int (nI 0))) I1))))) : Mt E (d + 1) mX4_glows [.ref (eb E + 21), .ref (eb E + 11), .int x2] I Q := by
  refine Mt_of [(0, .ref (eb E + 21)), (1, .ref (eb E + 11)), (2, .int x2)] (by decide +kernel) (by simp [lg_sl, Value.category, mX4_glows]) rfl ?_
  refine J_aload_n 1 aX4_glows_0 rfl ?_
  refine J_bipush (nI 10) aX4_glows_1 (by decide +kernel) ?_
  refine J_callV [.int (nI 10)] [] aX4_glows_3 lkX4_9_X8 okX8_begins sh11 rfl rfl rfl (Nat.le_of_ble_eq_true rfl) (Nat.le_refl _) (Mt_mono h (fun rv I1 h => ?_))
  obtain ⟨v2, rfl, h⟩ := h
  refine J_r1 ?_
  refine J_if_ne aX4_glows_6 (fun q => ?_) (fun q => ?_)
  · replace h := h.1 q
    refine J_iload_n 2 aX4_glows_11 rfl ?_
    refine J_iconst (nI 3) aX4_glows_12 (by decide +kernel) ?_
    refine J_aload_n 1 aX4_glows_13 rfl ?_
    refine J_getI aX4_glows_14 flX4_15 sh11 rfl ?_
    refine J_imul aX4_glows_17 ?_
    refine J_iadd aX4_glows_18 ?_
    exact J_iret aX4_glows_19 rfl h
  · replace h := h.2 q
    refine J_iconst (nI 0) aX4_glows_9 (by decide +kernel) ?_
    exact J_iret aX4_glows_10 rfl h
theorem S_X4_glows_22 {E : EE} {d : Nat} {I : IH} {Q : QT} (x2 : Int32) (h :
(Mt E d mX8_begins [.ref (eb E + 11), .int (nI 10)] I (fun rv I1 => ∃ v2 : Int32, rv = some (.int v2) ∧
 ((¬ v2 = 0 → Q (some (.int (x2 + ((nI 3) * (I1 11 2))))) I1) ∧
 (v2 = 0 → Q (some (.int (nI 0))) I1))))) : Mt E (d + 1) mX4_glows [.ref (eb E + 22), .ref (eb E + 11), .int x2] I Q := by
  refine Mt_of [(0, .ref (eb E + 22)), (1, .ref (eb E + 11)), (2, .int x2)] (by decide +kernel) (by simp [lg_sl, Value.category, mX4_glows]) rfl ?_
  refine J_aload_n 1 aX4_glows_0 rfl ?_
  refine J_bipush (nI 10) aX4_glows_1 (by decide +kernel) ?_
  refine J_callV [.int (nI 10)] [] aX4_glows_3 lkX4_9_X8 okX8_begins sh11 rfl rfl rfl (Nat.le_of_ble_eq_true rfl) (Nat.le_refl _) (Mt_mono h (fun rv I1 h => ?_))
  obtain ⟨v2, rfl, h⟩ := h
  refine J_r1 ?_
  refine J_if_ne aX4_glows_6 (fun q => ?_) (fun q => ?_)
  · replace h := h.1 q
    refine J_iload_n 2 aX4_glows_11 rfl ?_
    refine J_iconst (nI 3) aX4_glows_12 (by decide +kernel) ?_
    refine J_aload_n 1 aX4_glows_13 rfl ?_
    refine J_getI aX4_glows_14 flX4_15 sh11 rfl ?_
    refine J_imul aX4_glows_17 ?_
    refine J_iadd aX4_glows_18 ?_
    exact J_iret aX4_glows_19 rfl h
  · replace h := h.2 q
    refine J_iconst (nI 0) aX4_glows_9 (by decide +kernel) ?_
    exact J_iret aX4_glows_10 rfl h
theorem S_X4_glows_23 {E : EE} {d : Nat} {I : IH} {Q : QT} (x2 : Int32) (h :
(Mt E d mX8_begins [.ref (eb E + 11), .int (nI 10)] I (fun rv I1 => ∃ v2 : Int32, rv = some (.int v2) ∧
 ((¬ v2 = 0 → Q (some (.int (x2 + ((nI 3) * (I1 11 2))))) I1) ∧
 (v2 = 0 → Q (some (.int (nI 0))) I1))))) : Mt E (d + 1) mX4_glows [.ref (eb E + 23), .ref (eb E + 11), .int x2] I Q := by
  refine Mt_of [(0, .ref (eb E + 23)), (1, .ref (eb E + 11)), (2, .int x2)] (by decide +kernel) (by simp [lg_sl, Value.category, mX4_glows]) rfl ?_
  refine J_aload_n 1 aX4_glows_0 rfl ?_
  refine J_bipush (nI 10) aX4_glows_1 (by decide +kernel) ?_
  refine J_callV [.int (nI 10)] [] aX4_glows_3 lkX4_9_X8 okX8_begins sh11 rfl rfl rfl (Nat.le_of_ble_eq_true rfl) (Nat.le_refl _) (Mt_mono h (fun rv I1 h => ?_))
  obtain ⟨v2, rfl, h⟩ := h
  refine J_r1 ?_
  refine J_if_ne aX4_glows_6 (fun q => ?_) (fun q => ?_)
  · replace h := h.1 q
    refine J_iload_n 2 aX4_glows_11 rfl ?_
    refine J_iconst (nI 3) aX4_glows_12 (by decide +kernel) ?_
    refine J_aload_n 1 aX4_glows_13 rfl ?_
    refine J_getI aX4_glows_14 flX4_15 sh11 rfl ?_
    refine J_imul aX4_glows_17 ?_
    refine J_iadd aX4_glows_18 ?_
    exact J_iret aX4_glows_19 rfl h
  · replace h := h.2 q
    refine J_iconst (nI 0) aX4_glows_9 (by decide +kernel) ?_
    exact J_iret aX4_glows_10 rfl h
theorem S_X4_glows_24 {E : EE} {d : Nat} {I : IH} {Q : QT} (x2 : Int32) (h :
(Mt E d mX8_begins [.ref (eb E + 11), .int (nI 10)] I (fun rv I1 => ∃ v2 : Int32, rv = some (.int v2) ∧
 ((¬ v2 = 0 → Q (some (.int (x2 + ((nI 3) * (I1 11 2))))) I1) ∧
 (v2 = 0 → Q (some (.int (nI 0))) I1))))) : Mt E (d + 1) mX4_glows [.ref (eb E + 24), .ref (eb E + 11), .int x2] I Q := by
  refine Mt_of [(0, .ref (eb E + 24)), (1, .ref (eb E + 11)), (2, .int x2)] (by decide +kernel) (by simp [lg_sl, Value.category, mX4_glows]) rfl ?_
  refine J_aload_n 1 aX4_glows_0 rfl ?_
  refine J_bipush (nI 10) aX4_glows_1 (by decide +kernel) ?_
  refine J_callV [.int (nI 10)] [] aX4_glows_3 lkX4_9_X8 okX8_begins sh11 rfl rfl rfl (Nat.le_of_ble_eq_true rfl) (Nat.le_refl _) (Mt_mono h (fun rv I1 h => ?_))
  obtain ⟨v2, rfl, h⟩ := h
  refine J_r1 ?_
  refine J_if_ne aX4_glows_6 (fun q => ?_) (fun q => ?_)
  · replace h := h.1 q
    refine J_iload_n 2 aX4_glows_11 rfl ?_
    refine J_iconst (nI 3) aX4_glows_12 (by decide +kernel) ?_
    refine J_aload_n 1 aX4_glows_13 rfl ?_
    refine J_getI aX4_glows_14 flX4_15 sh11 rfl ?_
    refine J_imul aX4_glows_17 ?_
    refine J_iadd aX4_glows_18 ?_
    exact J_iret aX4_glows_19 rfl h
  · replace h := h.2 q
    refine J_iconst (nI 0) aX4_glows_9 (by decide +kernel) ?_
    exact J_iret aX4_glows_10 rfl h
theorem S_X4_glows_25 {E : EE} {d : Nat} {I : IH} {Q : QT} (x2 : Int32) (h :
(Mt E d mX8_begins [.ref (eb E + 11), .int (nI 10)] I (fun rv I1 => ∃ v2 : Int32, rv = some (.int v2) ∧
 ((¬ v2 = 0 → Q (some (.int (x2 + ((nI 3) * (I1 11 2))))) I1) ∧
 (v2 = 0 → Q (some (.int (nI 0))) I1))))) : Mt E (d + 1) mX4_glows [.ref (eb E + 25), .ref (eb E + 11), .int x2] I Q := by
  refine Mt_of [(0, .ref (eb E + 25)), (1, .ref (eb E + 11)), (2, .int x2)] (by decide +kernel) (by simp [lg_sl, Value.category, mX4_glows]) rfl ?_
  refine J_aload_n 1 aX4_glows_0 rfl ?_
  refine J_bipush (nI 10) aX4_glows_1 (by decide +kernel) ?_
  refine J_callV [.int (nI 10)] [] aX4_glows_3 lkX4_9_X8 okX8_begins sh11 rfl rfl rfl (Nat.le_of_ble_eq_true rfl) (Nat.le_refl _) (Mt_mono h (fun rv I1 h => ?_))
  obtain ⟨v2, rfl, h⟩ := h
  refine J_r1 ?_
  refine J_if_ne aX4_glows_6 (fun q => ?_) (fun q => ?_)
  · replace h := h.1 q
    refine J_iload_n 2 aX4_glows_11 rfl ?_
    refine J_iconst (nI 3) aX4_glows_12 (by decide +kernel) ?_
    refine J_aload_n 1 aX4_glows_13 rfl ?_
    refine J_getI aX4_glows_14 flX4_15 sh11 rfl ?_
    refine J_imul aX4_glows_17 ?_
    refine J_iadd aX4_glows_18 ?_
    exact J_iret aX4_glows_19 rfl h
  · replace h := h.2 q
    refine J_iconst (nI 0) aX4_glows_9 (by decide +kernel) ?_
    exact J_iret aX4_glows_10 rfl h
theorem S_X4_glows_26 {E : EE} {d : Nat} {I : IH} {Q : QT} (x2 : Int32) (h :
(Mt E d mX8_begins [.ref (eb E + 11), .int (nI 10)] I (fun rv I1 => ∃ v2 : Int32, rv = some (.int v2) ∧
 ((¬ v2 = 0 → Q (some (.int (x2 + ((nI 3) * (I1 11 2))))) I1) ∧
 (v2 = 0 → Q (some (.int (nI 0))) I1))))) : Mt E (d + 1) mX4_glows [.ref (eb E + 26), .ref (eb E + 11), .int x2] I Q := by
  refine Mt_of [(0, .ref (eb E + 26)), (1, .ref (eb E + 11)), (2, .int x2)] (by decide +kernel) (by simp [lg_sl, Value.category, mX4_glows]) rfl ?_
  refine J_aload_n 1 aX4_glows_0 rfl ?_
  refine J_bipush (nI 10) aX4_glows_1 (by decide +kernel) ?_
  refine J_callV [.int (nI 10)] [] aX4_glows_3 lkX4_9_X8 okX8_begins sh11 rfl rfl rfl (Nat.le_of_ble_eq_true rfl) (Nat.le_refl _) (Mt_mono h (fun rv I1 h => ?_))
  obtain ⟨v2, rfl, h⟩ := h
  refine J_r1 ?_
  refine J_if_ne aX4_glows_6 (fun q => ?_) (fun q => ?_)
  · replace h := h.1 q
    refine J_iload_n 2 aX4_glows_11 rfl ?_
    refine J_iconst (nI 3) aX4_glows_12 (by decide +kernel) ?_
    refine J_aload_n 1 aX4_glows_13 rfl ?_
    refine J_getI aX4_glows_14 flX4_15 sh11 rfl ?_
    refine J_imul aX4_glows_17 ?_
    refine J_iadd aX4_glows_18 ?_
    exact J_iret aX4_glows_19 rfl h
  · replace h := h.2 q
    refine J_iconst (nI 0) aX4_glows_9 (by decide +kernel) ?_
    exact J_iret aX4_glows_10 rfl h
theorem aX4_smokes_0 : decode mX4_smokes.2.1 0 = .ok (.aload_n 1, 1) ∧ 0 + 1 = 1 := ⟨by decide +kernel, rfl⟩
theorem aX4_smokes_1 : decode mX4_smokes.2.1 1 = .ok (.bipush 11, 2) ∧ 1 + 2 = 3 := ⟨by decide +kernel, rfl⟩
theorem aX4_smokes_3 : decode mX4_smokes.2.1 3 = .ok (.invokevirtual 9, 3) ∧ 3 + 3 = 6 := ⟨by decide +kernel, rfl⟩
theorem aX4_smokes_6 : decode mX4_smokes.2.1 6 = .ok (.ifCond .ne 5, 3) ∧ ((6 : Nat) : Int) + 5 = ((11 : Nat) : Int) ∧ 6 + 3 = 9 := ⟨by decide +kernel, by decide, rfl⟩
theorem aX4_smokes_9 : decode mX4_smokes.2.1 9 = .ok (.iconst 0, 1) ∧ 9 + 1 = 10 := ⟨by decide +kernel, rfl⟩
theorem aX4_smokes_10 : decode mX4_smokes.2.1 10 = .ok (.ireturn, 1) := by decide +kernel
theorem aX4_smokes_11 : decode mX4_smokes.2.1 11 = .ok (.aload_n 0, 1) ∧ 11 + 1 = 12 := ⟨by decide +kernel, rfl⟩
theorem aX4_smokes_12 : decode mX4_smokes.2.1 12 = .ok (.aload_n 1, 1) ∧ 12 + 1 = 13 := ⟨by decide +kernel, rfl⟩
theorem aX4_smokes_13 : decode mX4_smokes.2.1 13 = .ok (.iload_n 2, 1) ∧ 13 + 1 = 14 := ⟨by decide +kernel, rfl⟩
theorem aX4_smokes_14 : decode mX4_smokes.2.1 14 = .ok (.invokevirtual 19, 3) ∧ 14 + 3 = 17 := ⟨by decide +kernel, rfl⟩
theorem aX4_smokes_17 : decode mX4_smokes.2.1 17 = .ok (.iconst 2, 1) ∧ 17 + 1 = 18 := ⟨by decide +kernel, rfl⟩
theorem aX4_smokes_18 : decode mX4_smokes.2.1 18 = .ok (.aload_n 1, 1) ∧ 18 + 1 = 19 := ⟨by decide +kernel, rfl⟩
theorem aX4_smokes_19 : decode mX4_smokes.2.1 19 = .ok (.getfield 25, 3) ∧ 19 + 3 = 22 := ⟨by decide +kernel, rfl⟩
theorem aX4_smokes_22 : decode mX4_smokes.2.1 22 = .ok (.imul, 1) ∧ 22 + 1 = 23 := ⟨by decide +kernel, rfl⟩
theorem aX4_smokes_23 : decode mX4_smokes.2.1 23 = .ok (.ixor, 1) ∧ 23 + 1 = 24 := ⟨by decide +kernel, rfl⟩
theorem aX4_smokes_24 : decode mX4_smokes.2.1 24 = .ok (.ireturn, 1) := by decide +kernel
theorem S_X4_smokes_21 {E : EE} {d : Nat} {I : IH} {Q : QT} (x2 : Int32) (h :
(Mt E d mX8_begins [.ref (eb E + 11), .int (nI 11)] I (fun rv I1 => ∃ v2 : Int32, rv = some (.int v2) ∧
 ((¬ v2 = 0 → (Mt E d mX4_glows [.ref (eb E + 21), .ref (eb E + 11), .int x2] I1 (fun rv I3 => ∃ v4 : Int32, rv = some (.int v4) ∧
 Q (some (.int (v4 ^^^ ((nI 2) * (I3 11 3))))) I3))) ∧
 (v2 = 0 → Q (some (.int (nI 0))) I1))))) : Mt E (d + 1) mX4_smokes [.ref (eb E + 21), .ref (eb E + 11), .int x2] I Q := by
  refine Mt_of [(0, .ref (eb E + 21)), (1, .ref (eb E + 11)), (2, .int x2)] (by decide +kernel) (by simp [lg_sl, Value.category, mX4_smokes]) rfl ?_
  refine J_aload_n 1 aX4_smokes_0 rfl ?_
  refine J_bipush (nI 11) aX4_smokes_1 (by decide +kernel) ?_
  refine J_callV [.int (nI 11)] [] aX4_smokes_3 lkX4_9_X8 okX8_begins sh11 rfl rfl rfl (Nat.le_of_ble_eq_true rfl) (Nat.le_refl _) (Mt_mono h (fun rv I1 h => ?_))
  obtain ⟨v2, rfl, h⟩ := h
  refine J_r1 ?_
  refine J_if_ne aX4_smokes_6 (fun q => ?_) (fun q => ?_)
  · replace h := h.1 q
    refine J_aload_n 0 aX4_smokes_11 rfl ?_
    refine J_aload_n 1 aX4_smokes_12 rfl ?_
    refine J_iload_n 2 aX4_smokes_13 rfl ?_
    refine J_callV [.ref (eb E + 11), .int x2] [] aX4_smokes_14 lkX4_19_X4 okX4_glows sh21 rfl rfl rfl (Nat.le_of_ble_eq_true rfl) (Nat.le_refl _) (Mt_mono h (fun rv I3 h => ?_))
    obtain ⟨v4, rfl, h⟩ := h
    refine J_r1 ?_
    refine J_iconst (nI 2) aX4_smokes_17 (by decide +kernel) ?_
    refine J_aload_n 1 aX4_smokes_18 rfl ?_
    refine J_getI aX4_smokes_19 flX4_25 sh11 rfl ?_
    refine J_imul aX4_smokes_22 ?_
    refine J_ixor aX4_smokes_23 ?_
    exact J_iret aX4_smokes_24 rfl h
  · replace h := h.2 q
    refine J_iconst (nI 0) aX4_smokes_9 (by decide +kernel) ?_
    exact J_iret aX4_smokes_10 rfl h
theorem S_X4_smokes_22 {E : EE} {d : Nat} {I : IH} {Q : QT} (x2 : Int32) (h :
(Mt E d mX8_begins [.ref (eb E + 11), .int (nI 11)] I (fun rv I1 => ∃ v2 : Int32, rv = some (.int v2) ∧
 ((¬ v2 = 0 → (Mt E d mX3_glows [.ref (eb E + 22), .ref (eb E + 11), .int x2] I1 (fun rv I3 => ∃ v4 : Int32, rv = some (.int v4) ∧
 Q (some (.int (v4 ^^^ ((nI 2) * (I3 11 3))))) I3))) ∧
 (v2 = 0 → Q (some (.int (nI 0))) I1))))) : Mt E (d + 1) mX4_smokes [.ref (eb E + 22), .ref (eb E + 11), .int x2] I Q := by
  refine Mt_of [(0, .ref (eb E + 22)), (1, .ref (eb E + 11)), (2, .int x2)] (by decide +kernel) (by simp [lg_sl, Value.category, mX4_smokes]) rfl ?_
  refine J_aload_n 1 aX4_smokes_0 rfl ?_
  refine J_bipush (nI 11) aX4_smokes_1 (by decide +kernel) ?_
  refine J_callV [.int (nI 11)] [] aX4_smokes_3 lkX4_9_X8 okX8_begins sh11 rfl rfl rfl (Nat.le_of_ble_eq_true rfl) (Nat.le_refl _) (Mt_mono h (fun rv I1 h => ?_))
  obtain ⟨v2, rfl, h⟩ := h
  refine J_r1 ?_
  refine J_if_ne aX4_smokes_6 (fun q => ?_) (fun q => ?_)
  · replace h := h.1 q
    refine J_aload_n 0 aX4_smokes_11 rfl ?_
    refine J_aload_n 1 aX4_smokes_12 rfl ?_
    refine J_iload_n 2 aX4_smokes_13 rfl ?_
    refine J_callU [.ref (eb E + 11), .int x2] [] aX4_smokes_14 lkX4_19_X3 okX3_glows rfl sh22 rfl rfl rfl (Nat.le_of_ble_eq_true rfl) (Nat.le_refl _) (Mt_mono h (fun rv I3 h => ?_))
    obtain ⟨v4, rfl, h⟩ := h
    refine J_r1 ?_
    refine J_iconst (nI 2) aX4_smokes_17 (by decide +kernel) ?_
    refine J_aload_n 1 aX4_smokes_18 rfl ?_
    refine J_getI aX4_smokes_19 flX4_25 sh11 rfl ?_
    refine J_imul aX4_smokes_22 ?_
    refine J_ixor aX4_smokes_23 ?_
    exact J_iret aX4_smokes_24 rfl h
  · replace h := h.2 q
    refine J_iconst (nI 0) aX4_smokes_9 (by decide +kernel) ?_
    exact J_iret aX4_smokes_10 rfl h
theorem S_X4_smokes_23 {E : EE} {d : Nat} {I : IH} {Q : QT} (x2 : Int32) (h :
(Mt E d mX8_begins [.ref (eb E + 11), .int (nI 11)] I (fun rv I1 => ∃ v2 : Int32, rv = some (.int v2) ∧
 ((¬ v2 = 0 → (Mt E d mX4_glows [.ref (eb E + 23), .ref (eb E + 11), .int x2] I1 (fun rv I3 => ∃ v4 : Int32, rv = some (.int v4) ∧
 Q (some (.int (v4 ^^^ ((nI 2) * (I3 11 3))))) I3))) ∧
 (v2 = 0 → Q (some (.int (nI 0))) I1))))) : Mt E (d + 1) mX4_smokes [.ref (eb E + 23), .ref (eb E + 11), .int x2] I Q := by
  refine Mt_of [(0, .ref (eb E + 23)), (1, .ref (eb E + 11)), (2, .int x2)] (by decide +kernel) (by simp [lg_sl, Value.category, mX4_smokes]) rfl ?_
  refine J_aload_n 1 aX4_smokes_0 rfl ?_
  refine J_bipush (nI 11) aX4_smokes_1 (by decide +kernel) ?_
  refine J_callV [.int (nI 11)] [] aX4_smokes_3 lkX4_9_X8 okX8_begins sh11 rfl rfl rfl (Nat.le_of_ble_eq_true rfl) (Nat.le_refl _) (Mt_mono h (fun rv I1 h => ?_))
  obtain ⟨v2, rfl, h⟩ := h
  refine J_r1 ?_
  refine J_if_ne aX4_smokes_6 (fun q => ?_) (fun q => ?_)
  · replace h := h.1 q
    refine J_aload_n 0 aX4_smokes_11 rfl ?_
    refine J_aload_n 1 aX4_smokes_12 rfl ?_
    refine J_iload_n 2 aX4_smokes_13 rfl ?_
    refine J_callU [.ref (eb E + 11), .int x2] [] aX4_smokes_14 lkX4_19_X7 okX4_glows rfl sh23 rfl rfl rfl (Nat.le_of_ble_eq_true rfl) (Nat.le_refl _) (Mt_mono h (fun rv I3 h => ?_))
    obtain ⟨v4, rfl, h⟩ := h
    refine J_r1 ?_
    refine J_iconst (nI 2) aX4_smokes_17 (by decide +kernel) ?_
    refine J_aload_n 1 aX4_smokes_18 rfl ?_
    refine J_getI aX4_smokes_19 flX4_25 sh11 rfl ?_
    refine J_imul aX4_smokes_22 ?_
    refine J_ixor aX4_smokes_23 ?_
    exact J_iret aX4_smokes_24 rfl h
  · replace h := h.2 q
    refine J_iconst (nI 0) aX4_smokes_9 (by decide +kernel) ?_
    exact J_iret aX4_smokes_10 rfl h
theorem S_X4_smokes_24 {E : EE} {d : Nat} {I : IH} {Q : QT} (x2 : Int32) (h :
(Mt E d mX8_begins [.ref (eb E + 11), .int (nI 11)] I (fun rv I1 => ∃ v2 : Int32, rv = some (.int v2) ∧
 ((¬ v2 = 0 → (Mt E d mX10_glows [.ref (eb E + 24), .ref (eb E + 11), .int x2] I1 (fun rv I3 => ∃ v4 : Int32, rv = some (.int v4) ∧
 Q (some (.int (v4 ^^^ ((nI 2) * (I3 11 3))))) I3))) ∧
 (v2 = 0 → Q (some (.int (nI 0))) I1))))) : Mt E (d + 1) mX4_smokes [.ref (eb E + 24), .ref (eb E + 11), .int x2] I Q := by
  refine Mt_of [(0, .ref (eb E + 24)), (1, .ref (eb E + 11)), (2, .int x2)] (by decide +kernel) (by simp [lg_sl, Value.category, mX4_smokes]) rfl ?_
  refine J_aload_n 1 aX4_smokes_0 rfl ?_
  refine J_bipush (nI 11) aX4_smokes_1 (by decide +kernel) ?_
  refine J_callV [.int (nI 11)] [] aX4_smokes_3 lkX4_9_X8 okX8_begins sh11 rfl rfl rfl (Nat.le_of_ble_eq_true rfl) (Nat.le_refl _) (Mt_mono h (fun rv I1 h => ?_))
  obtain ⟨v2, rfl, h⟩ := h
  refine J_r1 ?_
  refine J_if_ne aX4_smokes_6 (fun q => ?_) (fun q => ?_)
  · replace h := h.1 q
    refine J_aload_n 0 aX4_smokes_11 rfl ?_
    refine J_aload_n 1 aX4_smokes_12 rfl ?_
    refine J_iload_n 2 aX4_smokes_13 rfl ?_
    refine J_callU [.ref (eb E + 11), .int x2] [] aX4_smokes_14 lkX4_19_X10 okX10_glows rfl sh24 rfl rfl rfl (Nat.le_of_ble_eq_true rfl) (Nat.le_refl _) (Mt_mono h (fun rv I3 h => ?_))
    obtain ⟨v4, rfl, h⟩ := h
    refine J_r1 ?_
    refine J_iconst (nI 2) aX4_smokes_17 (by decide +kernel) ?_
    refine J_aload_n 1 aX4_smokes_18 rfl ?_
    refine J_getI aX4_smokes_19 flX4_25 sh11 rfl ?_
    refine J_imul aX4_smokes_22 ?_
    refine J_ixor aX4_smokes_23 ?_
    exact J_iret aX4_smokes_24 rfl h
  · replace h := h.2 q
    refine J_iconst (nI 0) aX4_smokes_9 (by decide +kernel) ?_
    exact J_iret aX4_smokes_10 rfl h
theorem S_X4_smokes_25 {E : EE} {d : Nat} {I : IH} {Q : QT} (x2 : Int32) (h :
(Mt E d mX8_begins [.ref (eb E + 11), .int (nI 11)] I (fun rv I1 => ∃ v2 : Int32, rv = some (.int v2) ∧
 ((¬ v2 = 0 → (Mt E d mX4_glows [.ref (eb E + 25), .ref (eb E + 11), .int x2] I1 (fun rv I3 => ∃ v4 : Int32, rv = some (.int v4) ∧
 Q (some (.int (v4 ^^^ ((nI 2) * (I3 11 3))))) I3))) ∧
 (v2 = 0 → Q (some (.int (nI 0))) I1))))) : Mt E (d + 1) mX4_smokes [.ref (eb E + 25), .ref (eb E + 11), .int x2] I Q := by
  refine Mt_of [(0, .ref (eb E + 25)), (1, .ref (eb E + 11)), (2, .int x2)] (by decide +kernel) (by simp [lg_sl, Value.category, mX4_smokes]) rfl ?_
  refine J_aload_n 1 aX4_smokes_0 rfl ?_
  refine J_bipush (nI 11) aX4_smokes_1 (by decide +kernel) ?_
  refine J_callV [.int (nI 11)] [] aX4_smokes_3 lkX4_9_X8 okX8_begins sh11 rfl rfl rfl (Nat.le_of_ble_eq_true rfl) (Nat.le_refl _) (Mt_mono h (fun rv I1 h => ?_))
  obtain ⟨v2, rfl, h⟩ := h
  refine J_r1 ?_
  refine J_if_ne aX4_smokes_6 (fun q => ?_) (fun q => ?_)
  · replace h := h.1 q
    refine J_aload_n 0 aX4_smokes_11 rfl ?_
    refine J_aload_n 1 aX4_smokes_12 rfl ?_
    refine J_iload_n 2 aX4_smokes_13 rfl ?_
    refine J_callU [.ref (eb E + 11), .int x2] [] aX4_smokes_14 lkX4_19_X2 okX4_glows rfl sh25 rfl rfl rfl (Nat.le_of_ble_eq_true rfl) (Nat.le_refl _) (Mt_mono h (fun rv I3 h => ?_))
    obtain ⟨v4, rfl, h⟩ := h
    refine J_r1 ?_
    refine J_iconst (nI 2) aX4_smokes_17 (by decide +kernel) ?_
    refine J_aload_n 1 aX4_smokes_18 rfl ?_
    refine J_getI aX4_smokes_19 flX4_25 sh11 rfl ?_
    refine J_imul aX4_smokes_22 ?_
    refine J_ixor aX4_smokes_23 ?_
    exact J_iret aX4_smokes_24 rfl h
  · replace h := h.2 q
    refine J_iconst (nI 0) aX4_smokes_9 (by decide +kernel) ?_
    exact J_iret aX4_smokes_10 rfl h
theorem S_X4_smokes_26 {E : EE} {d : Nat} {I : IH} {Q : QT} (x2 : Int32) (h :
(Mt E d mX8_begins [.ref (eb E + 11), .int (nI 11)] I (fun rv I1 => ∃ v2 : Int32, rv = some (.int v2) ∧
 ((¬ v2 = 0 → (Mt E d mX4_glows [.ref (eb E + 26), .ref (eb E + 11), .int x2] I1 (fun rv I3 => ∃ v4 : Int32, rv = some (.int v4) ∧
 Q (some (.int (v4 ^^^ ((nI 2) * (I3 11 3))))) I3))) ∧
 (v2 = 0 → Q (some (.int (nI 0))) I1))))) : Mt E (d + 1) mX4_smokes [.ref (eb E + 26), .ref (eb E + 11), .int x2] I Q := by
  refine Mt_of [(0, .ref (eb E + 26)), (1, .ref (eb E + 11)), (2, .int x2)] (by decide +kernel) (by simp [lg_sl, Value.category, mX4_smokes]) rfl ?_
  refine J_aload_n 1 aX4_smokes_0 rfl ?_
  refine J_bipush (nI 11) aX4_smokes_1 (by decide +kernel) ?_
  refine J_callV [.int (nI 11)] [] aX4_smokes_3 lkX4_9_X8 okX8_begins sh11 rfl rfl rfl (Nat.le_of_ble_eq_true rfl) (Nat.le_refl _) (Mt_mono h (fun rv I1 h => ?_))
  obtain ⟨v2, rfl, h⟩ := h
  refine J_r1 ?_
  refine J_if_ne aX4_smokes_6 (fun q => ?_) (fun q => ?_)
  · replace h := h.1 q
    refine J_aload_n 0 aX4_smokes_11 rfl ?_
    refine J_aload_n 1 aX4_smokes_12 rfl ?_
    refine J_iload_n 2 aX4_smokes_13 rfl ?_
    refine J_callU [.ref (eb E + 11), .int x2] [] aX4_smokes_14 lkX4_19_X0 okX4_glows rfl sh26 rfl rfl rfl (Nat.le_of_ble_eq_true rfl) (Nat.le_refl _) (Mt_mono h (fun rv I3 h => ?_))
    obtain ⟨v4, rfl, h⟩ := h
    refine J_r1 ?_
    refine J_iconst (nI 2) aX4_smokes_17 (by decide +kernel) ?_
    refine J_aload_n 1 aX4_smokes_18 rfl ?_
    refine J_getI aX4_smokes_19 flX4_25 sh11 rfl ?_
    refine J_imul aX4_smokes_22 ?_
    refine J_ixor aX4_smokes_23 ?_
    exact J_iret aX4_smokes_24 rfl h
  · replace h := h.2 q
    refine J_iconst (nI 0) aX4_smokes_9 (by decide +kernel) ?_
    exact J_iret aX4_smokes_10 rfl h
theorem aX4_waves_0 : decode mX4_waves.2.1 0 = .ok (.aload_n 1, 1) ∧ 0 + 1 = 1 := ⟨by decide +kernel, rfl⟩
theorem aX4_waves_1 : decode mX4_waves.2.1 1 = .ok (.bipush 12, 2) ∧ 1 + 2 = 3 := ⟨by decide +kernel, rfl⟩
theorem aX4_waves_3 : decode mX4_waves.2.1 3 = .ok (.invokevirtual 9, 3) ∧ 3 + 3 = 6 := ⟨by decide +kernel, rfl⟩
theorem aX4_waves_6 : decode mX4_waves.2.1 6 = .ok (.ifCond .ne 5, 3) ∧ ((6 : Nat) : Int) + 5 = ((11 : Nat) : Int) ∧ 6 + 3 = 9 := ⟨by decide +kernel, by decide, rfl⟩
theorem aX4_waves_9 : decode mX4_waves.2.1 9 = .ok (.iconst 0, 1) ∧ 9 + 1 = 10 := ⟨by decide +kernel, rfl⟩
theorem aX4_waves_10 : decode mX4_waves.2.1 10 = .ok (.ireturn, 1) := by decide +kernel
theorem aX4_waves_11 : decode mX4_waves.2.1 11 = .ok (.aload_n 1, 1) ∧ 11 + 1 = 12 := ⟨by decide +kernel, rfl⟩
theorem aX4_waves_12 : decode mX4_waves.2.1 12 = .ok (.getfield 15, 3) ∧ 12 + 3 = 15 := ⟨by decide +kernel, rfl⟩
theorem aX4_waves_15 : decode mX4_waves.2.1 15 = .ok (.iconst 2, 1) ∧ 15 + 1 = 16 := ⟨by decide +kernel, rfl⟩
theorem aX4_waves_16 : decode mX4_waves.2.1 16 = .ok (.aload_n 1, 1) ∧ 16 + 1 = 17 := ⟨by decide +kernel, rfl⟩
theorem aX4_waves_17 : decode mX4_waves.2.1 17 = .ok (.getfield 25, 3) ∧ 17 + 3 = 20 := ⟨by decide +kernel, rfl⟩
theorem aX4_waves_20 : decode mX4_waves.2.1 20 = .ok (.imul, 1) ∧ 20 + 1 = 21 := ⟨by decide +kernel, rfl⟩
theorem aX4_waves_21 : decode mX4_waves.2.1 21 = .ok (.isub, 1) ∧ 21 + 1 = 22 := ⟨by decide +kernel, rfl⟩
theorem aX4_waves_22 : decode mX4_waves.2.1 22 = .ok (.iconst 1, 1) ∧ 22 + 1 = 23 := ⟨by decide +kernel, rfl⟩
theorem aX4_waves_23 : decode mX4_waves.2.1 23 = .ok (.iadd, 1) ∧ 23 + 1 = 24 := ⟨by decide +kernel, rfl⟩
theorem aX4_waves_24 : decode mX4_waves.2.1 24 = .ok (.istore_n 3, 1) ∧ 24 + 1 = 25 := ⟨by decide +kernel, rfl⟩
theorem aX4_waves_25 : decode mX4_waves.2.1 25 = .ok (.iload_n 3, 1) ∧ 25 + 1 = 26 := ⟨by decide +kernel, rfl⟩
theorem aX4_waves_26 : decode mX4_waves.2.1 26 = .ok (.ifCond .ne 10, 3) ∧ ((26 : Nat) : Int) + 10 = ((36 : Nat) : Int) ∧ 26 + 3 = 29 := ⟨by decide +kernel, by decide, rfl⟩
theorem aX4_waves_29 : decode mX4_waves.2.1 29 = .ok (.aload_n 1, 1) ∧ 29 + 1 = 30 := ⟨by decide +kernel, rfl⟩
theorem aX4_waves_30 : decode mX4_waves.2.1 30 = .ok (.iconst 1, 1) ∧ 30 + 1 = 31 := ⟨by decide +kernel, rfl⟩
theorem aX4_waves_31 : decode mX4_waves.2.1 31 = .ok (.putfield 28, 3) ∧ 31 + 3 = 34 := ⟨by decide +kernel, rfl⟩
theorem aX4_waves_34 : decode mX4_waves.2.1 34 = .ok (.iconst 0, 1) ∧ 34 + 1 = 35 := ⟨by decide +kernel, rfl⟩
theorem aX4_waves_35 : decode mX4_waves.2.1 35 = .ok (.ireturn, 1) := by decide +kernel
theorem aX4_waves_36 : decode mX4_waves.2.1 36 = .ok (.iload_n 2, 1) ∧ 36 + 1 = 37 := ⟨by decide +kernel, rfl⟩
theorem aX4_waves_37 : decode mX4_waves.2.1 37 = .ok (.iload_n 3, 1) ∧ 37 + 1 = 38 := ⟨by decide +kernel, rfl⟩
theorem aX4_waves_38 : decode mX4_waves.2.1 38 = .ok (.irem, 1) ∧ 38 + 1 = 39 := ⟨by decide +kernel, rfl⟩
theorem aX4_waves_39 : decode mX4_waves.2.1 39 = .ok (.ireturn, 1) := by decide +kernel
theorem S_X4_waves_21 {E : EE} {d : Nat} {I : IH} {Q : QT} (x2 : Int32) (h :
(Mt E d mX8_begins [.ref (eb E + 11), .int (nI 12)] I (fun rv I1 => ∃ v2 : Int32, rv = some (.int v2) ∧
 ((¬ v2 = 0 → ((¬ (((I1 11 2) - ((nI 2) * (I1 11 3))) + (nI 1)) = 0 → (¬ (((I1 11 2) - ((nI 2) * (I1 11 3))) + (nI 1)) = 0 ∧ Q (some (.int (x2 - x2 / (((I1 11 2) - ((nI 2) * (I1 11 3))) + (nI 1)) * (((I1 11 2) - ((nI 2) * (I1 11 3))) + (nI 1))))) I1)) ∧
 ((((I1 11 2) - ((nI 2) * (I1 11 3))) + (nI 1)) = 0 → (∀ I4 : IH, I4 = stI I1 11 4 (nI 1) →
 Q (some (.int (nI 0))) I4)))) ∧
 (v2 = 0 → Q (some (.int (nI 0))) I1))))) : Mt E (d + 1) mX4_waves [.ref (eb E + 21), .ref (eb E + 11), .int x2] I Q := by
  refine Mt_of [(0, .ref (eb E + 21)), (1, .ref (eb E + 11)), (2, .int x2)] (by decide +kernel) (by simp [lg_sl, Value.category, mX4_waves]) rfl ?_
  refine J_aload_n 1 aX4_waves_0 rfl ?_
  refine J_bipush (nI 12) aX4_waves_1 (by decide +kernel) ?_
  refine J_callV [.int (nI 12)] [] aX4_waves_3 lkX4_9_X8 okX8_begins sh11 rfl rfl rfl (Nat.le_of_ble_eq_true rfl) (Nat.le_refl _) (Mt_mono h (fun rv I1 h => ?_))
  obtain ⟨v2, rfl, h⟩ := h
  refine J_r1 ?_
  refine J_if_ne aX4_waves_6 (fun q => ?_) (fun q => ?_)
  · replace h := h.1 q
    refine J_aload_n 1 aX4_waves_11 rfl ?_
    refine J_getI aX4_waves_12 flX4_15 sh11 rfl ?_
    refine J_iconst (nI 2) aX4_waves_15 (by decide +kernel) ?_
    refine J_aload_n 1 aX4_waves_16 rfl ?_
    refine J_getI aX4_waves_17 flX4_25 sh11 rfl ?_
    refine J_imul aX4_waves_20 ?_
    refine J_isub aX4_waves_21 ?_
    refine J_iconst (nI 1) aX4_waves_22 (by decide +kernel) ?_
    refine J_iadd aX4_waves_23 ?_
    refine J_istore_n [(3, .int (((I1 11 2) - ((nI 2) * (I1 11 3))) + (nI 1))), (0, .ref (eb E + 21)), (1, .ref (eb E + 11)), (2, .int x2)] aX4_waves_24 (by decide) rfl ?_
    refine J_iload_n 0 aX4_waves_25 rfl ?_
    refine J_if_ne aX4_waves_26 (fun q => ?_) (fun q => ?_)
    · replace h := h.1 q
      refine J_iload_n 3 aX4_waves_36 rfl ?_
      refine J_iload_n 0 aX4_waves_37 rfl ?_
      obtain ⟨n3, h⟩ := h
      refine J_irem aX4_waves_38 n3 ?_
      exact J_iret aX4_waves_39 rfl h
    · replace h := h.2 q
      refine J_aload_n 2 aX4_waves_29 rfl ?_
      refine J_iconst (nI 1) aX4_waves_30 (by decide +kernel) ?_
      refine J_putZ aX4_waves_31 fpX4_28 sh11 rfl (by decide +kernel) (fun I4 e5 => ?_)
      replace h := h I4 e5
      refine J_iconst (nI 0) aX4_waves_34 (by decide +kernel) ?_
      exact J_iret aX4_waves_35 rfl h
  · replace h := h.2 q
    refine J_iconst (nI 0) aX4_waves_9 (by decide +kernel) ?_
    exact J_iret aX4_waves_10 rfl h
theorem S_X4_waves_22 {E : EE} {d : Nat} {I : IH} {Q : QT} (x2 : Int32) (h :
(Mt E d mX8_begins [.ref (eb E + 11), .int (nI 12)] I (fun rv I1 => ∃ v2 : Int32, rv = some (.int v2) ∧
 ((¬ v2 = 0 → ((¬ (((I1 11 2) - ((nI 2) * (I1 11 3))) + (nI 1)) = 0 → (¬ (((I1 11 2) - ((nI 2) * (I1 11 3))) + (nI 1)) = 0 ∧ Q (some (.int (x2 - x2 / (((I1 11 2) - ((nI 2) * (I1 11 3))) + (nI 1)) * (((I1 11 2) - ((nI 2) * (I1 11 3))) + (nI 1))))) I1)) ∧
 ((((I1 11 2) - ((nI 2) * (I1 11 3))) + (nI 1)) = 0 → (∀ I4 : IH, I4 = stI I1 11 4 (nI 1) →
 Q (some (.int (nI 0))) I4)))) ∧
 (v2 = 0 → Q (some (.int (nI 0))) I1))))) : Mt E (d + 1) mX4_waves [.ref (eb E + 22), .ref (eb E + 11), .int x2] I Q := by
  refine Mt_of [(0, .ref (eb E + 22)), (1, .ref (eb E + 11)), (2, .int x2)] (by decide +kernel) (by simp [lg_sl, Value.category, mX4_waves]) rfl ?_
  refine J_aload_n 1 aX4_waves_0 rfl ?_
  refine J_bipush (nI 12) aX4_waves_1 (by decide +kernel) ?_
  refine J_callV [.int (nI 12)] [] aX4_waves_3 lkX4_9_X8 okX8_begins sh11 rfl rfl rfl (Nat.le_of_ble_eq_true rfl) (Nat.le_refl _) (Mt_mono h (fun rv I1 h => ?_))
  obtain ⟨v2, rfl, h⟩ := h
  refine J_r1 ?_
  refine J_if_ne aX4_waves_6 (fun q => ?_) (fun q => ?_)
  · replace h := h.1 q
    refine J_aload_n 1 aX4_waves_11 rfl ?_
    refine J_getI aX4_waves_12 flX4_15 sh11 rfl ?_
    refine J_iconst (nI 2) aX4_waves_15 (by decide +kernel) ?_
    refine J_aload_n 1 aX4_waves_16 rfl ?_
    refine J_getI aX4_waves_17 flX4_25 sh11 rfl ?_
    refine J_imul aX4_waves_20 ?_
    refine J_isub aX4_waves_21 ?_
    refine J_iconst (nI 1) aX4_waves_22 (by decide +kernel) ?_
    refine J_iadd aX4_waves_23 ?_
    refine J_istore_n [(3, .int (((I1 11 2) - ((nI 2) * (I1 11 3))) + (nI 1))), (0, .ref (eb E + 22)), (1, .ref (eb E + 11)), (2, .int x2)] aX4_waves_24 (by decide) rfl ?_
    refine J_iload_n 0 aX4_waves_25 rfl ?_
    refine J_if_ne aX4_waves_26 (fun q => ?_) (fun q => ?_)
    · replace h := h.1 q
      refine J_iload_n 3 aX4_waves_36 rfl ?_
      refine J_iload_n 0 aX4_waves_37 rfl ?_
      obtain ⟨n3, h⟩ := h
      refine J_irem aX4_waves_38 n3 ?_
      exact J_iret aX4_waves_39 rfl h
    · replace h := h.2 q
      refine J_aload_n 2 aX4_waves_29 rfl ?_
      refine J_iconst (nI 1) aX4_waves_30 (by decide +kernel) ?_
      refine J_putZ aX4_waves_31 fpX4_28 sh11 rfl (by decide +kernel) (fun I4 e5 => ?_)
      replace h := h I4 e5
      refine J_iconst (nI 0) aX4_waves_34 (by decide +kernel) ?_
      exact J_iret aX4_waves_35 rfl h
  · replace h := h.2 q
    refine J_iconst (nI 0) aX4_waves_9 (by decide +kernel) ?_
    exact J_iret aX4_waves_10 rfl h
theorem S_X4_waves_23 {E : EE} {d : Nat} {I : IH} {Q : QT} (x2 : Int32) (h :
(Mt E d mX8_begins [.ref (eb E + 11), .int (nI 12)] I (fun rv I1 => ∃ v2 : Int32, rv = some (.int v2) ∧
 ((¬ v2 = 0 → ((¬ (((I1 11 2) - ((nI 2) * (I1 11 3))) + (nI 1)) = 0 → (¬ (((I1 11 2) - ((nI 2) * (I1 11 3))) + (nI 1)) = 0 ∧ Q (some (.int (x2 - x2 / (((I1 11 2) - ((nI 2) * (I1 11 3))) + (nI 1)) * (((I1 11 2) - ((nI 2) * (I1 11 3))) + (nI 1))))) I1)) ∧
 ((((I1 11 2) - ((nI 2) * (I1 11 3))) + (nI 1)) = 0 → (∀ I4 : IH, I4 = stI I1 11 4 (nI 1) →
 Q (some (.int (nI 0))) I4)))) ∧
 (v2 = 0 → Q (some (.int (nI 0))) I1))))) : Mt E (d + 1) mX4_waves [.ref (eb E + 23), .ref (eb E + 11), .int x2] I Q := by
  refine Mt_of [(0, .ref (eb E + 23)), (1, .ref (eb E + 11)), (2, .int x2)] (by decide +kernel) (by simp [lg_sl, Value.category, mX4_waves]) rfl ?_
  refine J_aload_n 1 aX4_waves_0 rfl ?_
  refine J_bipush (nI 12) aX4_waves_1 (by decide +kernel) ?_
  refine J_callV [.int (nI 12)] [] aX4_waves_3 lkX4_9_X8 okX8_begins sh11 rfl rfl rfl (Nat.le_of_ble_eq_true rfl) (Nat.le_refl _) (Mt_mono h (fun rv I1 h => ?_))
  obtain ⟨v2, rfl, h⟩ := h
  refine J_r1 ?_
  refine J_if_ne aX4_waves_6 (fun q => ?_) (fun q => ?_)
  · replace h := h.1 q
    refine J_aload_n 1 aX4_waves_11 rfl ?_
    refine J_getI aX4_waves_12 flX4_15 sh11 rfl ?_
    refine J_iconst (nI 2) aX4_waves_15 (by decide +kernel) ?_
    refine J_aload_n 1 aX4_waves_16 rfl ?_
    refine J_getI aX4_waves_17 flX4_25 sh11 rfl ?_
    refine J_imul aX4_waves_20 ?_
    refine J_isub aX4_waves_21 ?_
    refine J_iconst (nI 1) aX4_waves_22 (by decide +kernel) ?_
    refine J_iadd aX4_waves_23 ?_
    refine J_istore_n [(3, .int (((I1 11 2) - ((nI 2) * (I1 11 3))) + (nI 1))), (0, .ref (eb E + 23)), (1, .ref (eb E + 11)), (2, .int x2)] aX4_waves_24 (by decide) rfl ?_
    refine J_iload_n 0 aX4_waves_25 rfl ?_
    refine J_if_ne aX4_waves_26 (fun q => ?_) (fun q => ?_)
    · replace h := h.1 q
      refine J_iload_n 3 aX4_waves_36 rfl ?_
      refine J_iload_n 0 aX4_waves_37 rfl ?_
      obtain ⟨n3, h⟩ := h
      refine J_irem aX4_waves_38 n3 ?_
      exact J_iret aX4_waves_39 rfl h
    · replace h := h.2 q
      refine J_aload_n 2 aX4_waves_29 rfl ?_
      refine J_iconst (nI 1) aX4_waves_30 (by decide +kernel) ?_
      refine J_putZ aX4_waves_31 fpX4_28 sh11 rfl (by decide +kernel) (fun I4 e5 => ?_)
      replace h := h I4 e5
      refine J_iconst (nI 0) aX4_waves_34 (by decide +kernel) ?_
      exact J_iret aX4_waves_35 rfl h
  · replace h := h.2 q
    refine J_iconst (nI 0) aX4_waves_9 (by decide +kernel) ?_
    exact J_iret aX4_waves_10 rfl h
theorem S_X4_waves_24 {E : EE} {d : Nat} {I : IH} {Q : QT} (x2 : Int32) (h :
(Mt E d mX8_begins [.ref (eb E + 11), .int (nI 12)] I (fun rv I1 => ∃ v2 : Int32, rv = some (.int v2) ∧
 ((¬ v2 = 0 → ((¬ (((I1 11 2) - ((nI 2) * (I1 11 3))) + (nI 1)) = 0 → (¬ (((I1 11 2) - ((nI 2) * (I1 11 3))) + (nI 1)) = 0 ∧ Q (some (.int (x2 - x2 / (((I1 11 2) - ((nI 2) * (I1 11 3))) + (nI 1)) * (((I1 11 2) - ((nI 2) * (I1 11 3))) + (nI 1))))) I1)) ∧
 ((((I1 11 2) - ((nI 2) * (I1 11 3))) + (nI 1)) = 0 → (∀ I4 : IH, I4 = stI I1 11 4 (nI 1) →
 Q (some (.int (nI 0))) I4)))) ∧
 (v2 = 0 → Q (some (.int (nI 0))) I1))))) : Mt E (d + 1) mX4_waves [.ref (eb E + 24), .ref (eb E + 11), .int x2] I Q := by
  refine Mt_of [(0, .ref (eb E + 24)), (1, .ref (eb E + 11)), (2, .int x2)] (by decide +kernel) (by simp [lg_sl, Value.category, mX4_waves]) rfl ?_
  refine J_aload_n 1 aX4_waves_0 rfl ?_
  refine J_bipush (nI 12) aX4_waves_1 (by decide +kernel) ?_
  refine J_callV [.int (nI 12)] [] aX4_waves_3 lkX4_9_X8 okX8_begins sh11 rfl rfl rfl (Nat.le_of_ble_eq_true rfl) (Nat.le_refl _) (Mt_mono h (fun rv I1 h => ?_))
  obtain ⟨v2, rfl, h⟩ := h
  refine J_r1 ?_
  refine J_if_ne aX4_waves_6 (fun q => ?_) (fun q => ?_)
  · replace h := h.1 q
    refine J_aload_n 1 aX4_waves_11 rfl ?_
    refine J_getI aX4_waves_12 flX4_15 sh11 rfl ?_
    refine J_iconst (nI 2) aX4_waves_15 (by decide +kernel) ?_
    refine J_aload_n 1 aX4_waves_16 rfl ?_
    refine J_getI aX4_waves_17 flX4_25 sh11 rfl ?_
    refine J_imul aX4_waves_20 ?_
    refine J_isub aX4_waves_21 ?_
    refine J_iconst (nI 1) aX4_waves_22 (by decide +kernel) ?_
    refine J_iadd aX4_waves_23 ?_
    refine J_istore_n [(3, .int (((I1 11 2) - ((nI 2) * (I1 11 3))) + (nI 1))), (0, .ref (eb E + 24)), (1, .ref (eb E + 11)), (2, .int x2)] aX4_waves_24 (by decide) rfl ?_
    refine J_iload_n 0 aX4_waves_25 rfl ?_
    refine J_if_ne aX4_waves_26 (fun q => ?_) (fun q => ?_)
    · replace h := h.1 q
      refine J_iload_n 3 aX4_waves_36 rfl ?_
      refine J_iload_n 0 aX4_waves_37 rfl ?_
      obtain ⟨n3, h⟩ := h
      refine J_irem aX4_waves_38 n3 ?_
      exact J_iret aX4_waves_39 rfl h
    · replace h := h.2 q
      refine J_aload_n 2 aX4_waves_29 rfl ?_
      refine J_iconst (nI 1) aX4_waves_30 (by decide +kernel) ?_
      refine J_putZ aX4_waves_31 fpX4_28 sh11 rfl (by decide +kernel) (fun I4 e5 => ?_)
      replace h := h I4 e5
      refine J_iconst (nI 0) aX4_waves_34 (by decide +kernel) ?_
      exact J_iret aX4_waves_35 rfl h
  · replace h := h.2 q
    refine J_iconst (nI 0) aX4_waves_9 (by decide +kernel) ?_
    exact J_iret aX4_waves_10 rfl h
theorem S_X4_waves_25 {E : EE} {d : Nat} {I : IH} {Q : QT} (x2 : Int32) (h :
(Mt E d mX8_begins [.ref (eb E + 11), .int (nI 12)] I (fun rv I1 => ∃ v2 : Int32, rv = some (.int v2) ∧
 ((¬ v2 = 0 → ((¬ (((I1 11 2) - ((nI 2) * (I1 11 3))) + (nI 1)) = 0 → (¬ (((I1 11 2) - ((nI 2) * (I1 11 3))) + (nI 1)) = 0 ∧ Q (some (.int (x2 - x2 / (((I1 11 2) - ((nI 2) * (I1 11 3))) + (nI 1)) * (((I1 11 2) - ((nI 2) * (I1 11 3))) + (nI 1))))) I1)) ∧
 ((((I1 11 2) - ((nI 2) * (I1 11 3))) + (nI 1)) = 0 → (∀ I4 : IH, I4 = stI I1 11 4 (nI 1) →
 Q (some (.int (nI 0))) I4)))) ∧
 (v2 = 0 → Q (some (.int (nI 0))) I1))))) : Mt E (d + 1) mX4_waves [.ref (eb E + 25), .ref (eb E + 11), .int x2] I Q := by
  refine Mt_of [(0, .ref (eb E + 25)), (1, .ref (eb E + 11)), (2, .int x2)] (by decide +kernel) (by simp [lg_sl, Value.category, mX4_waves]) rfl ?_
  refine J_aload_n 1 aX4_waves_0 rfl ?_
  refine J_bipush (nI 12) aX4_waves_1 (by decide +kernel) ?_
  refine J_callV [.int (nI 12)] [] aX4_waves_3 lkX4_9_X8 okX8_begins sh11 rfl rfl rfl (Nat.le_of_ble_eq_true rfl) (Nat.le_refl _) (Mt_mono h (fun rv I1 h => ?_))
  obtain ⟨v2, rfl, h⟩ := h
  refine J_r1 ?_
  refine J_if_ne aX4_waves_6 (fun q => ?_) (fun q => ?_)
  · replace h := h.1 q
    refine J_aload_n 1 aX4_waves_11 rfl ?_
    refine J_getI aX4_waves_12 flX4_15 sh11 rfl ?_
    refine J_iconst (nI 2) aX4_waves_15 (by decide +kernel) ?_
    refine J_aload_n 1 aX4_waves_16 rfl ?_
    refine J_getI aX4_waves_17 flX4_25 sh11 rfl ?_
    refine J_imul aX4_waves_20 ?_
    refine J_isub aX4_waves_21 ?_
    refine J_iconst (nI 1) aX4_waves_22 (by decide +kernel) ?_
    refine J_iadd aX4_waves_23 ?_
    refine J_istore_n [(3, .int (((I1 11 2) - ((nI 2) * (I1 11 3))) + (nI 1))), (0, .ref (eb E + 25)), (1, .ref (eb E + 11)), (2, .int x2)] aX4_waves_24 (by decide) rfl ?_
    refine J_iload_n 0 aX4_waves_25 rfl ?_
    refine J_if_ne aX4_waves_26 (fun q => ?_) (fun q => ?_)
    · replace h := h.1 q
      refine J_iload_n 3 aX4_waves_36 rfl ?_
      refine J_iload_n 0 aX4_waves_37 rfl ?_
      obtain ⟨n3, h⟩ := h
      refine J_irem aX4_waves_38 n3 ?_
      exact J_iret aX4_waves_39 rfl h
    · replace h := h.2 q
      refine J_aload_n 2 aX4_waves_29 rfl ?_
      refine J_iconst (nI 1) aX4_waves_30 (by decide +kernel) ?_
      refine J_putZ aX4_waves_31 fpX4_28 sh11 rfl (by decide +kernel) (fun I4 e5 => ?_)
      replace h := h I4 e5
      refine J_iconst (nI 0) aX4_waves_34 (by decide +kernel) ?_
      exact J_iret aX4_waves_35 rfl h
  · replace h := h.2 q
    refine J_iconst (nI 0) aX4_waves_9 (by decide +kernel) ?_
    exact J_iret aX4_waves_10 rfl h
theorem S_X4_waves_26 {E : EE} {d : Nat} {I : IH} {Q : QT} (x2 : Int32) (h :
(Mt E d mX8_begins [.ref (eb E + 11), .int (nI 12)] I (fun rv I1 => ∃ v2 : Int32, rv = some (.int v2) ∧
 ((¬ v2 = 0 → ((¬ (((I1 11 2) - ((nI 2) * (I1 11 3))) + (nI 1)) = 0 → (¬ (((I1 11 2) - ((nI 2) * (I1 11 3))) + (nI 1)) = 0 ∧ Q (some (.int (x2 - x2 / (((I1 11 2) - ((nI 2) * (I1 11 3))) + (nI 1)) * (((I1 11 2) - ((nI 2) * (I1 11 3))) + (nI 1))))) I1)) ∧
 ((((I1 11 2) - ((nI 2) * (I1 11 3))) + (nI 1)) = 0 → (∀ I4 : IH, I4 = stI I1 11 4 (nI 1) →
 Q (some (.int (nI 0))) I4)))) ∧
 (v2 = 0 → Q (some (.int (nI 0))) I1))))) : Mt E (d + 1) mX4_waves [.ref (eb E + 26), .ref (eb E + 11), .int x2] I Q := by
  refine Mt_of [(0, .ref (eb E + 26)), (1, .ref (eb E + 11)), (2, .int x2)] (by decide +kernel) (by simp [lg_sl, Value.category, mX4_waves]) rfl ?_
  refine J_aload_n 1 aX4_waves_0 rfl ?_
  refine J_bipush (nI 12) aX4_waves_1 (by decide +kernel) ?_
  refine J_callV [.int (nI 12)] [] aX4_waves_3 lkX4_9_X8 okX8_begins sh11 rfl rfl rfl (Nat.le_of_ble_eq_true rfl) (Nat.le_refl _) (Mt_mono h (fun rv I1 h => ?_))
  obtain ⟨v2, rfl, h⟩ := h
  refine J_r1 ?_
  refine J_if_ne aX4_waves_6 (fun q => ?_) (fun q => ?_)
  · replace h := h.1 q
    refine J_aload_n 1 aX4_waves_11 rfl ?_
    refine J_getI aX4_waves_12 flX4_15 sh11 rfl ?_
    refine J_iconst (nI 2) aX4_waves_15 (by decide +kernel) ?_
    refine J_aload_n 1 aX4_waves_16 rfl ?_
    refine J_getI aX4_waves_17 flX4_25 sh11 rfl ?_
    refine J_imul aX4_waves_20 ?_
    refine J_isub aX4_waves_21 ?_
    refine J_iconst (nI 1) aX4_waves_22 (by decide +kernel) ?_
    refine J_iadd aX4_waves_23 ?_
    refine J_istore_n [(3, .int (((I1 11 2) - ((nI 2) * (I1 11 3))) + (nI 1))), (0, .ref (eb E + 26)), (1, .ref (eb E + 11)), (2, .int x2)] aX4_waves_24 (by decide) rfl ?_
    refine J_iload_n 0 aX4_waves_25 rfl ?_
    refine J_if_ne aX4_waves_26 (fun q => ?_) (fun q => ?_)
    · replace h := h.1 q
      refine J_iload_n 3 aX4_waves_36 rfl ?_
      refine J_iload_n 0 aX4_waves_37 rfl ?_
      obtain ⟨n3, h⟩ := h
      refine J_irem aX4_waves_38 n3 ?_
      exact J_iret aX4_waves_39 rfl h
    · replace h := h.2 q
      refine J_aload_n 2 aX4_waves_29 rfl ?_
      refine J_iconst (nI 1) aX4_waves_30 (by decide +kernel) ?_
      refine J_putZ aX4_waves_31 fpX4_28 sh11 rfl (by decide +kernel) (fun I4 e5 => ?_)
      replace h := h I4 e5
      refine J_iconst (nI 0) aX4_waves_34 (by decide +kernel) ?_
      exact J_iret aX4_waves_35 rfl h
  · replace h := h.2 q
    refine J_iconst (nI 0) aX4_waves_9 (by decide +kernel) ?_
    exact J_iret aX4_waves_10 rfl h
theorem aX4_begs_0 : decode mX4_begs.2.1 0 = .ok (.aload_n 1, 1) ∧ 0 + 1 = 1 := ⟨by decide +kernel, rfl⟩
theorem aX4_begs_1 : decode mX4_begs.2.1 1 = .ok (.bipush 13, 2) ∧ 1 + 2 = 3 := ⟨by decide +kernel, rfl⟩
theorem aX4_begs_3 : decode mX4_begs.2.1 3 = .ok (.invokevirtual 9, 3) ∧ 3 + 3 = 6 := ⟨by decide +kernel, rfl⟩
theorem aX4_begs_6 : decode mX4_begs.2.1 6 = .ok (.ifCond .ne 5, 3) ∧ ((6 : Nat) : Int) + 5 = ((11 : Nat) : Int) ∧ 6 + 3 = 9 := ⟨by decide +kernel, by decide, rfl⟩
theorem aX4_begs_9 : decode mX4_begs.2.1 9 = .ok (.iconst 0, 1) ∧ 9 + 1 = 10 := ⟨by decide +kernel, rfl⟩
theorem aX4_begs_10 : decode mX4_begs.2.1 10 = .ok (.ireturn, 1) := by decide +kernel
theorem aX4_begs_11 : decode mX4_begs.2.1 11 = .ok (.aload_n 0, 1) ∧ 11 + 1 = 12 := ⟨by decide +kernel, rfl⟩
theorem aX4_begs_12 : decode mX4_begs.2.1 12 = .ok (.aload_n 1, 1) ∧ 12 + 1 = 13 := ⟨by decide +kernel, rfl⟩
theorem aX4_begs_13 : decode mX4_begs.2.1 13 = .ok (.iload_n 2, 1) ∧ 13 + 1 = 14 := ⟨by decide +kernel, rfl⟩
theorem aX4_begs_14 : decode mX4_begs.2.1 14 = .ok (.invokevirtual 32, 3) ∧ 14 + 3 = 17 := ⟨by decide +kernel, rfl⟩
theorem aX4_begs_17 : decode mX4_begs.2.1 17 = .ok (.aload_n 0, 1) ∧ 17 + 1 = 18 := ⟨by decide +kernel, rfl⟩
theorem aX4_begs_18 : decode mX4_begs.2.1 18 = .ok (.aload_n 1, 1) ∧ 18 + 1 = 19 := ⟨by decide +kernel, rfl⟩
theorem aX4_begs_19 : decode mX4_begs.2.1 19 = .ok (.iload_n 2, 1) ∧ 19 + 1 = 20 := ⟨by decide +kernel, rfl⟩
theorem aX4_begs_20 : decode mX4_begs.2.1 20 = .ok (.invokevirtual 35, 3) ∧ 20 + 3 = 23 := ⟨by decide +kernel, rfl⟩
theorem aX4_begs_23 : decode mX4_begs.2.1 23 = .ok (.isub, 1) ∧ 23 + 1 = 24 := ⟨by decide +kernel, rfl⟩
theorem aX4_begs_24 : decode mX4_begs.2.1 24 = .ok (.ireturn, 1) := by decide +kernel
theorem S_X4_begs_21 {E : EE} {d : Nat} {I : IH} {Q : QT} (x2 : Int32) (h :
(Mt E d mX8_begins [.ref (eb E + 11), .int (nI 13)] I (fun rv I1 => ∃ v2 : Int32, rv = some (.int v2) ∧
 ((¬ v2 = 0 → (Mt E d mX4_smokes [.ref (eb E + 21), .ref (eb E + 11), .int x2] I1 (fun rv I3 => ∃ v4 : Int32, rv = some (.int v4) ∧
 (Mt E d mX4_waves [.ref (eb E + 21), .ref (eb E + 11), .int x2] I3 (fun rv I5 => ∃ v6 : Int32, rv = some (.int v6) ∧
 Q (some (.int (v4 - v6))) I5))))) ∧
 (v2 = 0 → Q (some (.int (nI 0))) I1))))) : Mt E (d + 1) mX4_begs [.ref (eb E + 21), .ref (eb E + 11), .int x2] I Q := by
  refine Mt_of [(0, .ref (eb E + 21)), (1, .ref (eb E + 11)), (2, .int x2)] (by decide +kernel) (by simp [lg_sl, Value.category, mX4_begs]) rfl ?_
  refine J_aload_n 1 aX4_begs_0 rfl ?_
  refine J_bipush (nI 13) aX4_begs_1 (by decide +kernel) ?_
  refine J_callV [.int (nI 13)] [] aX4_begs_3 lkX4_9_X8 okX8_begins sh11 rfl rfl rfl (Nat.le_of_ble_eq_true rfl) (Nat.le_refl _) (Mt_mono h (fun rv I1 h => ?_))
  obtain ⟨v2, rfl, h⟩ := h
  refine J_r1 ?_
  refine J_if_ne aX4_begs_6 (fun q => ?_) (fun q => ?_)
  · replace h := h.1 q
    refine J_aload_n 0 aX4_begs_11 rfl ?_
    refine J_aload_n 1 aX4_begs_12 rfl ?_
    refine J_iload_n 2 aX4_begs_13 rfl ?_
    refine J_callV [.ref (eb E + 11), .int x2] [] aX4_begs_14 lkX4_32_X4 okX4_smokes sh21 rfl rfl rfl (Nat.le_of_ble_eq_true rfl) (Nat.le_refl _) (Mt_mono h (fun rv I3 h => ?_))
    obtain ⟨v4, rfl, h⟩ := h
    refine J_r1 ?_
    refine J_aload_n 0 aX4_begs_17 rfl ?_
    refine J_aload_n 1 aX4_begs_18 rfl ?_
    refine J_iload_n 2 aX4_begs_19 rfl ?_
    refine J_callV [.ref (eb E + 11), .int x2] [.int v4] aX4_begs_20 lkX4_35_X4 okX4_waves sh21 rfl rfl rfl (Nat.le_of_ble_eq_true rfl) (Nat.le_refl _) (Mt_mono h (fun rv I5 h => ?_))
    obtain ⟨v6, rfl, h⟩ := h
    refine J_r1 ?_
    refine J_isub aX4_begs_23 ?_
    exact J_iret aX4_begs_24 rfl h
  · replace h := h.2 q
    refine J_iconst (nI 0) aX4_begs_9 (by decide +kernel) ?_
    exact J_iret aX4_begs_10 rfl h
theorem S_X4_begs_22 {E : EE} {d : Nat} {I : IH} {Q : QT} (x2 : Int32) (h :
(Mt E d mX8_begins [.ref (eb E + 11), .int (nI 13)] I (fun rv I1 => ∃ v2 : Int32, rv = some (.int v2) ∧
 ((¬ v2 = 0 → (Mt E d mX4_smokes [.ref (eb E + 22), .ref (eb E + 11), .int x2] I1 (fun rv I3 => ∃ v4 : Int32, rv = some (.int v4) ∧
 (Mt E d mX4_waves [.ref (eb E + 22), .ref (eb E + 11), .int x2] I3 (fun rv I5 => ∃ v6 : Int32, rv = some (.int v6) ∧
 Q (some (.int (v4 - v6))) I5))))) ∧
 (v2 = 0 → Q (some (.int (nI 0))) I1))))) : Mt E (d + 1) mX4_begs [.ref (eb E + 22), .ref (eb E + 11), .int x2] I Q := by
  refine Mt_of [(0, .ref (eb E + 22)), (1, .ref (eb E + 11)), (2, .int x2)] (by decide +kernel) (by simp [lg_sl, Value.category, mX4_begs]) rfl ?_
  refine J_aload_n 1 aX4_begs_0 rfl ?_
  refine J_bipush (nI 13) aX4_begs_1 (by decide +kernel) ?_
  refine J_callV [.int (nI 13)] [] aX4_begs_3 lkX4_9_X8 okX8_begins sh11 rfl rfl rfl (Nat.le_of_ble_eq_true rfl) (Nat.le_refl _) (Mt_mono h (fun rv I1 h => ?_))
  obtain ⟨v2, rfl, h⟩ := h
  refine J_r1 ?_
  refine J_if_ne aX4_begs_6 (fun q => ?_) (fun q => ?_)
  · replace h := h.1 q
    refine J_aload_n 0 aX4_begs_11 rfl ?_
    refine J_aload_n 1 aX4_begs_12 rfl ?_
    refine J_iload_n 2 aX4_begs_13 rfl ?_
    refine J_callU [.ref (eb E + 11), .int x2] [] aX4_begs_14 lkX4_32_X3 okX4_smokes rfl sh22 rfl rfl rfl (Nat.le_of_ble_eq_true rfl) (Nat.le_refl _) (Mt_mono h (fun rv I3 h => ?_))
    obtain ⟨v4, rfl, h⟩ := h
    refine J_r1 ?_
    refine J_aload_n 0 aX4_begs_17 rfl ?_
    refine J_aload_n 1 aX4_begs_18 rfl ?_
    refine J_iload_n 2 aX4_begs_19 rfl ?_
    refine J_callU [.ref (eb E + 11), .int x2] [.int v4] aX4_begs_20 lkX4_35_X3 okX4_waves rfl sh22 rfl rfl rfl (Nat.le_of_ble_eq_true rfl) (Nat.le_refl _) (Mt_mono h (fun rv I5 h => ?_))
    obtain ⟨v6, rfl, h⟩ := h
    refine J_r1 ?_
    refine J_isub aX4_begs_23 ?_
    exact J_iret aX4_begs_24 rfl h
  · replace h := h.2 q
    refine J_iconst (nI 0) aX4_begs_9 (by decide +kernel) ?_
    exact J_iret aX4_begs_10 rfl h
theorem S_X4_begs_23 {E : EE} {d : Nat} {I : IH} {Q : QT} (x2 : Int32) (h :
(Mt E d mX8_begins [.ref (eb E + 11), .int (nI 13)] I (fun rv I1 => ∃ v2 : Int32, rv = some (.int v2) ∧
 ((¬ v2 = 0 → (Mt E d mX7_smokes [.ref (eb E + 23), .ref (eb E + 11), .int x2] I1 (fun rv I3 => ∃ v4 : Int32, rv = some (.int v4) ∧
 (Mt E d mX4_waves [.ref (eb E + 23), .ref (eb E + 11), .int x2] I3 (fun rv I5 => ∃ v6 : Int32, rv = some (.int v6) ∧
 Q (some (.int (v4 - v6))) I5))))) ∧
 (v2 = 0 → Q (some (.int (nI 0))) I1))))) : Mt E (d + 1) mX4_begs [.ref (eb E + 23), .ref (eb E + 11), .int x2] I Q := by
  refine Mt_of [(0, .ref (eb E + 23)), (1, .ref (eb E + 11)), (2, .int x2)] (by decide +kernel) (by simp [lg_sl, Value.category, mX4_begs]) rfl ?_
  refine J_aload_n 1 aX4_begs_0 rfl ?_
  refine J_bipush (nI 13) aX4_begs_1 (by decide +kernel) ?_
  refine J_callV [.int (nI 13)] [] aX4_begs_3 lkX4_9_X8 okX8_begins sh11 rfl rfl rfl (Nat.le_of_ble_eq_true rfl) (Nat.le_refl _) (Mt_mono h (fun rv I1 h => ?_))
  obtain ⟨v2, rfl, h⟩ := h
  refine J_r1 ?_
  refine J_if_ne aX4_begs_6 (fun q => ?_) (fun q => ?_)
  · replace h := h.1 q
    refine J_aload_n 0 aX4_begs_11 rfl ?_
    refine J_aload_n 1 aX4_begs_12 rfl ?_
    refine J_iload_n 2 aX4_begs_13 rfl ?_
    refine J_callU [.ref (eb E + 11), .int x2] [] aX4_begs_14 lkX4_32_X7 okX7_smokes rfl sh23 rfl rfl rfl (Nat.le_of_ble_eq_true rfl) (Nat.le_refl _) (Mt_mono h (fun rv I3 h => ?_))
    obtain ⟨v4, rfl, h⟩ := h
    refine J_r1 ?_
    refine J_aload_n 0 aX4_begs_17 rfl ?_
    refine J_aload_n 1 aX4_begs_18 rfl ?_
    refine J_iload_n 2 aX4_begs_19 rfl ?_
    refine J_callU [.ref (eb E + 11), .int x2] [.int v4] aX4_begs_20 lkX4_35_X7 okX4_waves rfl sh23 rfl rfl rfl (Nat.le_of_ble_eq_true rfl) (Nat.le_refl _) (Mt_mono h (fun rv I5 h => ?_))
    obtain ⟨v6, rfl, h⟩ := h
    refine J_r1 ?_
    refine J_isub aX4_begs_23 ?_
    exact J_iret aX4_begs_24 rfl h
  · replace h := h.2 q
    refine J_iconst (nI 0) aX4_begs_9 (by decide +kernel) ?_
    exact J_iret aX4_begs_10 rfl h
theorem S_X4_begs_24 {E : EE} {d : Nat} {I : IH} {Q : QT} (x2 : Int32) (h :
(Mt E d mX8_begins [.ref (eb E + 11), .int (nI 13)] I (fun rv I1 => ∃ v2 : Int32, rv = some (.int v2) ∧
 ((¬ v2 = 0 → (Mt E d mX7_smokes [.ref (eb E + 24), .ref (eb E + 11), .int x2] I1 (fun rv I3 => ∃ v4 : Int32, rv = some (.int v4) ∧
 (Mt E d mX4_waves [.ref (eb E + 24), .ref (eb E + 11), .int x2] I3 (fun rv I5 => ∃ v6 : Int32, rv = some (.int v6) ∧
 Q (some (.int (v4 - v6))) I5))))) ∧
 (v2 = 0 → Q (some (.int (nI 0))) I1))))) : Mt E (d + 1) mX4_begs [.ref (eb E + 24), .ref (eb E + 11), .int x2] I Q := by
  refine Mt_of [(0, .ref (eb E + 24)), (1, .ref (eb E + 11)), (2, .int x2)] (by decide +kernel) (by simp [lg_sl, Value.category, mX4_begs]) rfl ?_
  refine J_aload_n 1 aX4_begs_0 rfl ?_
  refine J_bipush (nI 13) aX4_begs_1 (by decide +kernel) ?_
  refine J_callV [.int (nI 13)] [] aX4_begs_3 lkX4_9_X8 okX8_begins sh11 rfl rfl rfl (Nat.le_of_ble_eq_true rfl) (Nat.le_refl _) (Mt_mono h (fun rv I1 h => ?_))
  obtain ⟨v2, rfl, h⟩ := h
  refine J_r1 ?_
  refine J_if_ne aX4_begs_6 (fun q => ?_) (fun q => ?_)
  · replace h := h.1 q
    refine J_aload_n 0 aX4_begs_11 rfl ?_
    refine J_aload_n 1 aX4_begs_12 rfl ?_
    refine J_iload_n 2 aX4_begs_13 rfl ?_
    refine J_callU [.ref (eb E + 11), .int x2] [] aX4_begs_14 lkX4_32_X10 okX7_smokes rfl sh24 rfl rfl rfl (Nat.le_of_ble_eq_true rfl) (Nat.le_refl _) (Mt_mono h (fun rv I3 h => ?_))
    obtain ⟨v4, rfl, h⟩ := h
    refine J_r1 ?_
    refine J_aload_n 0 aX4_begs_17 rfl ?_
    refine J_aload_n 1 aX4_begs_18 rfl ?_
    refine J_iload_n 2 aX4_begs_19 rfl ?_
    refine J_callU [.ref (eb E + 11), .int x2] [.int v4] aX4_begs_20 lkX4_35_X10 okX4_waves rfl sh24 rfl rfl rfl (Nat.le_of_ble_eq_true rfl) (Nat.le_refl _) (Mt_mono h (fun rv I5 h => ?_))
    obtain ⟨v6, rfl, h⟩ := h
    refine J_r1 ?_
    refine J_isub aX4_begs_23 ?_
    exact J_iret aX4_begs_24 rfl h
  · replace h := h.2 q
    refine J_iconst (nI 0) aX4_begs_9 (by decide +kernel) ?_
    exact J_iret aX4_begs_10 rfl h
theorem S_X4_begs_25 {E : EE} {d : Nat} {I : IH} {Q : QT} (x2 : Int32) (h :
(Mt E d mX8_begins [.ref (eb E + 11), .int (nI 13)] I (fun rv I1 => ∃ v2 : Int32, rv = some (.int v2) ∧
 ((¬ v2 = 0 → (Mt E d mX4_smokes [.ref (eb E + 25), .ref (eb E + 11), .int x2] I1 (fun rv I3 => ∃ v4 : Int32, rv = some (.int v4) ∧
 (Mt E d mX2_waves [.ref (eb E + 25), .ref (eb E + 11), .int x2] I3 (fun rv I5 => ∃ v6 : Int32, rv = some (.int v6) ∧
 Q (some (.int (v4 - v6))) I5))))) ∧
 (v2 = 0 → Q (some (.int (nI 0))) I1))))) : Mt E (d + 1) mX4_begs [.ref (eb E + 25), .ref (eb E + 11), .int x2] I Q := by
  refine Mt_of [(0, .ref (eb E + 25)), (1, .ref (eb E + 11)), (2, .int x2)] (by decide +kernel) (by simp [lg_sl, Value.category, mX4_begs]) rfl ?_
  refine J_aload_n 1 aX4_begs_0 rfl ?_
  refine J_bipush (nI 13) aX4_begs_1 (by decide +kernel) ?_
  refine J_callV [.int (nI 13)] [] aX4_begs_3 lkX4_9_X8 okX8_begins sh11 rfl rfl rfl (Nat.le_of_ble_eq_true rfl) (Nat.le_refl _) (Mt_mono h (fun rv I1 h => ?_))
  obtain ⟨v2, rfl, h⟩ := h
  refine J_r1 ?_
  refine J_if_ne aX4_begs_6 (fun q => ?_) (fun q => ?_)
  · replace h := h.1 q
    refine J_aload_n 0 aX4_begs_11 rfl ?_
    refine J_aload_n 1 aX4_begs_12 rfl ?_
    refine J_iload_n 2 aX4_begs_13 rfl ?_
    refine J_callU [.ref (eb E + 11), .int x2] [] aX4_begs_14 lkX4_32_X2 okX4_smokes rfl sh25 rfl rfl rfl (Nat.le_of_ble_eq_true rfl) (Nat.le_refl _) (Mt_mono h (fun rv I3 h => ?_))
    obtain ⟨v4, rfl, h⟩ := h
    refine J_r1 ?_
    refine J_aload_n 0 aX4_begs_17 rfl ?_
    refine J_aload_n 1 aX4_begs_18 rfl ?_
    refine J_iload_n 2 aX4_begs_19 rfl ?_
    refine J_callU [.ref (eb E + 11), .int x2] [.int v4] aX4_begs_20 lkX4_35_X2 okX2_waves rfl sh25 rfl rfl rfl (Nat.le_of_ble_eq_true rfl) (Nat.le_refl _) (Mt_mono h (fun rv I5 h => ?_))
    obtain ⟨v6, rfl, h⟩ := h
    refine J_r1 ?_
    refine J_isub aX4_begs_23 ?_
    exact J_iret aX4_begs_24 rfl h
  · replace h := h.2 q
    refine J_iconst (nI 0) aX4_begs_9 (by decide +kernel) ?_
    exact J_iret aX4_begs_10 rfl h
theorem S_X4_begs_26 {E : EE} {d : Nat} {I : IH} {Q : QT} (x2 : Int32) (h :
(Mt E d mX8_begins [.ref (eb E + 11), .int (nI 13)] I (fun rv I1 => ∃ v2 : Int32, rv = some (.int v2) ∧
 ((¬ v2 = 0 → (Mt E d mX0_smokes [.ref (eb E + 26), .ref (eb E + 11), .int x2] I1 (fun rv I3 => ∃ v4 : Int32, rv = some (.int v4) ∧
 (Mt E d mX0_waves [.ref (eb E + 26), .ref (eb E + 11), .int x2] I3 (fun rv I5 => ∃ v6 : Int32, rv = some (.int v6) ∧
 Q (some (.int (v4 - v6))) I5))))) ∧
 (v2 = 0 → Q (some (.int (nI 0))) I1))))) : Mt E (d + 1) mX4_begs [.ref (eb E + 26), .ref (eb E + 11), .int x2] I Q := by
  refine Mt_of [(0, .ref (eb E + 26)), (1, .ref (eb E + 11)), (2, .int x2)] (by decide +kernel) (by simp [lg_sl, Value.category, mX4_begs]) rfl ?_
  refine J_aload_n 1 aX4_begs_0 rfl ?_
  refine J_bipush (nI 13) aX4_begs_1 (by decide +kernel) ?_
  refine J_callV [.int (nI 13)] [] aX4_begs_3 lkX4_9_X8 okX8_begins sh11 rfl rfl rfl (Nat.le_of_ble_eq_true rfl) (Nat.le_refl _) (Mt_mono h (fun rv I1 h => ?_))
  obtain ⟨v2, rfl, h⟩ := h
  refine J_r1 ?_
  refine J_if_ne aX4_begs_6 (fun q => ?_) (fun q => ?_)
  · replace h := h.1 q
    refine J_aload_n 0 aX4_begs_11 rfl ?_
    refine J_aload_n 1 aX4_begs_12 rfl ?_
    refine J_iload_n 2 aX4_begs_13 rfl ?_
    refine J_callU [.ref (eb E + 11), .int x2] [] aX4_begs_14 lkX4_32_X0 okX0_smokes rfl sh26 rfl rfl rfl (Nat.le_of_ble_eq_true rfl) (Nat.le_refl _) (Mt_mono h (fun rv I3 h => ?_))
    obtain ⟨v4, rfl, h⟩ := h
    refine J_r1 ?_
    refine J_aload_n 0 aX4_begs_17 rfl ?_
    refine J_aload_n 1 aX4_begs_18 rfl ?_
    refine J_iload_n 2 aX4_begs_19 rfl ?_
    refine J_callU [.ref (eb E + 11), .int x2] [.int v4] aX4_begs_20 lkX4_35_X0 okX0_waves rfl sh26 rfl rfl rfl (Nat.le_of_ble_eq_true rfl) (Nat.le_refl _) (Mt_mono h (fun rv I5 h => ?_))
    obtain ⟨v6, rfl, h⟩ := h
    refine J_r1 ?_
    refine J_isub aX4_begs_23 ?_
    exact J_iret aX4_begs_24 rfl h
  · replace h := h.2 q
    refine J_iconst (nI 0) aX4_begs_9 (by decide +kernel) ?_
    exact J_iret aX4_begs_10 rfl h
theorem aX3_next_0 : decode mX3_next.2.1 0 = .ok (.iload_n 1, 1) ∧ 0 + 1 = 1 := ⟨by decide +kernel, rfl⟩
theorem aX3_next_1 : decode mX3_next.2.1 1 = .ok (.iconst 1, 1) ∧ 1 + 1 = 2 := ⟨by decide +kernel, rfl⟩
theorem aX3_next_2 : decode mX3_next.2.1 2 = .ok (.ishr, 1) ∧ 2 + 1 = 3 := ⟨by decide +kernel, rfl⟩
theorem aX3_next_3 : decode mX3_next.2.1 3 = .ok (.iload_n 1, 1) ∧ 3 + 1 = 4 := ⟨by decide +kernel, rfl⟩
theorem aX3_next_4 : decode mX3_next.2.1 4 = .ok (.bipush 7, 2) ∧ 4 + 2 = 6 := ⟨by decide +kernel, rfl⟩
theorem aX3_next_6 : decode mX3_next.2.1 6 = .ok (.ishl, 1) ∧ 6 + 1 = 7 := ⟨by decide +kernel, rfl⟩
theorem aX3_next_7 : decode mX3_next.2.1 7 = .ok (.ior, 1) ∧ 7 + 1 = 8 := ⟨by decide +kernel, rfl⟩
theorem aX3_next_8 : decode mX3_next.2.1 8 = .ok (.sipush 255, 3) ∧ 8 + 3 = 11 := ⟨by decide +kernel, rfl⟩
theorem aX3_next_11 : decode mX3_next.2.1 11 = .ok (.iand, 1) ∧ 11 + 1 = 12 := ⟨by decide +kernel, rfl⟩
theorem aX3_next_12 : decode mX3_next.2.1 12 = .ok (.ireturn, 1) := by decide +kernel
theorem S_X3_next {E : EE} {d : Nat} {I : IH} {Q : QT} (x1 : Int32) (x2 : Int32) (h :
Q (some (.int (((x1 >>> ((nI 1) &&& 31)) ||| (x1 <<< ((nI 7) &&& 31))) &&& (nI 255)))) I) : Mt E d mX3_next [.ref (eb E + 22), .int x1, .int x2] I Q := by
  refine Mt_of [(0, .ref (eb E + 22)), (1, .int x1), (2, .int x2)] (by decide +kernel) (by simp [lg_sl, Value.category, mX3_next]) rfl ?_
  refine J_iload_n 1 aX3_next_0 rfl ?_
  refine J_iconst (nI 1) aX3_next_1 (by decide +kernel) ?_
  refine J_ishr aX3_next_2 ?_
  refine J_iload_n 1 aX3_next_3 rfl ?_
  refine J_bipush (nI 7) aX3_next_4 (by decide +kernel) ?_
  refine J_ishl aX3_next_6 ?_
  refine J_ior aX3_next_7 ?_
  refine J_sipush (nI 255) aX3_next_8 (by decide +kernel) ?_
  refine J_iand aX3_next_11 ?_
  exact J_iret aX3_next_12 rfl h
theorem aX3_price_0 : decode mX3_price.2.1 0 = .ok (.iconst 2, 1) ∧ 0 + 1 = 1 := ⟨by decide +kernel, rfl⟩
theorem aX3_price_1 : decode mX3_price.2.1 1 = .ok (.aload_n 0, 1) ∧ 1 + 1 = 2 := ⟨by decide +kernel, rfl⟩
theorem aX3_price_2 : decode mX3_price.2.1 2 = .ok (.iload_n 1, 1) ∧ 2 + 1 = 3 := ⟨by decide +kernel, rfl⟩
theorem aX3_price_3 : decode mX3_price.2.1 3 = .ok (.iload_n 2, 1) ∧ 3 + 1 = 4 := ⟨by decide +kernel, rfl⟩
theorem aX3_price_4 : decode mX3_price.2.1 4 = .ok (.invokespecial 9, 3) ∧ 4 + 3 = 7 := ⟨by decide +kernel, rfl⟩
theorem aX3_price_7 : decode mX3_price.2.1 7 = .ok (.imul, 1) ∧ 7 + 1 = 8 := ⟨by decide +kernel, rfl⟩
theorem aX3_price_8 : decode mX3_price.2.1 8 = .ok (.ireturn, 1) := by decide +kernel
theorem S_X3_price {E : EE} {d : Nat} {I : IH} {Q : QT} (x1 : Int32) (x2 : Int32) (h :
(Mt E d mX4_price [.ref (eb E + 22), .int x1, .int x2] I (fun rv I1 => ∃ v2 : Int32, rv = some (.int v2) ∧
 Q (some (.int ((nI 2) * v2))) I1))) : Mt E (d + 1) mX3_price [.ref (eb E + 22), .int x1, .int x2] I Q := by
  refine Mt_of [(0, .ref (eb E + 22)), (1, .int x1), (2, .int x2)] (by decide +kernel) (by simp [lg_sl, Value.category, mX3_price]) rfl ?_
  refine J_iconst (nI 2) aX3_price_0 (by decide +kernel) ?_
  refine J_aload_n 0 aX3_price_1 rfl ?_
  refine J_iload_n 1 aX3_price_2 rfl ?_
  refine J_iload_n 2 aX3_price_3 rfl ?_
  refine J_callSU [.int x1, .int x2] [.int (nI 2)] aX3_price_4 lkX3_9 okX4_price sh22 (by decide) rfl rfl (Nat.le_of_ble_eq_true rfl) (Nat.le_refl _) (Mt_mono h (fun rv I1 h => ?_))
  obtain ⟨v2, rfl, h⟩ := h
  refine J_r1 ?_
  refine J_imul aX3_price_7 ?_
  exact J_iret aX3_price_8 rfl h
theorem aX3_glows_0 : decode mX3_glows.2.1 0 = .ok (.aload_n 1, 1) ∧ 0 + 1 = 1 := ⟨by decide +kernel, rfl⟩
theorem aX3_glows_1 : decode mX3_glows.2.1 1 = .ok (.bipush 20, 2) ∧ 1 + 2 = 3 := ⟨by decide +kernel, rfl⟩
theorem aX3_glows_3 : decode mX3_glows.2.1 3 = .ok (.invokevirtual 13, 3) ∧ 3 + 3 = 6 := ⟨by decide +kernel, rfl⟩
theorem aX3_glows_6 : decode mX3_glows.2.1 6 = .ok (.ifCond .ne 5, 3) ∧ ((6 : Nat) : Int) + 5 = ((11 : Nat) : Int) ∧ 6 + 3 = 9 := ⟨by decide +kernel, by decide, rfl⟩
theorem aX3_glows_9 : decode mX3_glows.2.1 9 = .ok (.iconst 0, 1) ∧ 9 + 1 = 10 := ⟨by decide +kernel, rfl⟩
theorem aX3_glows_10 : decode mX3_glows.2.1 10 = .ok (.ireturn, 1) := by decide +kernel
theorem aX3_glows_11 : decode mX3_glows.2.1 11 = .ok (.aload_n 0, 1) ∧ 11 + 1 = 12 := ⟨by decide +kernel, rfl⟩
theorem aX3_glows_12 : decode mX3_glows.2.1 12 = .ok (.aload_n 1, 1) ∧ 12 + 1 = 13 := ⟨by decide +kernel, rfl⟩
theorem aX3_glows_13 : decode mX3_glows.2.1 13 = .ok (.iload_n 2, 1) ∧ 13 + 1 = 14 := ⟨by decide +kernel, rfl⟩
theorem aX3_glows_14 : decode mX3_glows.2.1 14 = .ok (.invokespecial 19, 3) ∧ 14 + 3 = 17 := ⟨by decide +kernel, rfl⟩
theorem aX3_glows_17 : decode mX3_glows.2.1 17 = .ok (.bipush 21, 2) ∧ 17 + 2 = 19 := ⟨by decide +kernel, rfl⟩
theorem aX3_glows_19 : decode mX3_glows.2.1 19 = .ok (.ixor, 1) ∧ 19 + 1 = 20 := ⟨by decide +kernel, rfl⟩
theorem aX3_glows_20 : decode mX3_glows.2.1 20 = .ok (.ireturn, 1) := by decide +kernel
theorem S_X3_glows {E : EE} {d : Nat} {I : IH} {Q : QT} (x2 : Int32) (h :
(Mt E d mX8_begins [.ref (eb E + 11), .int (nI 20)] I (fun rv I1 => ∃ v2 : Int32, rv = some (.int v2) ∧
 ((¬ v2 = 0 → (Mt E d mX4_glows [.ref (eb E + 22), .ref (eb E + 11), .int x2] I1 (fun rv I3 => ∃ v4 : Int32, rv = some (.int v4) ∧
 Q (some (.int (v4 ^^^ (nI 21)))) I3))) ∧
 (v2 = 0 → Q (some (.int (nI 0))) I1))))) : Mt E (d + 1) mX3_glows [.ref (eb E + 22), .ref (eb E + 11), .int x2] I Q := by
  refine Mt_of [(0, .ref (eb E + 22)), (1, .ref (eb E + 11)), (2, .int x2)] (by decide +kernel) (by simp [lg_sl, Value.category, mX3_glows]) rfl ?_
  refine J_aload_n 1 aX3_glows_0 rfl ?_
  refine J_bipush (nI 20) aX3_glows_1 (by decide +kernel) ?_
  refine J_callV [.int (nI 20)] [] aX3_glows_3 lkX3_13_X8 okX8_begins sh11 rfl rfl rfl (Nat.le_of_ble_eq_true rfl) (Nat.le_refl _) (Mt_mono h (fun rv I1 h => ?_))
  obtain ⟨v2, rfl, h⟩ := h
  refine J_r1 ?_
  refine J_if_ne aX3_glows_6 (fun q => ?_) (fun q => ?_)
  · replace h := h.1 q
    refine J_aload_n 0 aX3_glows_11 rfl ?_
    refine J_aload_n 1 aX3_glows_12 rfl ?_
    refine J_iload_n 2 aX3_glows_13 rfl ?_
    refine J_callSU [.ref (eb E + 11), .int x2] [] aX3_glows_14 lkX3_19 okX4_glows sh22 (by decide) rfl rfl (Nat.le_of_ble_eq_true rfl) (Nat.le_refl _) (Mt_mono h (fun rv I3 h => ?_))
    obtain ⟨v4, rfl, h⟩ := h
    refine J_r1 ?_
    refine J_bipush (nI 21) aX3_glows_17 (by decide +kernel) ?_
    refine J_ixor aX3_glows_19 ?_
    exact J_iret aX3_glows_20 rfl h
  · replace h := h.2 q
    refine J_iconst (nI 0) aX3_glows_9 (by decide +kernel) ?_
    exact J_iret aX3_glows_10 rfl h
theorem aX7_next_0 : decode mX7_next.2.1 0 = .ok (.iload_n 1, 1) ∧ 0 + 1 = 1 := ⟨by decide +kernel, rfl⟩
theorem aX7_next_1 : decode mX7_next.2.1 1 = .ok (.aload_n 0, 1) ∧ 1 + 1 = 2 := ⟨by decide +kernel, rfl⟩
theorem aX7_next_2 : decode mX7_next.2.1 2 = .ok (.iload_n 1, 1) ∧ 2 + 1 = 3 := ⟨by decide +kernel, rfl⟩
theorem aX7_next_3 : decode mX7_next.2.1 3 = .ok (.iload_n 2, 1) ∧ 3 + 1 = 4 := ⟨by decide +kernel, rfl⟩
theorem aX7_next_4 : decode mX7_next.2.1 4 = .ok (.invokespecial 7, 3) ∧ 4 + 3 = 7 := ⟨by decide +kernel, rfl⟩
theorem aX7_next_7 : decode mX7_next.2.1 7 = .ok (.ixor, 1) ∧ 7 + 1 = 8 := ⟨by decide +kernel, rfl⟩
theorem aX7_next_8 : decode mX7_next.2.1 8 = .ok (.ireturn, 1) := by decide +kernel
theorem S_X7_next_23 {E : EE} {d : Nat} {I : IH} {Q : QT} (x1 : Int32) (x2 : Int32) (h :
(Mt E d mX4_next [.ref (eb E + 23), .int x1, .int x2] I (fun rv I1 => ∃ v2 : Int32, rv = some (.int v2) ∧
 Q (some (.int (x1 ^^^ v2))) I1))) : Mt E (d + 1) mX7_next [.ref (eb E + 23), .int x1, .int x2] I Q := by
  refine Mt_of [(0, .ref (eb E + 23)), (1, .int x1), (2, .int x2)] (by decide +kernel) (by simp [lg_sl, Value.category, mX7_next]) rfl ?_
  refine J_iload_n 1 aX7_next_0 rfl ?_
  refine J_aload_n 0 aX7_next_1 rfl ?_
  refine J_iload_n 1 aX7_next_2 rfl ?_
  refine J_iload_n 2 aX7_next_3 rfl ?_
  refine J_callSU [.int x1, .int x2] [.int x1] aX7_next_4 lkX7_7 okX4_next sh23 (by decide) rfl rfl (Nat.le_of_ble_eq_true rfl) (Nat.le_refl _) (Mt_mono h (fun rv I1 h => ?_))
  obtain ⟨v2, rfl, h⟩ := h
  refine J_r1 ?_
  refine J_ixor aX7_next_7 ?_
  exact J_iret aX7_next_8 rfl h
theorem S_X7_next_24 {E : EE} {d : Nat} {I : IH} {Q : QT} (x1 : Int32) (x2 : Int32) (h :
(Mt E d mX4_next [.ref (eb E + 24), .int x1, .int x2] I (fun rv I1 => ∃ v2 : Int32, rv = some (.int v2) ∧
 Q (some (.int (x1 ^^^ v2))) I1))) : Mt E (d + 1) mX7_next [.ref (eb E + 24), .int x1, .int x2] I Q := by
  refine Mt_of [(0, .ref (eb E + 24)), (1, .int x1), (2, .int x2)] (by decide +kernel) (by simp [lg_sl, Value.category, mX7_next]) rfl ?_
  refine J_iload_n 1 aX7_next_0 rfl ?_
  refine J_aload_n 0 aX7_next_1 rfl ?_
  refine J_iload_n 1 aX7_next_2 rfl ?_
  refine J_iload_n 2 aX7_next_3 rfl ?_
  refine J_callSU [.int x1, .int x2] [.int x1] aX7_next_4 lkX7_7 okX4_next sh24 (by decide) rfl rfl (Nat.le_of_ble_eq_true rfl) (Nat.le_refl _) (Mt_mono h (fun rv I1 h => ?_))
  obtain ⟨v2, rfl, h⟩ := h
  refine J_r1 ?_
  refine J_ixor aX7_next_7 ?_
  exact J_iret aX7_next_8 rfl h
theorem aX7_price_0 : decode mX7_price.2.1 0 = .ok (.aload_n 0, 1) ∧ 0 + 1 = 1 := ⟨by decide +kernel, rfl⟩
theorem aX7_price_1 : decode mX7_price.2.1 1 = .ok (.iload_n 1, 1) ∧ 1 + 1 = 2 := ⟨by decide +kernel, rfl⟩
theorem aX7_price_2 : decode mX7_price.2.1 2 = .ok (.iload_n 2, 1) ∧ 2 + 1 = 3 := ⟨by decide +kernel, rfl⟩
theorem aX7_price_3 : decode mX7_price.2.1 3 = .ok (.invokespecial 11, 3) ∧ 3 + 3 = 6 := ⟨by decide +kernel, rfl⟩
theorem aX7_price_6 : decode mX7_price.2.1 6 = .ok (.iload_n 2, 1) ∧ 6 + 1 = 7 := ⟨by decide +kernel, rfl⟩
theorem aX7_price_7 : decode mX7_price.2.1 7 = .ok (.iadd, 1) ∧ 7 + 1 = 8 := ⟨by decide +kernel, rfl⟩
theorem aX7_price_8 : decode mX7_price.2.1 8 = .ok (.ireturn, 1) := by decide +kernel
theorem S_X7_price_23 {E : EE} {d : Nat} {I : IH} {Q : QT} (x1 : Int32) (x2 : Int32) (h :
(Mt E d mX4_price [.ref (eb E + 23), .int x1, .int x2] I (fun rv I1 => ∃ v2 : Int32, rv = some (.int v2) ∧
 Q (some (.int (v2 + x2))) I1))) : Mt E (d + 1) mX7_price [.ref (eb E + 23), .int x1, .int x2] I Q := by
  refine Mt_of [(0, .ref (eb E + 23)), (1, .int x1), (2, .int x2)] (by decide +kernel) (by simp [lg_sl, Value.category, mX7_price]) rfl ?_
  refine J_aload_n 0 aX7_price_0 rfl ?_
  refine J_iload_n 1 aX7_price_1 rfl ?_
  refine J_iload_n 2 aX7_price_2 rfl ?_
  refine J_callSU [.int x1, .int x2] [] aX7_price_3 lkX7_11 okX4_price sh23 (by decide) rfl rfl (Nat.le_of_ble_eq_true rfl) (Nat.le_refl _) (Mt_mono h (fun rv I1 h => ?_))
  obtain ⟨v2, rfl, h⟩ := h
  refine J_r1 ?_
  refine J_iload_n 2 aX7_price_6 rfl ?_
  refine J_iadd aX7_price_7 ?_
  exact J_iret aX7_price_8 rfl h
theorem S_X7_price_24 {E : EE} {d : Nat} {I : IH} {Q : QT} (x1 : Int32) (x2 : Int32) (h :
(Mt E d mX4_price [.ref (eb E + 24), .int x1, .int x2] I (fun rv I1 => ∃ v2 : Int32, rv = some (.int v2) ∧
 Q (some (.int (v2 + x2))) I1))) : Mt E (d + 1) mX7_price [.ref (eb E + 24), .int x1, .int x2] I Q := by
  refine Mt_of [(0, .ref (eb E + 24)), (1, .int x1), (2, .int x2)] (by decide +kernel) (by simp [lg_sl, Value.category, mX7_price]) rfl ?_
  refine J_aload_n 0 aX7_price_0 rfl ?_
  refine J_iload_n 1 aX7_price_1 rfl ?_
  refine J_iload_n 2 aX7_price_2 rfl ?_
  refine J_callSU [.int x1, .int x2] [] aX7_price_3 lkX7_11 okX4_price sh24 (by decide) rfl rfl (Nat.le_of_ble_eq_true rfl) (Nat.le_refl _) (Mt_mono h (fun rv I1 h => ?_))
  obtain ⟨v2, rfl, h⟩ := h
  refine J_r1 ?_
  refine J_iload_n 2 aX7_price_6 rfl ?_
  refine J_iadd aX7_price_7 ?_
  exact J_iret aX7_price_8 rfl h
theorem aX7_smokes_0 : decode mX7_smokes.2.1 0 = .ok (.aload_n 1, 1) ∧ 0 + 1 = 1 := ⟨by decide +kernel, rfl⟩
theorem aX7_smokes_1 : decode mX7_smokes.2.1 1 = .ok (.bipush 30, 2) ∧ 1 + 2 = 3 := ⟨by decide +kernel, rfl⟩
theorem aX7_smokes_3 : decode mX7_smokes.2.1 3 = .ok (.invokevirtual 14, 3) ∧ 3 + 3 = 6 := ⟨by decide +kernel, rfl⟩
theorem aX7_smokes_6 : decode mX7_smokes.2.1 6 = .ok (.ifCond .ne 5, 3) ∧ ((6 : Nat) : Int) + 5 = ((11 : Nat) : Int) ∧ 6 + 3 = 9 := ⟨by decide +kernel, by decide, rfl⟩
theorem aX7_smokes_9 : decode mX7_smokes.2.1 9 = .ok (.iconst 0, 1) ∧ 9 + 1 = 10 := ⟨by decide +kernel, rfl⟩
theorem aX7_smokes_10 : decode mX7_smokes.2.1 10 = .ok (.ireturn, 1) := by decide +kernel
theorem aX7_smokes_11 : decode mX7_smokes.2.1 11 = .ok (.aload_n 0, 1) ∧ 11 + 1 = 12 := ⟨by decide +kernel, rfl⟩
theorem aX7_smokes_12 : decode mX7_smokes.2.1 12 = .ok (.aload_n 1, 1) ∧ 12 + 1 = 13 := ⟨by decide +kernel, rfl⟩
theorem aX7_smokes_13 : decode mX7_smokes.2.1 13 = .ok (.iload_n 2, 1) ∧ 13 + 1 = 14 := ⟨by decide +kernel, rfl⟩
theorem aX7_smokes_14 : decode mX7_smokes.2.1 14 = .ok (.aload_n 1, 1) ∧ 14 + 1 = 15 := ⟨by decide +kernel, rfl⟩
theorem aX7_smokes_15 : decode mX7_smokes.2.1 15 = .ok (.getfield 20, 3) ∧ 15 + 3 = 18 := ⟨by decide +kernel, rfl⟩
theorem aX7_smokes_18 : decode mX7_smokes.2.1 18 = .ok (.isub, 1) ∧ 18 + 1 = 19 := ⟨by decide +kernel, rfl⟩
theorem aX7_smokes_19 : decode mX7_smokes.2.1 19 = .ok (.invokespecial 24, 3) ∧ 19 + 3 = 22 := ⟨by decide +kernel, rfl⟩
theorem aX7_smokes_22 : decode mX7_smokes.2.1 22 = .ok (.ireturn, 1) := by decide +kernel
theorem S_X7_smokes_23 {E : EE} {d : Nat} {I : IH} {Q : QT} (x2 : Int32) (h :
(Mt E d mX8_begins [.ref (eb E + 11), .int (nI 30)] I (fun rv I1 => ∃ v2 : Int32, rv = some (.int v2) ∧
 ((¬ v2 = 0 → (Mt E d mX4_smokes [.ref (eb E + 23), .ref (eb E + 11), .int (x2 - (I1 11 2))] I1 (fun rv I3 => ∃ v4 : Int32, rv = some (.int v4) ∧
 Q (some (.int v4)) I3))) ∧
 (v2 = 0 → Q (some (.int (nI 0))) I1))))) : Mt E (d + 1) mX7_smokes [.ref (eb E + 23), .ref (eb E + 11), .int x2] I Q := by
  refine Mt_of [(0, .ref (eb E + 23)), (1, .ref (eb E + 11)), (2, .int x2)] (by decide +kernel) (by simp [lg_sl, Value.category, mX7_smokes]) rfl ?_
  refine J_aload_n 1 aX7_smokes_0 rfl ?_
  refine J_bipush (nI 30) aX7_smokes_1 (by decide +kernel) ?_
  refine J_callV [.int (nI 30)] [] aX7_smokes_3 lkX7_14_X8 okX8_begins sh11 rfl rfl rfl (Nat.le_of_ble_eq_true rfl) (Nat.le_refl _) (Mt_mono h (fun rv I1 h => ?_))
  obtain ⟨v2, rfl, h⟩ := h
  refine J_r1 ?_
  refine J_if_ne aX7_smokes_6 (fun q => ?_) (fun q => ?_)
  · replace h := h.1 q
    refine J_aload_n 0 aX7_smokes_11 rfl ?_
    refine J_aload_n 1 aX7_smokes_12 rfl ?_
    refine J_iload_n 2 aX7_smokes_13 rfl ?_
    refine J_aload_n 1 aX7_smokes_14 rfl ?_
    refine J_getI aX7_smokes_15 flX7_20 sh11 rfl ?_
    refine J_isub aX7_smokes_18 ?_
    refine J_callSU [.ref (eb E + 11), .int (x2 - (I1 11 2))] [] aX7_smokes_19 lkX7_24 okX4_smokes sh23 (by decide) rfl rfl (Nat.le_of_ble_eq_true rfl) (Nat.le_refl _) (Mt_mono h (fun rv I3 h => ?_))
    obtain ⟨v4, rfl, h⟩ := h
    refine J_r1 ?_
    exact J_iret aX7_smokes_22 rfl h
  · replace h := h.2 q
    refine J_iconst (nI 0) aX7_smokes_9 (by decide +kernel) ?_
    exact J_iret aX7_smokes_10 rfl h
theorem S_X7_smokes_24 {E : EE} {d : Nat} {I : IH} {Q : QT} (x2 : Int32) (h :
(Mt E d mX8_begins [.ref (eb E + 11), .int (nI 30)] I (fun rv I1 => ∃ v2 : Int32, rv = some (.int v2) ∧
 ((¬ v2 = 0 → (Mt E d mX4_smokes [.ref (eb E + 24), .ref (eb E + 11), .int (x2 - (I1 11 2))] I1 (fun rv I3 => ∃ v4 : Int32, rv = some (.int v4) ∧
 Q (some (.int v4)) I3))) ∧
 (v2 = 0 → Q (some (.int (nI 0))) I1))))) : Mt E (d + 1) mX7_smokes [.ref (eb E + 24), .ref (eb E + 11), .int x2] I Q := by
  refine Mt_of [(0, .ref (eb E + 24)), (1, .ref (eb E + 11)), (2, .int x2)] (by decide +kernel) (by simp [lg_sl, Value.category, mX7_smokes]) rfl ?_
  refine J_aload_n 1 aX7_smokes_0 rfl ?_
  refine J_bipush (nI 30) aX7_smokes_1 (by decide +kernel) ?_
  refine J_callV [.int (nI 30)] [] aX7_smokes_3 lkX7_14_X8 okX8_begins sh11 rfl rfl rfl (Nat.le_of_ble_eq_true rfl) (Nat.le_refl _) (Mt_mono h (fun rv I1 h => ?_))
  obtain ⟨v2, rfl, h⟩ := h
  refine J_r1 ?_
  refine J_if_ne aX7_smokes_6 (fun q => ?_) (fun q => ?_)
  · replace h := h.1 q
    refine J_aload_n 0 aX7_smokes_11 rfl ?_
    refine J_aload_n 1 aX7_smokes_12 rfl ?_
    refine J_iload_n 2 aX7_smokes_13 rfl ?_
    refine J_aload_n 1 aX7_smokes_14 rfl ?_
    refine J_getI aX7_smokes_15 flX7_20 sh11 rfl ?_
    refine J_isub aX7_smokes_18 ?_
    refine J_callSU [.ref (eb E + 11), .int (x2 - (I1 11 2))] [] aX7_smokes_19 lkX7_24 okX4_smokes sh24 (by decide) rfl rfl (Nat.le_of_ble_eq_true rfl) (Nat.le_refl _) (Mt_mono h (fun rv I3 h => ?_))
    obtain ⟨v4, rfl, h⟩ := h
    refine J_r1 ?_
    exact J_iret aX7_smokes_22 rfl h
  · replace h := h.2 q
    refine J_iconst (nI 0) aX7_smokes_9 (by decide +kernel) ?_
    exact J_iret aX7_smokes_10 rfl h
theorem aX10_next_0 : decode mX10_next.2.1 0 = .ok (.aload_n 0, 1) ∧ 0 + 1 = 1 := ⟨by decide +kernel, rfl⟩
theorem aX10_next_1 : decode mX10_next.2.1 1 = .ok (.iload_n 1, 1) ∧ 1 + 1 = 2 := ⟨by decide +kernel, rfl⟩
theorem aX10_next_2 : decode mX10_next.2.1 2 = .ok (.iload_n 2, 1) ∧ 2 + 1 = 3 := ⟨by decide +kernel, rfl⟩
theorem aX10_next_3 : decode mX10_next.2.1 3 = .ok (.invokespecial 9, 3) ∧ 3 + 3 = 6 := ⟨by decide +kernel, rfl⟩
theorem aX10_next_6 : decode mX10_next.2.1 6 = .ok (.istore_n 3, 1) ∧ 6 + 1 = 7 := ⟨by decide +kernel, rfl⟩
theorem aX10_next_7 : decode mX10_next.2.1 7 = .ok (.iload_n 2, 1) ∧ 7 + 1 = 8 := ⟨by decide +kernel, rfl⟩
theorem aX10_next_8 : decode mX10_next.2.1 8 = .ok (.iconst 2, 1) ∧ 8 + 1 = 9 := ⟨by decide +kernel, rfl⟩
theorem aX10_next_9 : decode mX10_next.2.1 9 = .ok (.irem, 1) ∧ 9 + 1 = 10 := ⟨by decide +kernel, rfl⟩
theorem aX10_next_10 : decode mX10_next.2.1 10 = .ok (.iconst 1, 1) ∧ 10 + 1 = 11 := ⟨by decide +kernel, rfl⟩
theorem aX10_next_11 : decode mX10_next.2.1 11 = .ok (.if_icmp .ne 11, 3) ∧ ((11 : Nat) : Int) + 11 = ((22 : Nat) : Int) ∧ 11 + 3 = 14 := ⟨by decide +kernel, by decide, rfl⟩
theorem aX10_next_14 : decode mX10_next.2.1 14 = .ok (.sipush 255, 3) ∧ 14 + 3 = 17 := ⟨by decide +kernel, rfl⟩
theorem aX10_next_17 : decode mX10_next.2.1 17 = .ok (.iload_n 3, 1) ∧ 17 + 1 = 18 := ⟨by decide +kernel, rfl⟩
theorem aX10_next_18 : decode mX10_next.2.1 18 = .ok (.isub, 1) ∧ 18 + 1 = 19 := ⟨by decide +kernel, rfl⟩
theorem aX10_next_19 : decode mX10_next.2.1 19 = .ok (.goto 4, 3) ∧ ((19 : Nat) : Int) + 4 = ((23 : Nat) : Int) := ⟨by decide +kernel, by decide⟩
theorem aX10_next_22 : decode mX10_next.2.1 22 = .ok (.iload_n 3, 1) ∧ 22 + 1 = 23 := ⟨by decide +kernel, rfl⟩
theorem aX10_next_23 : decode mX10_next.2.1 23 = .ok (.ireturn, 1) := by decide +kernel
theorem S_X10_next {E : EE} {d : Nat} {I : IH} {Q : QT} (x1 : Int32) (x2 : Int32) (h :
(Mt E d mX7_next [.ref (eb E + 24), .int x1, .int x2] I (fun rv I1 => ∃ v2 : Int32, rv = some (.int v2) ∧
 ((¬ (x2 - x2 / (nI 2) * (nI 2)) = (nI 1) → Q (some (.int v2)) I1) ∧
 ((x2 - x2 / (nI 2) * (nI 2)) = (nI 1) → Q (some (.int ((nI 255) - v2))) I1))))) : Mt E (d + 1) mX10_next [.ref (eb E + 24), .int x1, .int x2] I Q := by
  refine Mt_of [(0, .ref (eb E + 24)), (1, .int x1), (2, .int x2)] (by decide +kernel) (by simp [lg_sl, Value.category, mX10_next]) rfl ?_
  refine J_aload_n 0 aX10_next_0 rfl ?_
  refine J_iload_n 1 aX10_next_1 rfl ?_
  refine J_iload_n 2 aX10_next_2 rfl ?_
  refine J_callSU [.int x1, .int x2] [] aX10_next_3 lkX10_9 okX7_next sh24 (by decide) rfl rfl (Nat.le_of_ble_eq_true rfl) (Nat.le_refl _) (Mt_mono h (fun rv I1 h => ?_))
  obtain ⟨v2, rfl, h⟩ := h
  refine J_r1 ?_
  refine J_istore_n [(3, .int v2), (0, .ref (eb E + 24)), (1, .int x1), (2, .int x2)] aX10_next_6 (by decide) rfl ?_
  refine J_iload_n 3 aX10_next_7 rfl ?_
  refine J_iconst (nI 2) aX10_next_8 (by decide +kernel) ?_
  refine J_irem aX10_next_9 (by decide +kernel) ?_
  refine J_iconst (nI 1) aX10_next_10 (by decide +kernel) ?_
  refine J_icmp_ne aX10_next_11 (fun q => ?_) (fun q => ?_)
  · replace h := h.1 q
    refine J_iload_n 0 aX10_next_22 rfl ?_
    exact J_iret aX10_next_23 rfl h
  · replace h := h.2 q
    refine J_sipush (nI 255) aX10_next_14 (by decide +kernel) ?_
    refine J_iload_n 0 aX10_next_17 rfl ?_
    refine J_isub aX10_next_18 ?_
    refine J_goto aX10_next_19 ?_
    exact J_iret aX10_next_23 rfl h
theorem aX10_price_0 : decode mX10_price.2.1 0 = .ok (.iconst 2, 1) ∧ 0 + 1 = 1 := ⟨by decide +kernel, rfl⟩
theorem aX10_price_1 : decode mX10_price.2.1 1 = .ok (.aload_n 0, 1) ∧ 1 + 1 = 2 := ⟨by decide +kernel, rfl⟩
theorem aX10_price_2 : decode mX10_price.2.1 2 = .ok (.iload_n 1, 1) ∧ 2 + 1 = 3 := ⟨by decide +kernel, rfl⟩
theorem aX10_price_3 : decode mX10_price.2.1 3 = .ok (.iload_n 2, 1) ∧ 3 + 1 = 4 := ⟨by decide +kernel, rfl⟩
theorem aX10_price_4 : decode mX10_price.2.1 4 = .ok (.invokespecial 13, 3) ∧ 4 + 3 = 7 := ⟨by decide +kernel, rfl⟩
theorem aX10_price_7 : decode mX10_price.2.1 7 = .ok (.imul, 1) ∧ 7 + 1 = 8 := ⟨by decide +kernel, rfl⟩
theorem aX10_price_8 : decode mX10_price.2.1 8 = .ok (.ireturn, 1) := by decide +kernel
theorem S_X10_price {E : EE} {d : Nat} {I : IH} {Q : QT} (x1 : Int32) (x2 : Int32) (h :
(Mt E d mX7_price [.ref (eb E + 24), .int x1, .int x2] I (fun rv I1 => ∃ v2 : Int32, rv = some (.int v2) ∧
 Q (some (.int ((nI 2) * v2))) I1))) : Mt E (d + 1) mX10_price [.ref (eb E + 24), .int x1, .int x2] I Q := by
  refine Mt_of [(0, .ref (eb E + 24)), (1, .int x1), (2, .int x2)] (by decide +kernel) (by simp [lg_sl, Value.category, mX10_price]) rfl ?_
  refine J_iconst (nI 2) aX10_price_0 (by decide +kernel) ?_
  refine J_aload_n 0 aX10_price_1 rfl ?_
  refine J_iload_n 1 aX10_price_2 rfl ?_
  refine J_iload_n 2 aX10_price_3 rfl ?_
  refine J_callSU [.int x1, .int x2] [.int (nI 2)] aX10_price_4 lkX10_13 okX7_price sh24 (by decide) rfl rfl (Nat.le_of_ble_eq_true rfl) (Nat.le_refl _) (Mt_mono h (fun rv I1 h => ?_))
  obtain ⟨v2, rfl, h⟩ := h
  refine J_r1 ?_
  refine J_imul aX10_price_7 ?_
  exact J_iret aX10_price_8 rfl h
theorem aX2_next_0 : decode mX2_next.2.1 0 = .ok (.iload_n 1, 1) ∧ 0 + 1 = 1 := ⟨by decide +kernel, rfl⟩
theorem aX2_next_1 : decode mX2_next.2.1 1 = .ok (.iconst 2, 1) ∧ 1 + 1 = 2 := ⟨by decide +kernel, rfl⟩
theorem aX2_next_2 : decode mX2_next.2.1 2 = .ok (.ishl, 1) ∧ 2 + 1 = 3 := ⟨by decide +kernel, rfl⟩
theorem aX2_next_3 : decode mX2_next.2.1 3 = .ok (.iload_n 1, 1) ∧ 3 + 1 = 4 := ⟨by decide +kernel, rfl⟩
theorem aX2_next_4 : decode mX2_next.2.1 4 = .ok (.bipush 6, 2) ∧ 4 + 2 = 6 := ⟨by decide +kernel, rfl⟩
theorem aX2_next_6 : decode mX2_next.2.1 6 = .ok (.ishr, 1) ∧ 6 + 1 = 7 := ⟨by decide +kernel, rfl⟩
theorem aX2_next_7 : decode mX2_next.2.1 7 = .ok (.ior, 1) ∧ 7 + 1 = 8 := ⟨by decide +kernel, rfl⟩
theorem aX2_next_8 : decode mX2_next.2.1 8 = .ok (.sipush 255, 3) ∧ 8 + 3 = 11 := ⟨by decide +kernel, rfl⟩
theorem aX2_next_11 : decode mX2_next.2.1 11 = .ok (.iand, 1) ∧ 11 + 1 = 12 := ⟨by decide +kernel, rfl⟩
theorem aX2_next_12 : decode mX2_next.2.1 12 = .ok (.ireturn, 1) := by decide +kernel
theorem S_X2_next_25 {E : EE} {d : Nat} {I : IH} {Q : QT} (x1 : Int32) (x2 : Int32) (h :
Q (some (.int (((x1 <<< ((nI 2) &&& 31)) ||| (x1 >>> ((nI 6) &&& 31))) &&& (nI 255)))) I) : Mt E d mX2_next [.ref (eb E + 25), .int x1, .int x2] I Q := by
  refine Mt_of [(0, .ref (eb E + 25)), (1, .int x1), (2, .int x2)] (by decide +kernel) (by simp [lg_sl, Value.category, mX2_next]) rfl ?_
  refine J_iload_n 1 aX2_next_0 rfl ?_
  refine J_iconst (nI 2) aX2_next_1 (by decide +kernel) ?_
  refine J_ishl aX2_next_2 ?_
  refine J_iload_n 1 aX2_next_3 rfl ?_
  refine J_bipush (nI 6) aX2_next_4 (by decide +kernel) ?_
  refine J_ishr aX2_next_6 ?_
  refine J_ior aX2_next_7 ?_
  refine J_sipush (nI 255) aX2_next_8 (by decide +kernel) ?_
  refine J_iand aX2_next_11 ?_
  exact J_iret aX2_next_12 rfl h
theorem S_X2_next_26 {E : EE} {d : Nat} {I : IH} {Q : QT} (x1 : Int32) (x2 : Int32) (h :
Q (some (.int (((x1 <<< ((nI 2) &&& 31)) ||| (x1 >>> ((nI 6) &&& 31))) &&& (nI 255)))) I) : Mt E d mX2_next [.ref (eb E + 26), .int x1, .int x2] I Q := by
  refine Mt_of [(0, .ref (eb E + 26)), (1, .int x1), (2, .int x2)] (by decide +kernel) (by simp [lg_sl, Value.category, mX2_next]) rfl ?_
  refine J_iload_n 1 aX2_next_0 rfl ?_
  refine J_iconst (nI 2) aX2_next_1 (by decide +kernel) ?_
  refine J_ishl aX2_next_2 ?_
  refine J_iload_n 1 aX2_next_3 rfl ?_
  refine J_bipush (nI 6) aX2_next_4 (by decide +kernel) ?_
  refine J_ishr aX2_next_6 ?_
  refine J_ior aX2_next_7 ?_
  refine J_sipush (nI 255) aX2_next_8 (by decide +kernel) ?_
  refine J_iand aX2_next_11 ?_
  exact J_iret aX2_next_12 rfl h
theorem aX2_price_0 : decode mX2_price.2.1 0 = .ok (.aload_n 0, 1) ∧ 0 + 1 = 1 := ⟨by decide +kernel, rfl⟩
theorem aX2_price_1 : decode mX2_price.2.1 1 = .ok (.iload_n 1, 1) ∧ 1 + 1 = 2 := ⟨by decide +kernel, rfl⟩
theorem aX2_price_2 : decode mX2_price.2.1 2 = .ok (.iload_n 2, 1) ∧ 2 + 1 = 3 := ⟨by decide +kernel, rfl⟩
theorem aX2_price_3 : decode mX2_price.2.1 3 = .ok (.invokespecial 9, 3) ∧ 3 + 3 = 6 := ⟨by decide +kernel, rfl⟩
theorem aX2_price_6 : decode mX2_price.2.1 6 = .ok (.istore_n 3, 1) ∧ 6 + 1 = 7 := ⟨by decide +kernel, rfl⟩
theorem aX2_price_7 : decode mX2_price.2.1 7 = .ok (.iload_n 3, 1) ∧ 7 + 1 = 8 := ⟨by decide +kernel, rfl⟩
theorem aX2_price_8 : decode mX2_price.2.1 8 = .ok (.iconst 3, 1) ∧ 8 + 1 = 9 := ⟨by decide +kernel, rfl⟩
theorem aX2_price_9 : decode mX2_price.2.1 9 = .ok (.if_icmp .ge 7, 3) ∧ ((9 : Nat) : Int) + 7 = ((16 : Nat) : Int) ∧ 9 + 3 = 12 := ⟨by decide +kernel, by decide, rfl⟩
theorem aX2_price_12 : decode mX2_price.2.1 12 = .ok (.iload_n 3, 1) ∧ 12 + 1 = 13 := ⟨by decide +kernel, rfl⟩
theorem aX2_price_13 : decode mX2_price.2.1 13 = .ok (.goto 4, 3) ∧ ((13 : Nat) : Int) + 4 = ((17 : Nat) : Int) := ⟨by decide +kernel, by decide⟩
theorem aX2_price_16 : decode mX2_price.2.1 16 = .ok (.iconst 3, 1) ∧ 16 + 1 = 17 := ⟨by decide +kernel, rfl⟩
theorem aX2_price_17 : decode mX2_price.2.1 17 = .ok (.ireturn, 1) := by decide +kernel
theorem S_X2_price_25 {E : EE} {d : Nat} {I : IH} {Q : QT} (x1 : Int32) (x2 : Int32) (h :
(Mt E d mX4_price [.ref (eb E + 25), .int x1, .int x2] I (fun rv I1 => ∃ v2 : Int32, rv = some (.int v2) ∧
 (((nI 3) ≤ v2 → Q (some (.int (nI 3))) I1) ∧
 (¬ (nI 3) ≤ v2 → Q (some (.int v2)) I1))))) : Mt E (d + 1) mX2_price [.ref (eb E + 25), .int x1, .int x2] I Q := by
  refine Mt_of [(0, .ref (eb E + 25)), (1, .int x1), (2, .int x2)] (by decide +kernel) (by simp [lg_sl, Value.category, mX2_price]) rfl ?_
  refine J_aload_n 0 aX2_price_0 rfl ?_
  refine J_iload_n 1 aX2_price_1 rfl ?_
  refine J_iload_n 2 aX2_price_2 rfl ?_
  refine J_callSU [.int x1, .int x2] [] aX2_price_3 lkX2_9 okX4_price sh25 (by decide) rfl rfl (Nat.le_of_ble_eq_true rfl) (Nat.le_refl _) (Mt_mono h (fun rv I1 h => ?_))
  obtain ⟨v2, rfl, h⟩ := h
  refine J_r1 ?_
  refine J_istore_n [(3, .int v2), (0, .ref (eb E + 25)), (1, .int x1), (2, .int x2)] aX2_price_6 (by decide) rfl ?_
  refine J_iload_n 0 aX2_price_7 rfl ?_
  refine J_iconst (nI 3) aX2_price_8 (by decide +kernel) ?_
  refine J_icmp_ge aX2_price_9 (fun q => ?_) (fun q => ?_)
  · replace h := h.1 q
    refine J_iconst (nI 3) aX2_price_16 (by decide +kernel) ?_
    exact J_iret aX2_price_17 rfl h
  · replace h := h.2 q
    refine J_iload_n 0 aX2_price_12 rfl ?_
    refine J_goto aX2_price_13 ?_
    exact J_iret aX2_price_17 rfl h
theorem S_X2_price_26 {E : EE} {d : Nat} {I : IH} {Q : QT} (x1 : Int32) (x2 : Int32) (h :
(Mt E d mX4_price [.ref (eb E + 26), .int x1, .int x2] I (fun rv I1 => ∃ v2 : Int32, rv = some (.int v2) ∧
 (((nI 3) ≤ v2 → Q (some (.int (nI 3))) I1) ∧
 (¬ (nI 3) ≤ v2 → Q (some (.int v2)) I1))))) : Mt E (d + 1) mX2_price [.ref (eb E + 26), .int x1, .int x2] I Q := by
  refine Mt_of [(0, .ref (eb E + 26)), (1, .int x1), (2, .int x2)] (by decide +kernel) (by simp [lg_sl, Value.category, mX2_price]) rfl ?_
  refine J_aload_n 0 aX2_price_0 rfl ?_
  refine J_iload_n 1 aX2_price_1 rfl ?_
  refine J_iload_n 2 aX2_price_2 rfl ?_
  refine J_callSU [.int x1, .int x2] [] aX2_price_3 lkX2_9 okX4_price sh26 (by decide) rfl rfl (Nat.le_of_ble_eq_true rfl) (Nat.le_refl _) (Mt_mono h (fun rv I1 h => ?_))
  obtain ⟨v2, rfl, h⟩ := h
  refine J_r1 ?_
  refine J_istore_n [(3, .int v2), (0, .ref (eb E + 26)), (1, .int x1), (2, .int x2)] aX2_price_6 (by decide) rfl ?_
  refine J_iload_n 0 aX2_price_7 rfl ?_
  refine J_iconst (nI 3) aX2_price_8 (by decide +kernel) ?_
  refine J_icmp_ge aX2_price_9 (fun q => ?_) (fun q => ?_)
  · replace h := h.1 q
    refine J_iconst (nI 3) aX2_price_16 (by decide +kernel) ?_
    exact J_iret aX2_price_17 rfl h
  · replace h := h.2 q
    refine J_iload_n 0 aX2_price_12 rfl ?_
    refine J_goto aX2_price_13 ?_
    exact J_iret aX2_price_17 rfl h
theorem aX2_waves_0 : decode mX2_waves.2.1 0 = .ok (.aload_n 1, 1) ∧ 0 + 1 = 1 := ⟨by decide +kernel, rfl⟩
theorem aX2_waves_1 : decode mX2_waves.2.1 1 = .ok (.bipush 40, 2) ∧ 1 + 2 = 3 := ⟨by decide +kernel, rfl⟩
theorem aX2_waves_3 : decode mX2_waves.2.1 3 = .ok (.invokevirtual 13, 3) ∧ 3 + 3 = 6 := ⟨by decide +kernel, rfl⟩
theorem aX2_waves_6 : decode mX2_waves.2.1 6 = .ok (.ifCond .ne 5, 3) ∧ ((6 : Nat) : Int) + 5 = ((11 : Nat) : Int) ∧ 6 + 3 = 9 := ⟨by decide +kernel, by decide, rfl⟩
theorem aX2_waves_9 : decode mX2_waves.2.1 9 = .ok (.iconst 0, 1) ∧ 9 + 1 = 10 := ⟨by decide +kernel, rfl⟩
theorem aX2_waves_10 : decode mX2_waves.2.1 10 = .ok (.ireturn, 1) := by decide +kernel
theorem aX2_waves_11 : decode mX2_waves.2.1 11 = .ok (.aload_n 0, 1) ∧ 11 + 1 = 12 := ⟨by decide +kernel, rfl⟩
theorem aX2_waves_12 : decode mX2_waves.2.1 12 = .ok (.aload_n 1, 1) ∧ 12 + 1 = 13 := ⟨by decide +kernel, rfl⟩
theorem aX2_waves_13 : decode mX2_waves.2.1 13 = .ok (.iload_n 2, 1) ∧ 13 + 1 = 14 := ⟨by decide +kernel, rfl⟩
theorem aX2_waves_14 : decode mX2_waves.2.1 14 = .ok (.invokespecial 19, 3) ∧ 14 + 3 = 17 := ⟨by decide +kernel, rfl⟩
theorem aX2_waves_17 : decode mX2_waves.2.1 17 = .ok (.iconst 3, 1) ∧ 17 + 1 = 18 := ⟨by decide +kernel, rfl⟩
theorem aX2_waves_18 : decode mX2_waves.2.1 18 = .ok (.imul, 1) ∧ 18 + 1 = 19 := ⟨by decide +kernel, rfl⟩
theorem aX2_waves_19 : decode mX2_waves.2.1 19 = .ok (.ireturn, 1) := by decide +kernel
theorem S_X2_waves_25 {E : EE} {d : Nat} {I : IH} {Q : QT} (x2 : Int32) (h :
(Mt E d mX8_begins [.ref (eb E + 11), .int (nI 40)] I (fun rv I1 => ∃ v2 : Int32, rv = some (.int v2) ∧
 ((¬ v2 = 0 → (Mt E d mX4_waves [.ref (eb E + 25), .ref (eb E + 11), .int x2] I1 (fun rv I3 => ∃ v4 : Int32, rv = some (.int v4) ∧
 Q (some (.int (v4 * (nI 3)))) I3))) ∧
 (v2 = 0 → Q (some (.int (nI 0))) I1))))) : Mt E (d + 1) mX2_waves [.ref (eb E + 25), .ref (eb E + 11), .int x2] I Q := by
  refine Mt_of [(0, .ref (eb E + 25)), (1, .ref (eb E + 11)), (2, .int x2)] (by decide +kernel) (by simp [lg_sl, Value.category, mX2_waves]) rfl ?_
  refine J_aload_n 1 aX2_waves_0 rfl ?_
  refine J_bipush (nI 40) aX2_waves_1 (by decide +kernel) ?_
  refine J_callV [.int (nI 40)] [] aX2_waves_3 lkX2_13_X8 okX8_begins sh11 rfl rfl rfl (Nat.le_of_ble_eq_true rfl) (Nat.le_refl _) (Mt_mono h (fun rv I1 h => ?_))
  obtain ⟨v2, rfl, h⟩ := h
  refine J_r1 ?_
  refine J_if_ne aX2_waves_6 (fun q => ?_) (fun q => ?_)
  · replace h := h.1 q
    refine J_aload_n 0 aX2_waves_11 rfl ?_
    refine J_aload_n 1 aX2_waves_12 rfl ?_
    refine J_iload_n 2 aX2_waves_13 rfl ?_
    refine J_callSU [.ref (eb E + 11), .int x2] [] aX2_waves_14 lkX2_19 okX4_waves sh25 (by decide) rfl rfl (Nat.le_of_ble_eq_true rfl) (Nat.le_refl _) (Mt_mono h (fun rv I3 h => ?_))
    obtain ⟨v4, rfl, h⟩ := h
    refine J_r1 ?_
    refine J_iconst (nI 3) aX2_waves_17 (by decide +kernel) ?_
    refine J_imul aX2_waves_18 ?_
    exact J_iret aX2_waves_19 rfl h
  · replace h := h.2 q
    refine J_iconst (nI 0) aX2_waves_9 (by decide +kernel) ?_
    exact J_iret aX2_waves_10 rfl h
theorem S_X2_waves_26 {E : EE} {d : Nat} {I : IH} {Q : QT} (x2 : Int32) (h :
(Mt E d mX8_begins [.ref (eb E + 11), .int (nI 40)] I (fun rv I1 => ∃ v2 : Int32, rv = some (.int v2) ∧
 ((¬ v2 = 0 → (Mt E d mX4_waves [.ref (eb E + 26), .ref (eb E + 11), .int x2] I1 (fun rv I3 => ∃ v4 : Int32, rv = some (.int v4) ∧
 Q (some (.int (v4 * (nI 3)))) I3))) ∧
 (v2 = 0 → Q (some (.int (nI 0))) I1))))) : Mt E (d + 1) mX2_waves [.ref (eb E + 26), .ref (eb E + 11), .int x2] I Q := by
  refine Mt_of [(0, .ref (eb E + 26)), (1, .ref (eb E + 11)), (2, .int x2)] (by decide +kernel) (by simp [lg_sl, Value.category, mX2_waves]) rfl ?_
  refine J_aload_n 1 aX2_waves_0 rfl ?_
  refine J_bipush (nI 40) aX2_waves_1 (by decide +kernel) ?_
  refine J_callV [.int (nI 40)] [] aX2_waves_3 lkX2_13_X8 okX8_begins sh11 rfl rfl rfl (Nat.le_of_ble_eq_true rfl) (Nat.le_refl _) (Mt_mono h (fun rv I1 h => ?_))
  obtain ⟨v2, rfl, h⟩ := h
  refine J_r1 ?_
  refine J_if_ne aX2_waves_6 (fun q => ?_) (fun q => ?_)
  · replace h := h.1 q
    refine J_aload_n 0 aX2_waves_11 rfl ?_
    refine J_aload_n 1 aX2_waves_12 rfl ?_
    refine J_iload_n 2 aX2_waves_13 rfl ?_
    refine J_callSU [.ref (eb E + 11), .int x2] [] aX2_waves_14 lkX2_19 okX4_waves sh26 (by decide) rfl rfl (Nat.le_of_ble_eq_true rfl) (Nat.le_refl _) (Mt_mono h (fun rv I3 h => ?_))
    obtain ⟨v4, rfl, h⟩ := h
    refine J_r1 ?_
    refine J_iconst (nI 3) aX2_waves_17 (by decide +kernel) ?_
    refine J_imul aX2_waves_18 ?_
    exact J_iret aX2_waves_19 rfl h
  · replace h := h.2 q
    refine J_iconst (nI 0) aX2_waves_9 (by decide +kernel) ?_
    exact J_iret aX2_waves_10 rfl h
theorem aX0_next_0 : decode mX0_next.2.1 0 = .ok (.aload_n 0, 1) ∧ 0 + 1 = 1 := ⟨by decide +kernel, rfl⟩
theorem aX0_next_1 : decode mX0_next.2.1 1 = .ok (.iload_n 1, 1) ∧ 1 + 1 = 2 := ⟨by decide +kernel, rfl⟩
theorem aX0_next_2 : decode mX0_next.2.1 2 = .ok (.iload_n 2, 1) ∧ 2 + 1 = 3 := ⟨by decide +kernel, rfl⟩
theorem aX0_next_3 : decode mX0_next.2.1 3 = .ok (.invokespecial 7, 3) ∧ 3 + 3 = 6 := ⟨by decide +kernel, rfl⟩
theorem aX0_next_6 : decode mX0_next.2.1 6 = .ok (.istore_n 3, 1) ∧ 6 + 1 = 7 := ⟨by decide +kernel, rfl⟩
theorem aX0_next_7 : decode mX0_next.2.1 7 = .ok (.iload_n 2, 1) ∧ 7 + 1 = 8 := ⟨by decide +kernel, rfl⟩
theorem aX0_next_8 : decode mX0_next.2.1 8 = .ok (.iconst 3, 1) ∧ 8 + 1 = 9 := ⟨by decide +kernel, rfl⟩
theorem aX0_next_9 : decode mX0_next.2.1 9 = .ok (.irem, 1) ∧ 9 + 1 = 10 := ⟨by decide +kernel, rfl⟩
theorem aX0_next_10 : decode mX0_next.2.1 10 = .ok (.iconst 2, 1) ∧ 10 + 1 = 11 := ⟨by decide +kernel, rfl⟩
theorem aX0_next_11 : decode mX0_next.2.1 11 = .ok (.if_icmp .ne 10, 3) ∧ ((11 : Nat) : Int) + 10 = ((21 : Nat) : Int) ∧ 11 + 3 = 14 := ⟨by decide +kernel, by decide, rfl⟩
theorem aX0_next_14 : decode mX0_next.2.1 14 = .ok (.iload_n 3, 1) ∧ 14 + 1 = 15 := ⟨by decide +kernel, rfl⟩
theorem aX0_next_15 : decode mX0_next.2.1 15 = .ok (.bipush 15, 2) ∧ 15 + 2 = 17 := ⟨by decide +kernel, rfl⟩
theorem aX0_next_17 : decode mX0_next.2.1 17 = .ok (.ixor, 1) ∧ 17 + 1 = 18 := ⟨by decide +kernel, rfl⟩
theorem aX0_next_18 : decode mX0_next.2.1 18 = .ok (.goto 4, 3) ∧ ((18 : Nat) : Int) + 4 = ((22 : Nat) : Int) := ⟨by decide +kernel, by decide⟩
theorem aX0_next_21 : decode mX0_next.2.1 21 = .ok (.iload_n 3, 1) ∧ 21 + 1 = 22 := ⟨by decide +kernel, rfl⟩
theorem aX0_next_22 : decode mX0_next.2.1 22 = .ok (.ireturn, 1) := by decide +kernel
theorem S_X0_next {E : EE} {d : Nat} {I : IH} {Q : QT} (x1 : Int32) (x2 : Int32) (h :
(Mt E d mX2_next [.ref (eb E + 26), .int x1, .int x2] I (fun rv I1 => ∃ v2 : Int32, rv = some (.int v2) ∧
 ((¬ (x2 - x2 / (nI 3) * (nI 3)) = (nI 2) → Q (some (.int v2)) I1) ∧
 ((x2 - x2 / (nI 3) * (nI 3)) = (nI 2) → Q (some (.int (v2 ^^^ (nI 15)))) I1))))) : Mt E (d + 1) mX0_next [.ref (eb E + 26), .int x1, .int x2] I Q := by
  refine Mt_of [(0, .ref (eb E + 26)), (1, .int x1), (2, .int x2)] (by decide +kernel) (by simp [lg_sl, Value.category, mX0_next]) rfl ?_
  refine J_aload_n 0 aX0_next_0 rfl ?_
  refine J_iload_n 1 aX0_next_1 rfl ?_
  refine J_iload_n 2 aX0_next_2 rfl ?_
  refine J_callSU [.int x1, .int x2] [] aX0_next_3 lkX0_7 okX2_next sh26 (by decide) rfl rfl (Nat.le_of_ble_eq_true rfl) (Nat.le_refl _) (Mt_mono h (fun rv I1 h => ?_))
  obtain ⟨v2, rfl, h⟩ := h
  refine J_r1 ?_
  refine J_istore_n [(3, .int v2), (0, .ref (eb E + 26)), (1, .int x1), (2, .int x2)] aX0_next_6 (by decide) rfl ?_
  refine J_iload_n 3 aX0_next_7 rfl ?_
  refine J_iconst (nI 3) aX0_next_8 (by decide +kernel) ?_
  refine J_irem aX0_next_9 (by decide +kernel) ?_
  refine J_iconst (nI 2) aX0_next_10 (by decide +kernel) ?_
  refine J_icmp_ne aX0_next_11 (fun q => ?_) (fun q => ?_)
  · replace h := h.1 q
    refine J_iload_n 0 aX0_next_21 rfl ?_
    exact J_iret aX0_next_22 rfl h
  · replace h := h.2 q
    refine J_iload_n 0 aX0_next_14 rfl ?_
    refine J_bipush (nI 15) aX0_next_15 (by decide +kernel) ?_
    refine J_ixor aX0_next_17 ?_
    refine J_goto aX0_next_18 ?_
    exact J_iret aX0_next_22 rfl h
theorem aX0_price_0 : decode mX0_price.2.1 0 = .ok (.aload_n 0, 1) ∧ 0 + 1 = 1 := ⟨by decide +kernel, rfl⟩
theorem aX0_price_1 : decode mX0_price.2.1 1 = .ok (.iload_n 1, 1) ∧ 1 + 1 = 2 := ⟨by decide +kernel, rfl⟩
theorem aX0_price_2 : decode mX0_price.2.1 2 = .ok (.iload_n 2, 1) ∧ 2 + 1 = 3 := ⟨by decide +kernel, rfl⟩
theorem aX0_price_3 : decode mX0_price.2.1 3 = .ok (.invokespecial 11, 3) ∧ 3 + 3 = 6 := ⟨by decide +kernel, rfl⟩
theorem aX0_price_6 : decode mX0_price.2.1 6 = .ok (.iconst 1, 1) ∧ 6 + 1 = 7 := ⟨by decide +kernel, rfl⟩
theorem aX0_price_7 : decode mX0_price.2.1 7 = .ok (.iadd, 1) ∧ 7 + 1 = 8 := ⟨by decide +kernel, rfl⟩
theorem aX0_price_8 : decode mX0_price.2.1 8 = .ok (.ireturn, 1) := by decide +kernel
theorem S_X0_price {E : EE} {d : Nat} {I : IH} {Q : QT} (x1 : Int32) (x2 : Int32) (h :
(Mt E d mX2_price [.ref (eb E + 26), .int x1, .int x2] I (fun rv I1 => ∃ v2 : Int32, rv = some (.int v2) ∧
 Q (some (.int (v2 + (nI 1)))) I1))) : Mt E (d + 1) mX0_price [.ref (eb E + 26), .int x1, .int x2] I Q := by
  refine Mt_of [(0, .ref (eb E + 26)), (1, .int x1), (2, .int x2)] (by decide +kernel) (by simp [lg_sl, Value.category, mX0_price]) rfl ?_
  refine J_aload_n 0 aX0_price_0 rfl ?_
  refine J_iload_n 1 aX0_price_1 rfl ?_
  refine J_iload_n 2 aX0_price_2 rfl ?_
  refine J_callSU [.int x1, .int x2] [] aX0_price_3 lkX0_11 okX2_price sh26 (by decide) rfl rfl (Nat.le_of_ble_eq_true rfl) (Nat.le_refl _) (Mt_mono h (fun rv I1 h => ?_))
  obtain ⟨v2, rfl, h⟩ := h
  refine J_r1 ?_
  refine J_iconst (nI 1) aX0_price_6 (by decide +kernel) ?_
  refine J_iadd aX0_price_7 ?_
  exact J_iret aX0_price_8 rfl h
theorem aX0_waves_0 : decode mX0_waves.2.1 0 = .ok (.aload_n 1, 1) ∧ 0 + 1 = 1 := ⟨by decide +kernel, rfl⟩
theorem aX0_waves_1 : decode mX0_waves.2.1 1 = .ok (.bipush 61, 2) ∧ 1 + 2 = 3 := ⟨by decide +kernel, rfl⟩
theorem aX0_waves_3 : decode mX0_waves.2.1 3 = .ok (.invokevirtual 14, 3) ∧ 3 + 3 = 6 := ⟨by decide +kernel, rfl⟩
theorem aX0_waves_6 : decode mX0_waves.2.1 6 = .ok (.ifCond .ne 5, 3) ∧ ((6 : Nat) : Int) + 5 = ((11 : Nat) : Int) ∧ 6 + 3 = 9 := ⟨by decide +kernel, by decide, rfl⟩
theorem aX0_waves_9 : decode mX0_waves.2.1 9 = .ok (.iconst 0, 1) ∧ 9 + 1 = 10 := ⟨by decide +kernel, rfl⟩
theorem aX0_waves_10 : decode mX0_waves.2.1 10 = .ok (.ireturn, 1) := by decide +kernel
theorem aX0_waves_11 : decode mX0_waves.2.1 11 = .ok (.aload_n 0, 1) ∧ 11 + 1 = 12 := ⟨by decide +kernel, rfl⟩
theorem aX0_waves_12 : decode mX0_waves.2.1 12 = .ok (.aload_n 1, 1) ∧ 12 + 1 = 13 := ⟨by decide +kernel, rfl⟩
theorem aX0_waves_13 : decode mX0_waves.2.1 13 = .ok (.iload_n 2, 1) ∧ 13 + 1 = 14 := ⟨by decide +kernel, rfl⟩
theorem aX0_waves_14 : decode mX0_waves.2.1 14 = .ok (.invokespecial 24, 3) ∧ 14 + 3 = 17 := ⟨by decide +kernel, rfl⟩
theorem aX0_waves_17 : decode mX0_waves.2.1 17 = .ok (.aload_n 0, 1) ∧ 17 + 1 = 18 := ⟨by decide +kernel, rfl⟩
theorem aX0_waves_18 : decode mX0_waves.2.1 18 = .ok (.aload_n 1, 1) ∧ 18 + 1 = 19 := ⟨by decide +kernel, rfl⟩
theorem aX0_waves_19 : decode mX0_waves.2.1 19 = .ok (.aload_n 1, 1) ∧ 19 + 1 = 20 := ⟨by decide +kernel, rfl⟩
theorem aX0_waves_20 : decode mX0_waves.2.1 20 = .ok (.getfield 27, 3) ∧ 20 + 3 = 23 := ⟨by decide +kernel, rfl⟩
theorem aX0_waves_23 : decode mX0_waves.2.1 23 = .ok (.invokevirtual 31, 3) ∧ 23 + 3 = 26 := ⟨by decide +kernel, rfl⟩
theorem aX0_waves_26 : decode mX0_waves.2.1 26 = .ok (.isub, 1) ∧ 26 + 1 = 27 := ⟨by decide +kernel, rfl⟩
theorem aX0_waves_27 : decode mX0_waves.2.1 27 = .ok (.ireturn, 1) := by decide +kernel
theorem S_X0_waves {E : EE} {d : Nat} {I : IH} {Q : QT} (x2 : Int32) (h :
(Mt E d mX8_begins [.ref (eb E + 11), .int (nI 61)] I (fun rv I1 => ∃ v2 : Int32, rv = some (.int v2) ∧
 ((¬ v2 = 0 → (Mt E d mX2_waves [.ref (eb E + 26), .ref (eb E + 11), .int x2] I1 (fun rv I3 => ∃ v4 : Int32, rv = some (.int v4) ∧
 (Mt E d mX4_glows [.ref (eb E + 26), .ref (eb E + 11), .int (I3 11 2)] I3 (fun rv I5 => ∃ v6 : Int32, rv = some (.int v6) ∧
 Q (some (.int (v4 - v6))) I5))))) ∧
 (v2 = 0 → Q (some (.int (nI 0))) I1))))) : Mt E (d + 1) mX0_waves [.ref (eb E + 26), .ref (eb E + 11), .int x2] I Q := by
  refine Mt_of [(0, .ref (eb E + 26)), (1, .ref (eb E + 11)), (2, .int x2)] (by decide +kernel) (by simp [lg_sl, Value.category, mX0_waves]) rfl ?_
  refine J_aload_n 1 aX0_waves_0 rfl ?_
  refine J_bipush (nI 61) aX0_waves_1 (by decide +kernel) ?_
  refine J_callV [.int (nI 61)] [] aX0_waves_3 lkX0_14_X8 okX8_begins sh11 rfl rfl rfl (Nat.le_of_ble_eq_true rfl) (Nat.le_refl _) (Mt_mono h (fun rv I1 h => ?_))
  obtain ⟨v2, rfl, h⟩ := h
  refine J_r1 ?_
  refine J_if_ne aX0_waves_6 (fun q => ?_) (fun q => ?_)
  · replace h := h.1 q
    refine J_aload_n 0 aX0_waves_11 rfl ?_
    refine J_aload_n 1 aX0_waves_12 rfl ?_
    refine J_iload_n 2 aX0_waves_13 rfl ?_
    refine J_callSU [.ref (eb E + 11), .int x2] [] aX0_waves_14 lkX0_24 okX2_waves sh26 (by decide) rfl rfl (Nat.le_of_ble_eq_true rfl) (Nat.le_refl _) (Mt_mono h (fun rv I3 h => ?_))
    obtain ⟨v4, rfl, h⟩ := h
    refine J_r1 ?_
    refine J_aload_n 0 aX0_waves_17 rfl ?_
    refine J_aload_n 1 aX0_waves_18 rfl ?_
    refine J_aload_n 1 aX0_waves_19 rfl ?_
    refine J_getI aX0_waves_20 flX0_27 sh11 rfl ?_
    refine J_callU [.ref (eb E + 11), .int (I3 11 2)] [.int v4] aX0_waves_23 lkX0_31_X0 okX4_glows rfl sh26 rfl rfl rfl (Nat.le_of_ble_eq_true rfl) (Nat.le_refl _) (Mt_mono h (fun rv I5 h => ?_))
    obtain ⟨v6, rfl, h⟩ := h
    refine J_r1 ?_
    refine J_isub aX0_waves_26 ?_
    exact J_iret aX0_waves_27 rfl h
  · replace h := h.2 q
    refine J_iconst (nI 0) aX0_waves_9 (by decide +kernel) ?_
    exact J_iret aX0_waves_10 rfl h
theorem aX6_clear_0 : decode mX6_clear.2.1 0 = .ok (.aload_n 0, 1) ∧ 0 + 1 = 1 := ⟨by decide +kernel, rfl⟩
theorem aX6_clear_1 : decode mX6_clear.2.1 1 = .ok (.iconst 0, 1) ∧ 1 + 1 = 2 := ⟨by decide +kernel, rfl⟩
theorem aX6_clear_2 : decode mX6_clear.2.1 2 = .ok (.putfield 9, 3) ∧ 2 + 3 = 5 := ⟨by decide +kernel, rfl⟩
theorem aX6_clear_5 : decode mX6_clear.2.1 5 = .ok (.aload_n 0, 1) ∧ 5 + 1 = 6 := ⟨by decide +kernel, rfl⟩
theorem aX6_clear_6 : decode mX6_clear.2.1 6 = .ok (.iconst 0, 1) ∧ 6 + 1 = 7 := ⟨by decide +kernel, rfl⟩
theorem aX6_clear_7 : decode mX6_clear.2.1 7 = .ok (.putfield 15, 3) ∧ 7 + 3 = 10 := ⟨by decide +kernel, rfl⟩
theorem aX6_clear_10 : decode mX6_clear.2.1 10 = .ok (.return_, 1) := by decide +kernel
theorem S_X6_clear {E : EE} {d : Nat} {I : IH} {Q : QT} {r : Nat} (hR : isRu r) (h :
(∀ I1 : IH, I1 = stI I r 0 (nI 0) →
 (∀ I3 : IH, I3 = stI I1 r 1 (nI 0) →
 Q none I3))) : Mt E d mX6_clear [.ref (eb E + r)] I Q := by
  refine Mt_of [(0, .ref (eb E + r))] (by decide +kernel) (by simp [lg_sl, Value.category, mX6_clear]) rfl ?_
  refine J_aload_n 0 aX6_clear_0 rfl ?_
  refine J_iconst (nI 0) aX6_clear_1 (by decide +kernel) ?_
  refine J_putI aX6_clear_2 fpX6_9 (shRu hR) rfl (fun I1 e2 => ?_)
  replace h := h I1 e2
  refine J_aload_n 0 aX6_clear_5 rfl ?_
  refine J_iconst (nI 0) aX6_clear_6 (by decide +kernel) ?_
  refine J_putI aX6_clear_7 fpX6_15 (shRu hR) rfl (fun I3 e4 => ?_)
  replace h := h I3 e4
  exact J_vret aX6_clear_10 rfl h
theorem aX6_become_0 : decode mX6_become.2.1 0 = .ok (.aload_n 0, 1) ∧ 0 + 1 = 1 := ⟨by decide +kernel, rfl⟩
theorem aX6_become_1 : decode mX6_become.2.1 1 = .ok (.aload_n 1, 1) ∧ 1 + 1 = 2 := ⟨by decide +kernel, rfl⟩
theorem aX6_become_2 : decode mX6_become.2.1 2 = .ok (.getfield 9, 3) ∧ 2 + 3 = 5 := ⟨by decide +kernel, rfl⟩
theorem aX6_become_5 : decode mX6_become.2.1 5 = .ok (.putfield 9, 3) ∧ 5 + 3 = 8 := ⟨by decide +kernel, rfl⟩
theorem aX6_become_8 : decode mX6_become.2.1 8 = .ok (.aload_n 0, 1) ∧ 8 + 1 = 9 := ⟨by decide +kernel, rfl⟩
theorem aX6_become_9 : decode mX6_become.2.1 9 = .ok (.aload_n 1, 1) ∧ 9 + 1 = 10 := ⟨by decide +kernel, rfl⟩
theorem aX6_become_10 : decode mX6_become.2.1 10 = .ok (.getfield 15, 3) ∧ 10 + 3 = 13 := ⟨by decide +kernel, rfl⟩
theorem aX6_become_13 : decode mX6_become.2.1 13 = .ok (.putfield 15, 3) ∧ 13 + 3 = 16 := ⟨by decide +kernel, rfl⟩
theorem aX6_become_16 : decode mX6_become.2.1 16 = .ok (.aload_n 1, 1) ∧ 16 + 1 = 17 := ⟨by decide +kernel, rfl⟩
theorem aX6_become_17 : decode mX6_become.2.1 17 = .ok (.getfield 18, 3) ∧ 17 + 3 = 20 := ⟨by decide +kernel, rfl⟩
theorem aX6_become_20 : decode mX6_become.2.1 20 = .ok (.iconst 0, 1) ∧ 20 + 1 = 21 := ⟨by decide +kernel, rfl⟩
theorem aX6_become_21 : decode mX6_become.2.1 21 = .ok (.aload_n 0, 1) ∧ 21 + 1 = 22 := ⟨by decide +kernel, rfl⟩
theorem aX6_become_22 : decode mX6_become.2.1 22 = .ok (.getfield 18, 3) ∧ 22 + 3 = 25 := ⟨by decide +kernel, rfl⟩
theorem aX6_become_25 : decode mX6_become.2.1 25 = .ok (.iconst 0, 1) ∧ 25 + 1 = 26 := ⟨by decide +kernel, rfl⟩
theorem aX6_become_26 : decode mX6_become.2.1 26 = .ok (.bipush 8, 2) ∧ 26 + 2 = 28 := ⟨by decide +kernel, rfl⟩
theorem aX6_become_28 : decode mX6_become.2.1 28 = .ok (.invokestatic 36, 3) ∧ 28 + 3 = 31 := ⟨by decide +kernel, rfl⟩
theorem aX6_become_31 : decode mX6_become.2.1 31 = .ok (.aload_n 1, 1) ∧ 31 + 1 = 32 := ⟨by decide +kernel, rfl⟩
theorem aX6_become_32 : decode mX6_become.2.1 32 = .ok (.getfield 22, 3) ∧ 32 + 3 = 35 := ⟨by decide +kernel, rfl⟩
theorem aX6_become_35 : decode mX6_become.2.1 35 = .ok (.iconst 0, 1) ∧ 35 + 1 = 36 := ⟨by decide +kernel, rfl⟩
theorem aX6_become_36 : decode mX6_become.2.1 36 = .ok (.aload_n 0, 1) ∧ 36 + 1 = 37 := ⟨by decide +kernel, rfl⟩
theorem aX6_become_37 : decode mX6_become.2.1 37 = .ok (.getfield 22, 3) ∧ 37 + 3 = 40 := ⟨by decide +kernel, rfl⟩
theorem aX6_become_40 : decode mX6_become.2.1 40 = .ok (.iconst 0, 1) ∧ 40 + 1 = 41 := ⟨by decide +kernel, rfl⟩
theorem aX6_become_41 : decode mX6_become.2.1 41 = .ok (.bipush 8, 2) ∧ 41 + 2 = 43 := ⟨by decide +kernel, rfl⟩
theorem aX6_become_43 : decode mX6_become.2.1 43 = .ok (.invokestatic 36, 3) ∧ 43 + 3 = 46 := ⟨by decide +kernel, rfl⟩
theorem aX6_become_46 : decode mX6_become.2.1 46 = .ok (.aload_n 1, 1) ∧ 46 + 1 = 47 := ⟨by decide +kernel, rfl⟩
theorem aX6_become_47 : decode mX6_become.2.1 47 = .ok (.getfield 25, 3) ∧ 47 + 3 = 50 := ⟨by decide +kernel, rfl⟩
theorem aX6_become_50 : decode mX6_become.2.1 50 = .ok (.iconst 0, 1) ∧ 50 + 1 = 51 := ⟨by decide +kernel, rfl⟩
theorem aX6_become_51 : decode mX6_become.2.1 51 = .ok (.aload_n 0, 1) ∧ 51 + 1 = 52 := ⟨by decide +kernel, rfl⟩
theorem aX6_become_52 : decode mX6_become.2.1 52 = .ok (.getfield 25, 3) ∧ 52 + 3 = 55 := ⟨by decide +kernel, rfl⟩
theorem aX6_become_55 : decode mX6_become.2.1 55 = .ok (.iconst 0, 1) ∧ 55 + 1 = 56 := ⟨by decide +kernel, rfl⟩
theorem aX6_become_56 : decode mX6_become.2.1 56 = .ok (.bipush 8, 2) ∧ 56 + 2 = 58 := ⟨by decide +kernel, rfl⟩
theorem aX6_become_58 : decode mX6_become.2.1 58 = .ok (.invokestatic 36, 3) ∧ 58 + 3 = 61 := ⟨by decide +kernel, rfl⟩
theorem aX6_become_61 : decode mX6_become.2.1 61 = .ok (.aload_n 1, 1) ∧ 61 + 1 = 62 := ⟨by decide +kernel, rfl⟩
theorem aX6_become_62 : decode mX6_become.2.1 62 = .ok (.getfield 30, 3) ∧ 62 + 3 = 65 := ⟨by decide +kernel, rfl⟩
theorem aX6_become_65 : decode mX6_become.2.1 65 = .ok (.iconst 0, 1) ∧ 65 + 1 = 66 := ⟨by decide +kernel, rfl⟩
theorem aX6_become_66 : decode mX6_become.2.1 66 = .ok (.aload_n 0, 1) ∧ 66 + 1 = 67 := ⟨by decide +kernel, rfl⟩
theorem aX6_become_67 : decode mX6_become.2.1 67 = .ok (.getfield 30, 3) ∧ 67 + 3 = 70 := ⟨by decide +kernel, rfl⟩
theorem aX6_become_70 : decode mX6_become.2.1 70 = .ok (.iconst 0, 1) ∧ 70 + 1 = 71 := ⟨by decide +kernel, rfl⟩
theorem aX6_become_71 : decode mX6_become.2.1 71 = .ok (.sipush 200, 3) ∧ 71 + 3 = 74 := ⟨by decide +kernel, rfl⟩
theorem aX6_become_74 : decode mX6_become.2.1 74 = .ok (.invokestatic 36, 3) ∧ 74 + 3 = 77 := ⟨by decide +kernel, rfl⟩
theorem aX6_become_77 : decode mX6_become.2.1 77 = .ok (.return_, 1) := by decide +kernel
theorem S_X6_become {E : EE} {d : Nat} {I : IH} {Q : QT} {r : Nat} (hR : isRu r) {r1 : Nat} (hR1 : isRu r1) (h :
(∀ I1 : IH, I1 = stI I r 0 (I r1 0) →
 (∀ I3 : IH, I3 = stI I1 r 1 (I1 r1 1) →
 (∀ I5 : IH, I5 = stA I3 (r + 1) (va_cpy (I3 (r1 + 1)) (I3 (r + 1)) 0 0 8) →
 (∀ I7 : IH, I7 = stA I5 (r + 2) (va_cpy (I5 (r1 + 2)) (I5 (r + 2)) 0 0 8) →
 (∀ I9 : IH, I9 = stA I7 (r + 3) (va_cpy (I7 (r1 + 3)) (I7 (r + 3)) 0 0 8) →
 (∀ I11 : IH, I11 = stA I9 (r + 4) (va_cpy (I9 (r1 + 4)) (I9 (r + 4)) 0 0 200) →
 Q none I11))))))) : Mt E (d + 2) mX6_become [.ref (eb E + r), .ref (eb E + r1)] I Q := by
  refine Mt_of [(0, .ref (eb E + r)), (1, .ref (eb E + r1))] (by decide +kernel) (by simp [lg_sl, Value.category, mX6_become]) rfl ?_
  refine J_aload_n 0 aX6_become_0 rfl ?_
  refine J_aload_n 1 aX6_become_1 rfl ?_
  refine J_getI aX6_become_2 flX6_9 (shRu hR1) rfl ?_
  refine J_putI aX6_become_5 fpX6_9 (shRu hR) rfl (fun I1 e2 => ?_)
  replace h := h I1 e2
  refine J_aload_n 0 aX6_become_8 rfl ?_
  refine J_aload_n 1 aX6_become_9 rfl ?_
  refine J_getI aX6_become_10 flX6_15 (shRu hR1) rfl ?_
  refine J_putI aX6_become_13 fpX6_15 (shRu hR) rfl (fun I3 e4 => ?_)
  replace h := h I3 e4
  refine J_aload_n 1 aX6_become_16 rfl ?_
  refine J_getR aX6_become_17 flX6_18 (shRu hR1) rfl ?_
  refine J_iconst (nI 0) aX6_become_20 (by decide +kernel) ?_
  refine J_aload_n 0 aX6_become_21 rfl ?_
  refine J_getR aX6_become_22 flX6_18 (shRu hR) rfl ?_
  refine J_iconst (nI 0) aX6_become_25 (by decide +kernel) ?_
  refine J_bipush (nI 8) aX6_become_26 (by decide +kernel) ?_
  refine J_copy 0 0 8 aX6_become_28 lkX6_36 cp_nat cp_stat cp_ini (shRu1 hR1) (shRu1 hR) rfl rfl rfl (by decide) (by decide) (by decide) (by decide) (by omega) (Nat.le_of_ble_eq_true rfl) (fun I5 e6 => ?_)
  replace h := h I5 e6
  refine J_aload_n 1 aX6_become_31 rfl ?_
  refine J_getR aX6_become_32 flX6_22 (shRu hR1) rfl ?_
  refine J_iconst (nI 0) aX6_become_35 (by decide +kernel) ?_
  refine J_aload_n 0 aX6_become_36 rfl ?_
  refine J_getR aX6_become_37 flX6_22 (shRu hR) rfl ?_
  refine J_iconst (nI 0) aX6_become_40 (by decide +kernel) ?_
  refine J_bipush (nI 8) aX6_become_41 (by decide +kernel) ?_
  refine J_copy 0 0 8 aX6_become_43 lkX6_36 cp_nat cp_stat cp_ini (shRu2 hR1) (shRu2 hR) rfl rfl rfl (by decide) (by decide) (by decide) (by decide) (by omega) (Nat.le_of_ble_eq_true rfl) (fun I7 e8 => ?_)
  replace h := h I7 e8
  refine J_aload_n 1 aX6_become_46 rfl ?_
  refine J_getR aX6_become_47 flX6_25 (shRu hR1) rfl ?_
  refine J_iconst (nI 0) aX6_become_50 (by decide +kernel) ?_
  refine J_aload_n 0 aX6_become_51 rfl ?_
  refine J_getR aX6_become_52 flX6_25 (shRu hR) rfl ?_
  refine J_iconst (nI 0) aX6_become_55 (by decide +kernel) ?_
  refine J_bipush (nI 8) aX6_become_56 (by decide +kernel) ?_
  refine J_copy 0 0 8 aX6_become_58 lkX6_36 cp_nat cp_stat cp_ini (shRu3 hR1) (shRu3 hR) rfl rfl rfl (by decide) (by decide) (by decide) (by decide) (by omega) (Nat.le_of_ble_eq_true rfl) (fun I9 e10 => ?_)
  replace h := h I9 e10
  refine J_aload_n 1 aX6_become_61 rfl ?_
  refine J_getR aX6_become_62 flX6_30 (shRu hR1) rfl ?_
  refine J_iconst (nI 0) aX6_become_65 (by decide +kernel) ?_
  refine J_aload_n 0 aX6_become_66 rfl ?_
  refine J_getR aX6_become_67 flX6_30 (shRu hR) rfl ?_
  refine J_iconst (nI 0) aX6_become_70 (by decide +kernel) ?_
  refine J_sipush (nI 200) aX6_become_71 (by decide +kernel) ?_
  refine J_copy 0 0 200 aX6_become_74 lkX6_36 cp_nat cp_stat cp_ini (shRu4 hR1) (shRu4 hR) rfl rfl rfl (by decide) (by decide) (by decide) (by decide) (by omega) (Nat.le_of_ble_eq_true rfl) (fun I11 e12 => ?_)
  replace h := h I11 e12
  exact J_vret aX6_become_77 rfl h
