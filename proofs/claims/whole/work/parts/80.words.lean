theorem S_X9_isWordAt {E : EE} {d : Nat} {I : IH} {Q : QT} (x1 : Int32) (x2 : Int32) (x3 : Int32) (h :
J E (d + 4) mX9_isWordAt 3 [(0, .ref (eb E + 1)), (1, .int x1), (2, .int x2), (3, .int x3), (4, .int x2)] [] I Q) : Mt E (d + 4) mX9_isWordAt [.ref (eb E + 1), .int x1, .int x2, .int x3] I Q := by
  refine Mt_of [(0, .ref (eb E + 1)), (1, .int x1), (2, .int x2), (3, .int x3)] (by decide +kernel) (by simp [lg_sl, Value.category, mX9_isWordAt]) rfl ?_
  refine J_withS (fun q v hS => ?_)
  refine J_iload_n 2 aX9_isWordAt_0 rfl ?_
  refine J_istore [(4, .int x2), (0, .ref (eb E + 1)), (1, .int x1), (2, .int x2), (3, .int x3)] aX9_isWordAt_1 (by decide) rfl ?_
  refine J_pick [1, 2, 3, 4, 0] rfl ?_
  exact h
theorem S_X9_isWordAt_3 {E : EE} {d : Nat} {I : IH} {Q : QT} (x1 : Int32) (x2 : Int32) (x3 : Int32) (x4 : Int32) (h :
((x3 ≤ x4 → Q (some (.int (nI 1))) I) ∧
 (¬ x3 ≤ x4 → (∃ j1 : Nat, x4 = nI j1 ∧ j1 < 200 ∧ (∃ j4 : Nat, ((x1 + x4) - x2) = nI j4 ∧ j4 < 91 ∧ (((I 2 j1) = (nI (WB.getD j4 0)) → J E (d + 4) mX9_isWordAt 3 [(0, .ref (eb E + 1)), (1, .int x1), (2, .int x2), (3, .int x3), (4, .int (x4 + nI 1))] [] I Q) ∧
 (¬ (I 2 j1) = (nI (WB.getD j4 0)) → Q (some (.int (nI 0))) I))))))) : J E (d + 4) mX9_isWordAt 3 [(0, .ref (eb E + 1)), (1, .int x1), (2, .int x2), (3, .int x3), (4, .int x4)] [] I Q := by
  refine J_withS (fun q v hS => ?_)
  refine J_iload 4 aX9_isWordAt_3 rfl ?_
  refine J_iload_n 3 aX9_isWordAt_5 rfl ?_
  refine J_icmp_ge aX9_isWordAt_6 (fun q => ?_) (fun q => ?_)
  · replace h := h.1 q
    refine J_iconst (nI 1) aX9_isWordAt_38 (by decide +kernel) ?_
    exact J_zret aX9_isWordAt_39 rfl (by decide +kernel) h
  · replace h := h.2 q
    refine J_aload_n 0 aX9_isWordAt_9 rfl ?_
    refine J_getR aX9_isWordAt_10 flX9_15 sh1 rfl ?_
    refine J_iload 4 aX9_isWordAt_13 rfl ?_
    obtain ⟨j1, e2, b3, h⟩ := h
    refine J_baload j1 aX9_isWordAt_15 sh2 e2 b3 (by decide) ?_
    refine J_ldcS hS rfl aX9_isWordAt_16 ?_
    refine J_iload_n 1 aX9_isWordAt_18 rfl ?_
    refine J_iload 4 aX9_isWordAt_19 rfl ?_
    refine J_iadd aX9_isWordAt_21 ?_
    refine J_iload_n 2 aX9_isWordAt_22 rfl ?_
    refine J_isub aX9_isWordAt_23 ?_
    obtain ⟨j4, e5, b6, h⟩ := h
    refine J_callQ [.int ((x1 + x4) - x2)] [.int (I 2 j1)] hS aX9_isWordAt_24 lkX9_72 okJ0_charAt_5068e rfl rfl (Nat.le_of_ble_eq_true rfl) (Nat.le_refl _) (s_charAt j4 hS e5 b6 ?_)
    refine J_r1 ?_
    refine J_icmp_eq aX9_isWordAt_27 (fun q => ?_) (fun q => ?_)
    · replace h := h.1 q
      refine J_iinc (x4 + nI 1) [(4, .int (x4 + nI 1)), (0, .ref (eb E + 1)), (1, .int x1), (2, .int x2), (3, .int x3)] 4 aX9_isWordAt_32 rfl (by first | rfl | (congr 1; decide +kernel)) (by decide) rfl ?_
      refine J_goto aX9_isWordAt_35 ?_
      refine J_pick [1, 2, 3, 4, 0] rfl ?_
      exact h
    · replace h := h.2 q
      refine J_iconst (nI 0) aX9_isWordAt_30 (by decide +kernel) ?_
      exact J_zret aX9_isWordAt_31 rfl (by decide +kernel) h
theorem S_X9_word {E : EE} {d : Nat} {I : IH} {Q : QT} (x1 : Int32) (x2 : Int32) (h :
J E (d + 5) mX9_word 8 [(0, .ref (eb E + 1)), (1, .int x1), (2, .int x2), (3, .int (nI 0)), (4, .int (nI 0)), (5, .int (nI 0))] [] I Q) : Mt E (d + 5) mX9_word [.ref (eb E + 1), .int x1, .int x2] I Q := by
  refine Mt_of [(0, .ref (eb E + 1)), (1, .int x1), (2, .int x2)] (by decide +kernel) (by simp [lg_sl, Value.category, mX9_word]) rfl ?_
  refine J_withS (fun q v hS => ?_)
  refine J_iconst (nI 0) aX9_word_0 (by decide +kernel) ?_
  refine J_istore_n [(3, .int (nI 0)), (0, .ref (eb E + 1)), (1, .int x1), (2, .int x2)] aX9_word_1 (by decide) rfl ?_
  refine J_iconst (nI 0) aX9_word_2 (by decide +kernel) ?_
  refine J_istore [(4, .int (nI 0)), (3, .int (nI 0)), (0, .ref (eb E + 1)), (1, .int x1), (2, .int x2)] aX9_word_3 (by decide) rfl ?_
  refine J_iconst (nI 0) aX9_word_5 (by decide +kernel) ?_
  refine J_istore [(5, .int (nI 0)), (4, .int (nI 0)), (3, .int (nI 0)), (0, .ref (eb E + 1)), (1, .int x1), (2, .int x2)] aX9_word_6 (by decide) rfl ?_
  refine J_pick [3, 4, 5, 2, 1, 0] rfl ?_
  exact h
theorem S_X9_word_8 {E : EE} {d : Nat} {I : IH} {Q : QT} (x1 : Int32) (x2 : Int32) (x3 : Int32) (x4 : Int32) (x5 : Int32) (h :
(((nI 91) ≤ x5 → Q (some (.int (nI 300))) I) ∧
 (¬ (nI 91) ≤ x5 → (∃ j1 : Nat, x5 = nI j1 ∧ j1 < 91 ∧ ((¬ (nI (WB.getD j1 0)) = (nI 32) → J E (d + 5) mX9_word 8 [(0, .ref (eb E + 1)), (1, .int x1), (2, .int x2), (3, .int x3), (4, .int x4), (5, .int (x5 + nI 1))] [] I Q) ∧
 ((nI (WB.getD j1 0)) = (nI 32) → ((¬ (x5 - x4) = (x2 - x1) → J E (d + 5) mX9_word 8 [(0, .ref (eb E + 1)), (1, .int x1), (2, .int x2), (3, .int (x3 + nI 1)), (4, .int (x5 + (nI 1))), (5, .int (x5 + nI 1))] [] I Q) ∧
 ((x5 - x4) = (x2 - x1) → (Mt E (d + 4) mX9_isWordAt [.ref (eb E + 1), .int x4, .int x1, .int x2] I (fun rv I4 => ∃ v5 : Int32, rv = some (.int v5) ∧
 ((v5 = 0 → J E (d + 5) mX9_word 8 [(0, .ref (eb E + 1)), (1, .int x1), (2, .int x2), (3, .int (x3 + nI 1)), (4, .int (x5 + (nI 1))), (5, .int (x5 + nI 1))] [] I4 Q) ∧
 (¬ v5 = 0 → (((nI 13) ≤ x3 → Q (some (.int (((nI 995) + x3) - (nI 13)))) I4) ∧
 (¬ (nI 13) ≤ x3 → Q (some (.int x3)) I4)))))))))))))) : J E (d + 5) mX9_word 8 [(0, .ref (eb E + 1)), (1, .int x1), (2, .int x2), (3, .int x3), (4, .int x4), (5, .int x5)] [] I Q := by
  refine J_withS (fun q v hS => ?_)
  refine J_iload 5 aX9_word_8 rfl ?_
  refine J_ldcS hS rfl aX9_word_10 ?_
  refine J_callQ [] [.int x5] hS aX9_word_12 lkX9_66 okJ0_length_8abf5 rfl rfl (Nat.le_of_ble_eq_true rfl) (Nat.le_refl _) (s_length hS ?_)
  refine J_r1 ?_
  refine J_icmp_ge aX9_word_15 (fun q => ?_) (fun q => ?_)
  · replace h := h.1 q
    refine J_sipush (nI 300) aX9_word_86 (by decide +kernel) ?_
    exact J_iret aX9_word_89 rfl h
  · replace h := h.2 q
    refine J_ldcS hS rfl aX9_word_18 ?_
    refine J_iload 5 aX9_word_20 rfl ?_
    obtain ⟨j1, e2, b3, h⟩ := h
    refine J_callQ [.int x5] [] hS aX9_word_22 lkX9_72 okJ0_charAt_5068e rfl rfl (Nat.le_of_ble_eq_true rfl) (Nat.le_refl _) (s_charAt j1 hS e2 b3 ?_)
    refine J_r1 ?_
    refine J_bipush (nI 32) aX9_word_25 (by decide +kernel) ?_
    refine J_icmp_ne aX9_word_27 (fun q => ?_) (fun q => ?_)
    · replace h := h.1 q
      refine J_iinc (x5 + nI 1) [(5, .int (x5 + nI 1)), (0, .ref (eb E + 1)), (1, .int x1), (2, .int x2), (3, .int x3), (4, .int x4)] 5 aX9_word_80 rfl (by first | rfl | (congr 1; decide +kernel)) (by decide) rfl ?_
      refine J_goto aX9_word_83 ?_
      refine J_pick [1, 2, 3, 4, 5, 0] rfl ?_
      exact h
    · replace h := h.2 q
      refine J_iload 5 aX9_word_30 rfl ?_
      refine J_iload 4 aX9_word_32 rfl ?_
      refine J_isub aX9_word_34 ?_
      refine J_iload_n 2 aX9_word_35 rfl ?_
      refine J_iload_n 1 aX9_word_36 rfl ?_
      refine J_isub aX9_word_37 ?_
      refine J_icmp_ne aX9_word_38 (fun q => ?_) (fun q => ?_)
      · replace h := h.1 q
        refine J_iinc (x3 + nI 1) [(3, .int (x3 + nI 1)), (0, .ref (eb E + 1)), (1, .int x1), (2, .int x2), (4, .int x4), (5, .int x5)] 3 aX9_word_71 rfl (by first | rfl | (congr 1; decide +kernel)) (by decide) rfl ?_
        refine J_iload 5 aX9_word_74 rfl ?_
        refine J_iconst (nI 1) aX9_word_76 (by decide +kernel) ?_
        refine J_iadd aX9_word_77 ?_
        refine J_istore [(4, .int (x5 + (nI 1))), (3, .int (x3 + nI 1)), (0, .ref (eb E + 1)), (1, .int x1), (2, .int x2), (5, .int x5)] aX9_word_78 (by decide) rfl ?_
        refine J_iinc (x5 + nI 1) [(5, .int (x5 + nI 1)), (4, .int (x5 + (nI 1))), (3, .int (x3 + nI 1)), (0, .ref (eb E + 1)), (1, .int x1), (2, .int x2)] 5 aX9_word_80 rfl (by first | rfl | (congr 1; decide +kernel)) (by decide) rfl ?_
        refine J_goto aX9_word_83 ?_
        refine J_pick [3, 4, 5, 2, 1, 0] rfl ?_
        exact h
      · replace h := h.2 q
        refine J_aload_n 0 aX9_word_41 rfl ?_
        refine J_iload 4 aX9_word_42 rfl ?_
        refine J_iload_n 1 aX9_word_44 rfl ?_
        refine J_iload_n 2 aX9_word_45 rfl ?_
        refine J_callV [.int x4, .int x1, .int x2] [] aX9_word_46 lkX9_76_X9 okX9_isWordAt sh1 rfl rfl rfl (Nat.le_of_ble_eq_true rfl) (Nat.le_refl _) (Mt_mono h (fun rv I4 h => ?_))
        obtain ⟨v5, rfl, h⟩ := h
        refine J_r1 ?_
        refine J_if_eq aX9_word_49 (fun q => ?_) (fun q => ?_)
        · replace h := h.1 q
          refine J_iinc (x3 + nI 1) [(3, .int (x3 + nI 1)), (0, .ref (eb E + 1)), (1, .int x1), (2, .int x2), (4, .int x4), (5, .int x5)] 3 aX9_word_71 rfl (by first | rfl | (congr 1; decide +kernel)) (by decide) rfl ?_
          refine J_iload 5 aX9_word_74 rfl ?_
          refine J_iconst (nI 1) aX9_word_76 (by decide +kernel) ?_
          refine J_iadd aX9_word_77 ?_
          refine J_istore [(4, .int (x5 + (nI 1))), (3, .int (x3 + nI 1)), (0, .ref (eb E + 1)), (1, .int x1), (2, .int x2), (5, .int x5)] aX9_word_78 (by decide) rfl ?_
          refine J_iinc (x5 + nI 1) [(5, .int (x5 + nI 1)), (4, .int (x5 + (nI 1))), (3, .int (x3 + nI 1)), (0, .ref (eb E + 1)), (1, .int x1), (2, .int x2)] 5 aX9_word_80 rfl (by first | rfl | (congr 1; decide +kernel)) (by decide) rfl ?_
          refine J_goto aX9_word_83 ?_
          refine J_pick [3, 4, 5, 2, 1, 0] rfl ?_
          exact h
        · replace h := h.2 q
          refine J_iload_n 3 aX9_word_52 rfl ?_
          refine J_bipush (nI 13) aX9_word_53 (by decide +kernel) ?_
          refine J_icmp_ge aX9_word_55 (fun q => ?_) (fun q => ?_)
          · replace h := h.1 q
            refine J_sipush (nI 995) aX9_word_62 (by decide +kernel) ?_
            refine J_iload_n 3 aX9_word_65 rfl ?_
            refine J_iadd aX9_word_66 ?_
            refine J_bipush (nI 13) aX9_word_67 (by decide +kernel) ?_
            refine J_isub aX9_word_69 ?_
            exact J_iret aX9_word_70 rfl h
          · replace h := h.2 q
            refine J_iload_n 3 aX9_word_58 rfl ?_
            refine J_goto aX9_word_59 ?_
            exact J_iret aX9_word_70 rfl h
