theorem aX12_shelf_0 : decode mX12_shelf.2.1 0 = .ok (.iload_n 1, 1) ∧ 0 + 1 = 1 := ⟨by decide +kernel, rfl⟩
theorem aX12_shelf_1 : decode mX12_shelf.2.1 1 = .ok (.invokestatic 331, 3) ∧ 1 + 3 = 4 := ⟨by decide +kernel, rfl⟩
theorem aX12_shelf_4 : decode mX12_shelf.2.1 4 = .ok (.ifCond .eq 36, 3) ∧ ((4 : Nat) : Int) + 36 = ((40 : Nat) : Int) ∧ 4 + 3 = 7 := ⟨by decide +kernel, by decide, rfl⟩
theorem aX12_shelf_7 : decode mX12_shelf.2.1 7 = .ok (.iload_n 2, 1) ∧ 7 + 1 = 8 := ⟨by decide +kernel, rfl⟩
theorem aX12_shelf_8 : decode mX12_shelf.2.1 8 = .ok (.iconst 0, 1) ∧ 8 + 1 = 9 := ⟨by decide +kernel, rfl⟩
theorem aX12_shelf_9 : decode mX12_shelf.2.1 9 = .ok (.iconst 2, 1) ∧ 9 + 1 = 10 := ⟨by decide +kernel, rfl⟩
theorem aX12_shelf_10 : decode mX12_shelf.2.1 10 = .ok (.invokestatic 68, 3) ∧ 10 + 3 = 13 := ⟨by decide +kernel, rfl⟩
theorem aX12_shelf_13 : decode mX12_shelf.2.1 13 = .ok (.ifCond .eq 27, 3) ∧ ((13 : Nat) : Int) + 27 = ((40 : Nat) : Int) ∧ 13 + 3 = 16 := ⟨by decide +kernel, by decide, rfl⟩
theorem aX12_shelf_16 : decode mX12_shelf.2.1 16 = .ok (.iload_n 2, 1) ∧ 16 + 1 = 17 := ⟨by decide +kernel, rfl⟩
theorem aX12_shelf_17 : decode mX12_shelf.2.1 17 = .ok (.ifCond .ne 11, 3) ∧ ((17 : Nat) : Int) + 11 = ((28 : Nat) : Int) ∧ 17 + 3 = 20 := ⟨by decide +kernel, by decide, rfl⟩
theorem aX12_shelf_20 : decode mX12_shelf.2.1 20 = .ok (.aload_n 0, 1) ∧ 20 + 1 = 21 := ⟨by decide +kernel, rfl⟩
theorem aX12_shelf_21 : decode mX12_shelf.2.1 21 = .ok (.iload_n 3, 1) ∧ 21 + 1 = 22 := ⟨by decide +kernel, rfl⟩
theorem aX12_shelf_22 : decode mX12_shelf.2.1 22 = .ok (.invokevirtual 219, 3) ∧ 22 + 3 = 25 := ⟨by decide +kernel, rfl⟩
theorem aX12_shelf_25 : decode mX12_shelf.2.1 25 = .ok (.ifCond .eq 15, 3) ∧ ((25 : Nat) : Int) + 15 = ((40 : Nat) : Int) ∧ 25 + 3 = 28 := ⟨by decide +kernel, by decide, rfl⟩
theorem aX12_shelf_28 : decode mX12_shelf.2.1 28 = .ok (.iload_n 2, 1) ∧ 28 + 1 = 29 := ⟨by decide +kernel, rfl⟩
theorem aX12_shelf_29 : decode mX12_shelf.2.1 29 = .ok (.iconst 1, 1) ∧ 29 + 1 = 30 := ⟨by decide +kernel, rfl⟩
theorem aX12_shelf_30 : decode mX12_shelf.2.1 30 = .ok (.if_icmp .ne 12, 3) ∧ ((30 : Nat) : Int) + 12 = ((42 : Nat) : Int) ∧ 30 + 3 = 33 := ⟨by decide +kernel, by decide, rfl⟩
theorem aX12_shelf_33 : decode mX12_shelf.2.1 33 = .ok (.iload_n 3, 1) ∧ 33 + 1 = 34 := ⟨by decide +kernel, rfl⟩
theorem aX12_shelf_34 : decode mX12_shelf.2.1 34 = .ok (.invokestatic 331, 3) ∧ 34 + 3 = 37 := ⟨by decide +kernel, rfl⟩
theorem aX12_shelf_37 : decode mX12_shelf.2.1 37 = .ok (.ifCond .ne 5, 3) ∧ ((37 : Nat) : Int) + 5 = ((42 : Nat) : Int) ∧ 37 + 3 = 40 := ⟨by decide +kernel, by decide, rfl⟩
theorem aX12_shelf_40 : decode mX12_shelf.2.1 40 = .ok (.iconst (-1), 1) ∧ 40 + 1 = 41 := ⟨by decide +kernel, rfl⟩
theorem aX12_shelf_41 : decode mX12_shelf.2.1 41 = .ok (.ireturn, 1) := by decide +kernel
theorem aX12_shelf_42 : decode mX12_shelf.2.1 42 = .ok (.aload_n 0, 1) ∧ 42 + 1 = 43 := ⟨by decide +kernel, rfl⟩
theorem aX12_shelf_43 : decode mX12_shelf.2.1 43 = .ok (.getfield 59, 3) ∧ 43 + 3 = 46 := ⟨by decide +kernel, rfl⟩
theorem aX12_shelf_46 : decode mX12_shelf.2.1 46 = .ok (.iload_n 1, 1) ∧ 46 + 1 = 47 := ⟨by decide +kernel, rfl⟩
theorem aX12_shelf_47 : decode mX12_shelf.2.1 47 = .ok (.iload_n 2, 1) ∧ 47 + 1 = 48 := ⟨by decide +kernel, rfl⟩
theorem aX12_shelf_48 : decode mX12_shelf.2.1 48 = .ok (.ifCond .ne 7, 3) ∧ ((48 : Nat) : Int) + 7 = ((55 : Nat) : Int) ∧ 48 + 3 = 51 := ⟨by decide +kernel, by decide, rfl⟩
theorem aX12_shelf_51 : decode mX12_shelf.2.1 51 = .ok (.iconst 0, 1) ∧ 51 + 1 = 52 := ⟨by decide +kernel, rfl⟩
theorem aX12_shelf_52 : decode mX12_shelf.2.1 52 = .ok (.goto 30, 3) ∧ ((52 : Nat) : Int) + 30 = ((82 : Nat) : Int) := ⟨by decide +kernel, by decide⟩
theorem aX12_shelf_55 : decode mX12_shelf.2.1 55 = .ok (.iload_n 2, 1) ∧ 55 + 1 = 56 := ⟨by decide +kernel, rfl⟩
theorem aX12_shelf_56 : decode mX12_shelf.2.1 56 = .ok (.iconst 1, 1) ∧ 56 + 1 = 57 := ⟨by decide +kernel, rfl⟩
theorem aX12_shelf_57 : decode mX12_shelf.2.1 57 = .ok (.if_icmp .ne 24, 3) ∧ ((57 : Nat) : Int) + 24 = ((81 : Nat) : Int) ∧ 57 + 3 = 60 := ⟨by decide +kernel, by decide, rfl⟩
theorem aX12_shelf_60 : decode mX12_shelf.2.1 60 = .ok (.aload_n 0, 1) ∧ 60 + 1 = 61 := ⟨by decide +kernel, rfl⟩
theorem aX12_shelf_61 : decode mX12_shelf.2.1 61 = .ok (.getfield 50, 3) ∧ 61 + 3 = 64 := ⟨by decide +kernel, rfl⟩
theorem aX12_shelf_64 : decode mX12_shelf.2.1 64 = .ok (.iload_n 3, 1) ∧ 64 + 1 = 65 := ⟨by decide +kernel, rfl⟩
theorem aX12_shelf_65 : decode mX12_shelf.2.1 65 = .ok (.iaload, 1) ∧ 65 + 1 = 66 := ⟨by decide +kernel, rfl⟩
theorem aX12_shelf_66 : decode mX12_shelf.2.1 66 = .ok (.ifCond .lt 15, 3) ∧ ((66 : Nat) : Int) + 15 = ((81 : Nat) : Int) ∧ 66 + 3 = 69 := ⟨by decide +kernel, by decide, rfl⟩
theorem aX12_shelf_69 : decode mX12_shelf.2.1 69 = .ok (.bipush 10, 2) ∧ 69 + 2 = 71 := ⟨by decide +kernel, rfl⟩
theorem aX12_shelf_71 : decode mX12_shelf.2.1 71 = .ok (.aload_n 0, 1) ∧ 71 + 1 = 72 := ⟨by decide +kernel, rfl⟩
theorem aX12_shelf_72 : decode mX12_shelf.2.1 72 = .ok (.getfield 50, 3) ∧ 72 + 3 = 75 := ⟨by decide +kernel, rfl⟩
theorem aX12_shelf_75 : decode mX12_shelf.2.1 75 = .ok (.iload_n 3, 1) ∧ 75 + 1 = 76 := ⟨by decide +kernel, rfl⟩
theorem aX12_shelf_76 : decode mX12_shelf.2.1 76 = .ok (.iaload, 1) ∧ 76 + 1 = 77 := ⟨by decide +kernel, rfl⟩
theorem aX12_shelf_77 : decode mX12_shelf.2.1 77 = .ok (.iadd, 1) ∧ 77 + 1 = 78 := ⟨by decide +kernel, rfl⟩
theorem aX12_shelf_78 : decode mX12_shelf.2.1 78 = .ok (.goto 4, 3) ∧ ((78 : Nat) : Int) + 4 = ((82 : Nat) : Int) := ⟨by decide +kernel, by decide⟩
theorem aX12_shelf_81 : decode mX12_shelf.2.1 81 = .ok (.iconst (-1), 1) ∧ 81 + 1 = 82 := ⟨by decide +kernel, rfl⟩
theorem aX12_shelf_82 : decode mX12_shelf.2.1 82 = .ok (.iastore, 1) ∧ 82 + 1 = 83 := ⟨by decide +kernel, rfl⟩
theorem aX12_shelf_83 : decode mX12_shelf.2.1 83 = .ok (.aload_n 0, 1) ∧ 83 + 1 = 84 := ⟨by decide +kernel, rfl⟩
theorem aX12_shelf_84 : decode mX12_shelf.2.1 84 = .ok (.getfield 62, 3) ∧ 84 + 3 = 87 := ⟨by decide +kernel, rfl⟩
theorem aX12_shelf_87 : decode mX12_shelf.2.1 87 = .ok (.iload_n 1, 1) ∧ 87 + 1 = 88 := ⟨by decide +kernel, rfl⟩
theorem aX12_shelf_88 : decode mX12_shelf.2.1 88 = .ok (.iload_n 2, 1) ∧ 88 + 1 = 89 := ⟨by decide +kernel, rfl⟩
theorem aX12_shelf_89 : decode mX12_shelf.2.1 89 = .ok (.ifCond .ne 7, 3) ∧ ((89 : Nat) : Int) + 7 = ((96 : Nat) : Int) ∧ 89 + 3 = 92 := ⟨by decide +kernel, by decide, rfl⟩
theorem aX12_shelf_92 : decode mX12_shelf.2.1 92 = .ok (.iload_n 3, 1) ∧ 92 + 1 = 93 := ⟨by decide +kernel, rfl⟩
theorem aX12_shelf_93 : decode mX12_shelf.2.1 93 = .ok (.goto 18, 3) ∧ ((93 : Nat) : Int) + 18 = ((111 : Nat) : Int) := ⟨by decide +kernel, by decide⟩
theorem aX12_shelf_96 : decode mX12_shelf.2.1 96 = .ok (.iload_n 2, 1) ∧ 96 + 1 = 97 := ⟨by decide +kernel, rfl⟩
theorem aX12_shelf_97 : decode mX12_shelf.2.1 97 = .ok (.iconst 1, 1) ∧ 97 + 1 = 98 := ⟨by decide +kernel, rfl⟩
theorem aX12_shelf_98 : decode mX12_shelf.2.1 98 = .ok (.if_icmp .ne 12, 3) ∧ ((98 : Nat) : Int) + 12 = ((110 : Nat) : Int) ∧ 98 + 3 = 101 := ⟨by decide +kernel, by decide, rfl⟩
theorem aX12_shelf_101 : decode mX12_shelf.2.1 101 = .ok (.aload_n 0, 1) ∧ 101 + 1 = 102 := ⟨by decide +kernel, rfl⟩
theorem aX12_shelf_102 : decode mX12_shelf.2.1 102 = .ok (.getfield 53, 3) ∧ 102 + 3 = 105 := ⟨by decide +kernel, rfl⟩
theorem aX12_shelf_105 : decode mX12_shelf.2.1 105 = .ok (.iload_n 3, 1) ∧ 105 + 1 = 106 := ⟨by decide +kernel, rfl⟩
theorem aX12_shelf_106 : decode mX12_shelf.2.1 106 = .ok (.iaload, 1) ∧ 106 + 1 = 107 := ⟨by decide +kernel, rfl⟩
theorem aX12_shelf_107 : decode mX12_shelf.2.1 107 = .ok (.goto 4, 3) ∧ ((107 : Nat) : Int) + 4 = ((111 : Nat) : Int) := ⟨by decide +kernel, by decide⟩
theorem aX12_shelf_110 : decode mX12_shelf.2.1 110 = .ok (.iconst 0, 1) ∧ 110 + 1 = 111 := ⟨by decide +kernel, rfl⟩
theorem aX12_shelf_111 : decode mX12_shelf.2.1 111 = .ok (.iastore, 1) ∧ 111 + 1 = 112 := ⟨by decide +kernel, rfl⟩
theorem aX12_shelf_112 : decode mX12_shelf.2.1 112 = .ok (.iconst 1, 1) ∧ 112 + 1 = 113 := ⟨by decide +kernel, rfl⟩
theorem aX12_shelf_113 : decode mX12_shelf.2.1 113 = .ok (.ireturn, 1) := by decide +kernel
theorem S_X12_shelf {E : EE} {d : Nat} {I : IH} {Q : QT} (x1 : Int32) (x2 : Int32) (x3 : Int32) (h :
(Mt E d mX12_isSheet [.int x1] I (fun rv I1 => ∃ v2 : Int32, rv = some (.int v2) ∧
 ((v2 = 0 → Q (some (.int (-1))) I1) ∧
 (¬ v2 = 0 → (Mt E d mX12_in1 [.int x2, .int (nI 0), .int (nI 2)] I1 (fun rv I3 => ∃ v4 : Int32, rv = some (.int v4) ∧
 ((v4 = 0 → Q (some (.int (-1))) I3) ∧
 (¬ v4 = 0 → ((¬ x2 = 0 → J E (d + 1) mX12_shelf 28 [(0, .ref (eb E + 115)), (1, .int x1), (2, .int x2), (3, .int x3)] [] I3 Q) ∧
 (x2 = 0 → (Mt E d mX12_isPane [.ref (eb E + 115), .int x3] I3 (fun rv I5 => ∃ v6 : Int32, rv = some (.int v6) ∧
 ((v6 = 0 → Q (some (.int (-1))) I5) ∧
 (¬ v6 = 0 → J E (d + 1) mX12_shelf 28 [(0, .ref (eb E + 115)), (1, .int x1), (2, .int x2), (3, .int x3)] [] I5 Q))))))))))))))) : Mt E (d + 1) mX12_shelf [.ref (eb E + 115), .int x1, .int x2, .int x3] I Q := by
  refine Mt_of [(0, .ref (eb E + 115)), (1, .int x1), (2, .int x2), (3, .int x3)] (by decide +kernel) (by simp [lg_sl, Value.category, mX12_shelf]) rfl ?_
  refine J_iload_n 1 aX12_shelf_0 rfl ?_
  refine J_callS [.int x1] [] aX12_shelf_1 lkX12_331 okX12_isSheet rfl rfl (Nat.le_of_ble_eq_true rfl) (Nat.le_refl _) (Mt_mono h (fun rv I1 h => ?_))
  obtain ⟨v2, rfl, h⟩ := h
  refine J_r1 ?_
  refine J_if_eq aX12_shelf_4 (fun q => ?_) (fun q => ?_)
  · replace h := h.1 q
    refine J_iconst (-1) aX12_shelf_40 (by decide +kernel) ?_
    exact J_iret aX12_shelf_41 rfl h
  · replace h := h.2 q
    refine J_iload_n 2 aX12_shelf_7 rfl ?_
    refine J_iconst (nI 0) aX12_shelf_8 (by decide +kernel) ?_
    refine J_iconst (nI 2) aX12_shelf_9 (by decide +kernel) ?_
    refine J_callS [.int x2, .int (nI 0), .int (nI 2)] [] aX12_shelf_10 lkX12_68 okX12_in1 rfl rfl (Nat.le_of_ble_eq_true rfl) (Nat.le_refl _) (Mt_mono h (fun rv I3 h => ?_))
    obtain ⟨v4, rfl, h⟩ := h
    refine J_r1 ?_
    refine J_if_eq aX12_shelf_13 (fun q => ?_) (fun q => ?_)
    · replace h := h.1 q
      refine J_iconst (-1) aX12_shelf_40 (by decide +kernel) ?_
      exact J_iret aX12_shelf_41 rfl h
    · replace h := h.2 q
      refine J_iload_n 2 aX12_shelf_16 rfl ?_
      refine J_if_ne aX12_shelf_17 (fun q => ?_) (fun q => ?_)
      · replace h := h.1 q
        refine J_pick [0, 1, 2, 3] rfl ?_
        exact h
      · replace h := h.2 q
        refine J_aload_n 0 aX12_shelf_20 rfl ?_
        refine J_iload_n 3 aX12_shelf_21 rfl ?_
        refine J_callV [.int x3] [] aX12_shelf_22 lkX12_219_X12 okX12_isPane sh115 rfl rfl rfl (Nat.le_of_ble_eq_true rfl) (Nat.le_refl _) (Mt_mono h (fun rv I5 h => ?_))
        obtain ⟨v6, rfl, h⟩ := h
        refine J_r1 ?_
        refine J_if_eq aX12_shelf_25 (fun q => ?_) (fun q => ?_)
        · replace h := h.1 q
          refine J_iconst (-1) aX12_shelf_40 (by decide +kernel) ?_
          exact J_iret aX12_shelf_41 rfl h
        · replace h := h.2 q
          refine J_pick [0, 1, 2, 3] rfl ?_
          exact h
theorem S_X12_shelf_28 {E : EE} {d : Nat} {I : IH} {Q : QT} (x1 : Int32) (x2 : Int32) (x3 : Int32) (h :
((¬ x2 = (nI 1) → J E (d + 1) mX12_shelf 42 [(0, .ref (eb E + 115)), (1, .int x1), (2, .int x2), (3, .int x3)] [] I Q) ∧
 (x2 = (nI 1) → (Mt E d mX12_isSheet [.int x3] I (fun rv I1 => ∃ v2 : Int32, rv = some (.int v2) ∧
 ((¬ v2 = 0 → J E (d + 1) mX12_shelf 42 [(0, .ref (eb E + 115)), (1, .int x1), (2, .int x2), (3, .int x3)] [] I1 Q) ∧
 (v2 = 0 → Q (some (.int (-1))) I1))))))) : J E (d + 1) mX12_shelf 28 [(0, .ref (eb E + 115)), (1, .int x1), (2, .int x2), (3, .int x3)] [] I Q := by
  refine J_iload_n 2 aX12_shelf_28 rfl ?_
  refine J_iconst (nI 1) aX12_shelf_29 (by decide +kernel) ?_
  refine J_icmp_ne aX12_shelf_30 (fun q => ?_) (fun q => ?_)
  · replace h := h.1 q
    refine J_pick [0, 1, 2, 3] rfl ?_
    exact h
  · replace h := h.2 q
    refine J_iload_n 3 aX12_shelf_33 rfl ?_
    refine J_callS [.int x3] [] aX12_shelf_34 lkX12_331 okX12_isSheet rfl rfl (Nat.le_of_ble_eq_true rfl) (Nat.le_refl _) (Mt_mono h (fun rv I1 h => ?_))
    obtain ⟨v2, rfl, h⟩ := h
    refine J_r1 ?_
    refine J_if_ne aX12_shelf_37 (fun q => ?_) (fun q => ?_)
    · replace h := h.1 q
      refine J_pick [0, 1, 2, 3] rfl ?_
      exact h
    · replace h := h.2 q
      refine J_iconst (-1) aX12_shelf_40 (by decide +kernel) ?_
      exact J_iret aX12_shelf_41 rfl h
theorem S_X12_shelf_42 {E : EE} {d : Nat} {I : IH} {Q : QT} (x1 : Int32) (x2 : Int32) (x3 : Int32) (h :
((¬ x2 = 0 → ((¬ x2 = (nI 1) → J E (d + 1) mX12_shelf 81 [(0, .ref (eb E + 115)), (1, .int x1), (2, .int x2), (3, .int x3)] [.int x1, .ref (eb E + 132)] I Q) ∧
 (x2 = (nI 1) → (∃ j1 : Nat, x3 = nI j1 ∧ j1 < 4 ∧ (((I 129 j1) < 0 → J E (d + 1) mX12_shelf 81 [(0, .ref (eb E + 115)), (1, .int x1), (2, .int x2), (3, .int x3)] [.int x1, .ref (eb E + 132)] I Q) ∧
 (¬ (I 129 j1) < 0 → (∃ j4 : Nat, x3 = nI j4 ∧ j4 < 4 ∧ J E (d + 1) mX12_shelf 82 [(0, .ref (eb E + 115)), (1, .int x1), (2, .int x2), (3, .int x3)] [.int ((nI 10) + (I 129 j4)), .int x1, .ref (eb E + 132)] I Q))))))) ∧
 (x2 = 0 → J E (d + 1) mX12_shelf 82 [(0, .ref (eb E + 115)), (1, .int x1), (2, .int x2), (3, .int x3)] [.int (nI 0), .int x1, .ref (eb E + 132)] I Q))) : J E (d + 1) mX12_shelf 42 [(0, .ref (eb E + 115)), (1, .int x1), (2, .int x2), (3, .int x3)] [] I Q := by
  refine J_aload_n 0 aX12_shelf_42 rfl ?_
  refine J_getR aX12_shelf_43 flX12_59 sh115 rfl ?_
  refine J_iload_n 1 aX12_shelf_46 rfl ?_
  refine J_iload_n 2 aX12_shelf_47 rfl ?_
  refine J_if_ne aX12_shelf_48 (fun q => ?_) (fun q => ?_)
  · replace h := h.1 q
    refine J_iload_n 2 aX12_shelf_55 rfl ?_
    refine J_iconst (nI 1) aX12_shelf_56 (by decide +kernel) ?_
    refine J_icmp_ne aX12_shelf_57 (fun q => ?_) (fun q => ?_)
    · replace h := h.1 q
      refine J_pick [0, 1, 2, 3] rfl ?_
      exact h
    · replace h := h.2 q
      refine J_aload_n 0 aX12_shelf_60 rfl ?_
      refine J_getR aX12_shelf_61 flX12_50 sh115 rfl ?_
      refine J_iload_n 3 aX12_shelf_64 rfl ?_
      obtain ⟨j1, e2, b3, h⟩ := h
      refine J_iaload j1 aX12_shelf_65 sh129 e2 b3 (by decide) ?_
      refine J_if_lt aX12_shelf_66 (fun q => ?_) (fun q => ?_)
      · replace h := h.1 q
        refine J_pick [0, 1, 2, 3] rfl ?_
        exact h
      · replace h := h.2 q
        refine J_bipush (nI 10) aX12_shelf_69 (by decide +kernel) ?_
        refine J_aload_n 0 aX12_shelf_71 rfl ?_
        refine J_getR aX12_shelf_72 flX12_50 sh115 rfl ?_
        refine J_iload_n 3 aX12_shelf_75 rfl ?_
        obtain ⟨j4, e5, b6, h⟩ := h
        refine J_iaload j4 aX12_shelf_76 sh129 e5 b6 (by decide) ?_
        refine J_iadd aX12_shelf_77 ?_
        refine J_goto aX12_shelf_78 ?_
        refine J_pick [0, 1, 2, 3] rfl ?_
        exact h
  · replace h := h.2 q
    refine J_iconst (nI 0) aX12_shelf_51 (by decide +kernel) ?_
    refine J_goto aX12_shelf_52 ?_
    refine J_pick [0, 1, 2, 3] rfl ?_
    exact h
theorem S_X12_shelf_81 {E : EE} {d : Nat} {I : IH} {Q : QT} (x1 : Int32) (x2 : Int32) (x3 : Int32) (t0 : Int32) (h :
J E (d + 1) mX12_shelf 82 [(0, .ref (eb E + 115)), (1, .int x1), (2, .int x2), (3, .int x3)] [.int (-1), .int t0, .ref (eb E + 132)] I Q) : J E (d + 1) mX12_shelf 81 [(0, .ref (eb E + 115)), (1, .int x1), (2, .int x2), (3, .int x3)] [.int t0, .ref (eb E + 132)] I Q := by
  refine J_iconst (-1) aX12_shelf_81 (by decide +kernel) ?_
  refine J_pick [0, 1, 2, 3] rfl ?_
  exact h
theorem S_X12_shelf_82 {E : EE} {d : Nat} {I : IH} {Q : QT} (x1 : Int32) (x2 : Int32) (x3 : Int32) (t0 : Int32) (t1 : Int32) (h :
(∃ j3 : Nat, t1 = nI j3 ∧ j3 < 4 ∧ (∀ I1 : IH, I1 = stI I 132 j3 t0 →
 ((¬ x2 = 0 → ((¬ x2 = (nI 1) → (∃ j8 : Nat, x1 = nI j8 ∧ j8 < 4 ∧ (∀ I6 : IH, I6 = stI I1 133 j8 (nI 0) →
 Q (some (.int (nI 1))) I6))) ∧
 (x2 = (nI 1) → (∃ j11 : Nat, x3 = nI j11 ∧ j11 < 4 ∧ (∃ j16 : Nat, x1 = nI j16 ∧ j16 < 4 ∧ (∀ I14 : IH, I14 = stI I1 133 j16 (I1 130 j11) →
 Q (some (.int (nI 1))) I14)))))) ∧
 (x2 = 0 → (∃ j21 : Nat, x1 = nI j21 ∧ j21 < 4 ∧ (∀ I19 : IH, I19 = stI I1 133 j21 x3 →
 Q (some (.int (nI 1))) I19))))))) : J E (d + 1) mX12_shelf 82 [(0, .ref (eb E + 115)), (1, .int x1), (2, .int x2), (3, .int x3)] [.int t0, .int t1, .ref (eb E + 132)] I Q := by
  obtain ⟨j3, e4, b5, h⟩ := h
  refine J_iastore j3 aX12_shelf_82 sh132 e4 b5 (by decide) (fun I1 e2 => ?_)
  replace h := h I1 e2
  refine J_aload_n 0 aX12_shelf_83 rfl ?_
  refine J_getR aX12_shelf_84 flX12_62 sh115 rfl ?_
  refine J_iload_n 1 aX12_shelf_87 rfl ?_
  refine J_iload_n 2 aX12_shelf_88 rfl ?_
  refine J_if_ne aX12_shelf_89 (fun q => ?_) (fun q => ?_)
  · replace h := h.1 q
    refine J_iload_n 2 aX12_shelf_96 rfl ?_
    refine J_iconst (nI 1) aX12_shelf_97 (by decide +kernel) ?_
    refine J_icmp_ne aX12_shelf_98 (fun q => ?_) (fun q => ?_)
    · replace h := h.1 q
      refine J_iconst (nI 0) aX12_shelf_110 (by decide +kernel) ?_
      obtain ⟨j8, e9, b10, h⟩ := h
      refine J_iastore j8 aX12_shelf_111 sh133 e9 b10 (by decide) (fun I6 e7 => ?_)
      replace h := h I6 e7
      refine J_iconst (nI 1) aX12_shelf_112 (by decide +kernel) ?_
      exact J_iret aX12_shelf_113 rfl h
    · replace h := h.2 q
      refine J_aload_n 0 aX12_shelf_101 rfl ?_
      refine J_getR aX12_shelf_102 flX12_53 sh115 rfl ?_
      refine J_iload_n 3 aX12_shelf_105 rfl ?_
      obtain ⟨j11, e12, b13, h⟩ := h
      refine J_iaload j11 aX12_shelf_106 sh130 e12 b13 (by decide) ?_
      refine J_goto aX12_shelf_107 ?_
      obtain ⟨j16, e17, b18, h⟩ := h
      refine J_iastore j16 aX12_shelf_111 sh133 e17 b18 (by decide) (fun I14 e15 => ?_)
      replace h := h I14 e15
      refine J_iconst (nI 1) aX12_shelf_112 (by decide +kernel) ?_
      exact J_iret aX12_shelf_113 rfl h
  · replace h := h.2 q
    refine J_iload_n 3 aX12_shelf_92 rfl ?_
    refine J_goto aX12_shelf_93 ?_
    obtain ⟨j21, e22, b23, h⟩ := h
    refine J_iastore j21 aX12_shelf_111 sh133 e22 b23 (by decide) (fun I19 e20 => ?_)
    replace h := h I19 e20
    refine J_iconst (nI 1) aX12_shelf_112 (by decide +kernel) ?_
    exact J_iret aX12_shelf_113 rfl h
theorem aX12_heldOn_0 : decode mX12_heldOn.2.1 0 = .ok (.aload_n 0, 1) ∧ 0 + 1 = 1 := ⟨by decide +kernel, rfl⟩
theorem aX12_heldOn_1 : decode mX12_heldOn.2.1 1 = .ok (.getfield 59, 3) ∧ 1 + 3 = 4 := ⟨by decide +kernel, rfl⟩
theorem aX12_heldOn_4 : decode mX12_heldOn.2.1 4 = .ok (.iload_n 1, 1) ∧ 4 + 1 = 5 := ⟨by decide +kernel, rfl⟩
theorem aX12_heldOn_5 : decode mX12_heldOn.2.1 5 = .ok (.iaload, 1) ∧ 5 + 1 = 6 := ⟨by decide +kernel, rfl⟩
theorem aX12_heldOn_6 : decode mX12_heldOn.2.1 6 = .ok (.ifCond .ne 20, 3) ∧ ((6 : Nat) : Int) + 20 = ((26 : Nat) : Int) ∧ 6 + 3 = 9 := ⟨by decide +kernel, by decide, rfl⟩
theorem aX12_heldOn_9 : decode mX12_heldOn.2.1 9 = .ok (.aload_n 0, 1) ∧ 9 + 1 = 10 := ⟨by decide +kernel, rfl⟩
theorem aX12_heldOn_10 : decode mX12_heldOn.2.1 10 = .ok (.aload_n 0, 1) ∧ 10 + 1 = 11 := ⟨by decide +kernel, rfl⟩
theorem aX12_heldOn_11 : decode mX12_heldOn.2.1 11 = .ok (.getfield 62, 3) ∧ 11 + 3 = 14 := ⟨by decide +kernel, rfl⟩
theorem aX12_heldOn_14 : decode mX12_heldOn.2.1 14 = .ok (.iload_n 1, 1) ∧ 14 + 1 = 15 := ⟨by decide +kernel, rfl⟩
theorem aX12_heldOn_15 : decode mX12_heldOn.2.1 15 = .ok (.iaload, 1) ∧ 15 + 1 = 16 := ⟨by decide +kernel, rfl⟩
theorem aX12_heldOn_16 : decode mX12_heldOn.2.1 16 = .ok (.invokevirtual 219, 3) ∧ 16 + 3 = 19 := ⟨by decide +kernel, rfl⟩
theorem aX12_heldOn_19 : decode mX12_heldOn.2.1 19 = .ok (.ifCond .ne 7, 3) ∧ ((19 : Nat) : Int) + 7 = ((26 : Nat) : Int) ∧ 19 + 3 = 22 := ⟨by decide +kernel, by decide, rfl⟩
theorem aX12_heldOn_22 : decode mX12_heldOn.2.1 22 = .ok (.iconst (-1), 1) ∧ 22 + 1 = 23 := ⟨by decide +kernel, rfl⟩
theorem aX12_heldOn_23 : decode mX12_heldOn.2.1 23 = .ok (.goto 9, 3) ∧ ((23 : Nat) : Int) + 9 = ((32 : Nat) : Int) := ⟨by decide +kernel, by decide⟩
theorem aX12_heldOn_26 : decode mX12_heldOn.2.1 26 = .ok (.aload_n 0, 1) ∧ 26 + 1 = 27 := ⟨by decide +kernel, rfl⟩
theorem aX12_heldOn_27 : decode mX12_heldOn.2.1 27 = .ok (.getfield 59, 3) ∧ 27 + 3 = 30 := ⟨by decide +kernel, rfl⟩
theorem aX12_heldOn_30 : decode mX12_heldOn.2.1 30 = .ok (.iload_n 1, 1) ∧ 30 + 1 = 31 := ⟨by decide +kernel, rfl⟩
theorem aX12_heldOn_31 : decode mX12_heldOn.2.1 31 = .ok (.iaload, 1) ∧ 31 + 1 = 32 := ⟨by decide +kernel, rfl⟩
theorem aX12_heldOn_32 : decode mX12_heldOn.2.1 32 = .ok (.ireturn, 1) := by decide +kernel
theorem S_X12_heldOn {E : EE} {d : Nat} {I : IH} {Q : QT} (x1 : Int32) (h :
(∃ j1 : Nat, x1 = nI j1 ∧ j1 < 4 ∧ ((¬ (I 132 j1) = 0 → (∃ j4 : Nat, x1 = nI j4 ∧ j4 < 4 ∧ Q (some (.int (I 132 j4))) I)) ∧
 ((I 132 j1) = 0 → (∃ j7 : Nat, x1 = nI j7 ∧ j7 < 4 ∧ (Mt E d mX12_isPane [.ref (eb E + 115), .int (I 133 j7)] I (fun rv I10 => ∃ v11 : Int32, rv = some (.int v11) ∧
 ((¬ v11 = 0 → (∃ j12 : Nat, x1 = nI j12 ∧ j12 < 4 ∧ Q (some (.int (I10 132 j12))) I10)) ∧
 (v11 = 0 → Q (some (.int (-1))) I10))))))))) : Mt E (d + 1) mX12_heldOn [.ref (eb E + 115), .int x1] I Q := by
  refine Mt_of [(0, .ref (eb E + 115)), (1, .int x1)] (by decide +kernel) (by simp [lg_sl, Value.category, mX12_heldOn]) rfl ?_
  refine J_aload_n 0 aX12_heldOn_0 rfl ?_
  refine J_getR aX12_heldOn_1 flX12_59 sh115 rfl ?_
  refine J_iload_n 1 aX12_heldOn_4 rfl ?_
  obtain ⟨j1, e2, b3, h⟩ := h
  refine J_iaload j1 aX12_heldOn_5 sh132 e2 b3 (by decide) ?_
  refine J_if_ne aX12_heldOn_6 (fun q => ?_) (fun q => ?_)
  · replace h := h.1 q
    refine J_aload_n 0 aX12_heldOn_26 rfl ?_
    refine J_getR aX12_heldOn_27 flX12_59 sh115 rfl ?_
    refine J_iload_n 1 aX12_heldOn_30 rfl ?_
    obtain ⟨j4, e5, b6, h⟩ := h
    refine J_iaload j4 aX12_heldOn_31 sh132 e5 b6 (by decide) ?_
    exact J_iret aX12_heldOn_32 rfl h
  · replace h := h.2 q
    refine J_aload_n 0 aX12_heldOn_9 rfl ?_
    refine J_aload_n 0 aX12_heldOn_10 rfl ?_
    refine J_getR aX12_heldOn_11 flX12_62 sh115 rfl ?_
    refine J_iload_n 1 aX12_heldOn_14 rfl ?_
    obtain ⟨j7, e8, b9, h⟩ := h
    refine J_iaload j7 aX12_heldOn_15 sh133 e8 b9 (by decide) ?_
    refine J_callV [.int (I 133 j7)] [] aX12_heldOn_16 lkX12_219_X12 okX12_isPane sh115 rfl rfl rfl (Nat.le_of_ble_eq_true rfl) (Nat.le_refl _) (Mt_mono h (fun rv I10 h => ?_))
    obtain ⟨v11, rfl, h⟩ := h
    refine J_r1 ?_
    refine J_if_ne aX12_heldOn_19 (fun q => ?_) (fun q => ?_)
    · replace h := h.1 q
      refine J_aload_n 0 aX12_heldOn_26 rfl ?_
      refine J_getR aX12_heldOn_27 flX12_59 sh115 rfl ?_
      refine J_iload_n 1 aX12_heldOn_30 rfl ?_
      obtain ⟨j12, e13, b14, h⟩ := h
      refine J_iaload j12 aX12_heldOn_31 sh132 e13 b14 (by decide) ?_
      exact J_iret aX12_heldOn_32 rfl h
    · replace h := h.2 q
      refine J_iconst (-1) aX12_heldOn_22 (by decide +kernel) ?_
      refine J_goto aX12_heldOn_23 ?_
      exact J_iret aX12_heldOn_32 rfl h
theorem aX12_taken_0 : decode mX12_taken.2.1 0 = .ok (.iload_n 1, 1) ∧ 0 + 1 = 1 := ⟨by decide +kernel, rfl⟩
theorem aX12_taken_1 : decode mX12_taken.2.1 1 = .ok (.invokestatic 331, 3) ∧ 1 + 3 = 4 := ⟨by decide +kernel, rfl⟩
theorem aX12_taken_4 : decode mX12_taken.2.1 4 = .ok (.ifCond .eq 23, 3) ∧ ((4 : Nat) : Int) + 23 = ((27 : Nat) : Int) ∧ 4 + 3 = 7 := ⟨by decide +kernel, by decide, rfl⟩
theorem aX12_taken_7 : decode mX12_taken.2.1 7 = .ok (.iload_n 2, 1) ∧ 7 + 1 = 8 := ⟨by decide +kernel, rfl⟩
theorem aX12_taken_8 : decode mX12_taken.2.1 8 = .ok (.iconst 0, 1) ∧ 8 + 1 = 9 := ⟨by decide +kernel, rfl⟩
theorem aX12_taken_9 : decode mX12_taken.2.1 9 = .ok (.iconst 5, 1) ∧ 9 + 1 = 10 := ⟨by decide +kernel, rfl⟩
theorem aX12_taken_10 : decode mX12_taken.2.1 10 = .ok (.invokestatic 68, 3) ∧ 10 + 3 = 13 := ⟨by decide +kernel, rfl⟩
theorem aX12_taken_13 : decode mX12_taken.2.1 13 = .ok (.ifCond .ne 16, 3) ∧ ((13 : Nat) : Int) + 16 = ((29 : Nat) : Int) ∧ 13 + 3 = 16 := ⟨by decide +kernel, by decide, rfl⟩
theorem aX12_taken_16 : decode mX12_taken.2.1 16 = .ok (.iload_n 2, 1) ∧ 16 + 1 = 17 := ⟨by decide +kernel, rfl⟩
theorem aX12_taken_17 : decode mX12_taken.2.1 17 = .ok (.bipush 10, 2) ∧ 17 + 2 = 19 := ⟨by decide +kernel, rfl⟩
theorem aX12_taken_19 : decode mX12_taken.2.1 19 = .ok (.bipush 14, 2) ∧ 19 + 2 = 21 := ⟨by decide +kernel, rfl⟩
theorem aX12_taken_21 : decode mX12_taken.2.1 21 = .ok (.invokestatic 68, 3) ∧ 21 + 3 = 24 := ⟨by decide +kernel, rfl⟩
theorem aX12_taken_24 : decode mX12_taken.2.1 24 = .ok (.ifCond .ne 5, 3) ∧ ((24 : Nat) : Int) + 5 = ((29 : Nat) : Int) ∧ 24 + 3 = 27 := ⟨by decide +kernel, by decide, rfl⟩
theorem aX12_taken_27 : decode mX12_taken.2.1 27 = .ok (.iconst (-1), 1) ∧ 27 + 1 = 28 := ⟨by decide +kernel, rfl⟩
theorem aX12_taken_28 : decode mX12_taken.2.1 28 = .ok (.ireturn, 1) := by decide +kernel
theorem aX12_taken_29 : decode mX12_taken.2.1 29 = .ok (.aload_n 0, 1) ∧ 29 + 1 = 30 := ⟨by decide +kernel, rfl⟩
theorem aX12_taken_30 : decode mX12_taken.2.1 30 = .ok (.iload_n 1, 1) ∧ 30 + 1 = 31 := ⟨by decide +kernel, rfl⟩
theorem aX12_taken_31 : decode mX12_taken.2.1 31 = .ok (.invokevirtual 343, 3) ∧ 31 + 3 = 34 := ⟨by decide +kernel, rfl⟩
theorem aX12_taken_34 : decode mX12_taken.2.1 34 = .ok (.istore_n 3, 1) ∧ 34 + 1 = 35 := ⟨by decide +kernel, rfl⟩
theorem aX12_taken_35 : decode mX12_taken.2.1 35 = .ok (.iload_n 3, 1) ∧ 35 + 1 = 36 := ⟨by decide +kernel, rfl⟩
theorem aX12_taken_36 : decode mX12_taken.2.1 36 = .ok (.ifCond .ge 6, 3) ∧ ((36 : Nat) : Int) + 6 = ((42 : Nat) : Int) ∧ 36 + 3 = 39 := ⟨by decide +kernel, by decide, rfl⟩
theorem aX12_taken_39 : decode mX12_taken.2.1 39 = .ok (.bipush (-11), 2) ∧ 39 + 2 = 41 := ⟨by decide +kernel, rfl⟩
theorem aX12_taken_41 : decode mX12_taken.2.1 41 = .ok (.ireturn, 1) := by decide +kernel
theorem aX12_taken_42 : decode mX12_taken.2.1 42 = .ok (.iload_n 3, 1) ∧ 42 + 1 = 43 := ⟨by decide +kernel, rfl⟩
theorem aX12_taken_43 : decode mX12_taken.2.1 43 = .ok (.ifCond .ne 35, 3) ∧ ((43 : Nat) : Int) + 35 = ((78 : Nat) : Int) ∧ 43 + 3 = 46 := ⟨by decide +kernel, by decide, rfl⟩
theorem aX12_taken_46 : decode mX12_taken.2.1 46 = .ok (.iload_n 2, 1) ∧ 46 + 1 = 47 := ⟨by decide +kernel, rfl⟩
theorem aX12_taken_47 : decode mX12_taken.2.1 47 = .ok (.bipush 10, 2) ∧ 47 + 2 = 49 := ⟨by decide +kernel, rfl⟩
theorem aX12_taken_49 : decode mX12_taken.2.1 49 = .ok (.if_icmp .ge 25, 3) ∧ ((49 : Nat) : Int) + 25 = ((74 : Nat) : Int) ∧ 49 + 3 = 52 := ⟨by decide +kernel, by decide, rfl⟩
theorem aX12_taken_52 : decode mX12_taken.2.1 52 = .ok (.aload_n 0, 1) ∧ 52 + 1 = 53 := ⟨by decide +kernel, rfl⟩
theorem aX12_taken_53 : decode mX12_taken.2.1 53 = .ok (.aload_n 0, 1) ∧ 53 + 1 = 54 := ⟨by decide +kernel, rfl⟩
theorem aX12_taken_54 : decode mX12_taken.2.1 54 = .ok (.getfield 62, 3) ∧ 54 + 3 = 57 := ⟨by decide +kernel, rfl⟩
theorem aX12_taken_57 : decode mX12_taken.2.1 57 = .ok (.iload_n 1, 1) ∧ 57 + 1 = 58 := ⟨by decide +kernel, rfl⟩
theorem aX12_taken_58 : decode mX12_taken.2.1 58 = .ok (.iaload, 1) ∧ 58 + 1 = 59 := ⟨by decide +kernel, rfl⟩
theorem aX12_taken_59 : decode mX12_taken.2.1 59 = .ok (.iconst 0, 1) ∧ 59 + 1 = 60 := ⟨by decide +kernel, rfl⟩
theorem aX12_taken_60 : decode mX12_taken.2.1 60 = .ok (.invokevirtual 80, 3) ∧ 60 + 3 = 63 := ⟨by decide +kernel, rfl⟩
theorem aX12_taken_63 : decode mX12_taken.2.1 63 = .ok (.iload_n 2, 1) ∧ 63 + 1 = 64 := ⟨by decide +kernel, rfl⟩
theorem aX12_taken_64 : decode mX12_taken.2.1 64 = .ok (.invokestatic 113, 3) ∧ 64 + 3 = 67 := ⟨by decide +kernel, rfl⟩
theorem aX12_taken_67 : decode mX12_taken.2.1 67 = .ok (.ifCond .eq 7, 3) ∧ ((67 : Nat) : Int) + 7 = ((74 : Nat) : Int) ∧ 67 + 3 = 70 := ⟨by decide +kernel, by decide, rfl⟩
theorem aX12_taken_70 : decode mX12_taken.2.1 70 = .ok (.iconst 1, 1) ∧ 70 + 1 = 71 := ⟨by decide +kernel, rfl⟩
theorem aX12_taken_71 : decode mX12_taken.2.1 71 = .ok (.goto 17, 3) ∧ ((71 : Nat) : Int) + 17 = ((88 : Nat) : Int) := ⟨by decide +kernel, by decide⟩
theorem aX12_taken_74 : decode mX12_taken.2.1 74 = .ok (.iconst 0, 1) ∧ 74 + 1 = 75 := ⟨by decide +kernel, rfl⟩
theorem aX12_taken_75 : decode mX12_taken.2.1 75 = .ok (.goto 13, 3) ∧ ((75 : Nat) : Int) + 13 = ((88 : Nat) : Int) := ⟨by decide +kernel, by decide⟩
theorem aX12_taken_78 : decode mX12_taken.2.1 78 = .ok (.iload_n 3, 1) ∧ 78 + 1 = 79 := ⟨by decide +kernel, rfl⟩
theorem aX12_taken_79 : decode mX12_taken.2.1 79 = .ok (.iload_n 2, 1) ∧ 79 + 1 = 80 := ⟨by decide +kernel, rfl⟩
theorem aX12_taken_80 : decode mX12_taken.2.1 80 = .ok (.if_icmp .ne 7, 3) ∧ ((80 : Nat) : Int) + 7 = ((87 : Nat) : Int) ∧ 80 + 3 = 83 := ⟨by decide +kernel, by decide, rfl⟩
theorem aX12_taken_83 : decode mX12_taken.2.1 83 = .ok (.iconst 1, 1) ∧ 83 + 1 = 84 := ⟨by decide +kernel, rfl⟩
theorem aX12_taken_84 : decode mX12_taken.2.1 84 = .ok (.goto 4, 3) ∧ ((84 : Nat) : Int) + 4 = ((88 : Nat) : Int) := ⟨by decide +kernel, by decide⟩
theorem aX12_taken_87 : decode mX12_taken.2.1 87 = .ok (.iconst 0, 1) ∧ 87 + 1 = 88 := ⟨by decide +kernel, rfl⟩
theorem aX12_taken_88 : decode mX12_taken.2.1 88 = .ok (.istore 4, 2) ∧ 88 + 2 = 90 := ⟨by decide +kernel, rfl⟩
theorem aX12_taken_90 : decode mX12_taken.2.1 90 = .ok (.iload 4, 2) ∧ 90 + 2 = 92 := ⟨by decide +kernel, rfl⟩
theorem aX12_taken_92 : decode mX12_taken.2.1 92 = .ok (.ifCond .eq 12, 3) ∧ ((92 : Nat) : Int) + 12 = ((104 : Nat) : Int) ∧ 92 + 3 = 95 := ⟨by decide +kernel, by decide, rfl⟩
theorem aX12_taken_95 : decode mX12_taken.2.1 95 = .ok (.aload_n 0, 1) ∧ 95 + 1 = 96 := ⟨by decide +kernel, rfl⟩
theorem aX12_taken_96 : decode mX12_taken.2.1 96 = .ok (.getfield 62, 3) ∧ 96 + 3 = 99 := ⟨by decide +kernel, rfl⟩
theorem aX12_taken_99 : decode mX12_taken.2.1 99 = .ok (.iload_n 1, 1) ∧ 99 + 1 = 100 := ⟨by decide +kernel, rfl⟩
theorem aX12_taken_100 : decode mX12_taken.2.1 100 = .ok (.iaload, 1) ∧ 100 + 1 = 101 := ⟨by decide +kernel, rfl⟩
theorem aX12_taken_101 : decode mX12_taken.2.1 101 = .ok (.goto 5, 3) ∧ ((101 : Nat) : Int) + 5 = ((106 : Nat) : Int) := ⟨by decide +kernel, by decide⟩
theorem aX12_taken_104 : decode mX12_taken.2.1 104 = .ok (.bipush (-13), 2) ∧ 104 + 2 = 106 := ⟨by decide +kernel, rfl⟩
theorem aX12_taken_106 : decode mX12_taken.2.1 106 = .ok (.ireturn, 1) := by decide +kernel
theorem S_X12_taken {E : EE} {d : Nat} {I : IH} {Q : QT} (x1 : Int32) (x2 : Int32) (h :
(Mt E d mX12_isSheet [.int x1] I (fun rv I1 => ∃ v2 : Int32, rv = some (.int v2) ∧
 ((v2 = 0 → Q (some (.int (-1))) I1) ∧
 (¬ v2 = 0 → (Mt E d mX12_in1 [.int x2, .int (nI 0), .int (nI 5)] I1 (fun rv I3 => ∃ v4 : Int32, rv = some (.int v4) ∧
 ((¬ v4 = 0 → J E (d + 1) mX12_taken 29 [(0, .ref (eb E + 115)), (1, .int x1), (2, .int x2)] [] I3 Q) ∧
 (v4 = 0 → (Mt E d mX12_in1 [.int x2, .int (nI 10), .int (nI 14)] I3 (fun rv I5 => ∃ v6 : Int32, rv = some (.int v6) ∧
 ((¬ v6 = 0 → J E (d + 1) mX12_taken 29 [(0, .ref (eb E + 115)), (1, .int x1), (2, .int x2)] [] I5 Q) ∧
 (v6 = 0 → Q (some (.int (-1))) I5))))))))))))) : Mt E (d + 1) mX12_taken [.ref (eb E + 115), .int x1, .int x2] I Q := by
  refine Mt_of [(0, .ref (eb E + 115)), (1, .int x1), (2, .int x2)] (by decide +kernel) (by simp [lg_sl, Value.category, mX12_taken]) rfl ?_
  refine J_iload_n 1 aX12_taken_0 rfl ?_
  refine J_callS [.int x1] [] aX12_taken_1 lkX12_331 okX12_isSheet rfl rfl (Nat.le_of_ble_eq_true rfl) (Nat.le_refl _) (Mt_mono h (fun rv I1 h => ?_))
  obtain ⟨v2, rfl, h⟩ := h
  refine J_r1 ?_
  refine J_if_eq aX12_taken_4 (fun q => ?_) (fun q => ?_)
  · replace h := h.1 q
    refine J_iconst (-1) aX12_taken_27 (by decide +kernel) ?_
    exact J_iret aX12_taken_28 rfl h
  · replace h := h.2 q
    refine J_iload_n 2 aX12_taken_7 rfl ?_
    refine J_iconst (nI 0) aX12_taken_8 (by decide +kernel) ?_
    refine J_iconst (nI 5) aX12_taken_9 (by decide +kernel) ?_
    refine J_callS [.int x2, .int (nI 0), .int (nI 5)] [] aX12_taken_10 lkX12_68 okX12_in1 rfl rfl (Nat.le_of_ble_eq_true rfl) (Nat.le_refl _) (Mt_mono h (fun rv I3 h => ?_))
    obtain ⟨v4, rfl, h⟩ := h
    refine J_r1 ?_
    refine J_if_ne aX12_taken_13 (fun q => ?_) (fun q => ?_)
    · replace h := h.1 q
      refine J_pick [0, 1, 2] rfl ?_
      exact h
    · replace h := h.2 q
      refine J_iload_n 2 aX12_taken_16 rfl ?_
      refine J_bipush (nI 10) aX12_taken_17 (by decide +kernel) ?_
      refine J_bipush (nI 14) aX12_taken_19 (by decide +kernel) ?_
      refine J_callS [.int x2, .int (nI 10), .int (nI 14)] [] aX12_taken_21 lkX12_68 okX12_in1 rfl rfl (Nat.le_of_ble_eq_true rfl) (Nat.le_refl _) (Mt_mono h (fun rv I5 h => ?_))
      obtain ⟨v6, rfl, h⟩ := h
      refine J_r1 ?_
      refine J_if_ne aX12_taken_24 (fun q => ?_) (fun q => ?_)
      · replace h := h.1 q
        refine J_pick [0, 1, 2] rfl ?_
        exact h
      · replace h := h.2 q
        refine J_iconst (-1) aX12_taken_27 (by decide +kernel) ?_
        exact J_iret aX12_taken_28 rfl h
theorem S_X12_taken_29 {E : EE} {d : Nat} {I : IH} {Q : QT} (x1 : Int32) (x2 : Int32) (h :
(Mt E d mX12_heldOn [.ref (eb E + 115), .int x1] I (fun rv I1 => ∃ v2 : Int32, rv = some (.int v2) ∧
 ((0 ≤ v2 → ((¬ v2 = 0 → ((¬ v2 = x2 → (((nI 0) = 0 → Q (some (.int (-13))) I1) ∧
 (¬ (nI 0) = 0 → (∃ j3 : Nat, x1 = nI j3 ∧ j3 < 4 ∧ Q (some (.int (I1 133 j3))) I1)))) ∧
 (v2 = x2 → (((nI 1) = 0 → Q (some (.int (-13))) I1) ∧
 (¬ (nI 1) = 0 → (∃ j6 : Nat, x1 = nI j6 ∧ j6 < 4 ∧ Q (some (.int (I1 133 j6))) I1)))))) ∧
 (v2 = 0 → (((nI 10) ≤ x2 → (((nI 0) = 0 → Q (some (.int (-13))) I1) ∧
 (¬ (nI 0) = 0 → (∃ j9 : Nat, x1 = nI j9 ∧ j9 < 4 ∧ Q (some (.int (I1 133 j9))) I1)))) ∧
 (¬ (nI 10) ≤ x2 → (∃ j12 : Nat, x1 = nI j12 ∧ j12 < 4 ∧ (Mt E d mX12_get [.ref (eb E + 115), .int (I1 133 j12), .int (nI 0)] I1 (fun rv I15 => ∃ v16 : Int32, rv = some (.int v16) ∧
 (Mt E d mX12_isUnder [.int v16, .int x2] I15 (fun rv I17 => ∃ v18 : Int32, rv = some (.int v18) ∧
 ((v18 = 0 → (((nI 0) = 0 → Q (some (.int (-13))) I17) ∧
 (¬ (nI 0) = 0 → (∃ j19 : Nat, x1 = nI j19 ∧ j19 < 4 ∧ Q (some (.int (I17 133 j19))) I17)))) ∧
 (¬ v18 = 0 → (((nI 1) = 0 → Q (some (.int (-13))) I17) ∧
 (¬ (nI 1) = 0 → (∃ j22 : Nat, x1 = nI j22 ∧ j22 < 4 ∧ Q (some (.int (I17 133 j22))) I17))))))))))))))) ∧
 (¬ 0 ≤ v2 → Q (some (.int (-11))) I1))))) : J E (d + 1) mX12_taken 29 [(0, .ref (eb E + 115)), (1, .int x1), (2, .int x2)] [] I Q := by
  refine J_aload_n 0 aX12_taken_29 rfl ?_
  refine J_iload_n 1 aX12_taken_30 rfl ?_
  refine J_callV [.int x1] [] aX12_taken_31 lkX12_343_X12 okX12_heldOn sh115 rfl rfl rfl (Nat.le_of_ble_eq_true rfl) (Nat.le_refl _) (Mt_mono h (fun rv I1 h => ?_))
  obtain ⟨v2, rfl, h⟩ := h
  refine J_r1 ?_
  refine J_istore_n [(3, .int v2), (0, .ref (eb E + 115)), (1, .int x1), (2, .int x2)] aX12_taken_34 (by decide) rfl ?_
  refine J_iload_n 0 aX12_taken_35 rfl ?_
  refine J_if_ge aX12_taken_36 (fun q => ?_) (fun q => ?_)
  · replace h := h.1 q
    refine J_iload_n 0 aX12_taken_42 rfl ?_
    refine J_if_ne aX12_taken_43 (fun q => ?_) (fun q => ?_)
    · replace h := h.1 q
      refine J_iload_n 0 aX12_taken_78 rfl ?_
      refine J_iload_n 3 aX12_taken_79 rfl ?_
      refine J_icmp_ne aX12_taken_80 (fun q => ?_) (fun q => ?_)
      · replace h := h.1 q
        refine J_iconst (nI 0) aX12_taken_87 (by decide +kernel) ?_
        refine J_istore [(4, .int (nI 0)), (3, .int v2), (0, .ref (eb E + 115)), (1, .int x1), (2, .int x2)] aX12_taken_88 (by decide) rfl ?_
        refine J_iload 0 aX12_taken_90 rfl ?_
        refine J_if_eq aX12_taken_92 (fun q => ?_) (fun q => ?_)
        · replace h := h.1 q
          refine J_bipush (-13) aX12_taken_104 (by decide +kernel) ?_
          exact J_iret aX12_taken_106 rfl h
        · replace h := h.2 q
          refine J_aload_n 2 aX12_taken_95 rfl ?_
          refine J_getR aX12_taken_96 flX12_62 sh115 rfl ?_
          refine J_iload_n 3 aX12_taken_99 rfl ?_
          obtain ⟨j3, e4, b5, h⟩ := h
          refine J_iaload j3 aX12_taken_100 sh133 e4 b5 (by decide) ?_
          refine J_goto aX12_taken_101 ?_
          exact J_iret aX12_taken_106 rfl h
      · replace h := h.2 q
        refine J_iconst (nI 1) aX12_taken_83 (by decide +kernel) ?_
        refine J_goto aX12_taken_84 ?_
        refine J_istore [(4, .int (nI 1)), (3, .int v2), (0, .ref (eb E + 115)), (1, .int x1), (2, .int x2)] aX12_taken_88 (by decide) rfl ?_
        refine J_iload 0 aX12_taken_90 rfl ?_
        refine J_if_eq aX12_taken_92 (fun q => ?_) (fun q => ?_)
        · replace h := h.1 q
          refine J_bipush (-13) aX12_taken_104 (by decide +kernel) ?_
          exact J_iret aX12_taken_106 rfl h
        · replace h := h.2 q
          refine J_aload_n 2 aX12_taken_95 rfl ?_
          refine J_getR aX12_taken_96 flX12_62 sh115 rfl ?_
          refine J_iload_n 3 aX12_taken_99 rfl ?_
          obtain ⟨j6, e7, b8, h⟩ := h
          refine J_iaload j6 aX12_taken_100 sh133 e7 b8 (by decide) ?_
          refine J_goto aX12_taken_101 ?_
          exact J_iret aX12_taken_106 rfl h
    · replace h := h.2 q
      refine J_iload_n 3 aX12_taken_46 rfl ?_
      refine J_bipush (nI 10) aX12_taken_47 (by decide +kernel) ?_
      refine J_icmp_ge aX12_taken_49 (fun q => ?_) (fun q => ?_)
      · replace h := h.1 q
        refine J_iconst (nI 0) aX12_taken_74 (by decide +kernel) ?_
        refine J_goto aX12_taken_75 ?_
        refine J_istore [(4, .int (nI 0)), (3, .int v2), (0, .ref (eb E + 115)), (1, .int x1), (2, .int x2)] aX12_taken_88 (by decide) rfl ?_
        refine J_iload 0 aX12_taken_90 rfl ?_
        refine J_if_eq aX12_taken_92 (fun q => ?_) (fun q => ?_)
        · replace h := h.1 q
          refine J_bipush (-13) aX12_taken_104 (by decide +kernel) ?_
          exact J_iret aX12_taken_106 rfl h
        · replace h := h.2 q
          refine J_aload_n 2 aX12_taken_95 rfl ?_
          refine J_getR aX12_taken_96 flX12_62 sh115 rfl ?_
          refine J_iload_n 3 aX12_taken_99 rfl ?_
          obtain ⟨j9, e10, b11, h⟩ := h
          refine J_iaload j9 aX12_taken_100 sh133 e10 b11 (by decide) ?_
          refine J_goto aX12_taken_101 ?_
          exact J_iret aX12_taken_106 rfl h
      · replace h := h.2 q
        refine J_aload_n 1 aX12_taken_52 rfl ?_
        refine J_aload_n 1 aX12_taken_53 rfl ?_
        refine J_getR aX12_taken_54 flX12_62 sh115 rfl ?_
        refine J_iload_n 2 aX12_taken_57 rfl ?_
        obtain ⟨j12, e13, b14, h⟩ := h
        refine J_iaload j12 aX12_taken_58 sh133 e13 b14 (by decide) ?_
        refine J_iconst (nI 0) aX12_taken_59 (by decide +kernel) ?_
        refine J_callV [.int (I1 133 j12), .int (nI 0)] [] aX12_taken_60 lkX12_80_X12 okX12_get sh115 rfl rfl rfl (Nat.le_of_ble_eq_true rfl) (Nat.le_refl _) (Mt_mono h (fun rv I15 h => ?_))
        obtain ⟨v16, rfl, h⟩ := h
        refine J_r1 ?_
        refine J_iload_n 3 aX12_taken_63 rfl ?_
        refine J_callS [.int v16, .int x2] [] aX12_taken_64 lkX12_113 okX12_isUnder rfl rfl (Nat.le_of_ble_eq_true rfl) (Nat.le_refl _) (Mt_mono h (fun rv I17 h => ?_))
        obtain ⟨v18, rfl, h⟩ := h
        refine J_r1 ?_
        refine J_if_eq aX12_taken_67 (fun q => ?_) (fun q => ?_)
        · replace h := h.1 q
          refine J_iconst (nI 0) aX12_taken_74 (by decide +kernel) ?_
          refine J_goto aX12_taken_75 ?_
          refine J_istore [(4, .int (nI 0)), (3, .int v2), (0, .ref (eb E + 115)), (1, .int x1), (2, .int x2)] aX12_taken_88 (by decide) rfl ?_
          refine J_iload 0 aX12_taken_90 rfl ?_
          refine J_if_eq aX12_taken_92 (fun q => ?_) (fun q => ?_)
          · replace h := h.1 q
            refine J_bipush (-13) aX12_taken_104 (by decide +kernel) ?_
            exact J_iret aX12_taken_106 rfl h
          · replace h := h.2 q
            refine J_aload_n 2 aX12_taken_95 rfl ?_
            refine J_getR aX12_taken_96 flX12_62 sh115 rfl ?_
            refine J_iload_n 3 aX12_taken_99 rfl ?_
            obtain ⟨j19, e20, b21, h⟩ := h
            refine J_iaload j19 aX12_taken_100 sh133 e20 b21 (by decide) ?_
            refine J_goto aX12_taken_101 ?_
            exact J_iret aX12_taken_106 rfl h
        · replace h := h.2 q
          refine J_iconst (nI 1) aX12_taken_70 (by decide +kernel) ?_
          refine J_goto aX12_taken_71 ?_
          refine J_istore [(4, .int (nI 1)), (3, .int v2), (0, .ref (eb E + 115)), (1, .int x1), (2, .int x2)] aX12_taken_88 (by decide) rfl ?_
          refine J_iload 0 aX12_taken_90 rfl ?_
          refine J_if_eq aX12_taken_92 (fun q => ?_) (fun q => ?_)
          · replace h := h.1 q
            refine J_bipush (-13) aX12_taken_104 (by decide +kernel) ?_
            exact J_iret aX12_taken_106 rfl h
          · replace h := h.2 q
            refine J_aload_n 2 aX12_taken_95 rfl ?_
            refine J_getR aX12_taken_96 flX12_62 sh115 rfl ?_
            refine J_iload_n 3 aX12_taken_99 rfl ?_
            obtain ⟨j22, e23, b24, h⟩ := h
            refine J_iaload j22 aX12_taken_100 sh133 e23 b24 (by decide) ?_
            refine J_goto aX12_taken_101 ?_
            exact J_iret aX12_taken_106 rfl h
  · replace h := h.2 q
    refine J_bipush (-11) aX12_taken_39 (by decide +kernel) ?_
    exact J_iret aX12_taken_41 rfl h
theorem aX12_starts_0 : decode mX12_starts.2.1 0 = .ok (.aload_n 0, 1) ∧ 0 + 1 = 1 := ⟨by decide +kernel, rfl⟩
theorem aX12_starts_1 : decode mX12_starts.2.1 1 = .ok (.getfield 346, 3) ∧ 1 + 3 = 4 := ⟨by decide +kernel, rfl⟩
theorem aX12_starts_4 : decode mX12_starts.2.1 4 = .ok (.bipush 30, 2) ∧ 4 + 2 = 6 := ⟨by decide +kernel, rfl⟩
theorem aX12_starts_6 : decode mX12_starts.2.1 6 = .ok (.if_icmp .ge 23, 3) ∧ ((6 : Nat) : Int) + 23 = ((29 : Nat) : Int) ∧ 6 + 3 = 9 := ⟨by decide +kernel, by decide, rfl⟩
theorem aX12_starts_9 : decode mX12_starts.2.1 9 = .ok (.aload_n 0, 1) ∧ 9 + 1 = 10 := ⟨by decide +kernel, rfl⟩
theorem aX12_starts_10 : decode mX12_starts.2.1 10 = .ok (.getfield 65, 3) ∧ 10 + 3 = 13 := ⟨by decide +kernel, rfl⟩
theorem aX12_starts_13 : decode mX12_starts.2.1 13 = .ok (.aload_n 0, 1) ∧ 13 + 1 = 14 := ⟨by decide +kernel, rfl⟩
theorem aX12_starts_14 : decode mX12_starts.2.1 14 = .ok (.getfield 346, 3) ∧ 14 + 3 = 17 := ⟨by decide +kernel, rfl⟩
theorem aX12_starts_17 : decode mX12_starts.2.1 17 = .ok (.iload_n 1, 1) ∧ 17 + 1 = 18 := ⟨by decide +kernel, rfl⟩
theorem aX12_starts_18 : decode mX12_starts.2.1 18 = .ok (.iastore, 1) ∧ 18 + 1 = 19 := ⟨by decide +kernel, rfl⟩
theorem aX12_starts_19 : decode mX12_starts.2.1 19 = .ok (.aload_n 0, 1) ∧ 19 + 1 = 20 := ⟨by decide +kernel, rfl⟩
theorem aX12_starts_20 : decode mX12_starts.2.1 20 = .ok (.dup, 1) ∧ 20 + 1 = 21 := ⟨by decide +kernel, rfl⟩
theorem aX12_starts_21 : decode mX12_starts.2.1 21 = .ok (.getfield 346, 3) ∧ 21 + 3 = 24 := ⟨by decide +kernel, rfl⟩
theorem aX12_starts_24 : decode mX12_starts.2.1 24 = .ok (.iconst 1, 1) ∧ 24 + 1 = 25 := ⟨by decide +kernel, rfl⟩
theorem aX12_starts_25 : decode mX12_starts.2.1 25 = .ok (.iadd, 1) ∧ 25 + 1 = 26 := ⟨by decide +kernel, rfl⟩
theorem aX12_starts_26 : decode mX12_starts.2.1 26 = .ok (.putfield 346, 3) ∧ 26 + 3 = 29 := ⟨by decide +kernel, rfl⟩
theorem aX12_starts_29 : decode mX12_starts.2.1 29 = .ok (.return_, 1) := by decide +kernel
theorem S_X12_starts {E : EE} {d : Nat} {I : IH} {Q : QT} (x1 : Int32) (h :
(((nI 30) ≤ (I 115 35) → Q none I) ∧
 (¬ (nI 30) ≤ (I 115 35) → (∃ j3 : Nat, (I 115 35) = nI j3 ∧ j3 < 30 ∧ (∀ I1 : IH, I1 = stI I 134 j3 x1 →
 (∀ I6 : IH, I6 = stI I1 115 35 ((I1 115 35) + (nI 1)) →
 Q none I6)))))) : Mt E d mX12_starts [.ref (eb E + 115), .int x1] I Q := by
  refine Mt_of [(0, .ref (eb E + 115)), (1, .int x1)] (by decide +kernel) (by simp [lg_sl, Value.category, mX12_starts]) rfl ?_
  refine J_aload_n 0 aX12_starts_0 rfl ?_
  refine J_getI aX12_starts_1 flX12_346 sh115 rfl ?_
  refine J_bipush (nI 30) aX12_starts_4 (by decide +kernel) ?_
  refine J_icmp_ge aX12_starts_6 (fun q => ?_) (fun q => ?_)
  · replace h := h.1 q
    exact J_vret aX12_starts_29 rfl h
  · replace h := h.2 q
    refine J_aload_n 0 aX12_starts_9 rfl ?_
    refine J_getR aX12_starts_10 flX12_65 sh115 rfl ?_
    refine J_aload_n 0 aX12_starts_13 rfl ?_
    refine J_getI aX12_starts_14 flX12_346 sh115 rfl ?_
    refine J_iload_n 1 aX12_starts_17 rfl ?_
    obtain ⟨j3, e4, b5, h⟩ := h
    refine J_iastore j3 aX12_starts_18 sh134 e4 b5 (by decide) (fun I1 e2 => ?_)
    replace h := h I1 e2
    refine J_aload_n 0 aX12_starts_19 rfl ?_
    refine J_dup aX12_starts_20 rfl ?_
    refine J_getI aX12_starts_21 flX12_346 sh115 rfl ?_
    refine J_iconst (nI 1) aX12_starts_24 (by decide +kernel) ?_
    refine J_iadd aX12_starts_25 ?_
    refine J_putI aX12_starts_26 fpX12_346 sh115 rfl (fun I6 e7 => ?_)
    replace h := h I6 e7
    exact J_vret aX12_starts_29 rfl h
theorem aX12_glowsAs_0 : decode mX12_glowsAs.2.1 0 = .ok (.iload_n 1, 1) ∧ 0 + 1 = 1 := ⟨by decide +kernel, rfl⟩
theorem aX12_glowsAs_1 : decode mX12_glowsAs.2.1 1 = .ok (.iconst 1, 1) ∧ 1 + 1 = 2 := ⟨by decide +kernel, rfl⟩
theorem aX12_glowsAs_2 : decode mX12_glowsAs.2.1 2 = .ok (.if_icmp .ne 19, 3) ∧ ((2 : Nat) : Int) + 19 = ((21 : Nat) : Int) ∧ 2 + 3 = 5 := ⟨by decide +kernel, by decide, rfl⟩
theorem aX12_glowsAs_5 : decode mX12_glowsAs.2.1 5 = .ok (.aload_n 0, 1) ∧ 5 + 1 = 6 := ⟨by decide +kernel, rfl⟩
theorem aX12_glowsAs_6 : decode mX12_glowsAs.2.1 6 = .ok (.bipush 20, 2) ∧ 6 + 2 = 8 := ⟨by decide +kernel, rfl⟩
theorem aX12_glowsAs_8 : decode mX12_glowsAs.2.1 8 = .ok (.invokevirtual 349, 3) ∧ 8 + 3 = 11 := ⟨by decide +kernel, rfl⟩
theorem aX12_glowsAs_11 : decode mX12_glowsAs.2.1 11 = .ok (.aload_n 0, 1) ∧ 11 + 1 = 12 := ⟨by decide +kernel, rfl⟩
theorem aX12_glowsAs_12 : decode mX12_glowsAs.2.1 12 = .ok (.iconst 0, 1) ∧ 12 + 1 = 13 := ⟨by decide +kernel, rfl⟩
theorem aX12_glowsAs_13 : decode mX12_glowsAs.2.1 13 = .ok (.iload_n 2, 1) ∧ 13 + 1 = 14 := ⟨by decide +kernel, rfl⟩
theorem aX12_glowsAs_14 : decode mX12_glowsAs.2.1 14 = .ok (.invokevirtual 352, 3) ∧ 14 + 3 = 17 := ⟨by decide +kernel, rfl⟩
theorem aX12_glowsAs_17 : decode mX12_glowsAs.2.1 17 = .ok (.bipush 21, 2) ∧ 17 + 2 = 19 := ⟨by decide +kernel, rfl⟩
theorem aX12_glowsAs_19 : decode mX12_glowsAs.2.1 19 = .ok (.ixor, 1) ∧ 19 + 1 = 20 := ⟨by decide +kernel, rfl⟩
theorem aX12_glowsAs_20 : decode mX12_glowsAs.2.1 20 = .ok (.ireturn, 1) := by decide +kernel
theorem aX12_glowsAs_21 : decode mX12_glowsAs.2.1 21 = .ok (.iload_n 1, 1) ∧ 21 + 1 = 22 := ⟨by decide +kernel, rfl⟩
theorem aX12_glowsAs_22 : decode mX12_glowsAs.2.1 22 = .ok (.iconst 3, 1) ∧ 22 + 1 = 23 := ⟨by decide +kernel, rfl⟩
theorem aX12_glowsAs_23 : decode mX12_glowsAs.2.1 23 = .ok (.if_icmp .ne 26, 3) ∧ ((23 : Nat) : Int) + 26 = ((49 : Nat) : Int) ∧ 23 + 3 = 26 := ⟨by decide +kernel, by decide, rfl⟩
theorem aX12_glowsAs_26 : decode mX12_glowsAs.2.1 26 = .ok (.aload_n 0, 1) ∧ 26 + 1 = 27 := ⟨by decide +kernel, rfl⟩
theorem aX12_glowsAs_27 : decode mX12_glowsAs.2.1 27 = .ok (.bipush 50, 2) ∧ 27 + 2 = 29 := ⟨by decide +kernel, rfl⟩
theorem aX12_glowsAs_29 : decode mX12_glowsAs.2.1 29 = .ok (.invokevirtual 349, 3) ∧ 29 + 3 = 32 := ⟨by decide +kernel, rfl⟩
theorem aX12_glowsAs_32 : decode mX12_glowsAs.2.1 32 = .ok (.aload_n 0, 1) ∧ 32 + 1 = 33 := ⟨by decide +kernel, rfl⟩
theorem aX12_glowsAs_33 : decode mX12_glowsAs.2.1 33 = .ok (.iconst 2, 1) ∧ 33 + 1 = 34 := ⟨by decide +kernel, rfl⟩
theorem aX12_glowsAs_34 : decode mX12_glowsAs.2.1 34 = .ok (.iload_n 2, 1) ∧ 34 + 1 = 35 := ⟨by decide +kernel, rfl⟩
theorem aX12_glowsAs_35 : decode mX12_glowsAs.2.1 35 = .ok (.invokevirtual 352, 3) ∧ 35 + 3 = 38 := ⟨by decide +kernel, rfl⟩
theorem aX12_glowsAs_38 : decode mX12_glowsAs.2.1 38 = .ok (.aload_n 0, 1) ∧ 38 + 1 = 39 := ⟨by decide +kernel, rfl⟩
theorem aX12_glowsAs_39 : decode mX12_glowsAs.2.1 39 = .ok (.aload_n 0, 1) ∧ 39 + 1 = 40 := ⟨by decide +kernel, rfl⟩
theorem aX12_glowsAs_40 : decode mX12_glowsAs.2.1 40 = .ok (.getfield 355, 3) ∧ 40 + 3 = 43 := ⟨by decide +kernel, rfl⟩
theorem aX12_glowsAs_43 : decode mX12_glowsAs.2.1 43 = .ok (.iconst 3, 1) ∧ 43 + 1 = 44 := ⟨by decide +kernel, rfl⟩
theorem aX12_glowsAs_44 : decode mX12_glowsAs.2.1 44 = .ok (.invokevirtual 80, 3) ∧ 44 + 3 = 47 := ⟨by decide +kernel, rfl⟩
theorem aX12_glowsAs_47 : decode mX12_glowsAs.2.1 47 = .ok (.isub, 1) ∧ 47 + 1 = 48 := ⟨by decide +kernel, rfl⟩
theorem aX12_glowsAs_48 : decode mX12_glowsAs.2.1 48 = .ok (.ireturn, 1) := by decide +kernel
theorem aX12_glowsAs_49 : decode mX12_glowsAs.2.1 49 = .ok (.aload_n 0, 1) ∧ 49 + 1 = 50 := ⟨by decide +kernel, rfl⟩
theorem aX12_glowsAs_50 : decode mX12_glowsAs.2.1 50 = .ok (.bipush 10, 2) ∧ 50 + 2 = 52 := ⟨by decide +kernel, rfl⟩
theorem aX12_glowsAs_52 : decode mX12_glowsAs.2.1 52 = .ok (.invokevirtual 349, 3) ∧ 52 + 3 = 55 := ⟨by decide +kernel, rfl⟩
theorem aX12_glowsAs_55 : decode mX12_glowsAs.2.1 55 = .ok (.iload_n 2, 1) ∧ 55 + 1 = 56 := ⟨by decide +kernel, rfl⟩
theorem aX12_glowsAs_56 : decode mX12_glowsAs.2.1 56 = .ok (.iconst 3, 1) ∧ 56 + 1 = 57 := ⟨by decide +kernel, rfl⟩
theorem aX12_glowsAs_57 : decode mX12_glowsAs.2.1 57 = .ok (.aload_n 0, 1) ∧ 57 + 1 = 58 := ⟨by decide +kernel, rfl⟩
theorem aX12_glowsAs_58 : decode mX12_glowsAs.2.1 58 = .ok (.getfield 355, 3) ∧ 58 + 3 = 61 := ⟨by decide +kernel, rfl⟩
theorem aX12_glowsAs_61 : decode mX12_glowsAs.2.1 61 = .ok (.imul, 1) ∧ 61 + 1 = 62 := ⟨by decide +kernel, rfl⟩
theorem aX12_glowsAs_62 : decode mX12_glowsAs.2.1 62 = .ok (.iadd, 1) ∧ 62 + 1 = 63 := ⟨by decide +kernel, rfl⟩
theorem aX12_glowsAs_63 : decode mX12_glowsAs.2.1 63 = .ok (.ireturn, 1) := by decide +kernel
theorem S_X12_glowsAs {E : EE} {d : Nat} {I : IH} {Q : QT} (x1 : Int32) (x2 : Int32) (h :
((¬ x1 = (nI 1) → ((¬ x1 = (nI 3) → (Mt E d mX12_starts [.ref (eb E + 115), .int (nI 10)] I (fun rv I1 => rv = none ∧
 Q (some (.int (x2 + ((nI 3) * (I1 115 36))))) I1))) ∧
 (x1 = (nI 3) → (Mt E d mX12_starts [.ref (eb E + 115), .int (nI 50)] I (fun rv I2 => rv = none ∧
 (Mt E d mX12_glowsAs [.ref (eb E + 115), .int (nI 2), .int x2] I2 (fun rv I3 => ∃ v4 : Int32, rv = some (.int v4) ∧
 (Mt E d mX12_get [.ref (eb E + 115), .int (I3 115 36), .int (nI 3)] I3 (fun rv I5 => ∃ v6 : Int32, rv = some (.int v6) ∧
 Q (some (.int (v4 - v6))) I5))))))))) ∧
 (x1 = (nI 1) → (Mt E d mX12_starts [.ref (eb E + 115), .int (nI 20)] I (fun rv I7 => rv = none ∧
 (Mt E d mX12_glowsAs [.ref (eb E + 115), .int (nI 0), .int x2] I7 (fun rv I8 => ∃ v9 : Int32, rv = some (.int v9) ∧
 Q (some (.int (v9 ^^^ (nI 21)))) I8))))))) : Mt E (d + 1) mX12_glowsAs [.ref (eb E + 115), .int x1, .int x2] I Q := by
  refine Mt_of [(0, .ref (eb E + 115)), (1, .int x1), (2, .int x2)] (by decide +kernel) (by simp [lg_sl, Value.category, mX12_glowsAs]) rfl ?_
  refine J_iload_n 1 aX12_glowsAs_0 rfl ?_
  refine J_iconst (nI 1) aX12_glowsAs_1 (by decide +kernel) ?_
  refine J_icmp_ne aX12_glowsAs_2 (fun q => ?_) (fun q => ?_)
  · replace h := h.1 q
    refine J_iload_n 1 aX12_glowsAs_21 rfl ?_
    refine J_iconst (nI 3) aX12_glowsAs_22 (by decide +kernel) ?_
    refine J_icmp_ne aX12_glowsAs_23 (fun q => ?_) (fun q => ?_)
    · replace h := h.1 q
      refine J_aload_n 0 aX12_glowsAs_49 rfl ?_
      refine J_bipush (nI 10) aX12_glowsAs_50 (by decide +kernel) ?_
      refine J_callV [.int (nI 10)] [] aX12_glowsAs_52 lkX12_349_X12 okX12_starts sh115 rfl rfl rfl (Nat.le_of_ble_eq_true rfl) (Nat.le_refl _) (Mt_mono h (fun rv I1 h => ?_))
      obtain ⟨rfl, h⟩ := h
      refine J_r0 ?_
      refine J_iload_n 2 aX12_glowsAs_55 rfl ?_
      refine J_iconst (nI 3) aX12_glowsAs_56 (by decide +kernel) ?_
      refine J_aload_n 0 aX12_glowsAs_57 rfl ?_
      refine J_getI aX12_glowsAs_58 flX12_355 sh115 rfl ?_
      refine J_imul aX12_glowsAs_61 ?_
      refine J_iadd aX12_glowsAs_62 ?_
      exact J_iret aX12_glowsAs_63 rfl h
    · replace h := h.2 q
      refine J_aload_n 0 aX12_glowsAs_26 rfl ?_
      refine J_bipush (nI 50) aX12_glowsAs_27 (by decide +kernel) ?_
      refine J_callV [.int (nI 50)] [] aX12_glowsAs_29 lkX12_349_X12 okX12_starts sh115 rfl rfl rfl (Nat.le_of_ble_eq_true rfl) (Nat.le_refl _) (Mt_mono h (fun rv I2 h => ?_))
      obtain ⟨rfl, h⟩ := h
      refine J_r0 ?_
      refine J_aload_n 0 aX12_glowsAs_32 rfl ?_
      refine J_iconst (nI 2) aX12_glowsAs_33 (by decide +kernel) ?_
      refine J_iload_n 2 aX12_glowsAs_34 rfl ?_
      refine J_callV [.int (nI 2), .int x2] [] aX12_glowsAs_35 lkX12_352_X12 okX12_glowsAs sh115 rfl rfl rfl (Nat.le_of_ble_eq_true rfl) (Nat.le_refl _) (Mt_mono h (fun rv I3 h => ?_))
      obtain ⟨v4, rfl, h⟩ := h
      refine J_r1 ?_
      refine J_aload_n 0 aX12_glowsAs_38 rfl ?_
      refine J_aload_n 0 aX12_glowsAs_39 rfl ?_
      refine J_getI aX12_glowsAs_40 flX12_355 sh115 rfl ?_
      refine J_iconst (nI 3) aX12_glowsAs_43 (by decide +kernel) ?_
      refine J_callV [.int (I3 115 36), .int (nI 3)] [.int v4] aX12_glowsAs_44 lkX12_80_X12 okX12_get sh115 rfl rfl rfl (Nat.le_of_ble_eq_true rfl) (Nat.le_refl _) (Mt_mono h (fun rv I5 h => ?_))
      obtain ⟨v6, rfl, h⟩ := h
      refine J_r1 ?_
      refine J_isub aX12_glowsAs_47 ?_
      exact J_iret aX12_glowsAs_48 rfl h
  · replace h := h.2 q
    refine J_aload_n 0 aX12_glowsAs_5 rfl ?_
    refine J_bipush (nI 20) aX12_glowsAs_6 (by decide +kernel) ?_
    refine J_callV [.int (nI 20)] [] aX12_glowsAs_8 lkX12_349_X12 okX12_starts sh115 rfl rfl rfl (Nat.le_of_ble_eq_true rfl) (Nat.le_refl _) (Mt_mono h (fun rv I7 h => ?_))
    obtain ⟨rfl, h⟩ := h
    refine J_r0 ?_
    refine J_aload_n 0 aX12_glowsAs_11 rfl ?_
    refine J_iconst (nI 0) aX12_glowsAs_12 (by decide +kernel) ?_
    refine J_iload_n 2 aX12_glowsAs_13 rfl ?_
    refine J_callV [.int (nI 0), .int x2] [] aX12_glowsAs_14 lkX12_352_X12 okX12_glowsAs sh115 rfl rfl rfl (Nat.le_of_ble_eq_true rfl) (Nat.le_refl _) (Mt_mono h (fun rv I8 h => ?_))
    obtain ⟨v9, rfl, h⟩ := h
    refine J_r1 ?_
    refine J_bipush (nI 21) aX12_glowsAs_17 (by decide +kernel) ?_
    refine J_ixor aX12_glowsAs_19 ?_
    exact J_iret aX12_glowsAs_20 rfl h
theorem aX12_smokesAs_0 : decode mX12_smokesAs.2.1 0 = .ok (.iload_n 1, 1) ∧ 0 + 1 = 1 := ⟨by decide +kernel, rfl⟩
theorem aX12_smokesAs_1 : decode mX12_smokesAs.2.1 1 = .ok (.iconst 2, 1) ∧ 1 + 1 = 2 := ⟨by decide +kernel, rfl⟩
theorem aX12_smokesAs_2 : decode mX12_smokesAs.2.1 2 = .ok (.if_icmp .eq 8, 3) ∧ ((2 : Nat) : Int) + 8 = ((10 : Nat) : Int) ∧ 2 + 3 = 5 := ⟨by decide +kernel, by decide, rfl⟩
theorem aX12_smokesAs_5 : decode mX12_smokesAs.2.1 5 = .ok (.iload_n 1, 1) ∧ 5 + 1 = 6 := ⟨by decide +kernel, rfl⟩
theorem aX12_smokesAs_6 : decode mX12_smokesAs.2.1 6 = .ok (.iconst 3, 1) ∧ 6 + 1 = 7 := ⟨by decide +kernel, rfl⟩
theorem aX12_smokesAs_7 : decode mX12_smokesAs.2.1 7 = .ok (.if_icmp .ne 21, 3) ∧ ((7 : Nat) : Int) + 21 = ((28 : Nat) : Int) ∧ 7 + 3 = 10 := ⟨by decide +kernel, by decide, rfl⟩
theorem aX12_smokesAs_10 : decode mX12_smokesAs.2.1 10 = .ok (.aload_n 0, 1) ∧ 10 + 1 = 11 := ⟨by decide +kernel, rfl⟩
theorem aX12_smokesAs_11 : decode mX12_smokesAs.2.1 11 = .ok (.bipush 30, 2) ∧ 11 + 2 = 13 := ⟨by decide +kernel, rfl⟩
theorem aX12_smokesAs_13 : decode mX12_smokesAs.2.1 13 = .ok (.invokevirtual 349, 3) ∧ 13 + 3 = 16 := ⟨by decide +kernel, rfl⟩
theorem aX12_smokesAs_16 : decode mX12_smokesAs.2.1 16 = .ok (.aload_n 0, 1) ∧ 16 + 1 = 17 := ⟨by decide +kernel, rfl⟩
theorem aX12_smokesAs_17 : decode mX12_smokesAs.2.1 17 = .ok (.iconst 0, 1) ∧ 17 + 1 = 18 := ⟨by decide +kernel, rfl⟩
theorem aX12_smokesAs_18 : decode mX12_smokesAs.2.1 18 = .ok (.iload_n 2, 1) ∧ 18 + 1 = 19 := ⟨by decide +kernel, rfl⟩
theorem aX12_smokesAs_19 : decode mX12_smokesAs.2.1 19 = .ok (.aload_n 0, 1) ∧ 19 + 1 = 20 := ⟨by decide +kernel, rfl⟩
theorem aX12_smokesAs_20 : decode mX12_smokesAs.2.1 20 = .ok (.getfield 355, 3) ∧ 20 + 3 = 23 := ⟨by decide +kernel, rfl⟩
theorem aX12_smokesAs_23 : decode mX12_smokesAs.2.1 23 = .ok (.isub, 1) ∧ 23 + 1 = 24 := ⟨by decide +kernel, rfl⟩
theorem aX12_smokesAs_24 : decode mX12_smokesAs.2.1 24 = .ok (.invokevirtual 358, 3) ∧ 24 + 3 = 27 := ⟨by decide +kernel, rfl⟩
theorem aX12_smokesAs_27 : decode mX12_smokesAs.2.1 27 = .ok (.ireturn, 1) := by decide +kernel
theorem aX12_smokesAs_28 : decode mX12_smokesAs.2.1 28 = .ok (.iload_n 1, 1) ∧ 28 + 1 = 29 := ⟨by decide +kernel, rfl⟩
theorem aX12_smokesAs_29 : decode mX12_smokesAs.2.1 29 = .ok (.iconst 5, 1) ∧ 29 + 1 = 30 := ⟨by decide +kernel, rfl⟩
theorem aX12_smokesAs_30 : decode mX12_smokesAs.2.1 30 = .ok (.if_icmp .ne 19, 3) ∧ ((30 : Nat) : Int) + 19 = ((49 : Nat) : Int) ∧ 30 + 3 = 33 := ⟨by decide +kernel, by decide, rfl⟩
theorem aX12_smokesAs_33 : decode mX12_smokesAs.2.1 33 = .ok (.aload_n 0, 1) ∧ 33 + 1 = 34 := ⟨by decide +kernel, rfl⟩
theorem aX12_smokesAs_34 : decode mX12_smokesAs.2.1 34 = .ok (.bipush 60, 2) ∧ 34 + 2 = 36 := ⟨by decide +kernel, rfl⟩
theorem aX12_smokesAs_36 : decode mX12_smokesAs.2.1 36 = .ok (.invokevirtual 349, 3) ∧ 36 + 3 = 39 := ⟨by decide +kernel, rfl⟩
theorem aX12_smokesAs_39 : decode mX12_smokesAs.2.1 39 = .ok (.aload_n 0, 1) ∧ 39 + 1 = 40 := ⟨by decide +kernel, rfl⟩
theorem aX12_smokesAs_40 : decode mX12_smokesAs.2.1 40 = .ok (.iconst 4, 1) ∧ 40 + 1 = 41 := ⟨by decide +kernel, rfl⟩
theorem aX12_smokesAs_41 : decode mX12_smokesAs.2.1 41 = .ok (.iload_n 2, 1) ∧ 41 + 1 = 42 := ⟨by decide +kernel, rfl⟩
theorem aX12_smokesAs_42 : decode mX12_smokesAs.2.1 42 = .ok (.invokevirtual 358, 3) ∧ 42 + 3 = 45 := ⟨by decide +kernel, rfl⟩
theorem aX12_smokesAs_45 : decode mX12_smokesAs.2.1 45 = .ok (.bipush 9, 2) ∧ 45 + 2 = 47 := ⟨by decide +kernel, rfl⟩
theorem aX12_smokesAs_47 : decode mX12_smokesAs.2.1 47 = .ok (.iadd, 1) ∧ 47 + 1 = 48 := ⟨by decide +kernel, rfl⟩
theorem aX12_smokesAs_48 : decode mX12_smokesAs.2.1 48 = .ok (.ireturn, 1) := by decide +kernel
theorem aX12_smokesAs_49 : decode mX12_smokesAs.2.1 49 = .ok (.aload_n 0, 1) ∧ 49 + 1 = 50 := ⟨by decide +kernel, rfl⟩
theorem aX12_smokesAs_50 : decode mX12_smokesAs.2.1 50 = .ok (.bipush 11, 2) ∧ 50 + 2 = 52 := ⟨by decide +kernel, rfl⟩
theorem aX12_smokesAs_52 : decode mX12_smokesAs.2.1 52 = .ok (.invokevirtual 349, 3) ∧ 52 + 3 = 55 := ⟨by decide +kernel, rfl⟩
theorem aX12_smokesAs_55 : decode mX12_smokesAs.2.1 55 = .ok (.aload_n 0, 1) ∧ 55 + 1 = 56 := ⟨by decide +kernel, rfl⟩
theorem aX12_smokesAs_56 : decode mX12_smokesAs.2.1 56 = .ok (.aload_n 0, 1) ∧ 56 + 1 = 57 := ⟨by decide +kernel, rfl⟩
theorem aX12_smokesAs_57 : decode mX12_smokesAs.2.1 57 = .ok (.aload_n 0, 1) ∧ 57 + 1 = 58 := ⟨by decide +kernel, rfl⟩
theorem aX12_smokesAs_58 : decode mX12_smokesAs.2.1 58 = .ok (.getfield 355, 3) ∧ 58 + 3 = 61 := ⟨by decide +kernel, rfl⟩
theorem aX12_smokesAs_61 : decode mX12_smokesAs.2.1 61 = .ok (.iconst 0, 1) ∧ 61 + 1 = 62 := ⟨by decide +kernel, rfl⟩
theorem aX12_smokesAs_62 : decode mX12_smokesAs.2.1 62 = .ok (.invokevirtual 80, 3) ∧ 62 + 3 = 65 := ⟨by decide +kernel, rfl⟩
theorem aX12_smokesAs_65 : decode mX12_smokesAs.2.1 65 = .ok (.iload_n 2, 1) ∧ 65 + 1 = 66 := ⟨by decide +kernel, rfl⟩
theorem aX12_smokesAs_66 : decode mX12_smokesAs.2.1 66 = .ok (.invokevirtual 352, 3) ∧ 66 + 3 = 69 := ⟨by decide +kernel, rfl⟩
theorem aX12_smokesAs_69 : decode mX12_smokesAs.2.1 69 = .ok (.iconst 2, 1) ∧ 69 + 1 = 70 := ⟨by decide +kernel, rfl⟩
theorem aX12_smokesAs_70 : decode mX12_smokesAs.2.1 70 = .ok (.aload_n 0, 1) ∧ 70 + 1 = 71 := ⟨by decide +kernel, rfl⟩
theorem aX12_smokesAs_71 : decode mX12_smokesAs.2.1 71 = .ok (.aload_n 0, 1) ∧ 71 + 1 = 72 := ⟨by decide +kernel, rfl⟩
theorem aX12_smokesAs_72 : decode mX12_smokesAs.2.1 72 = .ok (.getfield 355, 3) ∧ 72 + 3 = 75 := ⟨by decide +kernel, rfl⟩
theorem aX12_smokesAs_75 : decode mX12_smokesAs.2.1 75 = .ok (.iconst 3, 1) ∧ 75 + 1 = 76 := ⟨by decide +kernel, rfl⟩
theorem aX12_smokesAs_76 : decode mX12_smokesAs.2.1 76 = .ok (.invokevirtual 80, 3) ∧ 76 + 3 = 79 := ⟨by decide +kernel, rfl⟩
theorem aX12_smokesAs_79 : decode mX12_smokesAs.2.1 79 = .ok (.imul, 1) ∧ 79 + 1 = 80 := ⟨by decide +kernel, rfl⟩
theorem aX12_smokesAs_80 : decode mX12_smokesAs.2.1 80 = .ok (.ixor, 1) ∧ 80 + 1 = 81 := ⟨by decide +kernel, rfl⟩
theorem aX12_smokesAs_81 : decode mX12_smokesAs.2.1 81 = .ok (.ireturn, 1) := by decide +kernel
theorem S_X12_smokesAs {E : EE} {d : Nat} {I : IH} {Q : QT} (x1 : Int32) (x2 : Int32) (h :
((x1 = (nI 2) → J E (d + 1) mX12_smokesAs 10 [(0, .ref (eb E + 115)), (2, .int x2)] [] I Q) ∧
 (¬ x1 = (nI 2) → ((¬ x1 = (nI 3) → ((¬ x1 = (nI 5) → (Mt E d mX12_starts [.ref (eb E + 115), .int (nI 11)] I (fun rv I1 => rv = none ∧
 (Mt E d mX12_get [.ref (eb E + 115), .int (I1 115 36), .int (nI 0)] I1 (fun rv I2 => ∃ v3 : Int32, rv = some (.int v3) ∧
 (Mt E d mX12_glowsAs [.ref (eb E + 115), .int v3, .int x2] I2 (fun rv I4 => ∃ v5 : Int32, rv = some (.int v5) ∧
 (Mt E d mX12_get [.ref (eb E + 115), .int (I4 115 36), .int (nI 3)] I4 (fun rv I6 => ∃ v7 : Int32, rv = some (.int v7) ∧
 Q (some (.int (v5 ^^^ ((nI 2) * v7)))) I6))))))))) ∧
 (x1 = (nI 5) → (Mt E d mX12_starts [.ref (eb E + 115), .int (nI 60)] I (fun rv I8 => rv = none ∧
 (Mt E d mX12_smokesAs [.ref (eb E + 115), .int (nI 4), .int x2] I8 (fun rv I9 => ∃ v10 : Int32, rv = some (.int v10) ∧
 Q (some (.int (v10 + (nI 9)))) I9))))))) ∧
 (x1 = (nI 3) → J E (d + 1) mX12_smokesAs 10 [(0, .ref (eb E + 115)), (2, .int x2)] [] I Q))))) : Mt E (d + 1) mX12_smokesAs [.ref (eb E + 115), .int x1, .int x2] I Q := by
  refine Mt_of [(0, .ref (eb E + 115)), (1, .int x1), (2, .int x2)] (by decide +kernel) (by simp [lg_sl, Value.category, mX12_smokesAs]) rfl ?_
  refine J_iload_n 1 aX12_smokesAs_0 rfl ?_
  refine J_iconst (nI 2) aX12_smokesAs_1 (by decide +kernel) ?_
  refine J_icmp_eq aX12_smokesAs_2 (fun q => ?_) (fun q => ?_)
  · replace h := h.1 q
    refine J_pick [0, 2] rfl ?_
    exact h
  · replace h := h.2 q
    refine J_iload_n 1 aX12_smokesAs_5 rfl ?_
    refine J_iconst (nI 3) aX12_smokesAs_6 (by decide +kernel) ?_
    refine J_icmp_ne aX12_smokesAs_7 (fun q => ?_) (fun q => ?_)
    · replace h := h.1 q
      refine J_iload_n 1 aX12_smokesAs_28 rfl ?_
      refine J_iconst (nI 5) aX12_smokesAs_29 (by decide +kernel) ?_
      refine J_icmp_ne aX12_smokesAs_30 (fun q => ?_) (fun q => ?_)
      · replace h := h.1 q
        refine J_aload_n 0 aX12_smokesAs_49 rfl ?_
        refine J_bipush (nI 11) aX12_smokesAs_50 (by decide +kernel) ?_
        refine J_callV [.int (nI 11)] [] aX12_smokesAs_52 lkX12_349_X12 okX12_starts sh115 rfl rfl rfl (Nat.le_of_ble_eq_true rfl) (Nat.le_refl _) (Mt_mono h (fun rv I1 h => ?_))
        obtain ⟨rfl, h⟩ := h
        refine J_r0 ?_
        refine J_aload_n 0 aX12_smokesAs_55 rfl ?_
        refine J_aload_n 0 aX12_smokesAs_56 rfl ?_
        refine J_aload_n 0 aX12_smokesAs_57 rfl ?_
        refine J_getI aX12_smokesAs_58 flX12_355 sh115 rfl ?_
        refine J_iconst (nI 0) aX12_smokesAs_61 (by decide +kernel) ?_
        refine J_callV [.int (I1 115 36), .int (nI 0)] [.ref (eb E + 115)] aX12_smokesAs_62 lkX12_80_X12 okX12_get sh115 rfl rfl rfl (Nat.le_of_ble_eq_true rfl) (Nat.le_refl _) (Mt_mono h (fun rv I2 h => ?_))
        obtain ⟨v3, rfl, h⟩ := h
        refine J_r1 ?_
        refine J_iload_n 2 aX12_smokesAs_65 rfl ?_
        refine J_callV [.int v3, .int x2] [] aX12_smokesAs_66 lkX12_352_X12 okX12_glowsAs sh115 rfl rfl rfl (Nat.le_of_ble_eq_true rfl) (Nat.le_refl _) (Mt_mono h (fun rv I4 h => ?_))
        obtain ⟨v5, rfl, h⟩ := h
        refine J_r1 ?_
        refine J_iconst (nI 2) aX12_smokesAs_69 (by decide +kernel) ?_
        refine J_aload_n 0 aX12_smokesAs_70 rfl ?_
        refine J_aload_n 0 aX12_smokesAs_71 rfl ?_
        refine J_getI aX12_smokesAs_72 flX12_355 sh115 rfl ?_
        refine J_iconst (nI 3) aX12_smokesAs_75 (by decide +kernel) ?_
        refine J_callV [.int (I4 115 36), .int (nI 3)] [.int (nI 2), .int v5] aX12_smokesAs_76 lkX12_80_X12 okX12_get sh115 rfl rfl rfl (Nat.le_of_ble_eq_true rfl) (Nat.le_refl _) (Mt_mono h (fun rv I6 h => ?_))
        obtain ⟨v7, rfl, h⟩ := h
        refine J_r1 ?_
        refine J_imul aX12_smokesAs_79 ?_
        refine J_ixor aX12_smokesAs_80 ?_
        exact J_iret aX12_smokesAs_81 rfl h
      · replace h := h.2 q
        refine J_aload_n 0 aX12_smokesAs_33 rfl ?_
        refine J_bipush (nI 60) aX12_smokesAs_34 (by decide +kernel) ?_
        refine J_callV [.int (nI 60)] [] aX12_smokesAs_36 lkX12_349_X12 okX12_starts sh115 rfl rfl rfl (Nat.le_of_ble_eq_true rfl) (Nat.le_refl _) (Mt_mono h (fun rv I8 h => ?_))
        obtain ⟨rfl, h⟩ := h
        refine J_r0 ?_
        refine J_aload_n 0 aX12_smokesAs_39 rfl ?_
        refine J_iconst (nI 4) aX12_smokesAs_40 (by decide +kernel) ?_
        refine J_iload_n 2 aX12_smokesAs_41 rfl ?_
        refine J_callV [.int (nI 4), .int x2] [] aX12_smokesAs_42 lkX12_358_X12 okX12_smokesAs sh115 rfl rfl rfl (Nat.le_of_ble_eq_true rfl) (Nat.le_refl _) (Mt_mono h (fun rv I9 h => ?_))
        obtain ⟨v10, rfl, h⟩ := h
        refine J_r1 ?_
        refine J_bipush (nI 9) aX12_smokesAs_45 (by decide +kernel) ?_
        refine J_iadd aX12_smokesAs_47 ?_
        exact J_iret aX12_smokesAs_48 rfl h
    · replace h := h.2 q
      refine J_pick [0, 2] rfl ?_
      exact h
theorem S_X12_smokesAs_10 {E : EE} {d : Nat} {I : IH} {Q : QT} (x2 : Int32) (h :
(Mt E d mX12_starts [.ref (eb E + 115), .int (nI 30)] I (fun rv I1 => rv = none ∧
 (Mt E d mX12_smokesAs [.ref (eb E + 115), .int (nI 0), .int (x2 - (I1 115 36))] I1 (fun rv I2 => ∃ v3 : Int32, rv = some (.int v3) ∧
 Q (some (.int v3)) I2))))) : J E (d + 1) mX12_smokesAs 10 [(0, .ref (eb E + 115)), (2, .int x2)] [] I Q := by
  refine J_aload_n 0 aX12_smokesAs_10 rfl ?_
  refine J_bipush (nI 30) aX12_smokesAs_11 (by decide +kernel) ?_
  refine J_callV [.int (nI 30)] [] aX12_smokesAs_13 lkX12_349_X12 okX12_starts sh115 rfl rfl rfl (Nat.le_of_ble_eq_true rfl) (Nat.le_refl _) (Mt_mono h (fun rv I1 h => ?_))
  obtain ⟨rfl, h⟩ := h
  refine J_r0 ?_
  refine J_aload_n 0 aX12_smokesAs_16 rfl ?_
  refine J_iconst (nI 0) aX12_smokesAs_17 (by decide +kernel) ?_
  refine J_iload_n 1 aX12_smokesAs_18 rfl ?_
  refine J_aload_n 0 aX12_smokesAs_19 rfl ?_
  refine J_getI aX12_smokesAs_20 flX12_355 sh115 rfl ?_
  refine J_isub aX12_smokesAs_23 ?_
  refine J_callV [.int (nI 0), .int (x2 - (I1 115 36))] [] aX12_smokesAs_24 lkX12_358_X12 okX12_smokesAs sh115 rfl rfl rfl (Nat.le_of_ble_eq_true rfl) (Nat.le_refl _) (Mt_mono h (fun rv I2 h => ?_))
  obtain ⟨v3, rfl, h⟩ := h
  refine J_r1 ?_
  exact J_iret aX12_smokesAs_27 rfl h
theorem aX12_wavesAs_0 : decode mX12_wavesAs.2.1 0 = .ok (.iload_n 1, 1) ∧ 0 + 1 = 1 := ⟨by decide +kernel, rfl⟩
theorem aX12_wavesAs_1 : decode mX12_wavesAs.2.1 1 = .ok (.iconst 5, 1) ∧ 1 + 1 = 2 := ⟨by decide +kernel, rfl⟩
theorem aX12_wavesAs_2 : decode mX12_wavesAs.2.1 2 = .ok (.if_icmp .ne 39, 3) ∧ ((2 : Nat) : Int) + 39 = ((41 : Nat) : Int) ∧ 2 + 3 = 5 := ⟨by decide +kernel, by decide, rfl⟩
theorem aX12_wavesAs_5 : decode mX12_wavesAs.2.1 5 = .ok (.aload_n 0, 1) ∧ 5 + 1 = 6 := ⟨by decide +kernel, rfl⟩
theorem aX12_wavesAs_6 : decode mX12_wavesAs.2.1 6 = .ok (.bipush 61, 2) ∧ 6 + 2 = 8 := ⟨by decide +kernel, rfl⟩
theorem aX12_wavesAs_8 : decode mX12_wavesAs.2.1 8 = .ok (.invokevirtual 349, 3) ∧ 8 + 3 = 11 := ⟨by decide +kernel, rfl⟩
theorem aX12_wavesAs_11 : decode mX12_wavesAs.2.1 11 = .ok (.aload_n 0, 1) ∧ 11 + 1 = 12 := ⟨by decide +kernel, rfl⟩
theorem aX12_wavesAs_12 : decode mX12_wavesAs.2.1 12 = .ok (.iconst 4, 1) ∧ 12 + 1 = 13 := ⟨by decide +kernel, rfl⟩
theorem aX12_wavesAs_13 : decode mX12_wavesAs.2.1 13 = .ok (.iload_n 2, 1) ∧ 13 + 1 = 14 := ⟨by decide +kernel, rfl⟩
theorem aX12_wavesAs_14 : decode mX12_wavesAs.2.1 14 = .ok (.invokevirtual 361, 3) ∧ 14 + 3 = 17 := ⟨by decide +kernel, rfl⟩
theorem aX12_wavesAs_17 : decode mX12_wavesAs.2.1 17 = .ok (.istore_n 3, 1) ∧ 17 + 1 = 18 := ⟨by decide +kernel, rfl⟩
theorem aX12_wavesAs_18 : decode mX12_wavesAs.2.1 18 = .ok (.aload_n 0, 1) ∧ 18 + 1 = 19 := ⟨by decide +kernel, rfl⟩
theorem aX12_wavesAs_19 : decode mX12_wavesAs.2.1 19 = .ok (.getfield 364, 3) ∧ 19 + 3 = 22 := ⟨by decide +kernel, rfl⟩
theorem aX12_wavesAs_22 : decode mX12_wavesAs.2.1 22 = .ok (.ifCond .eq 7, 3) ∧ ((22 : Nat) : Int) + 7 = ((29 : Nat) : Int) ∧ 22 + 3 = 25 := ⟨by decide +kernel, by decide, rfl⟩
theorem aX12_wavesAs_25 : decode mX12_wavesAs.2.1 25 = .ok (.iconst 0, 1) ∧ 25 + 1 = 26 := ⟨by decide +kernel, rfl⟩
theorem aX12_wavesAs_26 : decode mX12_wavesAs.2.1 26 = .ok (.goto 14, 3) ∧ ((26 : Nat) : Int) + 14 = ((40 : Nat) : Int) := ⟨by decide +kernel, by decide⟩
theorem aX12_wavesAs_29 : decode mX12_wavesAs.2.1 29 = .ok (.iload_n 3, 1) ∧ 29 + 1 = 30 := ⟨by decide +kernel, rfl⟩
theorem aX12_wavesAs_30 : decode mX12_wavesAs.2.1 30 = .ok (.aload_n 0, 1) ∧ 30 + 1 = 31 := ⟨by decide +kernel, rfl⟩
theorem aX12_wavesAs_31 : decode mX12_wavesAs.2.1 31 = .ok (.iconst 5, 1) ∧ 31 + 1 = 32 := ⟨by decide +kernel, rfl⟩
theorem aX12_wavesAs_32 : decode mX12_wavesAs.2.1 32 = .ok (.aload_n 0, 1) ∧ 32 + 1 = 33 := ⟨by decide +kernel, rfl⟩
theorem aX12_wavesAs_33 : decode mX12_wavesAs.2.1 33 = .ok (.getfield 355, 3) ∧ 33 + 3 = 36 := ⟨by decide +kernel, rfl⟩
theorem aX12_wavesAs_36 : decode mX12_wavesAs.2.1 36 = .ok (.invokevirtual 352, 3) ∧ 36 + 3 = 39 := ⟨by decide +kernel, rfl⟩
theorem aX12_wavesAs_39 : decode mX12_wavesAs.2.1 39 = .ok (.isub, 1) ∧ 39 + 1 = 40 := ⟨by decide +kernel, rfl⟩
theorem aX12_wavesAs_40 : decode mX12_wavesAs.2.1 40 = .ok (.ireturn, 1) := by decide +kernel
theorem aX12_wavesAs_41 : decode mX12_wavesAs.2.1 41 = .ok (.iload_n 1, 1) ∧ 41 + 1 = 42 := ⟨by decide +kernel, rfl⟩
theorem aX12_wavesAs_42 : decode mX12_wavesAs.2.1 42 = .ok (.iconst 4, 1) ∧ 42 + 1 = 43 := ⟨by decide +kernel, rfl⟩
theorem aX12_wavesAs_43 : decode mX12_wavesAs.2.1 43 = .ok (.if_icmp .ne 18, 3) ∧ ((43 : Nat) : Int) + 18 = ((61 : Nat) : Int) ∧ 43 + 3 = 46 := ⟨by decide +kernel, by decide, rfl⟩
theorem aX12_wavesAs_46 : decode mX12_wavesAs.2.1 46 = .ok (.aload_n 0, 1) ∧ 46 + 1 = 47 := ⟨by decide +kernel, rfl⟩
theorem aX12_wavesAs_47 : decode mX12_wavesAs.2.1 47 = .ok (.bipush 40, 2) ∧ 47 + 2 = 49 := ⟨by decide +kernel, rfl⟩
theorem aX12_wavesAs_49 : decode mX12_wavesAs.2.1 49 = .ok (.invokevirtual 349, 3) ∧ 49 + 3 = 52 := ⟨by decide +kernel, rfl⟩
theorem aX12_wavesAs_52 : decode mX12_wavesAs.2.1 52 = .ok (.aload_n 0, 1) ∧ 52 + 1 = 53 := ⟨by decide +kernel, rfl⟩
theorem aX12_wavesAs_53 : decode mX12_wavesAs.2.1 53 = .ok (.iconst 0, 1) ∧ 53 + 1 = 54 := ⟨by decide +kernel, rfl⟩
theorem aX12_wavesAs_54 : decode mX12_wavesAs.2.1 54 = .ok (.iload_n 2, 1) ∧ 54 + 1 = 55 := ⟨by decide +kernel, rfl⟩
theorem aX12_wavesAs_55 : decode mX12_wavesAs.2.1 55 = .ok (.invokevirtual 361, 3) ∧ 55 + 3 = 58 := ⟨by decide +kernel, rfl⟩
theorem aX12_wavesAs_58 : decode mX12_wavesAs.2.1 58 = .ok (.iconst 3, 1) ∧ 58 + 1 = 59 := ⟨by decide +kernel, rfl⟩
theorem aX12_wavesAs_59 : decode mX12_wavesAs.2.1 59 = .ok (.imul, 1) ∧ 59 + 1 = 60 := ⟨by decide +kernel, rfl⟩
theorem aX12_wavesAs_60 : decode mX12_wavesAs.2.1 60 = .ok (.ireturn, 1) := by decide +kernel
theorem aX12_wavesAs_61 : decode mX12_wavesAs.2.1 61 = .ok (.aload_n 0, 1) ∧ 61 + 1 = 62 := ⟨by decide +kernel, rfl⟩
theorem aX12_wavesAs_62 : decode mX12_wavesAs.2.1 62 = .ok (.bipush 12, 2) ∧ 62 + 2 = 64 := ⟨by decide +kernel, rfl⟩
theorem aX12_wavesAs_64 : decode mX12_wavesAs.2.1 64 = .ok (.invokevirtual 349, 3) ∧ 64 + 3 = 67 := ⟨by decide +kernel, rfl⟩
theorem aX12_wavesAs_67 : decode mX12_wavesAs.2.1 67 = .ok (.aload_n 0, 1) ∧ 67 + 1 = 68 := ⟨by decide +kernel, rfl⟩
theorem aX12_wavesAs_68 : decode mX12_wavesAs.2.1 68 = .ok (.getfield 355, 3) ∧ 68 + 3 = 71 := ⟨by decide +kernel, rfl⟩
theorem aX12_wavesAs_71 : decode mX12_wavesAs.2.1 71 = .ok (.iconst 2, 1) ∧ 71 + 1 = 72 := ⟨by decide +kernel, rfl⟩
theorem aX12_wavesAs_72 : decode mX12_wavesAs.2.1 72 = .ok (.aload_n 0, 1) ∧ 72 + 1 = 73 := ⟨by decide +kernel, rfl⟩
theorem aX12_wavesAs_73 : decode mX12_wavesAs.2.1 73 = .ok (.aload_n 0, 1) ∧ 73 + 1 = 74 := ⟨by decide +kernel, rfl⟩
theorem aX12_wavesAs_74 : decode mX12_wavesAs.2.1 74 = .ok (.getfield 355, 3) ∧ 74 + 3 = 77 := ⟨by decide +kernel, rfl⟩
theorem aX12_wavesAs_77 : decode mX12_wavesAs.2.1 77 = .ok (.iconst 3, 1) ∧ 77 + 1 = 78 := ⟨by decide +kernel, rfl⟩
theorem aX12_wavesAs_78 : decode mX12_wavesAs.2.1 78 = .ok (.invokevirtual 80, 3) ∧ 78 + 3 = 81 := ⟨by decide +kernel, rfl⟩
theorem aX12_wavesAs_81 : decode mX12_wavesAs.2.1 81 = .ok (.imul, 1) ∧ 81 + 1 = 82 := ⟨by decide +kernel, rfl⟩
theorem aX12_wavesAs_82 : decode mX12_wavesAs.2.1 82 = .ok (.isub, 1) ∧ 82 + 1 = 83 := ⟨by decide +kernel, rfl⟩
theorem aX12_wavesAs_83 : decode mX12_wavesAs.2.1 83 = .ok (.iconst 1, 1) ∧ 83 + 1 = 84 := ⟨by decide +kernel, rfl⟩
theorem aX12_wavesAs_84 : decode mX12_wavesAs.2.1 84 = .ok (.iadd, 1) ∧ 84 + 1 = 85 := ⟨by decide +kernel, rfl⟩
theorem aX12_wavesAs_85 : decode mX12_wavesAs.2.1 85 = .ok (.istore_n 3, 1) ∧ 85 + 1 = 86 := ⟨by decide +kernel, rfl⟩
theorem aX12_wavesAs_86 : decode mX12_wavesAs.2.1 86 = .ok (.aload_n 0, 1) ∧ 86 + 1 = 87 := ⟨by decide +kernel, rfl⟩
theorem aX12_wavesAs_87 : decode mX12_wavesAs.2.1 87 = .ok (.aload_n 0, 1) ∧ 87 + 1 = 88 := ⟨by decide +kernel, rfl⟩
theorem aX12_wavesAs_88 : decode mX12_wavesAs.2.1 88 = .ok (.getfield 364, 3) ∧ 88 + 3 = 91 := ⟨by decide +kernel, rfl⟩
theorem aX12_wavesAs_91 : decode mX12_wavesAs.2.1 91 = .ok (.ifCond .ne 7, 3) ∧ ((91 : Nat) : Int) + 7 = ((98 : Nat) : Int) ∧ 91 + 3 = 94 := ⟨by decide +kernel, by decide, rfl⟩
theorem aX12_wavesAs_94 : decode mX12_wavesAs.2.1 94 = .ok (.iload_n 3, 1) ∧ 94 + 1 = 95 := ⟨by decide +kernel, rfl⟩
theorem aX12_wavesAs_95 : decode mX12_wavesAs.2.1 95 = .ok (.ifCond .ne 7, 3) ∧ ((95 : Nat) : Int) + 7 = ((102 : Nat) : Int) ∧ 95 + 3 = 98 := ⟨by decide +kernel, by decide, rfl⟩
theorem aX12_wavesAs_98 : decode mX12_wavesAs.2.1 98 = .ok (.iconst 1, 1) ∧ 98 + 1 = 99 := ⟨by decide +kernel, rfl⟩
theorem aX12_wavesAs_99 : decode mX12_wavesAs.2.1 99 = .ok (.goto 4, 3) ∧ ((99 : Nat) : Int) + 4 = ((103 : Nat) : Int) := ⟨by decide +kernel, by decide⟩
theorem aX12_wavesAs_102 : decode mX12_wavesAs.2.1 102 = .ok (.iconst 0, 1) ∧ 102 + 1 = 103 := ⟨by decide +kernel, rfl⟩
theorem aX12_wavesAs_103 : decode mX12_wavesAs.2.1 103 = .ok (.putfield 364, 3) ∧ 103 + 3 = 106 := ⟨by decide +kernel, rfl⟩
theorem aX12_wavesAs_106 : decode mX12_wavesAs.2.1 106 = .ok (.aload_n 0, 1) ∧ 106 + 1 = 107 := ⟨by decide +kernel, rfl⟩
theorem aX12_wavesAs_107 : decode mX12_wavesAs.2.1 107 = .ok (.getfield 364, 3) ∧ 107 + 3 = 110 := ⟨by decide +kernel, rfl⟩
theorem aX12_wavesAs_110 : decode mX12_wavesAs.2.1 110 = .ok (.ifCond .eq 7, 3) ∧ ((110 : Nat) : Int) + 7 = ((117 : Nat) : Int) ∧ 110 + 3 = 113 := ⟨by decide +kernel, by decide, rfl⟩
theorem aX12_wavesAs_113 : decode mX12_wavesAs.2.1 113 = .ok (.iconst 0, 1) ∧ 113 + 1 = 114 := ⟨by decide +kernel, rfl⟩
theorem aX12_wavesAs_114 : decode mX12_wavesAs.2.1 114 = .ok (.goto 6, 3) ∧ ((114 : Nat) : Int) + 6 = ((120 : Nat) : Int) := ⟨by decide +kernel, by decide⟩
theorem aX12_wavesAs_117 : decode mX12_wavesAs.2.1 117 = .ok (.iload_n 2, 1) ∧ 117 + 1 = 118 := ⟨by decide +kernel, rfl⟩
theorem aX12_wavesAs_118 : decode mX12_wavesAs.2.1 118 = .ok (.iload_n 3, 1) ∧ 118 + 1 = 119 := ⟨by decide +kernel, rfl⟩
theorem aX12_wavesAs_119 : decode mX12_wavesAs.2.1 119 = .ok (.irem, 1) ∧ 119 + 1 = 120 := ⟨by decide +kernel, rfl⟩
theorem aX12_wavesAs_120 : decode mX12_wavesAs.2.1 120 = .ok (.ireturn, 1) := by decide +kernel
theorem S_X12_wavesAs {E : EE} {d : Nat} {I : IH} {Q : QT} (x1 : Int32) (x2 : Int32) (h :
((¬ x1 = (nI 5) → ((¬ x1 = (nI 4) → (Mt E d mX12_starts [.ref (eb E + 115), .int (nI 12)] I (fun rv I1 => rv = none ∧
 (Mt E d mX12_get [.ref (eb E + 115), .int (I1 115 36), .int (nI 3)] I1 (fun rv I2 => ∃ v3 : Int32, rv = some (.int v3) ∧
 ((¬ (I2 115 37) = 0 → (∀ I4 : IH, I4 = stI I2 115 37 (nI 1) →
 (((I4 115 37) = 0 → (¬ (((I1 115 36) - ((nI 2) * v3)) + (nI 1)) = 0 ∧ Q (some (.int (x2 - x2 / (((I1 115 36) - ((nI 2) * v3)) + (nI 1)) * (((I1 115 36) - ((nI 2) * v3)) + (nI 1))))) I4)) ∧
 (¬ (I4 115 37) = 0 → Q (some (.int (nI 0))) I4)))) ∧
 ((I2 115 37) = 0 → ((¬ (((I1 115 36) - ((nI 2) * v3)) + (nI 1)) = 0 → (∀ I7 : IH, I7 = stI I2 115 37 (nI 0) →
 (((I7 115 37) = 0 → (¬ (((I1 115 36) - ((nI 2) * v3)) + (nI 1)) = 0 ∧ Q (some (.int (x2 - x2 / (((I1 115 36) - ((nI 2) * v3)) + (nI 1)) * (((I1 115 36) - ((nI 2) * v3)) + (nI 1))))) I7)) ∧
 (¬ (I7 115 37) = 0 → Q (some (.int (nI 0))) I7)))) ∧
 ((((I1 115 36) - ((nI 2) * v3)) + (nI 1)) = 0 → (∀ I10 : IH, I10 = stI I2 115 37 (nI 1) →
 (((I10 115 37) = 0 → (¬ (((I1 115 36) - ((nI 2) * v3)) + (nI 1)) = 0 ∧ Q (some (.int (x2 - x2 / (((I1 115 36) - ((nI 2) * v3)) + (nI 1)) * (((I1 115 36) - ((nI 2) * v3)) + (nI 1))))) I10)) ∧
 (¬ (I10 115 37) = 0 → Q (some (.int (nI 0))) I10)))))))))))) ∧
 (x1 = (nI 4) → (Mt E d mX12_starts [.ref (eb E + 115), .int (nI 40)] I (fun rv I13 => rv = none ∧
 (Mt E d mX12_wavesAs [.ref (eb E + 115), .int (nI 0), .int x2] I13 (fun rv I14 => ∃ v15 : Int32, rv = some (.int v15) ∧
 Q (some (.int (v15 * (nI 3)))) I14))))))) ∧
 (x1 = (nI 5) → (Mt E d mX12_starts [.ref (eb E + 115), .int (nI 61)] I (fun rv I16 => rv = none ∧
 (Mt E d mX12_wavesAs [.ref (eb E + 115), .int (nI 4), .int x2] I16 (fun rv I17 => ∃ v18 : Int32, rv = some (.int v18) ∧
 (((I17 115 37) = 0 → (Mt E d mX12_glowsAs [.ref (eb E + 115), .int (nI 5), .int (I17 115 36)] I17 (fun rv I19 => ∃ v20 : Int32, rv = some (.int v20) ∧
 Q (some (.int (v18 - v20))) I19))) ∧
 (¬ (I17 115 37) = 0 → Q (some (.int (nI 0))) I17))))))))) : Mt E (d + 1) mX12_wavesAs [.ref (eb E + 115), .int x1, .int x2] I Q := by
  refine Mt_of [(0, .ref (eb E + 115)), (1, .int x1), (2, .int x2)] (by decide +kernel) (by simp [lg_sl, Value.category, mX12_wavesAs]) rfl ?_
  refine J_iload_n 1 aX12_wavesAs_0 rfl ?_
  refine J_iconst (nI 5) aX12_wavesAs_1 (by decide +kernel) ?_
  refine J_icmp_ne aX12_wavesAs_2 (fun q => ?_) (fun q => ?_)
  · replace h := h.1 q
    refine J_iload_n 1 aX12_wavesAs_41 rfl ?_
    refine J_iconst (nI 4) aX12_wavesAs_42 (by decide +kernel) ?_
    refine J_icmp_ne aX12_wavesAs_43 (fun q => ?_) (fun q => ?_)
    · replace h := h.1 q
      refine J_aload_n 0 aX12_wavesAs_61 rfl ?_
      refine J_bipush (nI 12) aX12_wavesAs_62 (by decide +kernel) ?_
      refine J_callV [.int (nI 12)] [] aX12_wavesAs_64 lkX12_349_X12 okX12_starts sh115 rfl rfl rfl (Nat.le_of_ble_eq_true rfl) (Nat.le_refl _) (Mt_mono h (fun rv I1 h => ?_))
      obtain ⟨rfl, h⟩ := h
      refine J_r0 ?_
      refine J_aload_n 0 aX12_wavesAs_67 rfl ?_
      refine J_getI aX12_wavesAs_68 flX12_355 sh115 rfl ?_
      refine J_iconst (nI 2) aX12_wavesAs_71 (by decide +kernel) ?_
      refine J_aload_n 0 aX12_wavesAs_72 rfl ?_
      refine J_aload_n 0 aX12_wavesAs_73 rfl ?_
      refine J_getI aX12_wavesAs_74 flX12_355 sh115 rfl ?_
      refine J_iconst (nI 3) aX12_wavesAs_77 (by decide +kernel) ?_
      refine J_callV [.int (I1 115 36), .int (nI 3)] [.int (nI 2), .int (I1 115 36)] aX12_wavesAs_78 lkX12_80_X12 okX12_get sh115 rfl rfl rfl (Nat.le_of_ble_eq_true rfl) (Nat.le_refl _) (Mt_mono h (fun rv I2 h => ?_))
      obtain ⟨v3, rfl, h⟩ := h
      refine J_r1 ?_
      refine J_imul aX12_wavesAs_81 ?_
      refine J_isub aX12_wavesAs_82 ?_
      refine J_iconst (nI 1) aX12_wavesAs_83 (by decide +kernel) ?_
      refine J_iadd aX12_wavesAs_84 ?_
      refine J_istore_n [(3, .int (((I1 115 36) - ((nI 2) * v3)) + (nI 1))), (0, .ref (eb E + 115)), (1, .int x1), (2, .int x2)] aX12_wavesAs_85 (by decide) rfl ?_
      refine J_aload_n 1 aX12_wavesAs_86 rfl ?_
      refine J_aload_n 1 aX12_wavesAs_87 rfl ?_
      refine J_getI aX12_wavesAs_88 flX12_364 sh115 rfl ?_
      refine J_if_ne aX12_wavesAs_91 (fun q => ?_) (fun q => ?_)
      · replace h := h.1 q
        refine J_iconst (nI 1) aX12_wavesAs_98 (by decide +kernel) ?_
        refine J_goto aX12_wavesAs_99 ?_
        refine J_putZ aX12_wavesAs_103 fpX12_364 sh115 rfl (by decide +kernel) (fun I4 e5 => ?_)
        replace h := h I4 e5
        refine J_aload_n 1 aX12_wavesAs_106 rfl ?_
        refine J_getI aX12_wavesAs_107 flX12_364 sh115 rfl ?_
        refine J_if_eq aX12_wavesAs_110 (fun q => ?_) (fun q => ?_)
        · replace h := h.1 q
          refine J_iload_n 3 aX12_wavesAs_117 rfl ?_
          refine J_iload_n 0 aX12_wavesAs_118 rfl ?_
          obtain ⟨n6, h⟩ := h
          refine J_irem aX12_wavesAs_119 n6 ?_
          exact J_iret aX12_wavesAs_120 rfl h
        · replace h := h.2 q
          refine J_iconst (nI 0) aX12_wavesAs_113 (by decide +kernel) ?_
          refine J_goto aX12_wavesAs_114 ?_
          exact J_iret aX12_wavesAs_120 rfl h
      · replace h := h.2 q
        refine J_iload_n 0 aX12_wavesAs_94 rfl ?_
        refine J_if_ne aX12_wavesAs_95 (fun q => ?_) (fun q => ?_)
        · replace h := h.1 q
          refine J_iconst (nI 0) aX12_wavesAs_102 (by decide +kernel) ?_
          refine J_putZ aX12_wavesAs_103 fpX12_364 sh115 rfl (by decide +kernel) (fun I7 e8 => ?_)
          replace h := h I7 e8
          refine J_aload_n 1 aX12_wavesAs_106 rfl ?_
          refine J_getI aX12_wavesAs_107 flX12_364 sh115 rfl ?_
          refine J_if_eq aX12_wavesAs_110 (fun q => ?_) (fun q => ?_)
          · replace h := h.1 q
            refine J_iload_n 3 aX12_wavesAs_117 rfl ?_
            refine J_iload_n 0 aX12_wavesAs_118 rfl ?_
            obtain ⟨n9, h⟩ := h
            refine J_irem aX12_wavesAs_119 n9 ?_
            exact J_iret aX12_wavesAs_120 rfl h
          · replace h := h.2 q
            refine J_iconst (nI 0) aX12_wavesAs_113 (by decide +kernel) ?_
            refine J_goto aX12_wavesAs_114 ?_
            exact J_iret aX12_wavesAs_120 rfl h
        · replace h := h.2 q
          refine J_iconst (nI 1) aX12_wavesAs_98 (by decide +kernel) ?_
          refine J_goto aX12_wavesAs_99 ?_
          refine J_putZ aX12_wavesAs_103 fpX12_364 sh115 rfl (by decide +kernel) (fun I10 e11 => ?_)
          replace h := h I10 e11
          refine J_aload_n 1 aX12_wavesAs_106 rfl ?_
          refine J_getI aX12_wavesAs_107 flX12_364 sh115 rfl ?_
          refine J_if_eq aX12_wavesAs_110 (fun q => ?_) (fun q => ?_)
          · replace h := h.1 q
            refine J_iload_n 3 aX12_wavesAs_117 rfl ?_
            refine J_iload_n 0 aX12_wavesAs_118 rfl ?_
            obtain ⟨n12, h⟩ := h
            refine J_irem aX12_wavesAs_119 n12 ?_
            exact J_iret aX12_wavesAs_120 rfl h
          · replace h := h.2 q
            refine J_iconst (nI 0) aX12_wavesAs_113 (by decide +kernel) ?_
            refine J_goto aX12_wavesAs_114 ?_
            exact J_iret aX12_wavesAs_120 rfl h
    · replace h := h.2 q
      refine J_aload_n 0 aX12_wavesAs_46 rfl ?_
      refine J_bipush (nI 40) aX12_wavesAs_47 (by decide +kernel) ?_
      refine J_callV [.int (nI 40)] [] aX12_wavesAs_49 lkX12_349_X12 okX12_starts sh115 rfl rfl rfl (Nat.le_of_ble_eq_true rfl) (Nat.le_refl _) (Mt_mono h (fun rv I13 h => ?_))
      obtain ⟨rfl, h⟩ := h
      refine J_r0 ?_
      refine J_aload_n 0 aX12_wavesAs_52 rfl ?_
      refine J_iconst (nI 0) aX12_wavesAs_53 (by decide +kernel) ?_
      refine J_iload_n 2 aX12_wavesAs_54 rfl ?_
      refine J_callV [.int (nI 0), .int x2] [] aX12_wavesAs_55 lkX12_361_X12 okX12_wavesAs sh115 rfl rfl rfl (Nat.le_of_ble_eq_true rfl) (Nat.le_refl _) (Mt_mono h (fun rv I14 h => ?_))
      obtain ⟨v15, rfl, h⟩ := h
      refine J_r1 ?_
      refine J_iconst (nI 3) aX12_wavesAs_58 (by decide +kernel) ?_
      refine J_imul aX12_wavesAs_59 ?_
      exact J_iret aX12_wavesAs_60 rfl h
  · replace h := h.2 q
    refine J_aload_n 0 aX12_wavesAs_5 rfl ?_
    refine J_bipush (nI 61) aX12_wavesAs_6 (by decide +kernel) ?_
    refine J_callV [.int (nI 61)] [] aX12_wavesAs_8 lkX12_349_X12 okX12_starts sh115 rfl rfl rfl (Nat.le_of_ble_eq_true rfl) (Nat.le_refl _) (Mt_mono h (fun rv I16 h => ?_))
    obtain ⟨rfl, h⟩ := h
    refine J_r0 ?_
    refine J_aload_n 0 aX12_wavesAs_11 rfl ?_
    refine J_iconst (nI 4) aX12_wavesAs_12 (by decide +kernel) ?_
    refine J_iload_n 2 aX12_wavesAs_13 rfl ?_
    refine J_callV [.int (nI 4), .int x2] [] aX12_wavesAs_14 lkX12_361_X12 okX12_wavesAs sh115 rfl rfl rfl (Nat.le_of_ble_eq_true rfl) (Nat.le_refl _) (Mt_mono h (fun rv I17 h => ?_))
    obtain ⟨v18, rfl, h⟩ := h
    refine J_r1 ?_
    refine J_istore_n [(3, .int v18), (0, .ref (eb E + 115)), (1, .int x1), (2, .int x2)] aX12_wavesAs_17 (by decide) rfl ?_
    refine J_aload_n 1 aX12_wavesAs_18 rfl ?_
    refine J_getI aX12_wavesAs_19 flX12_364 sh115 rfl ?_
    refine J_if_eq aX12_wavesAs_22 (fun q => ?_) (fun q => ?_)
    · replace h := h.1 q
      refine J_iload_n 0 aX12_wavesAs_29 rfl ?_
      refine J_aload_n 1 aX12_wavesAs_30 rfl ?_
      refine J_iconst (nI 5) aX12_wavesAs_31 (by decide +kernel) ?_
      refine J_aload_n 1 aX12_wavesAs_32 rfl ?_
      refine J_getI aX12_wavesAs_33 flX12_355 sh115 rfl ?_
      refine J_callV [.int (nI 5), .int (I17 115 36)] [.int v18] aX12_wavesAs_36 lkX12_352_X12 okX12_glowsAs sh115 rfl rfl rfl (Nat.le_of_ble_eq_true rfl) (Nat.le_refl _) (Mt_mono h (fun rv I19 h => ?_))
      obtain ⟨v20, rfl, h⟩ := h
      refine J_r1 ?_
      refine J_isub aX12_wavesAs_39 ?_
      exact J_iret aX12_wavesAs_40 rfl h
    · replace h := h.2 q
      refine J_iconst (nI 0) aX12_wavesAs_25 (by decide +kernel) ?_
      refine J_goto aX12_wavesAs_26 ?_
      exact J_iret aX12_wavesAs_40 rfl h
theorem aX12_begsAs_0 : decode mX12_begsAs.2.1 0 = .ok (.iload_n 1, 1) ∧ 0 + 1 = 1 := ⟨by decide +kernel, rfl⟩
theorem aX12_begsAs_1 : decode mX12_begsAs.2.1 1 = .ok (.iconst 3, 1) ∧ 1 + 1 = 2 := ⟨by decide +kernel, rfl⟩
theorem aX12_begsAs_2 : decode mX12_begsAs.2.1 2 = .ok (.if_icmp .ne 36, 3) ∧ ((2 : Nat) : Int) + 36 = ((38 : Nat) : Int) ∧ 2 + 3 = 5 := ⟨by decide +kernel, by decide, rfl⟩
theorem aX12_begsAs_5 : decode mX12_begsAs.2.1 5 = .ok (.aload_n 0, 1) ∧ 5 + 1 = 6 := ⟨by decide +kernel, rfl⟩
theorem aX12_begsAs_6 : decode mX12_begsAs.2.1 6 = .ok (.bipush 51, 2) ∧ 6 + 2 = 8 := ⟨by decide +kernel, rfl⟩
theorem aX12_begsAs_8 : decode mX12_begsAs.2.1 8 = .ok (.invokevirtual 349, 3) ∧ 8 + 3 = 11 := ⟨by decide +kernel, rfl⟩
theorem aX12_begsAs_11 : decode mX12_begsAs.2.1 11 = .ok (.aload_n 0, 1) ∧ 11 + 1 = 12 := ⟨by decide +kernel, rfl⟩
theorem aX12_begsAs_12 : decode mX12_begsAs.2.1 12 = .ok (.iconst 2, 1) ∧ 12 + 1 = 13 := ⟨by decide +kernel, rfl⟩
theorem aX12_begsAs_13 : decode mX12_begsAs.2.1 13 = .ok (.iload_n 2, 1) ∧ 13 + 1 = 14 := ⟨by decide +kernel, rfl⟩
theorem aX12_begsAs_14 : decode mX12_begsAs.2.1 14 = .ok (.invokevirtual 368, 3) ∧ 14 + 3 = 17 := ⟨by decide +kernel, rfl⟩
theorem aX12_begsAs_17 : decode mX12_begsAs.2.1 17 = .ok (.istore_n 3, 1) ∧ 17 + 1 = 18 := ⟨by decide +kernel, rfl⟩
theorem aX12_begsAs_18 : decode mX12_begsAs.2.1 18 = .ok (.aload_n 0, 1) ∧ 18 + 1 = 19 := ⟨by decide +kernel, rfl⟩
theorem aX12_begsAs_19 : decode mX12_begsAs.2.1 19 = .ok (.getfield 364, 3) ∧ 19 + 3 = 22 := ⟨by decide +kernel, rfl⟩
theorem aX12_begsAs_22 : decode mX12_begsAs.2.1 22 = .ok (.ifCond .eq 7, 3) ∧ ((22 : Nat) : Int) + 7 = ((29 : Nat) : Int) ∧ 22 + 3 = 25 := ⟨by decide +kernel, by decide, rfl⟩
theorem aX12_begsAs_25 : decode mX12_begsAs.2.1 25 = .ok (.iconst 0, 1) ∧ 25 + 1 = 26 := ⟨by decide +kernel, rfl⟩
theorem aX12_begsAs_26 : decode mX12_begsAs.2.1 26 = .ok (.goto 11, 3) ∧ ((26 : Nat) : Int) + 11 = ((37 : Nat) : Int) := ⟨by decide +kernel, by decide⟩
theorem aX12_begsAs_29 : decode mX12_begsAs.2.1 29 = .ok (.iload_n 3, 1) ∧ 29 + 1 = 30 := ⟨by decide +kernel, rfl⟩
theorem aX12_begsAs_30 : decode mX12_begsAs.2.1 30 = .ok (.aload_n 0, 1) ∧ 30 + 1 = 31 := ⟨by decide +kernel, rfl⟩
theorem aX12_begsAs_31 : decode mX12_begsAs.2.1 31 = .ok (.iconst 3, 1) ∧ 31 + 1 = 32 := ⟨by decide +kernel, rfl⟩
theorem aX12_begsAs_32 : decode mX12_begsAs.2.1 32 = .ok (.iconst 2, 1) ∧ 32 + 1 = 33 := ⟨by decide +kernel, rfl⟩
theorem aX12_begsAs_33 : decode mX12_begsAs.2.1 33 = .ok (.invokevirtual 358, 3) ∧ 33 + 3 = 36 := ⟨by decide +kernel, rfl⟩
theorem aX12_begsAs_36 : decode mX12_begsAs.2.1 36 = .ok (.ixor, 1) ∧ 36 + 1 = 37 := ⟨by decide +kernel, rfl⟩
theorem aX12_begsAs_37 : decode mX12_begsAs.2.1 37 = .ok (.ireturn, 1) := by decide +kernel
theorem aX12_begsAs_38 : decode mX12_begsAs.2.1 38 = .ok (.aload_n 0, 1) ∧ 38 + 1 = 39 := ⟨by decide +kernel, rfl⟩
theorem aX12_begsAs_39 : decode mX12_begsAs.2.1 39 = .ok (.bipush 13, 2) ∧ 39 + 2 = 41 := ⟨by decide +kernel, rfl⟩
theorem aX12_begsAs_41 : decode mX12_begsAs.2.1 41 = .ok (.invokevirtual 349, 3) ∧ 41 + 3 = 44 := ⟨by decide +kernel, rfl⟩
theorem aX12_begsAs_44 : decode mX12_begsAs.2.1 44 = .ok (.aload_n 0, 1) ∧ 44 + 1 = 45 := ⟨by decide +kernel, rfl⟩
theorem aX12_begsAs_45 : decode mX12_begsAs.2.1 45 = .ok (.aload_n 0, 1) ∧ 45 + 1 = 46 := ⟨by decide +kernel, rfl⟩
theorem aX12_begsAs_46 : decode mX12_begsAs.2.1 46 = .ok (.aload_n 0, 1) ∧ 46 + 1 = 47 := ⟨by decide +kernel, rfl⟩
theorem aX12_begsAs_47 : decode mX12_begsAs.2.1 47 = .ok (.getfield 355, 3) ∧ 47 + 3 = 50 := ⟨by decide +kernel, rfl⟩
theorem aX12_begsAs_50 : decode mX12_begsAs.2.1 50 = .ok (.iconst 0, 1) ∧ 50 + 1 = 51 := ⟨by decide +kernel, rfl⟩
theorem aX12_begsAs_51 : decode mX12_begsAs.2.1 51 = .ok (.invokevirtual 80, 3) ∧ 51 + 3 = 54 := ⟨by decide +kernel, rfl⟩
theorem aX12_begsAs_54 : decode mX12_begsAs.2.1 54 = .ok (.iload_n 2, 1) ∧ 54 + 1 = 55 := ⟨by decide +kernel, rfl⟩
theorem aX12_begsAs_55 : decode mX12_begsAs.2.1 55 = .ok (.invokevirtual 358, 3) ∧ 55 + 3 = 58 := ⟨by decide +kernel, rfl⟩
theorem aX12_begsAs_58 : decode mX12_begsAs.2.1 58 = .ok (.istore_n 3, 1) ∧ 58 + 1 = 59 := ⟨by decide +kernel, rfl⟩
theorem aX12_begsAs_59 : decode mX12_begsAs.2.1 59 = .ok (.iload_n 3, 1) ∧ 59 + 1 = 60 := ⟨by decide +kernel, rfl⟩
theorem aX12_begsAs_60 : decode mX12_begsAs.2.1 60 = .ok (.aload_n 0, 1) ∧ 60 + 1 = 61 := ⟨by decide +kernel, rfl⟩
theorem aX12_begsAs_61 : decode mX12_begsAs.2.1 61 = .ok (.aload_n 0, 1) ∧ 61 + 1 = 62 := ⟨by decide +kernel, rfl⟩
theorem aX12_begsAs_62 : decode mX12_begsAs.2.1 62 = .ok (.aload_n 0, 1) ∧ 62 + 1 = 63 := ⟨by decide +kernel, rfl⟩
theorem aX12_begsAs_63 : decode mX12_begsAs.2.1 63 = .ok (.getfield 355, 3) ∧ 63 + 3 = 66 := ⟨by decide +kernel, rfl⟩
theorem aX12_begsAs_66 : decode mX12_begsAs.2.1 66 = .ok (.iconst 0, 1) ∧ 66 + 1 = 67 := ⟨by decide +kernel, rfl⟩
theorem aX12_begsAs_67 : decode mX12_begsAs.2.1 67 = .ok (.invokevirtual 80, 3) ∧ 67 + 3 = 70 := ⟨by decide +kernel, rfl⟩
theorem aX12_begsAs_70 : decode mX12_begsAs.2.1 70 = .ok (.iload_n 2, 1) ∧ 70 + 1 = 71 := ⟨by decide +kernel, rfl⟩
theorem aX12_begsAs_71 : decode mX12_begsAs.2.1 71 = .ok (.invokevirtual 361, 3) ∧ 71 + 3 = 74 := ⟨by decide +kernel, rfl⟩
theorem aX12_begsAs_74 : decode mX12_begsAs.2.1 74 = .ok (.isub, 1) ∧ 74 + 1 = 75 := ⟨by decide +kernel, rfl⟩
theorem aX12_begsAs_75 : decode mX12_begsAs.2.1 75 = .ok (.ireturn, 1) := by decide +kernel
theorem S_X12_begsAs {E : EE} {d : Nat} {I : IH} {Q : QT} (x1 : Int32) (x2 : Int32) (h :
((¬ x1 = (nI 3) → (Mt E d mX12_starts [.ref (eb E + 115), .int (nI 13)] I (fun rv I1 => rv = none ∧
 (Mt E d mX12_get [.ref (eb E + 115), .int (I1 115 36), .int (nI 0)] I1 (fun rv I2 => ∃ v3 : Int32, rv = some (.int v3) ∧
 (Mt E d mX12_smokesAs [.ref (eb E + 115), .int v3, .int x2] I2 (fun rv I4 => ∃ v5 : Int32, rv = some (.int v5) ∧
 (Mt E d mX12_get [.ref (eb E + 115), .int (I4 115 36), .int (nI 0)] I4 (fun rv I6 => ∃ v7 : Int32, rv = some (.int v7) ∧
 (Mt E d mX12_wavesAs [.ref (eb E + 115), .int v7, .int x2] I6 (fun rv I8 => ∃ v9 : Int32, rv = some (.int v9) ∧
 Q (some (.int (v5 - v9))) I8))))))))))) ∧
 (x1 = (nI 3) → (Mt E d mX12_starts [.ref (eb E + 115), .int (nI 51)] I (fun rv I10 => rv = none ∧
 (Mt E d mX12_begsAs [.ref (eb E + 115), .int (nI 2), .int x2] I10 (fun rv I11 => ∃ v12 : Int32, rv = some (.int v12) ∧
 (((I11 115 37) = 0 → (Mt E d mX12_smokesAs [.ref (eb E + 115), .int (nI 3), .int (nI 2)] I11 (fun rv I13 => ∃ v14 : Int32, rv = some (.int v14) ∧
 Q (some (.int (v12 ^^^ v14))) I13))) ∧
 (¬ (I11 115 37) = 0 → Q (some (.int (nI 0))) I11))))))))) : Mt E (d + 1) mX12_begsAs [.ref (eb E + 115), .int x1, .int x2] I Q := by
  refine Mt_of [(0, .ref (eb E + 115)), (1, .int x1), (2, .int x2)] (by decide +kernel) (by simp [lg_sl, Value.category, mX12_begsAs]) rfl ?_
  refine J_iload_n 1 aX12_begsAs_0 rfl ?_
  refine J_iconst (nI 3) aX12_begsAs_1 (by decide +kernel) ?_
  refine J_icmp_ne aX12_begsAs_2 (fun q => ?_) (fun q => ?_)
  · replace h := h.1 q
    refine J_aload_n 0 aX12_begsAs_38 rfl ?_
    refine J_bipush (nI 13) aX12_begsAs_39 (by decide +kernel) ?_
    refine J_callV [.int (nI 13)] [] aX12_begsAs_41 lkX12_349_X12 okX12_starts sh115 rfl rfl rfl (Nat.le_of_ble_eq_true rfl) (Nat.le_refl _) (Mt_mono h (fun rv I1 h => ?_))
    obtain ⟨rfl, h⟩ := h
    refine J_r0 ?_
    refine J_aload_n 0 aX12_begsAs_44 rfl ?_
    refine J_aload_n 0 aX12_begsAs_45 rfl ?_
    refine J_aload_n 0 aX12_begsAs_46 rfl ?_
    refine J_getI aX12_begsAs_47 flX12_355 sh115 rfl ?_
    refine J_iconst (nI 0) aX12_begsAs_50 (by decide +kernel) ?_
    refine J_callV [.int (I1 115 36), .int (nI 0)] [.ref (eb E + 115)] aX12_begsAs_51 lkX12_80_X12 okX12_get sh115 rfl rfl rfl (Nat.le_of_ble_eq_true rfl) (Nat.le_refl _) (Mt_mono h (fun rv I2 h => ?_))
    obtain ⟨v3, rfl, h⟩ := h
    refine J_r1 ?_
    refine J_iload_n 2 aX12_begsAs_54 rfl ?_
    refine J_callV [.int v3, .int x2] [] aX12_begsAs_55 lkX12_358_X12 okX12_smokesAs sh115 rfl rfl rfl (Nat.le_of_ble_eq_true rfl) (Nat.le_refl _) (Mt_mono h (fun rv I4 h => ?_))
    obtain ⟨v5, rfl, h⟩ := h
    refine J_r1 ?_
    refine J_istore_n [(3, .int v5), (0, .ref (eb E + 115)), (1, .int x1), (2, .int x2)] aX12_begsAs_58 (by decide) rfl ?_
    refine J_iload_n 0 aX12_begsAs_59 rfl ?_
    refine J_aload_n 1 aX12_begsAs_60 rfl ?_
    refine J_aload_n 1 aX12_begsAs_61 rfl ?_
    refine J_aload_n 1 aX12_begsAs_62 rfl ?_
    refine J_getI aX12_begsAs_63 flX12_355 sh115 rfl ?_
    refine J_iconst (nI 0) aX12_begsAs_66 (by decide +kernel) ?_
    refine J_callV [.int (I4 115 36), .int (nI 0)] [.ref (eb E + 115), .int v5] aX12_begsAs_67 lkX12_80_X12 okX12_get sh115 rfl rfl rfl (Nat.le_of_ble_eq_true rfl) (Nat.le_refl _) (Mt_mono h (fun rv I6 h => ?_))
    obtain ⟨v7, rfl, h⟩ := h
    refine J_r1 ?_
    refine J_iload_n 3 aX12_begsAs_70 rfl ?_
    refine J_callV [.int v7, .int x2] [.int v5] aX12_begsAs_71 lkX12_361_X12 okX12_wavesAs sh115 rfl rfl rfl (Nat.le_of_ble_eq_true rfl) (Nat.le_refl _) (Mt_mono h (fun rv I8 h => ?_))
    obtain ⟨v9, rfl, h⟩ := h
    refine J_r1 ?_
    refine J_isub aX12_begsAs_74 ?_
    exact J_iret aX12_begsAs_75 rfl h
  · replace h := h.2 q
    refine J_aload_n 0 aX12_begsAs_5 rfl ?_
    refine J_bipush (nI 51) aX12_begsAs_6 (by decide +kernel) ?_
    refine J_callV [.int (nI 51)] [] aX12_begsAs_8 lkX12_349_X12 okX12_starts sh115 rfl rfl rfl (Nat.le_of_ble_eq_true rfl) (Nat.le_refl _) (Mt_mono h (fun rv I10 h => ?_))
    obtain ⟨rfl, h⟩ := h
    refine J_r0 ?_
    refine J_aload_n 0 aX12_begsAs_11 rfl ?_
    refine J_iconst (nI 2) aX12_begsAs_12 (by decide +kernel) ?_
    refine J_iload_n 2 aX12_begsAs_13 rfl ?_
    refine J_callV [.int (nI 2), .int x2] [] aX12_begsAs_14 lkX12_368_X12 okX12_begsAs sh115 rfl rfl rfl (Nat.le_of_ble_eq_true rfl) (Nat.le_refl _) (Mt_mono h (fun rv I11 h => ?_))
    obtain ⟨v12, rfl, h⟩ := h
    refine J_r1 ?_
    refine J_istore_n [(3, .int v12), (0, .ref (eb E + 115)), (1, .int x1), (2, .int x2)] aX12_begsAs_17 (by decide) rfl ?_
    refine J_aload_n 1 aX12_begsAs_18 rfl ?_
    refine J_getI aX12_begsAs_19 flX12_364 sh115 rfl ?_
    refine J_if_eq aX12_begsAs_22 (fun q => ?_) (fun q => ?_)
    · replace h := h.1 q
      refine J_iload_n 0 aX12_begsAs_29 rfl ?_
      refine J_aload_n 1 aX12_begsAs_30 rfl ?_
      refine J_iconst (nI 3) aX12_begsAs_31 (by decide +kernel) ?_
      refine J_iconst (nI 2) aX12_begsAs_32 (by decide +kernel) ?_
      refine J_callV [.int (nI 3), .int (nI 2)] [.int v12] aX12_begsAs_33 lkX12_358_X12 okX12_smokesAs sh115 rfl rfl rfl (Nat.le_of_ble_eq_true rfl) (Nat.le_refl _) (Mt_mono h (fun rv I13 h => ?_))
      obtain ⟨v14, rfl, h⟩ := h
      refine J_r1 ?_
      refine J_ixor aX12_begsAs_36 ?_
      exact J_iret aX12_begsAs_37 rfl h
    · replace h := h.2 q
      refine J_iconst (nI 0) aX12_begsAs_25 (by decide +kernel) ?_
      refine J_goto aX12_begsAs_26 ?_
      exact J_iret aX12_begsAs_37 rfl h
theorem aX12_act_0 : decode mX12_act.2.1 0 = .ok (.aload_n 0, 1) ∧ 0 + 1 = 1 := ⟨by decide +kernel, rfl⟩
theorem aX12_act_1 : decode mX12_act.2.1 1 = .ok (.iconst 0, 1) ∧ 1 + 1 = 2 := ⟨by decide +kernel, rfl⟩
theorem aX12_act_2 : decode mX12_act.2.1 2 = .ok (.putfield 346, 3) ∧ 2 + 3 = 5 := ⟨by decide +kernel, rfl⟩
theorem aX12_act_5 : decode mX12_act.2.1 5 = .ok (.iload_n 1, 1) ∧ 5 + 1 = 6 := ⟨by decide +kernel, rfl⟩
theorem aX12_act_6 : decode mX12_act.2.1 6 = .ok (.invokestatic 331, 3) ∧ 6 + 3 = 9 := ⟨by decide +kernel, rfl⟩
theorem aX12_act_9 : decode mX12_act.2.1 9 = .ok (.ifCond .eq 20, 3) ∧ ((9 : Nat) : Int) + 20 = ((29 : Nat) : Int) ∧ 9 + 3 = 12 := ⟨by decide +kernel, by decide, rfl⟩
theorem aX12_act_12 : decode mX12_act.2.1 12 = .ok (.iload_n 2, 1) ∧ 12 + 1 = 13 := ⟨by decide +kernel, rfl⟩
theorem aX12_act_13 : decode mX12_act.2.1 13 = .ok (.iconst 0, 1) ∧ 13 + 1 = 14 := ⟨by decide +kernel, rfl⟩
theorem aX12_act_14 : decode mX12_act.2.1 14 = .ok (.iconst 3, 1) ∧ 14 + 1 = 15 := ⟨by decide +kernel, rfl⟩
theorem aX12_act_15 : decode mX12_act.2.1 15 = .ok (.invokestatic 68, 3) ∧ 15 + 3 = 18 := ⟨by decide +kernel, rfl⟩
theorem aX12_act_18 : decode mX12_act.2.1 18 = .ok (.ifCond .eq 11, 3) ∧ ((18 : Nat) : Int) + 11 = ((29 : Nat) : Int) ∧ 18 + 3 = 21 := ⟨by decide +kernel, by decide, rfl⟩
theorem aX12_act_21 : decode mX12_act.2.1 21 = .ok (.aload_n 0, 1) ∧ 21 + 1 = 22 := ⟨by decide +kernel, rfl⟩
theorem aX12_act_22 : decode mX12_act.2.1 22 = .ok (.iload_n 1, 1) ∧ 22 + 1 = 23 := ⟨by decide +kernel, rfl⟩
theorem aX12_act_23 : decode mX12_act.2.1 23 = .ok (.invokevirtual 343, 3) ∧ 23 + 3 = 26 := ⟨by decide +kernel, rfl⟩
theorem aX12_act_26 : decode mX12_act.2.1 26 = .ok (.ifCond .eq 5, 3) ∧ ((26 : Nat) : Int) + 5 = ((31 : Nat) : Int) ∧ 26 + 3 = 29 := ⟨by decide +kernel, by decide, rfl⟩
theorem aX12_act_29 : decode mX12_act.2.1 29 = .ok (.iconst 0, 1) ∧ 29 + 1 = 30 := ⟨by decide +kernel, rfl⟩
theorem aX12_act_30 : decode mX12_act.2.1 30 = .ok (.ireturn, 1) := by decide +kernel
theorem aX12_act_31 : decode mX12_act.2.1 31 = .ok (.aload_n 0, 1) ∧ 31 + 1 = 32 := ⟨by decide +kernel, rfl⟩
theorem aX12_act_32 : decode mX12_act.2.1 32 = .ok (.aload_n 0, 1) ∧ 32 + 1 = 33 := ⟨by decide +kernel, rfl⟩
theorem aX12_act_33 : decode mX12_act.2.1 33 = .ok (.getfield 62, 3) ∧ 33 + 3 = 36 := ⟨by decide +kernel, rfl⟩
theorem aX12_act_36 : decode mX12_act.2.1 36 = .ok (.iload_n 1, 1) ∧ 36 + 1 = 37 := ⟨by decide +kernel, rfl⟩
theorem aX12_act_37 : decode mX12_act.2.1 37 = .ok (.iaload, 1) ∧ 37 + 1 = 38 := ⟨by decide +kernel, rfl⟩
theorem aX12_act_38 : decode mX12_act.2.1 38 = .ok (.putfield 355, 3) ∧ 38 + 3 = 41 := ⟨by decide +kernel, rfl⟩
theorem aX12_act_41 : decode mX12_act.2.1 41 = .ok (.aload_n 0, 1) ∧ 41 + 1 = 42 := ⟨by decide +kernel, rfl⟩
theorem aX12_act_42 : decode mX12_act.2.1 42 = .ok (.iconst 0, 1) ∧ 42 + 1 = 43 := ⟨by decide +kernel, rfl⟩
theorem aX12_act_43 : decode mX12_act.2.1 43 = .ok (.putfield 364, 3) ∧ 43 + 3 = 46 := ⟨by decide +kernel, rfl⟩
theorem aX12_act_46 : decode mX12_act.2.1 46 = .ok (.aload_n 0, 1) ∧ 46 + 1 = 47 := ⟨by decide +kernel, rfl⟩
theorem aX12_act_47 : decode mX12_act.2.1 47 = .ok (.aload_n 0, 1) ∧ 47 + 1 = 48 := ⟨by decide +kernel, rfl⟩
theorem aX12_act_48 : decode mX12_act.2.1 48 = .ok (.getfield 355, 3) ∧ 48 + 3 = 51 := ⟨by decide +kernel, rfl⟩
theorem aX12_act_51 : decode mX12_act.2.1 51 = .ok (.iconst 0, 1) ∧ 51 + 1 = 52 := ⟨by decide +kernel, rfl⟩
theorem aX12_act_52 : decode mX12_act.2.1 52 = .ok (.invokevirtual 80, 3) ∧ 52 + 3 = 55 := ⟨by decide +kernel, rfl⟩
theorem aX12_act_55 : decode mX12_act.2.1 55 = .ok (.istore 4, 2) ∧ 55 + 2 = 57 := ⟨by decide +kernel, rfl⟩
theorem aX12_act_57 : decode mX12_act.2.1 57 = .ok (.iload_n 2, 1) ∧ 57 + 1 = 58 := ⟨by decide +kernel, rfl⟩
theorem aX12_act_58 : decode mX12_act.2.1 58 = .ok (.ifCond .ne 13, 3) ∧ ((58 : Nat) : Int) + 13 = ((71 : Nat) : Int) ∧ 58 + 3 = 61 := ⟨by decide +kernel, by decide, rfl⟩
theorem aX12_act_61 : decode mX12_act.2.1 61 = .ok (.aload_n 0, 1) ∧ 61 + 1 = 62 := ⟨by decide +kernel, rfl⟩
theorem aX12_act_62 : decode mX12_act.2.1 62 = .ok (.iload 4, 2) ∧ 62 + 2 = 64 := ⟨by decide +kernel, rfl⟩
theorem aX12_act_64 : decode mX12_act.2.1 64 = .ok (.iload_n 3, 1) ∧ 64 + 1 = 65 := ⟨by decide +kernel, rfl⟩
theorem aX12_act_65 : decode mX12_act.2.1 65 = .ok (.invokevirtual 352, 3) ∧ 65 + 3 = 68 := ⟨by decide +kernel, rfl⟩
theorem aX12_act_68 : decode mX12_act.2.1 68 = .ok (.goto 40, 3) ∧ ((68 : Nat) : Int) + 40 = ((108 : Nat) : Int) := ⟨by decide +kernel, by decide⟩
theorem aX12_act_71 : decode mX12_act.2.1 71 = .ok (.iload_n 2, 1) ∧ 71 + 1 = 72 := ⟨by decide +kernel, rfl⟩
theorem aX12_act_72 : decode mX12_act.2.1 72 = .ok (.iconst 1, 1) ∧ 72 + 1 = 73 := ⟨by decide +kernel, rfl⟩
theorem aX12_act_73 : decode mX12_act.2.1 73 = .ok (.if_icmp .ne 13, 3) ∧ ((73 : Nat) : Int) + 13 = ((86 : Nat) : Int) ∧ 73 + 3 = 76 := ⟨by decide +kernel, by decide, rfl⟩
theorem aX12_act_76 : decode mX12_act.2.1 76 = .ok (.aload_n 0, 1) ∧ 76 + 1 = 77 := ⟨by decide +kernel, rfl⟩
theorem aX12_act_77 : decode mX12_act.2.1 77 = .ok (.iload 4, 2) ∧ 77 + 2 = 79 := ⟨by decide +kernel, rfl⟩
theorem aX12_act_79 : decode mX12_act.2.1 79 = .ok (.iload_n 3, 1) ∧ 79 + 1 = 80 := ⟨by decide +kernel, rfl⟩
theorem aX12_act_80 : decode mX12_act.2.1 80 = .ok (.invokevirtual 358, 3) ∧ 80 + 3 = 83 := ⟨by decide +kernel, rfl⟩
theorem aX12_act_83 : decode mX12_act.2.1 83 = .ok (.goto 25, 3) ∧ ((83 : Nat) : Int) + 25 = ((108 : Nat) : Int) := ⟨by decide +kernel, by decide⟩
theorem aX12_act_86 : decode mX12_act.2.1 86 = .ok (.iload_n 2, 1) ∧ 86 + 1 = 87 := ⟨by decide +kernel, rfl⟩
theorem aX12_act_87 : decode mX12_act.2.1 87 = .ok (.iconst 2, 1) ∧ 87 + 1 = 88 := ⟨by decide +kernel, rfl⟩
theorem aX12_act_88 : decode mX12_act.2.1 88 = .ok (.if_icmp .ne 13, 3) ∧ ((88 : Nat) : Int) + 13 = ((101 : Nat) : Int) ∧ 88 + 3 = 91 := ⟨by decide +kernel, by decide, rfl⟩
theorem aX12_act_91 : decode mX12_act.2.1 91 = .ok (.aload_n 0, 1) ∧ 91 + 1 = 92 := ⟨by decide +kernel, rfl⟩
theorem aX12_act_92 : decode mX12_act.2.1 92 = .ok (.iload 4, 2) ∧ 92 + 2 = 94 := ⟨by decide +kernel, rfl⟩
theorem aX12_act_94 : decode mX12_act.2.1 94 = .ok (.iload_n 3, 1) ∧ 94 + 1 = 95 := ⟨by decide +kernel, rfl⟩
theorem aX12_act_95 : decode mX12_act.2.1 95 = .ok (.invokevirtual 361, 3) ∧ 95 + 3 = 98 := ⟨by decide +kernel, rfl⟩
theorem aX12_act_98 : decode mX12_act.2.1 98 = .ok (.goto 10, 3) ∧ ((98 : Nat) : Int) + 10 = ((108 : Nat) : Int) := ⟨by decide +kernel, by decide⟩
theorem aX12_act_101 : decode mX12_act.2.1 101 = .ok (.aload_n 0, 1) ∧ 101 + 1 = 102 := ⟨by decide +kernel, rfl⟩
theorem aX12_act_102 : decode mX12_act.2.1 102 = .ok (.iload 4, 2) ∧ 102 + 2 = 104 := ⟨by decide +kernel, rfl⟩
theorem aX12_act_104 : decode mX12_act.2.1 104 = .ok (.iload_n 3, 1) ∧ 104 + 1 = 105 := ⟨by decide +kernel, rfl⟩
theorem aX12_act_105 : decode mX12_act.2.1 105 = .ok (.invokevirtual 368, 3) ∧ 105 + 3 = 108 := ⟨by decide +kernel, rfl⟩
theorem aX12_act_108 : decode mX12_act.2.1 108 = .ok (.istore 5, 2) ∧ 108 + 2 = 110 := ⟨by decide +kernel, rfl⟩
theorem aX12_act_110 : decode mX12_act.2.1 110 = .ok (.aload_n 0, 1) ∧ 110 + 1 = 111 := ⟨by decide +kernel, rfl⟩
theorem aX12_act_111 : decode mX12_act.2.1 111 = .ok (.getfield 364, 3) ∧ 111 + 3 = 114 := ⟨by decide +kernel, rfl⟩
theorem aX12_act_114 : decode mX12_act.2.1 114 = .ok (.ifCond .eq 8, 3) ∧ ((114 : Nat) : Int) + 8 = ((122 : Nat) : Int) ∧ 114 + 3 = 117 := ⟨by decide +kernel, by decide, rfl⟩
theorem aX12_act_117 : decode mX12_act.2.1 117 = .ok (.bipush (-15), 2) ∧ 117 + 2 = 119 := ⟨by decide +kernel, rfl⟩
theorem aX12_act_119 : decode mX12_act.2.1 119 = .ok (.goto 5, 3) ∧ ((119 : Nat) : Int) + 5 = ((124 : Nat) : Int) := ⟨by decide +kernel, by decide⟩
theorem aX12_act_122 : decode mX12_act.2.1 122 = .ok (.iload 5, 2) ∧ 122 + 2 = 124 := ⟨by decide +kernel, rfl⟩
theorem aX12_act_124 : decode mX12_act.2.1 124 = .ok (.ireturn, 1) := by decide +kernel
theorem S_X12_act {E : EE} {d : Nat} {I : IH} {Q : QT} (x1 : Int32) (x2 : Int32) (x3 : Int32) (h :
(∀ I1 : IH, I1 = stI I 115 35 (nI 0) →
 (Mt E d mX12_isSheet [.int x1] I1 (fun rv I3 => ∃ v4 : Int32, rv = some (.int v4) ∧
 ((v4 = 0 → Q (some (.int (nI 0))) I3) ∧
 (¬ v4 = 0 → (Mt E d mX12_in1 [.int x2, .int (nI 0), .int (nI 3)] I3 (fun rv I5 => ∃ v6 : Int32, rv = some (.int v6) ∧
 ((v6 = 0 → Q (some (.int (nI 0))) I5) ∧
 (¬ v6 = 0 → (Mt E d mX12_heldOn [.ref (eb E + 115), .int x1] I5 (fun rv I7 => ∃ v8 : Int32, rv = some (.int v8) ∧
 ((v8 = 0 → (∃ j9 : Nat, x1 = nI j9 ∧ j9 < 4 ∧ (∀ I12 : IH, I12 = stI I7 115 36 (I7 133 j9) →
 (∀ I14 : IH, I14 = stI I12 115 37 (nI 0) →
 (Mt E d mX12_get [.ref (eb E + 115), .int (I14 115 36), .int (nI 0)] I14 (fun rv I16 => ∃ v17 : Int32, rv = some (.int v17) ∧
 ((¬ x2 = 0 → ((¬ x2 = (nI 1) → ((¬ x2 = (nI 2) → (Mt E d mX12_begsAs [.ref (eb E + 115), .int v17, .int x3] I16 (fun rv I18 => ∃ v19 : Int32, rv = some (.int v19) ∧
 (((I18 115 37) = 0 → Q (some (.int v19)) I18) ∧
 (¬ (I18 115 37) = 0 → Q (some (.int (-15))) I18))))) ∧
 (x2 = (nI 2) → (Mt E d mX12_wavesAs [.ref (eb E + 115), .int v17, .int x3] I16 (fun rv I20 => ∃ v21 : Int32, rv = some (.int v21) ∧
 (((I20 115 37) = 0 → Q (some (.int v21)) I20) ∧
 (¬ (I20 115 37) = 0 → Q (some (.int (-15))) I20))))))) ∧
 (x2 = (nI 1) → (Mt E d mX12_smokesAs [.ref (eb E + 115), .int v17, .int x3] I16 (fun rv I22 => ∃ v23 : Int32, rv = some (.int v23) ∧
 (((I22 115 37) = 0 → Q (some (.int v23)) I22) ∧
 (¬ (I22 115 37) = 0 → Q (some (.int (-15))) I22))))))) ∧
 (x2 = 0 → (Mt E d mX12_glowsAs [.ref (eb E + 115), .int v17, .int x3] I16 (fun rv I24 => ∃ v25 : Int32, rv = some (.int v25) ∧
 (((I24 115 37) = 0 → Q (some (.int v25)) I24) ∧
 (¬ (I24 115 37) = 0 → Q (some (.int (-15))) I24)))))))))))) ∧
 (¬ v8 = 0 → Q (some (.int (nI 0))) I7)))))))))))))) : Mt E (d + 1) mX12_act [.ref (eb E + 115), .int x1, .int x2, .int x3] I Q := by
  refine Mt_of [(0, .ref (eb E + 115)), (1, .int x1), (2, .int x2), (3, .int x3)] (by decide +kernel) (by simp [lg_sl, Value.category, mX12_act]) rfl ?_
  refine J_aload_n 0 aX12_act_0 rfl ?_
  refine J_iconst (nI 0) aX12_act_1 (by decide +kernel) ?_
  refine J_putI aX12_act_2 fpX12_346 sh115 rfl (fun I1 e2 => ?_)
  replace h := h I1 e2
  refine J_iload_n 1 aX12_act_5 rfl ?_
  refine J_callS [.int x1] [] aX12_act_6 lkX12_331 okX12_isSheet rfl rfl (Nat.le_of_ble_eq_true rfl) (Nat.le_refl _) (Mt_mono h (fun rv I3 h => ?_))
  obtain ⟨v4, rfl, h⟩ := h
  refine J_r1 ?_
  refine J_if_eq aX12_act_9 (fun q => ?_) (fun q => ?_)
  · replace h := h.1 q
    refine J_iconst (nI 0) aX12_act_29 (by decide +kernel) ?_
    exact J_iret aX12_act_30 rfl h
  · replace h := h.2 q
    refine J_iload_n 2 aX12_act_12 rfl ?_
    refine J_iconst (nI 0) aX12_act_13 (by decide +kernel) ?_
    refine J_iconst (nI 3) aX12_act_14 (by decide +kernel) ?_
    refine J_callS [.int x2, .int (nI 0), .int (nI 3)] [] aX12_act_15 lkX12_68 okX12_in1 rfl rfl (Nat.le_of_ble_eq_true rfl) (Nat.le_refl _) (Mt_mono h (fun rv I5 h => ?_))
    obtain ⟨v6, rfl, h⟩ := h
    refine J_r1 ?_
    refine J_if_eq aX12_act_18 (fun q => ?_) (fun q => ?_)
    · replace h := h.1 q
      refine J_iconst (nI 0) aX12_act_29 (by decide +kernel) ?_
      exact J_iret aX12_act_30 rfl h
    · replace h := h.2 q
      refine J_aload_n 0 aX12_act_21 rfl ?_
      refine J_iload_n 1 aX12_act_22 rfl ?_
      refine J_callV [.int x1] [] aX12_act_23 lkX12_343_X12 okX12_heldOn sh115 rfl rfl rfl (Nat.le_of_ble_eq_true rfl) (Nat.le_refl _) (Mt_mono h (fun rv I7 h => ?_))
      obtain ⟨v8, rfl, h⟩ := h
      refine J_r1 ?_
      refine J_if_eq aX12_act_26 (fun q => ?_) (fun q => ?_)
      · replace h := h.1 q
        refine J_aload_n 0 aX12_act_31 rfl ?_
        refine J_aload_n 0 aX12_act_32 rfl ?_
        refine J_getR aX12_act_33 flX12_62 sh115 rfl ?_
        refine J_iload_n 1 aX12_act_36 rfl ?_
        obtain ⟨j9, e10, b11, h⟩ := h
        refine J_iaload j9 aX12_act_37 sh133 e10 b11 (by decide) ?_
        refine J_putI aX12_act_38 fpX12_355 sh115 rfl (fun I12 e13 => ?_)
        replace h := h I12 e13
        refine J_aload_n 0 aX12_act_41 rfl ?_
        refine J_iconst (nI 0) aX12_act_42 (by decide +kernel) ?_
        refine J_putZ aX12_act_43 fpX12_364 sh115 rfl (by decide +kernel) (fun I14 e15 => ?_)
        replace h := h I14 e15
        refine J_aload_n 0 aX12_act_46 rfl ?_
        refine J_aload_n 0 aX12_act_47 rfl ?_
        refine J_getI aX12_act_48 flX12_355 sh115 rfl ?_
        refine J_iconst (nI 0) aX12_act_51 (by decide +kernel) ?_
        refine J_callV [.int (I14 115 36), .int (nI 0)] [] aX12_act_52 lkX12_80_X12 okX12_get sh115 rfl rfl rfl (Nat.le_of_ble_eq_true rfl) (Nat.le_refl _) (Mt_mono h (fun rv I16 h => ?_))
        obtain ⟨v17, rfl, h⟩ := h
        refine J_r1 ?_
        refine J_istore [(4, .int v17), (0, .ref (eb E + 115)), (1, .int x1), (2, .int x2), (3, .int x3)] aX12_act_55 (by decide) rfl ?_
        refine J_iload_n 3 aX12_act_57 rfl ?_
        refine J_if_ne aX12_act_58 (fun q => ?_) (fun q => ?_)
        · replace h := h.1 q
          refine J_iload_n 3 aX12_act_71 rfl ?_
          refine J_iconst (nI 1) aX12_act_72 (by decide +kernel) ?_
          refine J_icmp_ne aX12_act_73 (fun q => ?_) (fun q => ?_)
          · replace h := h.1 q
            refine J_iload_n 3 aX12_act_86 rfl ?_
            refine J_iconst (nI 2) aX12_act_87 (by decide +kernel) ?_
            refine J_icmp_ne aX12_act_88 (fun q => ?_) (fun q => ?_)
            · replace h := h.1 q
              refine J_aload_n 1 aX12_act_101 rfl ?_
              refine J_iload 0 aX12_act_102 rfl ?_
              refine J_iload_n 4 aX12_act_104 rfl ?_
              refine J_callV [.int v17, .int x3] [] aX12_act_105 lkX12_368_X12 okX12_begsAs sh115 rfl rfl rfl (Nat.le_of_ble_eq_true rfl) (Nat.le_refl _) (Mt_mono h (fun rv I18 h => ?_))
              obtain ⟨v19, rfl, h⟩ := h
              refine J_r1 ?_
              refine J_istore [(5, .int v19), (4, .int v17), (0, .ref (eb E + 115)), (1, .int x1), (2, .int x2), (3, .int x3)] aX12_act_108 (by decide) rfl ?_
              refine J_aload_n 2 aX12_act_110 rfl ?_
              refine J_getI aX12_act_111 flX12_364 sh115 rfl ?_
              refine J_if_eq aX12_act_114 (fun q => ?_) (fun q => ?_)
              · replace h := h.1 q
                refine J_iload 0 aX12_act_122 rfl ?_
                exact J_iret aX12_act_124 rfl h
              · replace h := h.2 q
                refine J_bipush (-15) aX12_act_117 (by decide +kernel) ?_
                refine J_goto aX12_act_119 ?_
                exact J_iret aX12_act_124 rfl h
            · replace h := h.2 q
              refine J_aload_n 1 aX12_act_91 rfl ?_
              refine J_iload 0 aX12_act_92 rfl ?_
              refine J_iload_n 4 aX12_act_94 rfl ?_
              refine J_callV [.int v17, .int x3] [] aX12_act_95 lkX12_361_X12 okX12_wavesAs sh115 rfl rfl rfl (Nat.le_of_ble_eq_true rfl) (Nat.le_refl _) (Mt_mono h (fun rv I20 h => ?_))
              obtain ⟨v21, rfl, h⟩ := h
              refine J_r1 ?_
              refine J_goto aX12_act_98 ?_
              refine J_istore [(5, .int v21), (4, .int v17), (0, .ref (eb E + 115)), (1, .int x1), (2, .int x2), (3, .int x3)] aX12_act_108 (by decide) rfl ?_
              refine J_aload_n 2 aX12_act_110 rfl ?_
              refine J_getI aX12_act_111 flX12_364 sh115 rfl ?_
              refine J_if_eq aX12_act_114 (fun q => ?_) (fun q => ?_)
              · replace h := h.1 q
                refine J_iload 0 aX12_act_122 rfl ?_
                exact J_iret aX12_act_124 rfl h
              · replace h := h.2 q
                refine J_bipush (-15) aX12_act_117 (by decide +kernel) ?_
                refine J_goto aX12_act_119 ?_
                exact J_iret aX12_act_124 rfl h
          · replace h := h.2 q
            refine J_aload_n 1 aX12_act_76 rfl ?_
            refine J_iload 0 aX12_act_77 rfl ?_
            refine J_iload_n 4 aX12_act_79 rfl ?_
            refine J_callV [.int v17, .int x3] [] aX12_act_80 lkX12_358_X12 okX12_smokesAs sh115 rfl rfl rfl (Nat.le_of_ble_eq_true rfl) (Nat.le_refl _) (Mt_mono h (fun rv I22 h => ?_))
            obtain ⟨v23, rfl, h⟩ := h
            refine J_r1 ?_
            refine J_goto aX12_act_83 ?_
            refine J_istore [(5, .int v23), (4, .int v17), (0, .ref (eb E + 115)), (1, .int x1), (2, .int x2), (3, .int x3)] aX12_act_108 (by decide) rfl ?_
            refine J_aload_n 2 aX12_act_110 rfl ?_
            refine J_getI aX12_act_111 flX12_364 sh115 rfl ?_
            refine J_if_eq aX12_act_114 (fun q => ?_) (fun q => ?_)
            · replace h := h.1 q
              refine J_iload 0 aX12_act_122 rfl ?_
              exact J_iret aX12_act_124 rfl h
            · replace h := h.2 q
              refine J_bipush (-15) aX12_act_117 (by decide +kernel) ?_
              refine J_goto aX12_act_119 ?_
              exact J_iret aX12_act_124 rfl h
        · replace h := h.2 q
          refine J_aload_n 1 aX12_act_61 rfl ?_
          refine J_iload 0 aX12_act_62 rfl ?_
          refine J_iload_n 4 aX12_act_64 rfl ?_
          refine J_callV [.int v17, .int x3] [] aX12_act_65 lkX12_352_X12 okX12_glowsAs sh115 rfl rfl rfl (Nat.le_of_ble_eq_true rfl) (Nat.le_refl _) (Mt_mono h (fun rv I24 h => ?_))
          obtain ⟨v25, rfl, h⟩ := h
          refine J_r1 ?_
          refine J_goto aX12_act_68 ?_
          refine J_istore [(5, .int v25), (4, .int v17), (0, .ref (eb E + 115)), (1, .int x1), (2, .int x2), (3, .int x3)] aX12_act_108 (by decide) rfl ?_
          refine J_aload_n 2 aX12_act_110 rfl ?_
          refine J_getI aX12_act_111 flX12_364 sh115 rfl ?_
          refine J_if_eq aX12_act_114 (fun q => ?_) (fun q => ?_)
          · replace h := h.1 q
            refine J_iload 0 aX12_act_122 rfl ?_
            exact J_iret aX12_act_124 rfl h
          · replace h := h.2 q
            refine J_bipush (-15) aX12_act_117 (by decide +kernel) ?_
            refine J_goto aX12_act_119 ?_
            exact J_iret aX12_act_124 rfl h
      · replace h := h.2 q
        refine J_iconst (nI 0) aX12_act_29 (by decide +kernel) ?_
        exact J_iret aX12_act_30 rfl h
theorem aX12_trace_0 : decode mX12_trace.2.1 0 = .ok (.iload_n 1, 1) ∧ 0 + 1 = 1 := ⟨by decide +kernel, rfl⟩
theorem aX12_trace_1 : decode mX12_trace.2.1 1 = .ok (.iconst 0, 1) ∧ 1 + 1 = 2 := ⟨by decide +kernel, rfl⟩
theorem aX12_trace_2 : decode mX12_trace.2.1 2 = .ok (.aload_n 0, 1) ∧ 2 + 1 = 3 := ⟨by decide +kernel, rfl⟩
theorem aX12_trace_3 : decode mX12_trace.2.1 3 = .ok (.getfield 346, 3) ∧ 3 + 3 = 6 := ⟨by decide +kernel, rfl⟩
theorem aX12_trace_6 : decode mX12_trace.2.1 6 = .ok (.iconst 1, 1) ∧ 6 + 1 = 7 := ⟨by decide +kernel, rfl⟩
theorem aX12_trace_7 : decode mX12_trace.2.1 7 = .ok (.isub, 1) ∧ 7 + 1 = 8 := ⟨by decide +kernel, rfl⟩
theorem aX12_trace_8 : decode mX12_trace.2.1 8 = .ok (.invokestatic 68, 3) ∧ 8 + 3 = 11 := ⟨by decide +kernel, rfl⟩
theorem aX12_trace_11 : decode mX12_trace.2.1 11 = .ok (.ifCond .eq 12, 3) ∧ ((11 : Nat) : Int) + 12 = ((23 : Nat) : Int) ∧ 11 + 3 = 14 := ⟨by decide +kernel, by decide, rfl⟩
theorem aX12_trace_14 : decode mX12_trace.2.1 14 = .ok (.aload_n 0, 1) ∧ 14 + 1 = 15 := ⟨by decide +kernel, rfl⟩
theorem aX12_trace_15 : decode mX12_trace.2.1 15 = .ok (.getfield 65, 3) ∧ 15 + 3 = 18 := ⟨by decide +kernel, rfl⟩
theorem aX12_trace_18 : decode mX12_trace.2.1 18 = .ok (.iload_n 1, 1) ∧ 18 + 1 = 19 := ⟨by decide +kernel, rfl⟩
theorem aX12_trace_19 : decode mX12_trace.2.1 19 = .ok (.iaload, 1) ∧ 19 + 1 = 20 := ⟨by decide +kernel, rfl⟩
theorem aX12_trace_20 : decode mX12_trace.2.1 20 = .ok (.goto 5, 3) ∧ ((20 : Nat) : Int) + 5 = ((25 : Nat) : Int) := ⟨by decide +kernel, by decide⟩
theorem aX12_trace_23 : decode mX12_trace.2.1 23 = .ok (.bipush (-3), 2) ∧ 23 + 2 = 25 := ⟨by decide +kernel, rfl⟩
theorem aX12_trace_25 : decode mX12_trace.2.1 25 = .ok (.ireturn, 1) := by decide +kernel
theorem S_X12_trace {E : EE} {d : Nat} {I : IH} {Q : QT} (x1 : Int32) (h :
(Mt E d mX12_in1 [.int x1, .int (nI 0), .int ((I 115 35) - (nI 1))] I (fun rv I1 => ∃ v2 : Int32, rv = some (.int v2) ∧
 ((v2 = 0 → Q (some (.int (-3))) I1) ∧
 (¬ v2 = 0 → (∃ j3 : Nat, x1 = nI j3 ∧ j3 < 30 ∧ Q (some (.int (I1 134 j3))) I1)))))) : Mt E (d + 1) mX12_trace [.ref (eb E + 115), .int x1] I Q := by
  refine Mt_of [(0, .ref (eb E + 115)), (1, .int x1)] (by decide +kernel) (by simp [lg_sl, Value.category, mX12_trace]) rfl ?_
  refine J_iload_n 1 aX12_trace_0 rfl ?_
  refine J_iconst (nI 0) aX12_trace_1 (by decide +kernel) ?_
  refine J_aload_n 0 aX12_trace_2 rfl ?_
  refine J_getI aX12_trace_3 flX12_346 sh115 rfl ?_
  refine J_iconst (nI 1) aX12_trace_6 (by decide +kernel) ?_
  refine J_isub aX12_trace_7 ?_
  refine J_callS [.int x1, .int (nI 0), .int ((I 115 35) - (nI 1))] [] aX12_trace_8 lkX12_68 okX12_in1 rfl rfl (Nat.le_of_ble_eq_true rfl) (Nat.le_refl _) (Mt_mono h (fun rv I1 h => ?_))
  obtain ⟨v2, rfl, h⟩ := h
  refine J_r1 ?_
  refine J_if_eq aX12_trace_11 (fun q => ?_) (fun q => ?_)
  · replace h := h.1 q
    refine J_bipush (-3) aX12_trace_23 (by decide +kernel) ?_
    exact J_iret aX12_trace_25 rfl h
  · replace h := h.2 q
    refine J_aload_n 0 aX12_trace_14 rfl ?_
    refine J_getR aX12_trace_15 flX12_65 sh115 rfl ?_
    refine J_iload_n 1 aX12_trace_18 rfl ?_
    obtain ⟨j3, e4, b5, h⟩ := h
    refine J_iaload j3 aX12_trace_19 sh134 e4 b5 (by decide) ?_
    refine J_goto aX12_trace_20 ?_
    exact J_iret aX12_trace_25 rfl h
theorem aX12_many_0 : decode mX12_many.2.1 0 = .ok (.iload_n 1, 1) ∧ 0 + 1 = 1 := ⟨by decide +kernel, rfl⟩
theorem aX12_many_1 : decode mX12_many.2.1 1 = .ok (.tableswitch 91 0 6 #[43, 51, 59, 68, 76, 81, 86], 43) := by decide +kernel
theorem aX12_many_44 : decode mX12_many.2.1 44 = .ok (.aload_n 0, 1) ∧ 44 + 1 = 45 := ⟨by decide +kernel, rfl⟩
theorem aX12_many_45 : decode mX12_many.2.1 45 = .ok (.getfield 9, 3) ∧ 45 + 3 = 48 := ⟨by decide +kernel, rfl⟩
theorem aX12_many_48 : decode mX12_many.2.1 48 = .ok (.bipush 6, 2) ∧ 48 + 2 = 50 := ⟨by decide +kernel, rfl⟩
theorem aX12_many_50 : decode mX12_many.2.1 50 = .ok (.iaload, 1) ∧ 50 + 1 = 51 := ⟨by decide +kernel, rfl⟩
theorem aX12_many_51 : decode mX12_many.2.1 51 = .ok (.ireturn, 1) := by decide +kernel
theorem aX12_many_52 : decode mX12_many.2.1 52 = .ok (.aload_n 0, 1) ∧ 52 + 1 = 53 := ⟨by decide +kernel, rfl⟩
theorem aX12_many_53 : decode mX12_many.2.1 53 = .ok (.getfield 9, 3) ∧ 53 + 3 = 56 := ⟨by decide +kernel, rfl⟩
theorem aX12_many_56 : decode mX12_many.2.1 56 = .ok (.bipush 7, 2) ∧ 56 + 2 = 58 := ⟨by decide +kernel, rfl⟩
theorem aX12_many_58 : decode mX12_many.2.1 58 = .ok (.iaload, 1) ∧ 58 + 1 = 59 := ⟨by decide +kernel, rfl⟩
theorem aX12_many_59 : decode mX12_many.2.1 59 = .ok (.ireturn, 1) := by decide +kernel
theorem aX12_many_60 : decode mX12_many.2.1 60 = .ok (.aload_n 0, 1) ∧ 60 + 1 = 61 := ⟨by decide +kernel, rfl⟩
theorem aX12_many_61 : decode mX12_many.2.1 61 = .ok (.iconst 4, 1) ∧ 61 + 1 = 62 := ⟨by decide +kernel, rfl⟩
theorem aX12_many_62 : decode mX12_many.2.1 62 = .ok (.invokevirtual 231, 3) ∧ 62 + 3 = 65 := ⟨by decide +kernel, rfl⟩
theorem aX12_many_65 : decode mX12_many.2.1 65 = .ok (.invokestatic 83, 3) ∧ 65 + 3 = 68 := ⟨by decide +kernel, rfl⟩
theorem aX12_many_68 : decode mX12_many.2.1 68 = .ok (.ireturn, 1) := by decide +kernel
theorem aX12_many_69 : decode mX12_many.2.1 69 = .ok (.aload_n 0, 1) ∧ 69 + 1 = 70 := ⟨by decide +kernel, rfl⟩
theorem aX12_many_70 : decode mX12_many.2.1 70 = .ok (.getfield 9, 3) ∧ 70 + 3 = 73 := ⟨by decide +kernel, rfl⟩
theorem aX12_many_73 : decode mX12_many.2.1 73 = .ok (.bipush 8, 2) ∧ 73 + 2 = 75 := ⟨by decide +kernel, rfl⟩
theorem aX12_many_75 : decode mX12_many.2.1 75 = .ok (.iaload, 1) ∧ 75 + 1 = 76 := ⟨by decide +kernel, rfl⟩
theorem aX12_many_76 : decode mX12_many.2.1 76 = .ok (.ireturn, 1) := by decide +kernel
theorem aX12_many_77 : decode mX12_many.2.1 77 = .ok (.aload_n 0, 1) ∧ 77 + 1 = 78 := ⟨by decide +kernel, rfl⟩
theorem aX12_many_78 : decode mX12_many.2.1 78 = .ok (.getfield 322, 3) ∧ 78 + 3 = 81 := ⟨by decide +kernel, rfl⟩
theorem aX12_many_81 : decode mX12_many.2.1 81 = .ok (.ireturn, 1) := by decide +kernel
theorem aX12_many_82 : decode mX12_many.2.1 82 = .ok (.aload_n 0, 1) ∧ 82 + 1 = 83 := ⟨by decide +kernel, rfl⟩
theorem aX12_many_83 : decode mX12_many.2.1 83 = .ok (.getfield 120, 3) ∧ 83 + 3 = 86 := ⟨by decide +kernel, rfl⟩
theorem aX12_many_86 : decode mX12_many.2.1 86 = .ok (.ireturn, 1) := by decide +kernel
theorem aX12_many_87 : decode mX12_many.2.1 87 = .ok (.aload_n 0, 1) ∧ 87 + 1 = 88 := ⟨by decide +kernel, rfl⟩
theorem aX12_many_88 : decode mX12_many.2.1 88 = .ok (.getfield 346, 3) ∧ 88 + 3 = 91 := ⟨by decide +kernel, rfl⟩
theorem aX12_many_91 : decode mX12_many.2.1 91 = .ok (.ireturn, 1) := by decide +kernel
theorem aX12_many_92 : decode mX12_many.2.1 92 = .ok (.iconst (-1), 1) ∧ 92 + 1 = 93 := ⟨by decide +kernel, rfl⟩
theorem aX12_many_93 : decode mX12_many.2.1 93 = .ok (.ireturn, 1) := by decide +kernel
theorem S_X12_many {E : EE} {d : Nat} {I : IH} {Q : QT} (x1 : Int32) (h :
((x1 = (nI 0) → Q (some (.int (I 116 6))) I) ∧
 ((x1 = (nI 1) → Q (some (.int (I 116 7))) I) ∧
 ((x1 = (nI 2) → (Mt E d mX12_those [.ref (eb E + 115), .int (nI 4)] I (fun rv I1 => ∃ v2 : Int32, rv = some (.int v2) ∧
 (Mt E d mX12_ones [.int v2] I1 (fun rv I3 => ∃ v4 : Int32, rv = some (.int v4) ∧
 Q (some (.int v4)) I3))))) ∧
 ((x1 = (nI 3) → Q (some (.int (I 116 8))) I) ∧
 ((x1 = (nI 4) → Q (some (.int (I 115 28))) I) ∧
 ((x1 = (nI 5) → Q (some (.int (I 115 6))) I) ∧
 ((x1 = (nI 6) → Q (some (.int (I 115 35))) I) ∧
 (¬ x1 = (nI 0) ∧ ¬ x1 = (nI 1) ∧ ¬ x1 = (nI 2) ∧ ¬ x1 = (nI 3) ∧ ¬ x1 = (nI 4) ∧ ¬ x1 = (nI 5) ∧ ¬ x1 = (nI 6) → Q (some (.int (-1))) I))))))))) : Mt E (d + 1) mX12_many [.ref (eb E + 115), .int x1] I Q := by
  refine Mt_of [(0, .ref (eb E + 115)), (1, .int x1)] (by decide +kernel) (by simp [lg_sl, Value.category, mX12_many]) rfl ?_
  refine J_iload_n 1 aX12_many_0 rfl ?_
  by_cases q0 : x1 = (nI 0)
  · replace h := h.1 q0
    refine J_tswIn (nI 0) aX12_many_1 (off := 43) (tgt := 44) (by decide +kernel) q0 ?_
    refine J_aload_n 0 aX12_many_44 rfl ?_
    refine J_getR aX12_many_45 flX12_9 sh115 rfl ?_
    refine J_bipush (nI 6) aX12_many_48 (by decide +kernel) ?_
    refine J_iaload 6 aX12_many_50 sh116 rfl (by decide) (by decide) ?_
    exact J_iret aX12_many_51 rfl h
  replace h := h.2
  by_cases q1 : x1 = (nI 1)
  · replace h := h.1 q1
    refine J_tswIn (nI 1) aX12_many_1 (off := 51) (tgt := 52) (by decide +kernel) q1 ?_
    refine J_aload_n 0 aX12_many_52 rfl ?_
    refine J_getR aX12_many_53 flX12_9 sh115 rfl ?_
    refine J_bipush (nI 7) aX12_many_56 (by decide +kernel) ?_
    refine J_iaload 7 aX12_many_58 sh116 rfl (by decide) (by decide) ?_
    exact J_iret aX12_many_59 rfl h
  replace h := h.2
  by_cases q2 : x1 = (nI 2)
  · replace h := h.1 q2
    refine J_tswIn (nI 2) aX12_many_1 (off := 59) (tgt := 60) (by decide +kernel) q2 ?_
    refine J_aload_n 0 aX12_many_60 rfl ?_
    refine J_iconst (nI 4) aX12_many_61 (by decide +kernel) ?_
    refine J_callV [.int (nI 4)] [] aX12_many_62 lkX12_231_X12 okX12_those sh115 rfl rfl rfl (Nat.le_of_ble_eq_true rfl) (Nat.le_refl _) (Mt_mono h (fun rv I1 h => ?_))
    obtain ⟨v2, rfl, h⟩ := h
    refine J_r1 ?_
    refine J_callS [.int v2] [] aX12_many_65 lkX12_83 okX12_ones rfl rfl (Nat.le_of_ble_eq_true rfl) (Nat.le_refl _) (Mt_mono h (fun rv I3 h => ?_))
    obtain ⟨v4, rfl, h⟩ := h
    refine J_r1 ?_
    exact J_iret aX12_many_68 rfl h
  replace h := h.2
  by_cases q3 : x1 = (nI 3)
  · replace h := h.1 q3
    refine J_tswIn (nI 3) aX12_many_1 (off := 68) (tgt := 69) (by decide +kernel) q3 ?_
    refine J_aload_n 0 aX12_many_69 rfl ?_
    refine J_getR aX12_many_70 flX12_9 sh115 rfl ?_
    refine J_bipush (nI 8) aX12_many_73 (by decide +kernel) ?_
    refine J_iaload 8 aX12_many_75 sh116 rfl (by decide) (by decide) ?_
    exact J_iret aX12_many_76 rfl h
  replace h := h.2
  by_cases q4 : x1 = (nI 4)
  · replace h := h.1 q4
    refine J_tswIn (nI 4) aX12_many_1 (off := 76) (tgt := 77) (by decide +kernel) q4 ?_
    refine J_aload_n 0 aX12_many_77 rfl ?_
    refine J_getI aX12_many_78 flX12_322 sh115 rfl ?_
    exact J_iret aX12_many_81 rfl h
  replace h := h.2
  by_cases q5 : x1 = (nI 5)
  · replace h := h.1 q5
    refine J_tswIn (nI 5) aX12_many_1 (off := 81) (tgt := 82) (by decide +kernel) q5 ?_
    refine J_aload_n 0 aX12_many_82 rfl ?_
    refine J_getI aX12_many_83 flX12_120 sh115 rfl ?_
    exact J_iret aX12_many_86 rfl h
  replace h := h.2
  by_cases q6 : x1 = (nI 6)
  · replace h := h.1 q6
    refine J_tswIn (nI 6) aX12_many_1 (off := 86) (tgt := 87) (by decide +kernel) q6 ?_
    refine J_aload_n 0 aX12_many_87 rfl ?_
    refine J_getI aX12_many_88 flX12_346 sh115 rfl ?_
    exact J_iret aX12_many_91 rfl h
  replace h := h.2
  replace h := h ⟨q0, q1, q2, q3, q4, q5, q6⟩
  refine J_tswOut aX12_many_1 (tgt := 92) (by decide) (tsw_out (fun k h1 h2 hk => by
    have hh : k = 0 ∨ k = 1 ∨ k = 2 ∨ k = 3 ∨ k = 4 ∨ k = 5 ∨ k = 6 := by omega
    rcases hh with rfl | rfl | rfl | rfl | rfl | rfl | rfl
    · exact q0 (Int32.toInt_inj.mp (hk.trans (by decide +kernel)))
    · exact q1 (Int32.toInt_inj.mp (hk.trans (by decide +kernel)))
    · exact q2 (Int32.toInt_inj.mp (hk.trans (by decide +kernel)))
    · exact q3 (Int32.toInt_inj.mp (hk.trans (by decide +kernel)))
    · exact q4 (Int32.toInt_inj.mp (hk.trans (by decide +kernel)))
    · exact q5 (Int32.toInt_inj.mp (hk.trans (by decide +kernel)))
    · exact q6 (Int32.toInt_inj.mp (hk.trans (by decide +kernel)))
    )) ?_
  refine J_iconst (-1) aX12_many_92 (by decide +kernel) ?_
  exact J_iret aX12_many_93 rfl h
theorem aX12_keep_0 : decode mX12_keep.2.1 0 = .ok (.iconst 0, 1) ∧ 0 + 1 = 1 := ⟨by decide +kernel, rfl⟩
theorem aX12_keep_1 : decode mX12_keep.2.1 1 = .ok (.istore_n 1, 1) ∧ 1 + 1 = 2 := ⟨by decide +kernel, rfl⟩
theorem aX12_keep_2 : decode mX12_keep.2.1 2 = .ok (.iload_n 1, 1) ∧ 2 + 1 = 3 := ⟨by decide +kernel, rfl⟩
theorem aX12_keep_3 : decode mX12_keep.2.1 3 = .ok (.sipush 322, 3) ∧ 3 + 3 = 6 := ⟨by decide +kernel, rfl⟩
theorem aX12_keep_6 : decode mX12_keep.2.1 6 = .ok (.if_icmp .ge 21, 3) ∧ ((6 : Nat) : Int) + 21 = ((27 : Nat) : Int) ∧ 6 + 3 = 9 := ⟨by decide +kernel, by decide, rfl⟩
theorem aX12_keep_9 : decode mX12_keep.2.1 9 = .ok (.aload_n 0, 1) ∧ 9 + 1 = 10 := ⟨by decide +kernel, rfl⟩
theorem aX12_keep_10 : decode mX12_keep.2.1 10 = .ok (.getfield 13, 3) ∧ 10 + 3 = 13 := ⟨by decide +kernel, rfl⟩
theorem aX12_keep_13 : decode mX12_keep.2.1 13 = .ok (.iload_n 1, 1) ∧ 13 + 1 = 14 := ⟨by decide +kernel, rfl⟩
theorem aX12_keep_14 : decode mX12_keep.2.1 14 = .ok (.aload_n 0, 1) ∧ 14 + 1 = 15 := ⟨by decide +kernel, rfl⟩
theorem aX12_keep_15 : decode mX12_keep.2.1 15 = .ok (.getfield 9, 3) ∧ 15 + 3 = 18 := ⟨by decide +kernel, rfl⟩
theorem aX12_keep_18 : decode mX12_keep.2.1 18 = .ok (.iload_n 1, 1) ∧ 18 + 1 = 19 := ⟨by decide +kernel, rfl⟩
theorem aX12_keep_19 : decode mX12_keep.2.1 19 = .ok (.iaload, 1) ∧ 19 + 1 = 20 := ⟨by decide +kernel, rfl⟩
theorem aX12_keep_20 : decode mX12_keep.2.1 20 = .ok (.iastore, 1) ∧ 20 + 1 = 21 := ⟨by decide +kernel, rfl⟩
theorem aX12_keep_21 : decode mX12_keep.2.1 21 = .ok (.iinc 1 1, 3) ∧ 21 + 3 = 24 := ⟨by decide +kernel, rfl⟩
theorem aX12_keep_24 : decode mX12_keep.2.1 24 = .ok (.goto (-22), 3) ∧ ((24 : Nat) : Int) + (-22) = ((2 : Nat) : Int) := ⟨by decide +kernel, by decide⟩
theorem aX12_keep_27 : decode mX12_keep.2.1 27 = .ok (.aload_n 0, 1) ∧ 27 + 1 = 28 := ⟨by decide +kernel, rfl⟩
theorem aX12_keep_28 : decode mX12_keep.2.1 28 = .ok (.iconst 1, 1) ∧ 28 + 1 = 29 := ⟨by decide +kernel, rfl⟩
theorem aX12_keep_29 : decode mX12_keep.2.1 29 = .ok (.putfield 371, 3) ∧ 29 + 3 = 32 := ⟨by decide +kernel, rfl⟩
theorem aX12_keep_32 : decode mX12_keep.2.1 32 = .ok (.iconst 1, 1) ∧ 32 + 1 = 33 := ⟨by decide +kernel, rfl⟩
theorem aX12_keep_33 : decode mX12_keep.2.1 33 = .ok (.ireturn, 1) := by decide +kernel
theorem S_X12_keep {E : EE} {d : Nat} {I : IH} {Q : QT}  (h :
J E d mX12_keep 2 [(0, .ref (eb E + 115)), (1, .int (nI 0))] [] I Q) : Mt E d mX12_keep [.ref (eb E + 115)] I Q := by
  refine Mt_of [(0, .ref (eb E + 115))] (by decide +kernel) (by simp [lg_sl, Value.category, mX12_keep]) rfl ?_
  refine J_iconst (nI 0) aX12_keep_0 (by decide +kernel) ?_
  refine J_istore_n [(1, .int (nI 0)), (0, .ref (eb E + 115))] aX12_keep_1 (by decide) rfl ?_
  refine J_pick [1, 0] rfl ?_
  exact h
theorem S_X12_keep_2 {E : EE} {d : Nat} {I : IH} {Q : QT} (x1 : Int32) (h :
(((nI 322) ≤ x1 → (∀ I1 : IH, I1 = stI I 115 3 (nI 1) →
 Q (some (.int (nI 1))) I1)) ∧
 (¬ (nI 322) ≤ x1 → (∃ j3 : Nat, x1 = nI j3 ∧ j3 < 322 ∧ (∃ j8 : Nat, x1 = nI j8 ∧ j8 < 322 ∧ (∀ I6 : IH, I6 = stI I 117 j8 (I 116 j3) →
 J E d mX12_keep 2 [(0, .ref (eb E + 115)), (1, .int (x1 + nI 1))] [] I6 Q)))))) : J E d mX12_keep 2 [(0, .ref (eb E + 115)), (1, .int x1)] [] I Q := by
  refine J_iload_n 1 aX12_keep_2 rfl ?_
  refine J_sipush (nI 322) aX12_keep_3 (by decide +kernel) ?_
  refine J_icmp_ge aX12_keep_6 (fun q => ?_) (fun q => ?_)
  · replace h := h.1 q
    refine J_aload_n 0 aX12_keep_27 rfl ?_
    refine J_iconst (nI 1) aX12_keep_28 (by decide +kernel) ?_
    refine J_putZ aX12_keep_29 fpX12_371 sh115 rfl (by decide +kernel) (fun I1 e2 => ?_)
    replace h := h I1 e2
    refine J_iconst (nI 1) aX12_keep_32 (by decide +kernel) ?_
    exact J_iret aX12_keep_33 rfl h
  · replace h := h.2 q
    refine J_aload_n 0 aX12_keep_9 rfl ?_
    refine J_getR aX12_keep_10 flX12_13 sh115 rfl ?_
    refine J_iload_n 1 aX12_keep_13 rfl ?_
    refine J_aload_n 0 aX12_keep_14 rfl ?_
    refine J_getR aX12_keep_15 flX12_9 sh115 rfl ?_
    refine J_iload_n 1 aX12_keep_18 rfl ?_
    obtain ⟨j3, e4, b5, h⟩ := h
    refine J_iaload j3 aX12_keep_19 sh116 e4 b5 (by decide) ?_
    obtain ⟨j8, e9, b10, h⟩ := h
    refine J_iastore j8 aX12_keep_20 sh117 e9 b10 (by decide) (fun I6 e7 => ?_)
    replace h := h I6 e7
    refine J_iinc (x1 + nI 1) [(1, .int (x1 + nI 1)), (0, .ref (eb E + 115))] 1 aX12_keep_21 rfl (by first | rfl | (congr 1; decide +kernel)) (by decide) rfl ?_
    refine J_goto aX12_keep_24 ?_
    refine J_pick [1, 0] rfl ?_
    exact h
theorem aX12_again_0 : decode mX12_again.2.1 0 = .ok (.aload_n 0, 1) ∧ 0 + 1 = 1 := ⟨by decide +kernel, rfl⟩
theorem aX12_again_1 : decode mX12_again.2.1 1 = .ok (.getfield 371, 3) ∧ 1 + 3 = 4 := ⟨by decide +kernel, rfl⟩
theorem aX12_again_4 : decode mX12_again.2.1 4 = .ok (.ifCond .ne 6, 3) ∧ ((4 : Nat) : Int) + 6 = ((10 : Nat) : Int) ∧ 4 + 3 = 7 := ⟨by decide +kernel, by decide, rfl⟩
theorem aX12_again_7 : decode mX12_again.2.1 7 = .ok (.bipush (-3), 2) ∧ 7 + 2 = 9 := ⟨by decide +kernel, rfl⟩
theorem aX12_again_9 : decode mX12_again.2.1 9 = .ok (.ireturn, 1) := by decide +kernel
theorem aX12_again_10 : decode mX12_again.2.1 10 = .ok (.iconst 0, 1) ∧ 10 + 1 = 11 := ⟨by decide +kernel, rfl⟩
theorem aX12_again_11 : decode mX12_again.2.1 11 = .ok (.istore_n 1, 1) ∧ 11 + 1 = 12 := ⟨by decide +kernel, rfl⟩
theorem aX12_again_12 : decode mX12_again.2.1 12 = .ok (.iload_n 1, 1) ∧ 12 + 1 = 13 := ⟨by decide +kernel, rfl⟩
theorem aX12_again_13 : decode mX12_again.2.1 13 = .ok (.sipush 322, 3) ∧ 13 + 3 = 16 := ⟨by decide +kernel, rfl⟩
theorem aX12_again_16 : decode mX12_again.2.1 16 = .ok (.if_icmp .ge 21, 3) ∧ ((16 : Nat) : Int) + 21 = ((37 : Nat) : Int) ∧ 16 + 3 = 19 := ⟨by decide +kernel, by decide, rfl⟩
theorem aX12_again_19 : decode mX12_again.2.1 19 = .ok (.aload_n 0, 1) ∧ 19 + 1 = 20 := ⟨by decide +kernel, rfl⟩
theorem aX12_again_20 : decode mX12_again.2.1 20 = .ok (.getfield 9, 3) ∧ 20 + 3 = 23 := ⟨by decide +kernel, rfl⟩
theorem aX12_again_23 : decode mX12_again.2.1 23 = .ok (.iload_n 1, 1) ∧ 23 + 1 = 24 := ⟨by decide +kernel, rfl⟩
theorem aX12_again_24 : decode mX12_again.2.1 24 = .ok (.aload_n 0, 1) ∧ 24 + 1 = 25 := ⟨by decide +kernel, rfl⟩
theorem aX12_again_25 : decode mX12_again.2.1 25 = .ok (.getfield 13, 3) ∧ 25 + 3 = 28 := ⟨by decide +kernel, rfl⟩
theorem aX12_again_28 : decode mX12_again.2.1 28 = .ok (.iload_n 1, 1) ∧ 28 + 1 = 29 := ⟨by decide +kernel, rfl⟩
theorem aX12_again_29 : decode mX12_again.2.1 29 = .ok (.iaload, 1) ∧ 29 + 1 = 30 := ⟨by decide +kernel, rfl⟩
theorem aX12_again_30 : decode mX12_again.2.1 30 = .ok (.iastore, 1) ∧ 30 + 1 = 31 := ⟨by decide +kernel, rfl⟩
theorem aX12_again_31 : decode mX12_again.2.1 31 = .ok (.iinc 1 1, 3) ∧ 31 + 3 = 34 := ⟨by decide +kernel, rfl⟩
theorem aX12_again_34 : decode mX12_again.2.1 34 = .ok (.goto (-22), 3) ∧ ((34 : Nat) : Int) + (-22) = ((12 : Nat) : Int) := ⟨by decide +kernel, by decide⟩
theorem aX12_again_37 : decode mX12_again.2.1 37 = .ok (.aload_n 0, 1) ∧ 37 + 1 = 38 := ⟨by decide +kernel, rfl⟩
theorem aX12_again_38 : decode mX12_again.2.1 38 = .ok (.getfield 9, 3) ∧ 38 + 3 = 41 := ⟨by decide +kernel, rfl⟩
theorem aX12_again_41 : decode mX12_again.2.1 41 = .ok (.bipush 6, 2) ∧ 41 + 2 = 43 := ⟨by decide +kernel, rfl⟩
theorem aX12_again_43 : decode mX12_again.2.1 43 = .ok (.iaload, 1) ∧ 43 + 1 = 44 := ⟨by decide +kernel, rfl⟩
theorem aX12_again_44 : decode mX12_again.2.1 44 = .ok (.ireturn, 1) := by decide +kernel
theorem S_X12_again {E : EE} {d : Nat} {I : IH} {Q : QT}  (h :
((¬ (I 115 3) = 0 → J E d mX12_again 12 [(0, .ref (eb E + 115)), (1, .int (nI 0))] [] I Q) ∧
 ((I 115 3) = 0 → Q (some (.int (-3))) I))) : Mt E d mX12_again [.ref (eb E + 115)] I Q := by
  refine Mt_of [(0, .ref (eb E + 115))] (by decide +kernel) (by simp [lg_sl, Value.category, mX12_again]) rfl ?_
  refine J_aload_n 0 aX12_again_0 rfl ?_
  refine J_getI aX12_again_1 flX12_371 sh115 rfl ?_
  refine J_if_ne aX12_again_4 (fun q => ?_) (fun q => ?_)
  · replace h := h.1 q
    refine J_iconst (nI 0) aX12_again_10 (by decide +kernel) ?_
    refine J_istore_n [(1, .int (nI 0)), (0, .ref (eb E + 115))] aX12_again_11 (by decide) rfl ?_
    refine J_pick [1, 0] rfl ?_
    exact h
  · replace h := h.2 q
    refine J_bipush (-3) aX12_again_7 (by decide +kernel) ?_
    exact J_iret aX12_again_9 rfl h
theorem S_X12_again_12 {E : EE} {d : Nat} {I : IH} {Q : QT} (x1 : Int32) (h :
(((nI 322) ≤ x1 → Q (some (.int (I 116 6))) I) ∧
 (¬ (nI 322) ≤ x1 → (∃ j1 : Nat, x1 = nI j1 ∧ j1 < 322 ∧ (∃ j6 : Nat, x1 = nI j6 ∧ j6 < 322 ∧ (∀ I4 : IH, I4 = stI I 116 j6 (I 117 j1) →
 J E d mX12_again 12 [(0, .ref (eb E + 115)), (1, .int (x1 + nI 1))] [] I4 Q)))))) : J E d mX12_again 12 [(0, .ref (eb E + 115)), (1, .int x1)] [] I Q := by
  refine J_iload_n 1 aX12_again_12 rfl ?_
  refine J_sipush (nI 322) aX12_again_13 (by decide +kernel) ?_
  refine J_icmp_ge aX12_again_16 (fun q => ?_) (fun q => ?_)
  · replace h := h.1 q
    refine J_aload_n 0 aX12_again_37 rfl ?_
    refine J_getR aX12_again_38 flX12_9 sh115 rfl ?_
    refine J_bipush (nI 6) aX12_again_41 (by decide +kernel) ?_
    refine J_iaload 6 aX12_again_43 sh116 rfl (by decide) (by decide) ?_
    exact J_iret aX12_again_44 rfl h
  · replace h := h.2 q
    refine J_aload_n 0 aX12_again_19 rfl ?_
    refine J_getR aX12_again_20 flX12_9 sh115 rfl ?_
    refine J_iload_n 1 aX12_again_23 rfl ?_
    refine J_aload_n 0 aX12_again_24 rfl ?_
    refine J_getR aX12_again_25 flX12_13 sh115 rfl ?_
    refine J_iload_n 1 aX12_again_28 rfl ?_
    obtain ⟨j1, e2, b3, h⟩ := h
    refine J_iaload j1 aX12_again_29 sh117 e2 b3 (by decide) ?_
    obtain ⟨j6, e7, b8, h⟩ := h
    refine J_iastore j6 aX12_again_30 sh116 e7 b8 (by decide) (fun I4 e5 => ?_)
    replace h := h I4 e5
    refine J_iinc (x1 + nI 1) [(1, .int (x1 + nI 1)), (0, .ref (eb E + 115))] 1 aX12_again_31 rfl (by first | rfl | (congr 1; decide +kernel)) (by decide) rfl ?_
    refine J_goto aX12_again_34 ?_
    refine J_pick [1, 0] rfl ?_
    exact h
