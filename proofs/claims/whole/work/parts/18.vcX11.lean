theorem aX11_hold_0 : decode mX11_hold.2.1 0 = .ok (.aload_n 0, 1) ∧ 0 + 1 = 1 := ⟨by decide +kernel, rfl⟩
theorem aX11_hold_1 : decode mX11_hold.2.1 1 = .ok (.getfield 51, 3) ∧ 1 + 3 = 4 := ⟨by decide +kernel, rfl⟩
theorem aX11_hold_4 : decode mX11_hold.2.1 4 = .ok (.iload_n 1, 1) ∧ 4 + 1 = 5 := ⟨by decide +kernel, rfl⟩
theorem aX11_hold_5 : decode mX11_hold.2.1 5 = .ok (.iload_n 2, 1) ∧ 5 + 1 = 6 := ⟨by decide +kernel, rfl⟩
theorem aX11_hold_6 : decode mX11_hold.2.1 6 = .ok (.iastore, 1) ∧ 6 + 1 = 7 := ⟨by decide +kernel, rfl⟩
theorem aX11_hold_7 : decode mX11_hold.2.1 7 = .ok (.aload_n 0, 1) ∧ 7 + 1 = 8 := ⟨by decide +kernel, rfl⟩
theorem aX11_hold_8 : decode mX11_hold.2.1 8 = .ok (.getfield 54, 3) ∧ 8 + 3 = 11 := ⟨by decide +kernel, rfl⟩
theorem aX11_hold_11 : decode mX11_hold.2.1 11 = .ok (.iload_n 1, 1) ∧ 11 + 1 = 12 := ⟨by decide +kernel, rfl⟩
theorem aX11_hold_12 : decode mX11_hold.2.1 12 = .ok (.iload_n 3, 1) ∧ 12 + 1 = 13 := ⟨by decide +kernel, rfl⟩
theorem aX11_hold_13 : decode mX11_hold.2.1 13 = .ok (.iastore, 1) ∧ 13 + 1 = 14 := ⟨by decide +kernel, rfl⟩
theorem aX11_hold_14 : decode mX11_hold.2.1 14 = .ok (.aload_n 0, 1) ∧ 14 + 1 = 15 := ⟨by decide +kernel, rfl⟩
theorem aX11_hold_15 : decode mX11_hold.2.1 15 = .ok (.getfield 57, 3) ∧ 15 + 3 = 18 := ⟨by decide +kernel, rfl⟩
theorem aX11_hold_18 : decode mX11_hold.2.1 18 = .ok (.iload_n 1, 1) ∧ 18 + 1 = 19 := ⟨by decide +kernel, rfl⟩
theorem aX11_hold_19 : decode mX11_hold.2.1 19 = .ok (.iload 4, 2) ∧ 19 + 2 = 21 := ⟨by decide +kernel, rfl⟩
theorem aX11_hold_21 : decode mX11_hold.2.1 21 = .ok (.iastore, 1) ∧ 21 + 1 = 22 := ⟨by decide +kernel, rfl⟩
theorem aX11_hold_22 : decode mX11_hold.2.1 22 = .ok (.iconst 1, 1) ∧ 22 + 1 = 23 := ⟨by decide +kernel, rfl⟩
theorem aX11_hold_23 : decode mX11_hold.2.1 23 = .ok (.ireturn, 1) := by decide +kernel
theorem S_X11_hold {E : EE} {d : Nat} {I : IH} {Q : QT} (x1 : Int32) (x2 : Int32) (x3 : Int32) (x4 : Int32) (h :
(∃ j3 : Nat, x1 = nI j3 ∧ j3 < 4 ∧ (∀ I1 : IH, I1 = stI I 17 j3 x2 →
 (∃ j8 : Nat, x1 = nI j8 ∧ j8 < 4 ∧ (∀ I6 : IH, I6 = stI I1 18 j8 x3 →
 (∃ j13 : Nat, x1 = nI j13 ∧ j13 < 4 ∧ (∀ I11 : IH, I11 = stI I6 19 j13 x4 →
 Q (some (.int (nI 1))) I11))))))) : Mt E d mX11_hold [.ref (eb E + 0), .int x1, .int x2, .int x3, .int x4] I Q := by
  refine Mt_of [(0, .ref (eb E + 0)), (1, .int x1), (2, .int x2), (3, .int x3), (4, .int x4)] (by decide +kernel) (by simp [lg_sl, Value.category, mX11_hold]) rfl ?_
  refine J_aload_n 0 aX11_hold_0 rfl ?_
  refine J_getR aX11_hold_1 flX11_51 sh0 rfl ?_
  refine J_iload_n 1 aX11_hold_4 rfl ?_
  refine J_iload_n 2 aX11_hold_5 rfl ?_
  obtain ⟨j3, e4, b5, h⟩ := h
  refine J_iastore j3 aX11_hold_6 sh17 e4 b5 (by decide) (fun I1 e2 => ?_)
  replace h := h I1 e2
  refine J_aload_n 0 aX11_hold_7 rfl ?_
  refine J_getR aX11_hold_8 flX11_54 sh0 rfl ?_
  refine J_iload_n 1 aX11_hold_11 rfl ?_
  refine J_iload_n 3 aX11_hold_12 rfl ?_
  obtain ⟨j8, e9, b10, h⟩ := h
  refine J_iastore j8 aX11_hold_13 sh18 e9 b10 (by decide) (fun I6 e7 => ?_)
  replace h := h I6 e7
  refine J_aload_n 0 aX11_hold_14 rfl ?_
  refine J_getR aX11_hold_15 flX11_57 sh0 rfl ?_
  refine J_iload_n 1 aX11_hold_18 rfl ?_
  refine J_iload 4 aX11_hold_19 rfl ?_
  obtain ⟨j13, e14, b15, h⟩ := h
  refine J_iastore j13 aX11_hold_21 sh19 e14 b15 (by decide) (fun I11 e12 => ?_)
  replace h := h I11 e12
  refine J_iconst (nI 1) aX11_hold_22 (by decide +kernel) ?_
  exact J_iret aX11_hold_23 rfl h
theorem aX11_taken_0 : decode mX11_taken.2.1 0 = .ok (.iload_n 2, 1) ∧ 0 + 1 = 1 := ⟨by decide +kernel, rfl⟩
theorem aX11_taken_1 : decode mX11_taken.2.1 1 = .ok (.iconst 5, 1) ∧ 1 + 1 = 2 := ⟨by decide +kernel, rfl⟩
theorem aX11_taken_2 : decode mX11_taken.2.1 2 = .ok (.invokestatic 110, 3) ∧ 2 + 3 = 5 := ⟨by decide +kernel, rfl⟩
theorem aX11_taken_5 : decode mX11_taken.2.1 5 = .ok (.istore_n 3, 1) ∧ 5 + 1 = 6 := ⟨by decide +kernel, rfl⟩
theorem aX11_taken_6 : decode mX11_taken.2.1 6 = .ok (.iload_n 1, 1) ∧ 6 + 1 = 7 := ⟨by decide +kernel, rfl⟩
theorem aX11_taken_7 : decode mX11_taken.2.1 7 = .ok (.invokestatic 338, 3) ∧ 7 + 3 = 10 := ⟨by decide +kernel, rfl⟩
theorem aX11_taken_10 : decode mX11_taken.2.1 10 = .ok (.ifCond .eq 18, 3) ∧ ((10 : Nat) : Int) + 18 = ((28 : Nat) : Int) ∧ 10 + 3 = 13 := ⟨by decide +kernel, by decide, rfl⟩
theorem aX11_taken_13 : decode mX11_taken.2.1 13 = .ok (.iload_n 3, 1) ∧ 13 + 1 = 14 := ⟨by decide +kernel, rfl⟩
theorem aX11_taken_14 : decode mX11_taken.2.1 14 = .ok (.ifCond .ne 16, 3) ∧ ((14 : Nat) : Int) + 16 = ((30 : Nat) : Int) ∧ 14 + 3 = 17 := ⟨by decide +kernel, by decide, rfl⟩
theorem aX11_taken_17 : decode mX11_taken.2.1 17 = .ok (.iload_n 2, 1) ∧ 17 + 1 = 18 := ⟨by decide +kernel, rfl⟩
theorem aX11_taken_18 : decode mX11_taken.2.1 18 = .ok (.bipush 10, 2) ∧ 18 + 2 = 20 := ⟨by decide +kernel, rfl⟩
theorem aX11_taken_20 : decode mX11_taken.2.1 20 = .ok (.isub, 1) ∧ 20 + 1 = 21 := ⟨by decide +kernel, rfl⟩
theorem aX11_taken_21 : decode mX11_taken.2.1 21 = .ok (.iconst 4, 1) ∧ 21 + 1 = 22 := ⟨by decide +kernel, rfl⟩
theorem aX11_taken_22 : decode mX11_taken.2.1 22 = .ok (.invokestatic 110, 3) ∧ 22 + 3 = 25 := ⟨by decide +kernel, rfl⟩
theorem aX11_taken_25 : decode mX11_taken.2.1 25 = .ok (.ifCond .ne 5, 3) ∧ ((25 : Nat) : Int) + 5 = ((30 : Nat) : Int) ∧ 25 + 3 = 28 := ⟨by decide +kernel, by decide, rfl⟩
theorem aX11_taken_28 : decode mX11_taken.2.1 28 = .ok (.iconst (-1), 1) ∧ 28 + 1 = 29 := ⟨by decide +kernel, rfl⟩
theorem aX11_taken_29 : decode mX11_taken.2.1 29 = .ok (.ireturn, 1) := by decide +kernel
theorem aX11_taken_30 : decode mX11_taken.2.1 30 = .ok (.aload_n 0, 1) ∧ 30 + 1 = 31 := ⟨by decide +kernel, rfl⟩
theorem aX11_taken_31 : decode mX11_taken.2.1 31 = .ok (.iload_n 1, 1) ∧ 31 + 1 = 32 := ⟨by decide +kernel, rfl⟩
theorem aX11_taken_32 : decode mX11_taken.2.1 32 = .ok (.invokevirtual 347, 3) ∧ 32 + 3 = 35 := ⟨by decide +kernel, rfl⟩
theorem aX11_taken_35 : decode mX11_taken.2.1 35 = .ok (.ifCond .eq 40, 3) ∧ ((35 : Nat) : Int) + 40 = ((75 : Nat) : Int) ∧ 35 + 3 = 38 := ⟨by decide +kernel, by decide, rfl⟩
theorem aX11_taken_38 : decode mX11_taken.2.1 38 = .ok (.aload_n 0, 1) ∧ 38 + 1 = 39 := ⟨by decide +kernel, rfl⟩
theorem aX11_taken_39 : decode mX11_taken.2.1 39 = .ok (.getfield 54, 3) ∧ 39 + 3 = 42 := ⟨by decide +kernel, rfl⟩
theorem aX11_taken_42 : decode mX11_taken.2.1 42 = .ok (.iload_n 1, 1) ∧ 42 + 1 = 43 := ⟨by decide +kernel, rfl⟩
theorem aX11_taken_43 : decode mX11_taken.2.1 43 = .ok (.iaload, 1) ∧ 43 + 1 = 44 := ⟨by decide +kernel, rfl⟩
theorem aX11_taken_44 : decode mX11_taken.2.1 44 = .ok (.istore 4, 2) ∧ 44 + 2 = 46 := ⟨by decide +kernel, rfl⟩
theorem aX11_taken_46 : decode mX11_taken.2.1 46 = .ok (.iload_n 3, 1) ∧ 46 + 1 = 47 := ⟨by decide +kernel, rfl⟩
theorem aX11_taken_47 : decode mX11_taken.2.1 47 = .ok (.ifCond .eq 25, 3) ∧ ((47 : Nat) : Int) + 25 = ((72 : Nat) : Int) ∧ 47 + 3 = 50 := ⟨by decide +kernel, by decide, rfl⟩
theorem aX11_taken_50 : decode mX11_taken.2.1 50 = .ok (.aload_n 0, 1) ∧ 50 + 1 = 51 := ⟨by decide +kernel, rfl⟩
theorem aX11_taken_51 : decode mX11_taken.2.1 51 = .ok (.getfield 83, 3) ∧ 51 + 3 = 54 := ⟨by decide +kernel, rfl⟩
theorem aX11_taken_54 : decode mX11_taken.2.1 54 = .ok (.getfield 131, 3) ∧ 54 + 3 = 57 := ⟨by decide +kernel, rfl⟩
theorem aX11_taken_57 : decode mX11_taken.2.1 57 = .ok (.iload 4, 2) ∧ 57 + 2 = 59 := ⟨by decide +kernel, rfl⟩
theorem aX11_taken_59 : decode mX11_taken.2.1 59 = .ok (.iaload, 1) ∧ 59 + 1 = 60 := ⟨by decide +kernel, rfl⟩
theorem aX11_taken_60 : decode mX11_taken.2.1 60 = .ok (.iload_n 2, 1) ∧ 60 + 1 = 61 := ⟨by decide +kernel, rfl⟩
theorem aX11_taken_61 : decode mX11_taken.2.1 61 = .ok (.invokestatic 350, 3) ∧ 61 + 3 = 64 := ⟨by decide +kernel, rfl⟩
theorem aX11_taken_64 : decode mX11_taken.2.1 64 = .ok (.ifCond .eq 8, 3) ∧ ((64 : Nat) : Int) + 8 = ((72 : Nat) : Int) ∧ 64 + 3 = 67 := ⟨by decide +kernel, by decide, rfl⟩
theorem aX11_taken_67 : decode mX11_taken.2.1 67 = .ok (.iload 4, 2) ∧ 67 + 2 = 69 := ⟨by decide +kernel, rfl⟩
theorem aX11_taken_69 : decode mX11_taken.2.1 69 = .ok (.goto 5, 3) ∧ ((69 : Nat) : Int) + 5 = ((74 : Nat) : Int) := ⟨by decide +kernel, by decide⟩
theorem aX11_taken_72 : decode mX11_taken.2.1 72 = .ok (.bipush (-13), 2) ∧ 72 + 2 = 74 := ⟨by decide +kernel, rfl⟩
theorem aX11_taken_74 : decode mX11_taken.2.1 74 = .ok (.ireturn, 1) := by decide +kernel
theorem aX11_taken_75 : decode mX11_taken.2.1 75 = .ok (.aload_n 0, 1) ∧ 75 + 1 = 76 := ⟨by decide +kernel, rfl⟩
theorem aX11_taken_76 : decode mX11_taken.2.1 76 = .ok (.getfield 51, 3) ∧ 76 + 3 = 79 := ⟨by decide +kernel, rfl⟩
theorem aX11_taken_79 : decode mX11_taken.2.1 79 = .ok (.iload_n 1, 1) ∧ 79 + 1 = 80 := ⟨by decide +kernel, rfl⟩
theorem aX11_taken_80 : decode mX11_taken.2.1 80 = .ok (.iaload, 1) ∧ 80 + 1 = 81 := ⟨by decide +kernel, rfl⟩
theorem aX11_taken_81 : decode mX11_taken.2.1 81 = .ok (.iconst 2, 1) ∧ 81 + 1 = 82 := ⟨by decide +kernel, rfl⟩
theorem aX11_taken_82 : decode mX11_taken.2.1 82 = .ok (.if_icmp .ne 32, 3) ∧ ((82 : Nat) : Int) + 32 = ((114 : Nat) : Int) ∧ 82 + 3 = 85 := ⟨by decide +kernel, by decide, rfl⟩
theorem aX11_taken_85 : decode mX11_taken.2.1 85 = .ok (.iload_n 3, 1) ∧ 85 + 1 = 86 := ⟨by decide +kernel, rfl⟩
theorem aX11_taken_86 : decode mX11_taken.2.1 86 = .ok (.ifCond .ne 25, 3) ∧ ((86 : Nat) : Int) + 25 = ((111 : Nat) : Int) ∧ 86 + 3 = 89 := ⟨by decide +kernel, by decide, rfl⟩
theorem aX11_taken_89 : decode mX11_taken.2.1 89 = .ok (.aload_n 0, 1) ∧ 89 + 1 = 90 := ⟨by decide +kernel, rfl⟩
theorem aX11_taken_90 : decode mX11_taken.2.1 90 = .ok (.getfield 54, 3) ∧ 90 + 3 = 93 := ⟨by decide +kernel, rfl⟩
theorem aX11_taken_93 : decode mX11_taken.2.1 93 = .ok (.iload_n 1, 1) ∧ 93 + 1 = 94 := ⟨by decide +kernel, rfl⟩
theorem aX11_taken_94 : decode mX11_taken.2.1 94 = .ok (.iaload, 1) ∧ 94 + 1 = 95 := ⟨by decide +kernel, rfl⟩
theorem aX11_taken_95 : decode mX11_taken.2.1 95 = .ok (.iload_n 2, 1) ∧ 95 + 1 = 96 := ⟨by decide +kernel, rfl⟩
theorem aX11_taken_96 : decode mX11_taken.2.1 96 = .ok (.bipush 10, 2) ∧ 96 + 2 = 98 := ⟨by decide +kernel, rfl⟩
theorem aX11_taken_98 : decode mX11_taken.2.1 98 = .ok (.isub, 1) ∧ 98 + 1 = 99 := ⟨by decide +kernel, rfl⟩
theorem aX11_taken_99 : decode mX11_taken.2.1 99 = .ok (.if_icmp .ne 12, 3) ∧ ((99 : Nat) : Int) + 12 = ((111 : Nat) : Int) ∧ 99 + 3 = 102 := ⟨by decide +kernel, by decide, rfl⟩
theorem aX11_taken_102 : decode mX11_taken.2.1 102 = .ok (.aload_n 0, 1) ∧ 102 + 1 = 103 := ⟨by decide +kernel, rfl⟩
theorem aX11_taken_103 : decode mX11_taken.2.1 103 = .ok (.getfield 57, 3) ∧ 103 + 3 = 106 := ⟨by decide +kernel, rfl⟩
theorem aX11_taken_106 : decode mX11_taken.2.1 106 = .ok (.iload_n 1, 1) ∧ 106 + 1 = 107 := ⟨by decide +kernel, rfl⟩
theorem aX11_taken_107 : decode mX11_taken.2.1 107 = .ok (.iaload, 1) ∧ 107 + 1 = 108 := ⟨by decide +kernel, rfl⟩
theorem aX11_taken_108 : decode mX11_taken.2.1 108 = .ok (.goto 5, 3) ∧ ((108 : Nat) : Int) + 5 = ((113 : Nat) : Int) := ⟨by decide +kernel, by decide⟩
theorem aX11_taken_111 : decode mX11_taken.2.1 111 = .ok (.bipush (-13), 2) ∧ 111 + 2 = 113 := ⟨by decide +kernel, rfl⟩
theorem aX11_taken_113 : decode mX11_taken.2.1 113 = .ok (.ireturn, 1) := by decide +kernel
theorem aX11_taken_114 : decode mX11_taken.2.1 114 = .ok (.bipush (-11), 2) ∧ 114 + 2 = 116 := ⟨by decide +kernel, rfl⟩
theorem aX11_taken_116 : decode mX11_taken.2.1 116 = .ok (.ireturn, 1) := by decide +kernel
theorem S_X11_taken {E : EE} {d : Nat} {I : IH} {Q : QT} (x1 : Int32) (x2 : Int32) (h :
(Mt E d mX11_isWithin [.int x2, .int (nI 5)] I (fun rv I1 => ∃ v2 : Int32, rv = some (.int v2) ∧
 (Mt E d mX11_isShelf [.int x1] I1 (fun rv I3 => ∃ v4 : Int32, rv = some (.int v4) ∧
 ((v4 = 0 → Q (some (.int (-1))) I3) ∧
 (¬ v4 = 0 → ((¬ v2 = 0 → J E (d + 1) mX11_taken 30 [(0, .ref (eb E + 0)), (1, .int x1), (2, .int x2), (3, .int v2)] [] I3 Q) ∧
 (v2 = 0 → (Mt E d mX11_isWithin [.int (x2 - (nI 10)), .int (nI 4)] I3 (fun rv I5 => ∃ v6 : Int32, rv = some (.int v6) ∧
 ((¬ v6 = 0 → J E (d + 1) mX11_taken 30 [(0, .ref (eb E + 0)), (1, .int x1), (2, .int x2), (3, .int v2)] [] I5 Q) ∧
 (v6 = 0 → Q (some (.int (-1))) I5))))))))))))) : Mt E (d + 1) mX11_taken [.ref (eb E + 0), .int x1, .int x2] I Q := by
  refine Mt_of [(0, .ref (eb E + 0)), (1, .int x1), (2, .int x2)] (by decide +kernel) (by simp [lg_sl, Value.category, mX11_taken]) rfl ?_
  refine J_iload_n 2 aX11_taken_0 rfl ?_
  refine J_iconst (nI 5) aX11_taken_1 (by decide +kernel) ?_
  refine J_callS [.int x2, .int (nI 5)] [] aX11_taken_2 lkX11_110 okX11_isWithin rfl rfl (Nat.le_of_ble_eq_true rfl) (Nat.le_refl _) (Mt_mono h (fun rv I1 h => ?_))
  obtain ⟨v2, rfl, h⟩ := h
  refine J_r1 ?_
  refine J_istore_n [(3, .int v2), (0, .ref (eb E + 0)), (1, .int x1), (2, .int x2)] aX11_taken_5 (by decide) rfl ?_
  refine J_iload_n 2 aX11_taken_6 rfl ?_
  refine J_callS [.int x1] [] aX11_taken_7 lkX11_338 okX11_isShelf rfl rfl (Nat.le_of_ble_eq_true rfl) (Nat.le_refl _) (Mt_mono h (fun rv I3 h => ?_))
  obtain ⟨v4, rfl, h⟩ := h
  refine J_r1 ?_
  refine J_if_eq aX11_taken_10 (fun q => ?_) (fun q => ?_)
  · replace h := h.1 q
    refine J_iconst (-1) aX11_taken_28 (by decide +kernel) ?_
    exact J_iret aX11_taken_29 rfl h
  · replace h := h.2 q
    refine J_iload_n 0 aX11_taken_13 rfl ?_
    refine J_if_ne aX11_taken_14 (fun q => ?_) (fun q => ?_)
    · replace h := h.1 q
      refine J_pick [1, 2, 3, 0] rfl ?_
      exact h
    · replace h := h.2 q
      refine J_iload_n 3 aX11_taken_17 rfl ?_
      refine J_bipush (nI 10) aX11_taken_18 (by decide +kernel) ?_
      refine J_isub aX11_taken_20 ?_
      refine J_iconst (nI 4) aX11_taken_21 (by decide +kernel) ?_
      refine J_callS [.int (x2 - (nI 10)), .int (nI 4)] [] aX11_taken_22 lkX11_110 okX11_isWithin rfl rfl (Nat.le_of_ble_eq_true rfl) (Nat.le_refl _) (Mt_mono h (fun rv I5 h => ?_))
      obtain ⟨v6, rfl, h⟩ := h
      refine J_r1 ?_
      refine J_if_ne aX11_taken_25 (fun q => ?_) (fun q => ?_)
      · replace h := h.1 q
        refine J_pick [1, 2, 3, 0] rfl ?_
        exact h
      · replace h := h.2 q
        refine J_iconst (-1) aX11_taken_28 (by decide +kernel) ?_
        exact J_iret aX11_taken_29 rfl h
theorem S_X11_taken_30 {E : EE} {d : Nat} {I : IH} {Q : QT} (x1 : Int32) (x2 : Int32) (x3 : Int32) (h :
(Mt E d mX11_holdsPane [.ref (eb E + 0), .int x1] I (fun rv I1 => ∃ v2 : Int32, rv = some (.int v2) ∧
 ((v2 = 0 → (∃ j3 : Nat, x1 = nI j3 ∧ j3 < 4 ∧ ((¬ (I1 17 j3) = (nI 2) → Q (some (.int (-11))) I1) ∧
 ((I1 17 j3) = (nI 2) → ((¬ x3 = 0 → Q (some (.int (-13))) I1) ∧
 (x3 = 0 → (∃ j6 : Nat, x1 = nI j6 ∧ j6 < 4 ∧ ((¬ (I1 18 j6) = (x2 - (nI 10)) → Q (some (.int (-13))) I1) ∧
 ((I1 18 j6) = (x2 - (nI 10)) → (∃ j9 : Nat, x1 = nI j9 ∧ j9 < 4 ∧ Q (some (.int (I1 19 j9))) I1)))))))))) ∧
 (¬ v2 = 0 → (∃ j12 : Nat, x1 = nI j12 ∧ j12 < 4 ∧ ((x3 = 0 → Q (some (.int (-13))) I1) ∧
 (¬ x3 = 0 → (∃ j15 : Nat, (I1 18 j12) = nI j15 ∧ j15 < 6 ∧ (Mt E d mX11_isOrUnder [.int (I1 37 j15), .int x2] I1 (fun rv I18 => ∃ v19 : Int32, rv = some (.int v19) ∧
 ((v19 = 0 → Q (some (.int (-13))) I18) ∧
 (¬ v19 = 0 → Q (some (.int (I1 18 j12))) I18))))))))))))) : J E (d + 1) mX11_taken 30 [(0, .ref (eb E + 0)), (1, .int x1), (2, .int x2), (3, .int x3)] [] I Q := by
  refine J_aload_n 0 aX11_taken_30 rfl ?_
  refine J_iload_n 1 aX11_taken_31 rfl ?_
  refine J_callV [.int x1] [] aX11_taken_32 lkX11_347_X11 okX11_holdsPane sh0 rfl rfl rfl (Nat.le_of_ble_eq_true rfl) (Nat.le_refl _) (Mt_mono h (fun rv I1 h => ?_))
  obtain ⟨v2, rfl, h⟩ := h
  refine J_r1 ?_
  refine J_if_eq aX11_taken_35 (fun q => ?_) (fun q => ?_)
  · replace h := h.1 q
    refine J_aload_n 0 aX11_taken_75 rfl ?_
    refine J_getR aX11_taken_76 flX11_51 sh0 rfl ?_
    refine J_iload_n 1 aX11_taken_79 rfl ?_
    obtain ⟨j3, e4, b5, h⟩ := h
    refine J_iaload j3 aX11_taken_80 sh17 e4 b5 (by decide) ?_
    refine J_iconst (nI 2) aX11_taken_81 (by decide +kernel) ?_
    refine J_icmp_ne aX11_taken_82 (fun q => ?_) (fun q => ?_)
    · replace h := h.1 q
      refine J_bipush (-11) aX11_taken_114 (by decide +kernel) ?_
      exact J_iret aX11_taken_116 rfl h
    · replace h := h.2 q
      refine J_iload_n 3 aX11_taken_85 rfl ?_
      refine J_if_ne aX11_taken_86 (fun q => ?_) (fun q => ?_)
      · replace h := h.1 q
        refine J_bipush (-13) aX11_taken_111 (by decide +kernel) ?_
        exact J_iret aX11_taken_113 rfl h
      · replace h := h.2 q
        refine J_aload_n 0 aX11_taken_89 rfl ?_
        refine J_getR aX11_taken_90 flX11_54 sh0 rfl ?_
        refine J_iload_n 1 aX11_taken_93 rfl ?_
        obtain ⟨j6, e7, b8, h⟩ := h
        refine J_iaload j6 aX11_taken_94 sh18 e7 b8 (by decide) ?_
        refine J_iload_n 2 aX11_taken_95 rfl ?_
        refine J_bipush (nI 10) aX11_taken_96 (by decide +kernel) ?_
        refine J_isub aX11_taken_98 ?_
        refine J_icmp_ne aX11_taken_99 (fun q => ?_) (fun q => ?_)
        · replace h := h.1 q
          refine J_bipush (-13) aX11_taken_111 (by decide +kernel) ?_
          exact J_iret aX11_taken_113 rfl h
        · replace h := h.2 q
          refine J_aload_n 0 aX11_taken_102 rfl ?_
          refine J_getR aX11_taken_103 flX11_57 sh0 rfl ?_
          refine J_iload_n 1 aX11_taken_106 rfl ?_
          obtain ⟨j9, e10, b11, h⟩ := h
          refine J_iaload j9 aX11_taken_107 sh19 e10 b11 (by decide) ?_
          refine J_goto aX11_taken_108 ?_
          exact J_iret aX11_taken_113 rfl h
  · replace h := h.2 q
    refine J_aload_n 0 aX11_taken_38 rfl ?_
    refine J_getR aX11_taken_39 flX11_54 sh0 rfl ?_
    refine J_iload_n 1 aX11_taken_42 rfl ?_
    obtain ⟨j12, e13, b14, h⟩ := h
    refine J_iaload j12 aX11_taken_43 sh18 e13 b14 (by decide) ?_
    refine J_istore [(4, .int (I1 18 j12)), (0, .ref (eb E + 0)), (1, .int x1), (2, .int x2), (3, .int x3)] aX11_taken_44 (by decide) rfl ?_
    refine J_iload_n 4 aX11_taken_46 rfl ?_
    refine J_if_eq aX11_taken_47 (fun q => ?_) (fun q => ?_)
    · replace h := h.1 q
      refine J_bipush (-13) aX11_taken_72 (by decide +kernel) ?_
      exact J_iret aX11_taken_74 rfl h
    · replace h := h.2 q
      refine J_aload_n 1 aX11_taken_50 rfl ?_
      refine J_getR aX11_taken_51 flX11_83 sh0 rfl ?_
      refine J_getR aX11_taken_54 flX11_131 sh33 rfl ?_
      refine J_iload 0 aX11_taken_57 rfl ?_
      obtain ⟨j15, e16, b17, h⟩ := h
      refine J_iaload j15 aX11_taken_59 sh37 e16 b17 (by decide) ?_
      refine J_iload_n 3 aX11_taken_60 rfl ?_
      refine J_callS [.int (I1 37 j15), .int x2] [] aX11_taken_61 lkX11_350 okX11_isOrUnder rfl rfl (Nat.le_of_ble_eq_true rfl) (Nat.le_refl _) (Mt_mono h (fun rv I18 h => ?_))
      obtain ⟨v19, rfl, h⟩ := h
      refine J_r1 ?_
      refine J_if_eq aX11_taken_64 (fun q => ?_) (fun q => ?_)
      · replace h := h.1 q
        refine J_bipush (-13) aX11_taken_72 (by decide +kernel) ?_
        exact J_iret aX11_taken_74 rfl h
      · replace h := h.2 q
        refine J_iload 0 aX11_taken_67 rfl ?_
        refine J_goto aX11_taken_69 ?_
        exact J_iret aX11_taken_74 rfl h
theorem aX11_isShelf_0 : decode mX11_isShelf.2.1 0 = .ok (.iload_n 0, 1) ∧ 0 + 1 = 1 := ⟨by decide +kernel, rfl⟩
theorem aX11_isShelf_1 : decode mX11_isShelf.2.1 1 = .ok (.ifCond .lt 12, 3) ∧ ((1 : Nat) : Int) + 12 = ((13 : Nat) : Int) ∧ 1 + 3 = 4 := ⟨by decide +kernel, by decide, rfl⟩
theorem aX11_isShelf_4 : decode mX11_isShelf.2.1 4 = .ok (.iload_n 0, 1) ∧ 4 + 1 = 5 := ⟨by decide +kernel, rfl⟩
theorem aX11_isShelf_5 : decode mX11_isShelf.2.1 5 = .ok (.iconst 4, 1) ∧ 5 + 1 = 6 := ⟨by decide +kernel, rfl⟩
theorem aX11_isShelf_6 : decode mX11_isShelf.2.1 6 = .ok (.if_icmp .ge 7, 3) ∧ ((6 : Nat) : Int) + 7 = ((13 : Nat) : Int) ∧ 6 + 3 = 9 := ⟨by decide +kernel, by decide, rfl⟩
theorem aX11_isShelf_9 : decode mX11_isShelf.2.1 9 = .ok (.iconst 1, 1) ∧ 9 + 1 = 10 := ⟨by decide +kernel, rfl⟩
theorem aX11_isShelf_10 : decode mX11_isShelf.2.1 10 = .ok (.goto 4, 3) ∧ ((10 : Nat) : Int) + 4 = ((14 : Nat) : Int) := ⟨by decide +kernel, by decide⟩
theorem aX11_isShelf_13 : decode mX11_isShelf.2.1 13 = .ok (.iconst 0, 1) ∧ 13 + 1 = 14 := ⟨by decide +kernel, rfl⟩
theorem aX11_isShelf_14 : decode mX11_isShelf.2.1 14 = .ok (.ireturn, 1) := by decide +kernel
theorem S_X11_isShelf {E : EE} {d : Nat} {I : IH} {Q : QT} (x0 : Int32) (h :
((x0 < 0 → Q (some (.int (nI 0))) I) ∧
 (¬ x0 < 0 → (((nI 4) ≤ x0 → Q (some (.int (nI 0))) I) ∧
 (¬ (nI 4) ≤ x0 → Q (some (.int (nI 1))) I))))) : Mt E d mX11_isShelf [.int x0] I Q := by
  refine Mt_of [(0, .int x0)] (by decide +kernel) (by simp [lg_sl, Value.category, mX11_isShelf]) rfl ?_
  refine J_iload_n 0 aX11_isShelf_0 rfl ?_
  refine J_if_lt aX11_isShelf_1 (fun q => ?_) (fun q => ?_)
  · replace h := h.1 q
    refine J_iconst (nI 0) aX11_isShelf_13 (by decide +kernel) ?_
    exact J_zret aX11_isShelf_14 rfl (by decide +kernel) h
  · replace h := h.2 q
    refine J_iload_n 0 aX11_isShelf_4 rfl ?_
    refine J_iconst (nI 4) aX11_isShelf_5 (by decide +kernel) ?_
    refine J_icmp_ge aX11_isShelf_6 (fun q => ?_) (fun q => ?_)
    · replace h := h.1 q
      refine J_iconst (nI 0) aX11_isShelf_13 (by decide +kernel) ?_
      exact J_zret aX11_isShelf_14 rfl (by decide +kernel) h
    · replace h := h.2 q
      refine J_iconst (nI 1) aX11_isShelf_9 (by decide +kernel) ?_
      refine J_goto aX11_isShelf_10 ?_
      exact J_zret aX11_isShelf_14 rfl (by decide +kernel) h
theorem aX11_holdsPane_0 : decode mX11_holdsPane.2.1 0 = .ok (.aload_n 0, 1) ∧ 0 + 1 = 1 := ⟨by decide +kernel, rfl⟩
theorem aX11_holdsPane_1 : decode mX11_holdsPane.2.1 1 = .ok (.getfield 51, 3) ∧ 1 + 3 = 4 := ⟨by decide +kernel, rfl⟩
theorem aX11_holdsPane_4 : decode mX11_holdsPane.2.1 4 = .ok (.iload_n 1, 1) ∧ 4 + 1 = 5 := ⟨by decide +kernel, rfl⟩
theorem aX11_holdsPane_5 : decode mX11_holdsPane.2.1 5 = .ok (.iaload, 1) ∧ 5 + 1 = 6 := ⟨by decide +kernel, rfl⟩
theorem aX11_holdsPane_6 : decode mX11_holdsPane.2.1 6 = .ok (.iconst 1, 1) ∧ 6 + 1 = 7 := ⟨by decide +kernel, rfl⟩
theorem aX11_holdsPane_7 : decode mX11_holdsPane.2.1 7 = .ok (.if_icmp .ne 20, 3) ∧ ((7 : Nat) : Int) + 20 = ((27 : Nat) : Int) ∧ 7 + 3 = 10 := ⟨by decide +kernel, by decide, rfl⟩
theorem aX11_holdsPane_10 : decode mX11_holdsPane.2.1 10 = .ok (.aload_n 0, 1) ∧ 10 + 1 = 11 := ⟨by decide +kernel, rfl⟩
theorem aX11_holdsPane_11 : decode mX11_holdsPane.2.1 11 = .ok (.aload_n 0, 1) ∧ 11 + 1 = 12 := ⟨by decide +kernel, rfl⟩
theorem aX11_holdsPane_12 : decode mX11_holdsPane.2.1 12 = .ok (.getfield 54, 3) ∧ 12 + 3 = 15 := ⟨by decide +kernel, rfl⟩
theorem aX11_holdsPane_15 : decode mX11_holdsPane.2.1 15 = .ok (.iload_n 1, 1) ∧ 15 + 1 = 16 := ⟨by decide +kernel, rfl⟩
theorem aX11_holdsPane_16 : decode mX11_holdsPane.2.1 16 = .ok (.iaload, 1) ∧ 16 + 1 = 17 := ⟨by decide +kernel, rfl⟩
theorem aX11_holdsPane_17 : decode mX11_holdsPane.2.1 17 = .ok (.invokevirtual 124, 3) ∧ 17 + 3 = 20 := ⟨by decide +kernel, rfl⟩
theorem aX11_holdsPane_20 : decode mX11_holdsPane.2.1 20 = .ok (.ifCond .eq 7, 3) ∧ ((20 : Nat) : Int) + 7 = ((27 : Nat) : Int) ∧ 20 + 3 = 23 := ⟨by decide +kernel, by decide, rfl⟩
theorem aX11_holdsPane_23 : decode mX11_holdsPane.2.1 23 = .ok (.iconst 1, 1) ∧ 23 + 1 = 24 := ⟨by decide +kernel, rfl⟩
theorem aX11_holdsPane_24 : decode mX11_holdsPane.2.1 24 = .ok (.goto 4, 3) ∧ ((24 : Nat) : Int) + 4 = ((28 : Nat) : Int) := ⟨by decide +kernel, by decide⟩
theorem aX11_holdsPane_27 : decode mX11_holdsPane.2.1 27 = .ok (.iconst 0, 1) ∧ 27 + 1 = 28 := ⟨by decide +kernel, rfl⟩
theorem aX11_holdsPane_28 : decode mX11_holdsPane.2.1 28 = .ok (.ireturn, 1) := by decide +kernel
theorem S_X11_holdsPane {E : EE} {d : Nat} {I : IH} {Q : QT} (x1 : Int32) (h :
(∃ j1 : Nat, x1 = nI j1 ∧ j1 < 4 ∧ ((¬ (I 17 j1) = (nI 1) → Q (some (.int (nI 0))) I) ∧
 ((I 17 j1) = (nI 1) → (∃ j4 : Nat, x1 = nI j4 ∧ j4 < 4 ∧ (Mt E d mX11_isPane [.ref (eb E + 0), .int (I 18 j4)] I (fun rv I7 => ∃ v8 : Int32, rv = some (.int v8) ∧
 ((v8 = 0 → Q (some (.int (nI 0))) I7) ∧
 (¬ v8 = 0 → Q (some (.int (nI 1))) I7))))))))) : Mt E (d + 1) mX11_holdsPane [.ref (eb E + 0), .int x1] I Q := by
  refine Mt_of [(0, .ref (eb E + 0)), (1, .int x1)] (by decide +kernel) (by simp [lg_sl, Value.category, mX11_holdsPane]) rfl ?_
  refine J_aload_n 0 aX11_holdsPane_0 rfl ?_
  refine J_getR aX11_holdsPane_1 flX11_51 sh0 rfl ?_
  refine J_iload_n 1 aX11_holdsPane_4 rfl ?_
  obtain ⟨j1, e2, b3, h⟩ := h
  refine J_iaload j1 aX11_holdsPane_5 sh17 e2 b3 (by decide) ?_
  refine J_iconst (nI 1) aX11_holdsPane_6 (by decide +kernel) ?_
  refine J_icmp_ne aX11_holdsPane_7 (fun q => ?_) (fun q => ?_)
  · replace h := h.1 q
    refine J_iconst (nI 0) aX11_holdsPane_27 (by decide +kernel) ?_
    exact J_zret aX11_holdsPane_28 rfl (by decide +kernel) h
  · replace h := h.2 q
    refine J_aload_n 0 aX11_holdsPane_10 rfl ?_
    refine J_aload_n 0 aX11_holdsPane_11 rfl ?_
    refine J_getR aX11_holdsPane_12 flX11_54 sh0 rfl ?_
    refine J_iload_n 1 aX11_holdsPane_15 rfl ?_
    obtain ⟨j4, e5, b6, h⟩ := h
    refine J_iaload j4 aX11_holdsPane_16 sh18 e5 b6 (by decide) ?_
    refine J_callV [.int (I 18 j4)] [] aX11_holdsPane_17 lkX11_124_X11 okX11_isPane sh0 rfl rfl rfl (Nat.le_of_ble_eq_true rfl) (Nat.le_refl _) (Mt_mono h (fun rv I7 h => ?_))
    obtain ⟨v8, rfl, h⟩ := h
    refine J_r1 ?_
    refine J_if_eq aX11_holdsPane_20 (fun q => ?_) (fun q => ?_)
    · replace h := h.1 q
      refine J_iconst (nI 0) aX11_holdsPane_27 (by decide +kernel) ?_
      exact J_zret aX11_holdsPane_28 rfl (by decide +kernel) h
    · replace h := h.2 q
      refine J_iconst (nI 1) aX11_holdsPane_23 (by decide +kernel) ?_
      refine J_goto aX11_holdsPane_24 ?_
      exact J_zret aX11_holdsPane_28 rfl (by decide +kernel) h
theorem aX11_act_0 : decode mX11_act.2.1 0 = .ok (.aload_n 0, 1) ∧ 0 + 1 = 1 := ⟨by decide +kernel, rfl⟩
theorem aX11_act_1 : decode mX11_act.2.1 1 = .ok (.getfield 30, 3) ∧ 1 + 3 = 4 := ⟨by decide +kernel, rfl⟩
theorem aX11_act_4 : decode mX11_act.2.1 4 = .ok (.invokevirtual 356, 3) ∧ 4 + 3 = 7 := ⟨by decide +kernel, rfl⟩
theorem aX11_act_7 : decode mX11_act.2.1 7 = .ok (.iload_n 1, 1) ∧ 7 + 1 = 8 := ⟨by decide +kernel, rfl⟩
theorem aX11_act_8 : decode mX11_act.2.1 8 = .ok (.invokestatic 338, 3) ∧ 8 + 3 = 11 := ⟨by decide +kernel, rfl⟩
theorem aX11_act_11 : decode mX11_act.2.1 11 = .ok (.ifCond .eq 19, 3) ∧ ((11 : Nat) : Int) + 19 = ((30 : Nat) : Int) ∧ 11 + 3 = 14 := ⟨by decide +kernel, by decide, rfl⟩
theorem aX11_act_14 : decode mX11_act.2.1 14 = .ok (.iload_n 2, 1) ∧ 14 + 1 = 15 := ⟨by decide +kernel, rfl⟩
theorem aX11_act_15 : decode mX11_act.2.1 15 = .ok (.iconst 3, 1) ∧ 15 + 1 = 16 := ⟨by decide +kernel, rfl⟩
theorem aX11_act_16 : decode mX11_act.2.1 16 = .ok (.invokestatic 110, 3) ∧ 16 + 3 = 19 := ⟨by decide +kernel, rfl⟩
theorem aX11_act_19 : decode mX11_act.2.1 19 = .ok (.ifCond .eq 11, 3) ∧ ((19 : Nat) : Int) + 11 = ((30 : Nat) : Int) ∧ 19 + 3 = 22 := ⟨by decide +kernel, by decide, rfl⟩
theorem aX11_act_22 : decode mX11_act.2.1 22 = .ok (.aload_n 0, 1) ∧ 22 + 1 = 23 := ⟨by decide +kernel, rfl⟩
theorem aX11_act_23 : decode mX11_act.2.1 23 = .ok (.iload_n 1, 1) ∧ 23 + 1 = 24 := ⟨by decide +kernel, rfl⟩
theorem aX11_act_24 : decode mX11_act.2.1 24 = .ok (.invokevirtual 347, 3) ∧ 24 + 3 = 27 := ⟨by decide +kernel, rfl⟩
theorem aX11_act_27 : decode mX11_act.2.1 27 = .ok (.ifCond .ne 5, 3) ∧ ((27 : Nat) : Int) + 5 = ((32 : Nat) : Int) ∧ 27 + 3 = 30 := ⟨by decide +kernel, by decide, rfl⟩
theorem aX11_act_30 : decode mX11_act.2.1 30 = .ok (.iconst 0, 1) ∧ 30 + 1 = 31 := ⟨by decide +kernel, rfl⟩
theorem aX11_act_31 : decode mX11_act.2.1 31 = .ok (.ireturn, 1) := by decide +kernel
theorem aX11_act_32 : decode mX11_act.2.1 32 = .ok (.aload_n 0, 1) ∧ 32 + 1 = 33 := ⟨by decide +kernel, rfl⟩
theorem aX11_act_33 : decode mX11_act.2.1 33 = .ok (.getfield 54, 3) ∧ 33 + 3 = 36 := ⟨by decide +kernel, rfl⟩
theorem aX11_act_36 : decode mX11_act.2.1 36 = .ok (.iload_n 1, 1) ∧ 36 + 1 = 37 := ⟨by decide +kernel, rfl⟩
theorem aX11_act_37 : decode mX11_act.2.1 37 = .ok (.iaload, 1) ∧ 37 + 1 = 38 := ⟨by decide +kernel, rfl⟩
theorem aX11_act_38 : decode mX11_act.2.1 38 = .ok (.istore 4, 2) ∧ 38 + 2 = 40 := ⟨by decide +kernel, rfl⟩
theorem aX11_act_40 : decode mX11_act.2.1 40 = .ok (.aload_n 0, 1) ∧ 40 + 1 = 41 := ⟨by decide +kernel, rfl⟩
theorem aX11_act_41 : decode mX11_act.2.1 41 = .ok (.getfield 30, 3) ∧ 41 + 3 = 44 := ⟨by decide +kernel, rfl⟩
theorem aX11_act_44 : decode mX11_act.2.1 44 = .ok (.iload 4, 2) ∧ 44 + 2 = 46 := ⟨by decide +kernel, rfl⟩
theorem aX11_act_46 : decode mX11_act.2.1 46 = .ok (.putfield 359, 3) ∧ 46 + 3 = 49 := ⟨by decide +kernel, rfl⟩
theorem aX11_act_49 : decode mX11_act.2.1 49 = .ok (.aload_n 0, 1) ∧ 49 + 1 = 50 := ⟨by decide +kernel, rfl⟩
theorem aX11_act_50 : decode mX11_act.2.1 50 = .ok (.getfield 30, 3) ∧ 50 + 3 = 53 := ⟨by decide +kernel, rfl⟩
theorem aX11_act_53 : decode mX11_act.2.1 53 = .ok (.aload_n 0, 1) ∧ 53 + 1 = 54 := ⟨by decide +kernel, rfl⟩
theorem aX11_act_54 : decode mX11_act.2.1 54 = .ok (.getfield 83, 3) ∧ 54 + 3 = 57 := ⟨by decide +kernel, rfl⟩
theorem aX11_act_57 : decode mX11_act.2.1 57 = .ok (.getfield 140, 3) ∧ 57 + 3 = 60 := ⟨by decide +kernel, rfl⟩
theorem aX11_act_60 : decode mX11_act.2.1 60 = .ok (.iload 4, 2) ∧ 60 + 2 = 62 := ⟨by decide +kernel, rfl⟩
theorem aX11_act_62 : decode mX11_act.2.1 62 = .ok (.iaload, 1) ∧ 62 + 1 = 63 := ⟨by decide +kernel, rfl⟩
theorem aX11_act_63 : decode mX11_act.2.1 63 = .ok (.putfield 362, 3) ∧ 63 + 3 = 66 := ⟨by decide +kernel, rfl⟩
theorem aX11_act_66 : decode mX11_act.2.1 66 = .ok (.iconst 0, 1) ∧ 66 + 1 = 67 := ⟨by decide +kernel, rfl⟩
theorem aX11_act_67 : decode mX11_act.2.1 67 = .ok (.istore 5, 2) ∧ 67 + 2 = 69 := ⟨by decide +kernel, rfl⟩
theorem aX11_act_69 : decode mX11_act.2.1 69 = .ok (.iload_n 2, 1) ∧ 69 + 1 = 70 := ⟨by decide +kernel, rfl⟩
theorem aX11_act_70 : decode mX11_act.2.1 70 = .ok (.tableswitch 92 0 2 #[26, 48, 70], 26) := by decide +kernel
theorem aX11_act_96 : decode mX11_act.2.1 96 = .ok (.aload_n 0, 1) ∧ 96 + 1 = 97 := ⟨by decide +kernel, rfl⟩
theorem aX11_act_97 : decode mX11_act.2.1 97 = .ok (.getfield 83, 3) ∧ 97 + 3 = 100 := ⟨by decide +kernel, rfl⟩
theorem aX11_act_100 : decode mX11_act.2.1 100 = .ok (.iload 4, 2) ∧ 100 + 2 = 102 := ⟨by decide +kernel, rfl⟩
theorem aX11_act_102 : decode mX11_act.2.1 102 = .ok (.invokevirtual 146, 3) ∧ 102 + 3 = 105 := ⟨by decide +kernel, rfl⟩
theorem aX11_act_105 : decode mX11_act.2.1 105 = .ok (.aload_n 0, 1) ∧ 105 + 1 = 106 := ⟨by decide +kernel, rfl⟩
theorem aX11_act_106 : decode mX11_act.2.1 106 = .ok (.getfield 30, 3) ∧ 106 + 3 = 109 := ⟨by decide +kernel, rfl⟩
theorem aX11_act_109 : decode mX11_act.2.1 109 = .ok (.iload_n 3, 1) ∧ 109 + 1 = 110 := ⟨by decide +kernel, rfl⟩
theorem aX11_act_110 : decode mX11_act.2.1 110 = .ok (.invokevirtual 364, 3) ∧ 110 + 3 = 113 := ⟨by decide +kernel, rfl⟩
theorem aX11_act_113 : decode mX11_act.2.1 113 = .ok (.istore 5, 2) ∧ 113 + 2 = 115 := ⟨by decide +kernel, rfl⟩
theorem aX11_act_115 : decode mX11_act.2.1 115 = .ok (.goto 66, 3) ∧ ((115 : Nat) : Int) + 66 = ((181 : Nat) : Int) := ⟨by decide +kernel, by decide⟩
theorem aX11_act_118 : decode mX11_act.2.1 118 = .ok (.aload_n 0, 1) ∧ 118 + 1 = 119 := ⟨by decide +kernel, rfl⟩
theorem aX11_act_119 : decode mX11_act.2.1 119 = .ok (.getfield 83, 3) ∧ 119 + 3 = 122 := ⟨by decide +kernel, rfl⟩
theorem aX11_act_122 : decode mX11_act.2.1 122 = .ok (.iload 4, 2) ∧ 122 + 2 = 124 := ⟨by decide +kernel, rfl⟩
theorem aX11_act_124 : decode mX11_act.2.1 124 = .ok (.invokevirtual 146, 3) ∧ 124 + 3 = 127 := ⟨by decide +kernel, rfl⟩
theorem aX11_act_127 : decode mX11_act.2.1 127 = .ok (.aload_n 0, 1) ∧ 127 + 1 = 128 := ⟨by decide +kernel, rfl⟩
theorem aX11_act_128 : decode mX11_act.2.1 128 = .ok (.getfield 30, 3) ∧ 128 + 3 = 131 := ⟨by decide +kernel, rfl⟩
theorem aX11_act_131 : decode mX11_act.2.1 131 = .ok (.iload_n 3, 1) ∧ 131 + 1 = 132 := ⟨by decide +kernel, rfl⟩
theorem aX11_act_132 : decode mX11_act.2.1 132 = .ok (.invokevirtual 368, 3) ∧ 132 + 3 = 135 := ⟨by decide +kernel, rfl⟩
theorem aX11_act_135 : decode mX11_act.2.1 135 = .ok (.istore 5, 2) ∧ 135 + 2 = 137 := ⟨by decide +kernel, rfl⟩
theorem aX11_act_137 : decode mX11_act.2.1 137 = .ok (.goto 44, 3) ∧ ((137 : Nat) : Int) + 44 = ((181 : Nat) : Int) := ⟨by decide +kernel, by decide⟩
theorem aX11_act_140 : decode mX11_act.2.1 140 = .ok (.aload_n 0, 1) ∧ 140 + 1 = 141 := ⟨by decide +kernel, rfl⟩
theorem aX11_act_141 : decode mX11_act.2.1 141 = .ok (.getfield 83, 3) ∧ 141 + 3 = 144 := ⟨by decide +kernel, rfl⟩
theorem aX11_act_144 : decode mX11_act.2.1 144 = .ok (.iload 4, 2) ∧ 144 + 2 = 146 := ⟨by decide +kernel, rfl⟩
theorem aX11_act_146 : decode mX11_act.2.1 146 = .ok (.invokevirtual 146, 3) ∧ 146 + 3 = 149 := ⟨by decide +kernel, rfl⟩
theorem aX11_act_149 : decode mX11_act.2.1 149 = .ok (.aload_n 0, 1) ∧ 149 + 1 = 150 := ⟨by decide +kernel, rfl⟩
theorem aX11_act_150 : decode mX11_act.2.1 150 = .ok (.getfield 30, 3) ∧ 150 + 3 = 153 := ⟨by decide +kernel, rfl⟩
theorem aX11_act_153 : decode mX11_act.2.1 153 = .ok (.iload_n 3, 1) ∧ 153 + 1 = 154 := ⟨by decide +kernel, rfl⟩
theorem aX11_act_154 : decode mX11_act.2.1 154 = .ok (.invokevirtual 371, 3) ∧ 154 + 3 = 157 := ⟨by decide +kernel, rfl⟩
theorem aX11_act_157 : decode mX11_act.2.1 157 = .ok (.istore 5, 2) ∧ 157 + 2 = 159 := ⟨by decide +kernel, rfl⟩
theorem aX11_act_159 : decode mX11_act.2.1 159 = .ok (.goto 22, 3) ∧ ((159 : Nat) : Int) + 22 = ((181 : Nat) : Int) := ⟨by decide +kernel, by decide⟩
theorem aX11_act_162 : decode mX11_act.2.1 162 = .ok (.aload_n 0, 1) ∧ 162 + 1 = 163 := ⟨by decide +kernel, rfl⟩
theorem aX11_act_163 : decode mX11_act.2.1 163 = .ok (.getfield 83, 3) ∧ 163 + 3 = 166 := ⟨by decide +kernel, rfl⟩
theorem aX11_act_166 : decode mX11_act.2.1 166 = .ok (.iload 4, 2) ∧ 166 + 2 = 168 := ⟨by decide +kernel, rfl⟩
theorem aX11_act_168 : decode mX11_act.2.1 168 = .ok (.invokevirtual 146, 3) ∧ 168 + 3 = 171 := ⟨by decide +kernel, rfl⟩
theorem aX11_act_171 : decode mX11_act.2.1 171 = .ok (.aload_n 0, 1) ∧ 171 + 1 = 172 := ⟨by decide +kernel, rfl⟩
theorem aX11_act_172 : decode mX11_act.2.1 172 = .ok (.getfield 30, 3) ∧ 172 + 3 = 175 := ⟨by decide +kernel, rfl⟩
theorem aX11_act_175 : decode mX11_act.2.1 175 = .ok (.iload_n 3, 1) ∧ 175 + 1 = 176 := ⟨by decide +kernel, rfl⟩
theorem aX11_act_176 : decode mX11_act.2.1 176 = .ok (.invokevirtual 374, 3) ∧ 176 + 3 = 179 := ⟨by decide +kernel, rfl⟩
theorem aX11_act_179 : decode mX11_act.2.1 179 = .ok (.istore 5, 2) ∧ 179 + 2 = 181 := ⟨by decide +kernel, rfl⟩
theorem aX11_act_181 : decode mX11_act.2.1 181 = .ok (.aload_n 0, 1) ∧ 181 + 1 = 182 := ⟨by decide +kernel, rfl⟩
theorem aX11_act_182 : decode mX11_act.2.1 182 = .ok (.getfield 30, 3) ∧ 182 + 3 = 185 := ⟨by decide +kernel, rfl⟩
theorem aX11_act_185 : decode mX11_act.2.1 185 = .ok (.getfield 377, 3) ∧ 185 + 3 = 188 := ⟨by decide +kernel, rfl⟩
theorem aX11_act_188 : decode mX11_act.2.1 188 = .ok (.ifCond .eq 8, 3) ∧ ((188 : Nat) : Int) + 8 = ((196 : Nat) : Int) ∧ 188 + 3 = 191 := ⟨by decide +kernel, by decide, rfl⟩
theorem aX11_act_191 : decode mX11_act.2.1 191 = .ok (.bipush (-15), 2) ∧ 191 + 2 = 193 := ⟨by decide +kernel, rfl⟩
theorem aX11_act_193 : decode mX11_act.2.1 193 = .ok (.goto 5, 3) ∧ ((193 : Nat) : Int) + 5 = ((198 : Nat) : Int) := ⟨by decide +kernel, by decide⟩
theorem aX11_act_196 : decode mX11_act.2.1 196 = .ok (.iload 5, 2) ∧ 196 + 2 = 198 := ⟨by decide +kernel, rfl⟩
theorem aX11_act_198 : decode mX11_act.2.1 198 = .ok (.ireturn, 1) := by decide +kernel
theorem S_X11_act {E : EE} {d : Nat} {I : IH} {Q : QT} (x1 : Int32) (x2 : Int32) (x3 : Int32) (h :
(Mt E d mX8_clear [.ref (eb E + 11)] I (fun rv I1 => rv = none ∧
 (Mt E d mX11_isShelf [.int x1] I1 (fun rv I2 => ∃ v3 : Int32, rv = some (.int v3) ∧
 ((v3 = 0 → Q (some (.int (nI 0))) I2) ∧
 (¬ v3 = 0 → (Mt E d mX11_isWithin [.int x2, .int (nI 3)] I2 (fun rv I4 => ∃ v5 : Int32, rv = some (.int v5) ∧
 ((v5 = 0 → Q (some (.int (nI 0))) I4) ∧
 (¬ v5 = 0 → (Mt E d mX11_holdsPane [.ref (eb E + 0), .int x1] I4 (fun rv I6 => ∃ v7 : Int32, rv = some (.int v7) ∧
 ((¬ v7 = 0 → (∃ j8 : Nat, x1 = nI j8 ∧ j8 < 4 ∧ (∀ I11 : IH, I11 = stI I6 11 2 (I6 18 j8) →
 (∃ j13 : Nat, (I6 18 j8) = nI j13 ∧ j13 < 6 ∧ (∀ I16 : IH, I16 = stI I11 11 3 (I11 39 j13) →
 ((x2 = (nI 0) → (Mt E d mX1_thing [.ref (eb E + 33), .int (I6 18 j8)] I16 (fun rv I18 => ∃ j19 : Nat, j19 < 6 ∧ rv = some (.ref (eb E + (21 + j19))) ∧
 (Mt E d (sel_glows j19) [.ref (eb E + (21 + j19)), .ref (eb E + 11), .int x3] I18 (fun rv I21 => ∃ v22 : Int32, rv = some (.int v22) ∧
 (((I21 11 4) = 0 → Q (some (.int v22)) I21) ∧
 (¬ (I21 11 4) = 0 → Q (some (.int (-15))) I21))))))) ∧
 ((x2 = (nI 1) → (Mt E d mX1_thing [.ref (eb E + 33), .int (I6 18 j8)] I16 (fun rv I23 => ∃ j24 : Nat, j24 < 6 ∧ rv = some (.ref (eb E + (21 + j24))) ∧
 (Mt E d (sel_smokes j24) [.ref (eb E + (21 + j24)), .ref (eb E + 11), .int x3] I23 (fun rv I26 => ∃ v27 : Int32, rv = some (.int v27) ∧
 (((I26 11 4) = 0 → Q (some (.int v27)) I26) ∧
 (¬ (I26 11 4) = 0 → Q (some (.int (-15))) I26))))))) ∧
 ((x2 = (nI 2) → (Mt E d mX1_thing [.ref (eb E + 33), .int (I6 18 j8)] I16 (fun rv I28 => ∃ j29 : Nat, j29 < 6 ∧ rv = some (.ref (eb E + (21 + j29))) ∧
 (Mt E d (sel_waves j29) [.ref (eb E + (21 + j29)), .ref (eb E + 11), .int x3] I28 (fun rv I31 => ∃ v32 : Int32, rv = some (.int v32) ∧
 (((I31 11 4) = 0 → Q (some (.int v32)) I31) ∧
 (¬ (I31 11 4) = 0 → Q (some (.int (-15))) I31))))))) ∧
 (¬ x2 = (nI 0) ∧ ¬ x2 = (nI 1) ∧ ¬ x2 = (nI 2) → (Mt E d mX1_thing [.ref (eb E + 33), .int (I6 18 j8)] I16 (fun rv I33 => ∃ j34 : Nat, j34 < 6 ∧ rv = some (.ref (eb E + (21 + j34))) ∧
 (Mt E d (sel_begs j34) [.ref (eb E + (21 + j34)), .ref (eb E + 11), .int x3] I33 (fun rv I36 => ∃ v37 : Int32, rv = some (.int v37) ∧
 (((I36 11 4) = 0 → Q (some (.int v37)) I36) ∧
 (¬ (I36 11 4) = 0 → Q (some (.int (-15))) I36))))))))))))))) ∧
 (v7 = 0 → Q (some (.int (nI 0))) I6))))))))))))))) : Mt E (d + 1) mX11_act [.ref (eb E + 0), .int x1, .int x2, .int x3] I Q := by
  refine Mt_of [(0, .ref (eb E + 0)), (1, .int x1), (2, .int x2), (3, .int x3)] (by decide +kernel) (by simp [lg_sl, Value.category, mX11_act]) rfl ?_
  refine J_aload_n 0 aX11_act_0 rfl ?_
  refine J_getR aX11_act_1 flX11_30 sh0 rfl ?_
  refine J_callV [] [] aX11_act_4 lkX11_356_X8 okX8_clear sh11 rfl rfl rfl (Nat.le_of_ble_eq_true rfl) (Nat.le_refl _) (Mt_mono h (fun rv I1 h => ?_))
  obtain ⟨rfl, h⟩ := h
  refine J_r0 ?_
  refine J_iload_n 1 aX11_act_7 rfl ?_
  refine J_callS [.int x1] [] aX11_act_8 lkX11_338 okX11_isShelf rfl rfl (Nat.le_of_ble_eq_true rfl) (Nat.le_refl _) (Mt_mono h (fun rv I2 h => ?_))
  obtain ⟨v3, rfl, h⟩ := h
  refine J_r1 ?_
  refine J_if_eq aX11_act_11 (fun q => ?_) (fun q => ?_)
  · replace h := h.1 q
    refine J_iconst (nI 0) aX11_act_30 (by decide +kernel) ?_
    exact J_iret aX11_act_31 rfl h
  · replace h := h.2 q
    refine J_iload_n 2 aX11_act_14 rfl ?_
    refine J_iconst (nI 3) aX11_act_15 (by decide +kernel) ?_
    refine J_callS [.int x2, .int (nI 3)] [] aX11_act_16 lkX11_110 okX11_isWithin rfl rfl (Nat.le_of_ble_eq_true rfl) (Nat.le_refl _) (Mt_mono h (fun rv I4 h => ?_))
    obtain ⟨v5, rfl, h⟩ := h
    refine J_r1 ?_
    refine J_if_eq aX11_act_19 (fun q => ?_) (fun q => ?_)
    · replace h := h.1 q
      refine J_iconst (nI 0) aX11_act_30 (by decide +kernel) ?_
      exact J_iret aX11_act_31 rfl h
    · replace h := h.2 q
      refine J_aload_n 0 aX11_act_22 rfl ?_
      refine J_iload_n 1 aX11_act_23 rfl ?_
      refine J_callV [.int x1] [] aX11_act_24 lkX11_347_X11 okX11_holdsPane sh0 rfl rfl rfl (Nat.le_of_ble_eq_true rfl) (Nat.le_refl _) (Mt_mono h (fun rv I6 h => ?_))
      obtain ⟨v7, rfl, h⟩ := h
      refine J_r1 ?_
      refine J_if_ne aX11_act_27 (fun q => ?_) (fun q => ?_)
      · replace h := h.1 q
        refine J_aload_n 0 aX11_act_32 rfl ?_
        refine J_getR aX11_act_33 flX11_54 sh0 rfl ?_
        refine J_iload_n 1 aX11_act_36 rfl ?_
        obtain ⟨j8, e9, b10, h⟩ := h
        refine J_iaload j8 aX11_act_37 sh18 e9 b10 (by decide) ?_
        refine J_istore [(4, .int (I6 18 j8)), (0, .ref (eb E + 0)), (1, .int x1), (2, .int x2), (3, .int x3)] aX11_act_38 (by decide) rfl ?_
        refine J_aload_n 1 aX11_act_40 rfl ?_
        refine J_getR aX11_act_41 flX11_30 sh0 rfl ?_
        refine J_iload 0 aX11_act_44 rfl ?_
        refine J_putI aX11_act_46 fpX11_359 sh11 rfl (fun I11 e12 => ?_)
        replace h := h I11 e12
        refine J_aload_n 1 aX11_act_49 rfl ?_
        refine J_getR aX11_act_50 flX11_30 sh0 rfl ?_
        refine J_aload_n 1 aX11_act_53 rfl ?_
        refine J_getR aX11_act_54 flX11_83 sh0 rfl ?_
        refine J_getR aX11_act_57 flX11_140 sh33 rfl ?_
        refine J_iload 0 aX11_act_60 rfl ?_
        obtain ⟨j13, e14, b15, h⟩ := h
        refine J_iaload j13 aX11_act_62 sh39 e14 b15 (by decide) ?_
        refine J_putI aX11_act_63 fpX11_362 sh11 rfl (fun I16 e17 => ?_)
        replace h := h I16 e17
        refine J_iconst (nI 0) aX11_act_66 (by decide +kernel) ?_
        refine J_istore [(5, .int (nI 0)), (4, .int (I6 18 j8)), (0, .ref (eb E + 0)), (1, .int x1), (2, .int x2), (3, .int x3)] aX11_act_67 (by decide) rfl ?_
        refine J_iload_n 4 aX11_act_69 rfl ?_
        by_cases q0 : x2 = (nI 0)
        · replace h := h.1 q0
          refine J_tswIn (nI 0) aX11_act_70 (off := 26) (tgt := 96) (by decide +kernel) q0 ?_
          refine J_aload_n 2 aX11_act_96 rfl ?_
          refine J_getR aX11_act_97 flX11_83 sh0 rfl ?_
          refine J_iload 1 aX11_act_100 rfl ?_
          refine J_callV [.int (I6 18 j8)] [] aX11_act_102 lkX11_146_X1 okX1_thing sh33 rfl rfl rfl (Nat.le_of_ble_eq_true rfl) (Nat.le_refl _) (Mt_mono h (fun rv I18 h => ?_))
          obtain ⟨j19, b20, rfl, h⟩ := h
          refine J_r1 ?_
          refine J_aload_n 2 aX11_act_105 rfl ?_
          refine J_getR aX11_act_106 flX11_30 sh0 rfl ?_
          refine J_iload_n 5 aX11_act_109 rfl ?_
          refine dspX11_364 [.ref (eb E + 11), .int x3] [] b20 aX11_act_110 rfl rfl rfl (Nat.le_of_ble_eq_true rfl) (Nat.le_refl _) (Mt_mono h (fun rv I21 h => ?_))
          obtain ⟨v22, rfl, h⟩ := h
          refine J_r1 ?_
          refine J_istore [(5, .int v22), (4, .int (I6 18 j8)), (0, .ref (eb E + 0)), (1, .int x1), (2, .int x2), (3, .int x3)] aX11_act_113 (by decide) rfl ?_
          refine J_goto aX11_act_115 ?_
          refine J_aload_n 2 aX11_act_181 rfl ?_
          refine J_getR aX11_act_182 flX11_30 sh0 rfl ?_
          refine J_getI aX11_act_185 flX11_377 sh11 rfl ?_
          refine J_if_eq aX11_act_188 (fun q => ?_) (fun q => ?_)
          · replace h := h.1 q
            refine J_iload 0 aX11_act_196 rfl ?_
            exact J_iret aX11_act_198 rfl h
          · replace h := h.2 q
            refine J_bipush (-15) aX11_act_191 (by decide +kernel) ?_
            refine J_goto aX11_act_193 ?_
            exact J_iret aX11_act_198 rfl h
        replace h := h.2
        by_cases q1 : x2 = (nI 1)
        · replace h := h.1 q1
          refine J_tswIn (nI 1) aX11_act_70 (off := 48) (tgt := 118) (by decide +kernel) q1 ?_
          refine J_aload_n 2 aX11_act_118 rfl ?_
          refine J_getR aX11_act_119 flX11_83 sh0 rfl ?_
          refine J_iload 1 aX11_act_122 rfl ?_
          refine J_callV [.int (I6 18 j8)] [] aX11_act_124 lkX11_146_X1 okX1_thing sh33 rfl rfl rfl (Nat.le_of_ble_eq_true rfl) (Nat.le_refl _) (Mt_mono h (fun rv I23 h => ?_))
          obtain ⟨j24, b25, rfl, h⟩ := h
          refine J_r1 ?_
          refine J_aload_n 2 aX11_act_127 rfl ?_
          refine J_getR aX11_act_128 flX11_30 sh0 rfl ?_
          refine J_iload_n 5 aX11_act_131 rfl ?_
          refine dspX11_368 [.ref (eb E + 11), .int x3] [] b25 aX11_act_132 rfl rfl rfl (Nat.le_of_ble_eq_true rfl) (Nat.le_refl _) (Mt_mono h (fun rv I26 h => ?_))
          obtain ⟨v27, rfl, h⟩ := h
          refine J_r1 ?_
          refine J_istore [(5, .int v27), (4, .int (I6 18 j8)), (0, .ref (eb E + 0)), (1, .int x1), (2, .int x2), (3, .int x3)] aX11_act_135 (by decide) rfl ?_
          refine J_goto aX11_act_137 ?_
          refine J_aload_n 2 aX11_act_181 rfl ?_
          refine J_getR aX11_act_182 flX11_30 sh0 rfl ?_
          refine J_getI aX11_act_185 flX11_377 sh11 rfl ?_
          refine J_if_eq aX11_act_188 (fun q => ?_) (fun q => ?_)
          · replace h := h.1 q
            refine J_iload 0 aX11_act_196 rfl ?_
            exact J_iret aX11_act_198 rfl h
          · replace h := h.2 q
            refine J_bipush (-15) aX11_act_191 (by decide +kernel) ?_
            refine J_goto aX11_act_193 ?_
            exact J_iret aX11_act_198 rfl h
        replace h := h.2
        by_cases q2 : x2 = (nI 2)
        · replace h := h.1 q2
          refine J_tswIn (nI 2) aX11_act_70 (off := 70) (tgt := 140) (by decide +kernel) q2 ?_
          refine J_aload_n 2 aX11_act_140 rfl ?_
          refine J_getR aX11_act_141 flX11_83 sh0 rfl ?_
          refine J_iload 1 aX11_act_144 rfl ?_
          refine J_callV [.int (I6 18 j8)] [] aX11_act_146 lkX11_146_X1 okX1_thing sh33 rfl rfl rfl (Nat.le_of_ble_eq_true rfl) (Nat.le_refl _) (Mt_mono h (fun rv I28 h => ?_))
          obtain ⟨j29, b30, rfl, h⟩ := h
          refine J_r1 ?_
          refine J_aload_n 2 aX11_act_149 rfl ?_
          refine J_getR aX11_act_150 flX11_30 sh0 rfl ?_
          refine J_iload_n 5 aX11_act_153 rfl ?_
          refine dspX11_371 [.ref (eb E + 11), .int x3] [] b30 aX11_act_154 rfl rfl rfl (Nat.le_of_ble_eq_true rfl) (Nat.le_refl _) (Mt_mono h (fun rv I31 h => ?_))
          obtain ⟨v32, rfl, h⟩ := h
          refine J_r1 ?_
          refine J_istore [(5, .int v32), (4, .int (I6 18 j8)), (0, .ref (eb E + 0)), (1, .int x1), (2, .int x2), (3, .int x3)] aX11_act_157 (by decide) rfl ?_
          refine J_goto aX11_act_159 ?_
          refine J_aload_n 2 aX11_act_181 rfl ?_
          refine J_getR aX11_act_182 flX11_30 sh0 rfl ?_
          refine J_getI aX11_act_185 flX11_377 sh11 rfl ?_
          refine J_if_eq aX11_act_188 (fun q => ?_) (fun q => ?_)
          · replace h := h.1 q
            refine J_iload 0 aX11_act_196 rfl ?_
            exact J_iret aX11_act_198 rfl h
          · replace h := h.2 q
            refine J_bipush (-15) aX11_act_191 (by decide +kernel) ?_
            refine J_goto aX11_act_193 ?_
            exact J_iret aX11_act_198 rfl h
        replace h := h.2
        replace h := h ⟨q0, q1, q2⟩
        refine J_tswOut aX11_act_70 (tgt := 162) (by decide) (tsw_out (fun k h1 h2 hk => by
          have hh : k = 0 ∨ k = 1 ∨ k = 2 := by omega
          rcases hh with rfl | rfl | rfl
          · exact q0 (Int32.toInt_inj.mp (hk.trans (by decide +kernel)))
          · exact q1 (Int32.toInt_inj.mp (hk.trans (by decide +kernel)))
          · exact q2 (Int32.toInt_inj.mp (hk.trans (by decide +kernel)))
          )) ?_
        refine J_aload_n 2 aX11_act_162 rfl ?_
        refine J_getR aX11_act_163 flX11_83 sh0 rfl ?_
        refine J_iload 1 aX11_act_166 rfl ?_
        refine J_callV [.int (I6 18 j8)] [] aX11_act_168 lkX11_146_X1 okX1_thing sh33 rfl rfl rfl (Nat.le_of_ble_eq_true rfl) (Nat.le_refl _) (Mt_mono h (fun rv I33 h => ?_))
        obtain ⟨j34, b35, rfl, h⟩ := h
        refine J_r1 ?_
        refine J_aload_n 2 aX11_act_171 rfl ?_
        refine J_getR aX11_act_172 flX11_30 sh0 rfl ?_
        refine J_iload_n 5 aX11_act_175 rfl ?_
        refine dspX11_374 [.ref (eb E + 11), .int x3] [] b35 aX11_act_176 rfl rfl rfl (Nat.le_of_ble_eq_true rfl) (Nat.le_refl _) (Mt_mono h (fun rv I36 h => ?_))
        obtain ⟨v37, rfl, h⟩ := h
        refine J_r1 ?_
        refine J_istore [(5, .int v37), (4, .int (I6 18 j8)), (0, .ref (eb E + 0)), (1, .int x1), (2, .int x2), (3, .int x3)] aX11_act_179 (by decide) rfl ?_
        refine J_aload_n 2 aX11_act_181 rfl ?_
        refine J_getR aX11_act_182 flX11_30 sh0 rfl ?_
        refine J_getI aX11_act_185 flX11_377 sh11 rfl ?_
        refine J_if_eq aX11_act_188 (fun q => ?_) (fun q => ?_)
        · replace h := h.1 q
          refine J_iload 0 aX11_act_196 rfl ?_
          exact J_iret aX11_act_198 rfl h
        · replace h := h.2 q
          refine J_bipush (-15) aX11_act_191 (by decide +kernel) ?_
          refine J_goto aX11_act_193 ?_
          exact J_iret aX11_act_198 rfl h
      · replace h := h.2 q
        refine J_iconst (nI 0) aX11_act_30 (by decide +kernel) ?_
        exact J_iret aX11_act_31 rfl h
theorem aX11_trace_0 : decode mX11_trace.2.1 0 = .ok (.iload_n 1, 1) ∧ 0 + 1 = 1 := ⟨by decide +kernel, rfl⟩
theorem aX11_trace_1 : decode mX11_trace.2.1 1 = .ok (.ifCond .lt 26, 3) ∧ ((1 : Nat) : Int) + 26 = ((27 : Nat) : Int) ∧ 1 + 3 = 4 := ⟨by decide +kernel, by decide, rfl⟩
theorem aX11_trace_4 : decode mX11_trace.2.1 4 = .ok (.iload_n 1, 1) ∧ 4 + 1 = 5 := ⟨by decide +kernel, rfl⟩
theorem aX11_trace_5 : decode mX11_trace.2.1 5 = .ok (.aload_n 0, 1) ∧ 5 + 1 = 6 := ⟨by decide +kernel, rfl⟩
theorem aX11_trace_6 : decode mX11_trace.2.1 6 = .ok (.getfield 30, 3) ∧ 6 + 3 = 9 := ⟨by decide +kernel, rfl⟩
theorem aX11_trace_9 : decode mX11_trace.2.1 9 = .ok (.getfield 380, 3) ∧ 9 + 3 = 12 := ⟨by decide +kernel, rfl⟩
theorem aX11_trace_12 : decode mX11_trace.2.1 12 = .ok (.if_icmp .ge 15, 3) ∧ ((12 : Nat) : Int) + 15 = ((27 : Nat) : Int) ∧ 12 + 3 = 15 := ⟨by decide +kernel, by decide, rfl⟩
theorem aX11_trace_15 : decode mX11_trace.2.1 15 = .ok (.aload_n 0, 1) ∧ 15 + 1 = 16 := ⟨by decide +kernel, rfl⟩
theorem aX11_trace_16 : decode mX11_trace.2.1 16 = .ok (.getfield 30, 3) ∧ 16 + 3 = 19 := ⟨by decide +kernel, rfl⟩
theorem aX11_trace_19 : decode mX11_trace.2.1 19 = .ok (.getfield 381, 3) ∧ 19 + 3 = 22 := ⟨by decide +kernel, rfl⟩
theorem aX11_trace_22 : decode mX11_trace.2.1 22 = .ok (.iload_n 1, 1) ∧ 22 + 1 = 23 := ⟨by decide +kernel, rfl⟩
theorem aX11_trace_23 : decode mX11_trace.2.1 23 = .ok (.iaload, 1) ∧ 23 + 1 = 24 := ⟨by decide +kernel, rfl⟩
theorem aX11_trace_24 : decode mX11_trace.2.1 24 = .ok (.goto 5, 3) ∧ ((24 : Nat) : Int) + 5 = ((29 : Nat) : Int) := ⟨by decide +kernel, by decide⟩
theorem aX11_trace_27 : decode mX11_trace.2.1 27 = .ok (.bipush (-3), 2) ∧ 27 + 2 = 29 := ⟨by decide +kernel, rfl⟩
theorem aX11_trace_29 : decode mX11_trace.2.1 29 = .ok (.ireturn, 1) := by decide +kernel
theorem S_X11_trace {E : EE} {d : Nat} {I : IH} {Q : QT} (x1 : Int32) (h :
((x1 < 0 → Q (some (.int (-3))) I) ∧
 (¬ x1 < 0 → (((I 11 1) ≤ x1 → Q (some (.int (-3))) I) ∧
 (¬ (I 11 1) ≤ x1 → (∃ j1 : Nat, x1 = nI j1 ∧ j1 < 30 ∧ Q (some (.int (I 12 j1))) I)))))) : Mt E d mX11_trace [.ref (eb E + 0), .int x1] I Q := by
  refine Mt_of [(0, .ref (eb E + 0)), (1, .int x1)] (by decide +kernel) (by simp [lg_sl, Value.category, mX11_trace]) rfl ?_
  refine J_iload_n 1 aX11_trace_0 rfl ?_
  refine J_if_lt aX11_trace_1 (fun q => ?_) (fun q => ?_)
  · replace h := h.1 q
    refine J_bipush (-3) aX11_trace_27 (by decide +kernel) ?_
    exact J_iret aX11_trace_29 rfl h
  · replace h := h.2 q
    refine J_iload_n 1 aX11_trace_4 rfl ?_
    refine J_aload_n 0 aX11_trace_5 rfl ?_
    refine J_getR aX11_trace_6 flX11_30 sh0 rfl ?_
    refine J_getI aX11_trace_9 flX11_380 sh11 rfl ?_
    refine J_icmp_ge aX11_trace_12 (fun q => ?_) (fun q => ?_)
    · replace h := h.1 q
      refine J_bipush (-3) aX11_trace_27 (by decide +kernel) ?_
      exact J_iret aX11_trace_29 rfl h
    · replace h := h.2 q
      refine J_aload_n 0 aX11_trace_15 rfl ?_
      refine J_getR aX11_trace_16 flX11_30 sh0 rfl ?_
      refine J_getR aX11_trace_19 flX11_381 sh11 rfl ?_
      refine J_iload_n 1 aX11_trace_22 rfl ?_
      obtain ⟨j1, e2, b3, h⟩ := h
      refine J_iaload j1 aX11_trace_23 sh12 e2 b3 (by decide) ?_
      refine J_goto aX11_trace_24 ?_
      exact J_iret aX11_trace_29 rfl h
theorem aX11_many_0 : decode mX11_many.2.1 0 = .ok (.iload_n 1, 1) ∧ 0 + 1 = 1 := ⟨by decide +kernel, rfl⟩
theorem aX11_many_1 : decode mX11_many.2.1 1 = .ok (.tableswitch 102 0 6 #[43, 51, 62, 73, 81, 86, 94], 43) := by decide +kernel
theorem aX11_many_44 : decode mX11_many.2.1 44 = .ok (.aload_n 0, 1) ∧ 44 + 1 = 45 := ⟨by decide +kernel, rfl⟩
theorem aX11_many_45 : decode mX11_many.2.1 45 = .ok (.getfield 83, 3) ∧ 45 + 3 = 48 := ⟨by decide +kernel, rfl⟩
theorem aX11_many_48 : decode mX11_many.2.1 48 = .ok (.getfield 117, 3) ∧ 48 + 3 = 51 := ⟨by decide +kernel, rfl⟩
theorem aX11_many_51 : decode mX11_many.2.1 51 = .ok (.ireturn, 1) := by decide +kernel
theorem aX11_many_52 : decode mX11_many.2.1 52 = .ok (.aload_n 0, 1) ∧ 52 + 1 = 53 := ⟨by decide +kernel, rfl⟩
theorem aX11_many_53 : decode mX11_many.2.1 53 = .ok (.getfield 83, 3) ∧ 53 + 3 = 56 := ⟨by decide +kernel, rfl⟩
theorem aX11_many_56 : decode mX11_many.2.1 56 = .ok (.getfield 216, 3) ∧ 56 + 3 = 59 := ⟨by decide +kernel, rfl⟩
theorem aX11_many_59 : decode mX11_many.2.1 59 = .ok (.getfield 223, 3) ∧ 59 + 3 = 62 := ⟨by decide +kernel, rfl⟩
theorem aX11_many_62 : decode mX11_many.2.1 62 = .ok (.ireturn, 1) := by decide +kernel
theorem aX11_many_63 : decode mX11_many.2.1 63 = .ok (.aload_n 0, 1) ∧ 63 + 1 = 64 := ⟨by decide +kernel, rfl⟩
theorem aX11_many_64 : decode mX11_many.2.1 64 = .ok (.getfield 83, 3) ∧ 64 + 3 = 67 := ⟨by decide +kernel, rfl⟩
theorem aX11_many_67 : decode mX11_many.2.1 67 = .ok (.getfield 143, 3) ∧ 67 + 3 = 70 := ⟨by decide +kernel, rfl⟩
theorem aX11_many_70 : decode mX11_many.2.1 70 = .ok (.invokestatic 249, 3) ∧ 70 + 3 = 73 := ⟨by decide +kernel, rfl⟩
theorem aX11_many_73 : decode mX11_many.2.1 73 = .ok (.ireturn, 1) := by decide +kernel
theorem aX11_many_74 : decode mX11_many.2.1 74 = .ok (.aload_n 0, 1) ∧ 74 + 1 = 75 := ⟨by decide +kernel, rfl⟩
theorem aX11_many_75 : decode mX11_many.2.1 75 = .ok (.getfield 83, 3) ∧ 75 + 3 = 78 := ⟨by decide +kernel, rfl⟩
theorem aX11_many_78 : decode mX11_many.2.1 78 = .ok (.getfield 295, 3) ∧ 78 + 3 = 81 := ⟨by decide +kernel, rfl⟩
theorem aX11_many_81 : decode mX11_many.2.1 81 = .ok (.ireturn, 1) := by decide +kernel
theorem aX11_many_82 : decode mX11_many.2.1 82 = .ok (.aload_n 0, 1) ∧ 82 + 1 = 83 := ⟨by decide +kernel, rfl⟩
theorem aX11_many_83 : decode mX11_many.2.1 83 = .ok (.getfield 38, 3) ∧ 83 + 3 = 86 := ⟨by decide +kernel, rfl⟩
theorem aX11_many_86 : decode mX11_many.2.1 86 = .ok (.ireturn, 1) := by decide +kernel
theorem aX11_many_87 : decode mX11_many.2.1 87 = .ok (.aload_n 0, 1) ∧ 87 + 1 = 88 := ⟨by decide +kernel, rfl⟩
theorem aX11_many_88 : decode mX11_many.2.1 88 = .ok (.getfield 16, 3) ∧ 88 + 3 = 91 := ⟨by decide +kernel, rfl⟩
theorem aX11_many_91 : decode mX11_many.2.1 91 = .ok (.getfield 205, 3) ∧ 91 + 3 = 94 := ⟨by decide +kernel, rfl⟩
theorem aX11_many_94 : decode mX11_many.2.1 94 = .ok (.ireturn, 1) := by decide +kernel
theorem aX11_many_95 : decode mX11_many.2.1 95 = .ok (.aload_n 0, 1) ∧ 95 + 1 = 96 := ⟨by decide +kernel, rfl⟩
theorem aX11_many_96 : decode mX11_many.2.1 96 = .ok (.getfield 30, 3) ∧ 96 + 3 = 99 := ⟨by decide +kernel, rfl⟩
theorem aX11_many_99 : decode mX11_many.2.1 99 = .ok (.getfield 380, 3) ∧ 99 + 3 = 102 := ⟨by decide +kernel, rfl⟩
theorem aX11_many_102 : decode mX11_many.2.1 102 = .ok (.ireturn, 1) := by decide +kernel
theorem aX11_many_103 : decode mX11_many.2.1 103 = .ok (.iconst (-1), 1) ∧ 103 + 1 = 104 := ⟨by decide +kernel, rfl⟩
theorem aX11_many_104 : decode mX11_many.2.1 104 = .ok (.ireturn, 1) := by decide +kernel
theorem S_X11_many {E : EE} {d : Nat} {I : IH} {Q : QT} (x1 : Int32) (h :
((x1 = (nI 0) → Q (some (.int (I 33 7))) I) ∧
 ((x1 = (nI 1) → Q (some (.int (I 27 0))) I) ∧
 ((x1 = (nI 2) → (Mt E d mJ6_bitCount_0f7a4 [.int (I 33 8)] I (fun rv I1 => ∃ v2 : Int32, rv = some (.int v2) ∧
 Q (some (.int v2)) I1))) ∧
 ((x1 = (nI 3) → Q (some (.int (I 33 10))) I) ∧
 ((x1 = (nI 4) → Q (some (.int (I 0 9))) I) ∧
 ((x1 = (nI 5) → Q (some (.int (I 1 0))) I) ∧
 ((x1 = (nI 6) → Q (some (.int (I 11 1))) I) ∧
 (¬ x1 = (nI 0) ∧ ¬ x1 = (nI 1) ∧ ¬ x1 = (nI 2) ∧ ¬ x1 = (nI 3) ∧ ¬ x1 = (nI 4) ∧ ¬ x1 = (nI 5) ∧ ¬ x1 = (nI 6) → Q (some (.int (-1))) I))))))))) : Mt E (d + 1) mX11_many [.ref (eb E + 0), .int x1] I Q := by
  refine Mt_of [(0, .ref (eb E + 0)), (1, .int x1)] (by decide +kernel) (by simp [lg_sl, Value.category, mX11_many]) rfl ?_
  refine J_iload_n 1 aX11_many_0 rfl ?_
  by_cases q0 : x1 = (nI 0)
  · replace h := h.1 q0
    refine J_tswIn (nI 0) aX11_many_1 (off := 43) (tgt := 44) (by decide +kernel) q0 ?_
    refine J_aload_n 0 aX11_many_44 rfl ?_
    refine J_getR aX11_many_45 flX11_83 sh0 rfl ?_
    refine J_getI aX11_many_48 flX11_117 sh33 rfl ?_
    exact J_iret aX11_many_51 rfl h
  replace h := h.2
  by_cases q1 : x1 = (nI 1)
  · replace h := h.1 q1
    refine J_tswIn (nI 1) aX11_many_1 (off := 51) (tgt := 52) (by decide +kernel) q1 ?_
    refine J_aload_n 0 aX11_many_52 rfl ?_
    refine J_getR aX11_many_53 flX11_83 sh0 rfl ?_
    refine J_getR aX11_many_56 flX11_216 sh33 rfl ?_
    refine J_getI aX11_many_59 flX11_223 sh27 rfl ?_
    exact J_iret aX11_many_62 rfl h
  replace h := h.2
  by_cases q2 : x1 = (nI 2)
  · replace h := h.1 q2
    refine J_tswIn (nI 2) aX11_many_1 (off := 62) (tgt := 63) (by decide +kernel) q2 ?_
    refine J_aload_n 0 aX11_many_63 rfl ?_
    refine J_getR aX11_many_64 flX11_83 sh0 rfl ?_
    refine J_getI aX11_many_67 flX11_143 sh33 rfl ?_
    refine J_callS [.int (I 33 8)] [] aX11_many_70 lkX11_249 okJ6_bitCount_0f7a4 rfl rfl (Nat.le_of_ble_eq_true rfl) (Nat.le_refl _) (Mt_mono h (fun rv I1 h => ?_))
    obtain ⟨v2, rfl, h⟩ := h
    refine J_r1 ?_
    exact J_iret aX11_many_73 rfl h
  replace h := h.2
  by_cases q3 : x1 = (nI 3)
  · replace h := h.1 q3
    refine J_tswIn (nI 3) aX11_many_1 (off := 73) (tgt := 74) (by decide +kernel) q3 ?_
    refine J_aload_n 0 aX11_many_74 rfl ?_
    refine J_getR aX11_many_75 flX11_83 sh0 rfl ?_
    refine J_getI aX11_many_78 flX11_295 sh33 rfl ?_
    exact J_iret aX11_many_81 rfl h
  replace h := h.2
  by_cases q4 : x1 = (nI 4)
  · replace h := h.1 q4
    refine J_tswIn (nI 4) aX11_many_1 (off := 81) (tgt := 82) (by decide +kernel) q4 ?_
    refine J_aload_n 0 aX11_many_82 rfl ?_
    refine J_getI aX11_many_83 flX11_38 sh0 rfl ?_
    exact J_iret aX11_many_86 rfl h
  replace h := h.2
  by_cases q5 : x1 = (nI 5)
  · replace h := h.1 q5
    refine J_tswIn (nI 5) aX11_many_1 (off := 86) (tgt := 87) (by decide +kernel) q5 ?_
    refine J_aload_n 0 aX11_many_87 rfl ?_
    refine J_getR aX11_many_88 flX11_16 sh0 rfl ?_
    refine J_getI aX11_many_91 flX11_205 sh1 rfl ?_
    exact J_iret aX11_many_94 rfl h
  replace h := h.2
  by_cases q6 : x1 = (nI 6)
  · replace h := h.1 q6
    refine J_tswIn (nI 6) aX11_many_1 (off := 94) (tgt := 95) (by decide +kernel) q6 ?_
    refine J_aload_n 0 aX11_many_95 rfl ?_
    refine J_getR aX11_many_96 flX11_30 sh0 rfl ?_
    refine J_getI aX11_many_99 flX11_380 sh11 rfl ?_
    exact J_iret aX11_many_102 rfl h
  replace h := h.2
  replace h := h ⟨q0, q1, q2, q3, q4, q5, q6⟩
  refine J_tswOut aX11_many_1 (tgt := 103) (by decide) (tsw_out (fun k h1 h2 hk => by
    have hh : k = 0 ∨ k = 1 ∨ k = 2 ∨ k = 3 ∨ k = 4 ∨ k = 5 ∨ k = 6 := by omega
    rcases hh with rfl | rfl | rfl | rfl | rfl | rfl | rfl
    · exact q0 (Int32.toInt_inj.mp (hk.trans (by decide +kernel)))
    · exact q1 (Int32.toInt_inj.mp (hk.trans (by decide +kernel)))
    · exact q2 (Int32.toInt_inj.mp (hk.trans (by decide +kernel)))
    · exact q3 (Int32.toInt_inj.mp (hk.trans (by decide +kernel)))
    · exact q4 (Int32.toInt_inj.mp (hk.trans (by decide +kernel)))
    · exact q5 (Int32.toInt_inj.mp (hk.trans (by decide +kernel)))
    · exact q6 (Int32.toInt_inj.mp (hk.trans (by decide +kernel)))
    )) ?_
  refine J_iconst (-1) aX11_many_103 (by decide +kernel) ?_
  exact J_iret aX11_many_104 rfl h
theorem aX11_keep_0 : decode mX11_keep.2.1 0 = .ok (.aload_n 0, 1) ∧ 0 + 1 = 1 := ⟨by decide +kernel, rfl⟩
theorem aX11_keep_1 : decode mX11_keep.2.1 1 = .ok (.getfield 87, 3) ∧ 1 + 3 = 4 := ⟨by decide +kernel, rfl⟩
theorem aX11_keep_4 : decode mX11_keep.2.1 4 = .ok (.aload_n 0, 1) ∧ 4 + 1 = 5 := ⟨by decide +kernel, rfl⟩
theorem aX11_keep_5 : decode mX11_keep.2.1 5 = .ok (.getfield 83, 3) ∧ 5 + 3 = 8 := ⟨by decide +kernel, rfl⟩
theorem aX11_keep_8 : decode mX11_keep.2.1 8 = .ok (.invokevirtual 227, 3) ∧ 8 + 3 = 11 := ⟨by decide +kernel, rfl⟩
theorem aX11_keep_11 : decode mX11_keep.2.1 11 = .ok (.aload_n 0, 1) ∧ 11 + 1 = 12 := ⟨by decide +kernel, rfl⟩
theorem aX11_keep_12 : decode mX11_keep.2.1 12 = .ok (.getfield 87, 3) ∧ 12 + 3 = 15 := ⟨by decide +kernel, rfl⟩
theorem aX11_keep_15 : decode mX11_keep.2.1 15 = .ok (.getfield 216, 3) ∧ 15 + 3 = 18 := ⟨by decide +kernel, rfl⟩
theorem aX11_keep_18 : decode mX11_keep.2.1 18 = .ok (.aload_n 0, 1) ∧ 18 + 1 = 19 := ⟨by decide +kernel, rfl⟩
theorem aX11_keep_19 : decode mX11_keep.2.1 19 = .ok (.getfield 83, 3) ∧ 19 + 3 = 22 := ⟨by decide +kernel, rfl⟩
theorem aX11_keep_22 : decode mX11_keep.2.1 22 = .ok (.getfield 216, 3) ∧ 22 + 3 = 25 := ⟨by decide +kernel, rfl⟩
theorem aX11_keep_25 : decode mX11_keep.2.1 25 = .ok (.invokevirtual 219, 3) ∧ 25 + 3 = 28 := ⟨by decide +kernel, rfl⟩
theorem aX11_keep_28 : decode mX11_keep.2.1 28 = .ok (.aload_n 0, 1) ∧ 28 + 1 = 29 := ⟨by decide +kernel, rfl⟩
theorem aX11_keep_29 : decode mX11_keep.2.1 29 = .ok (.iconst 1, 1) ∧ 29 + 1 = 30 := ⟨by decide +kernel, rfl⟩
theorem aX11_keep_30 : decode mX11_keep.2.1 30 = .ok (.putfield 9, 3) ∧ 30 + 3 = 33 := ⟨by decide +kernel, rfl⟩
theorem aX11_keep_33 : decode mX11_keep.2.1 33 = .ok (.iconst 1, 1) ∧ 33 + 1 = 34 := ⟨by decide +kernel, rfl⟩
theorem aX11_keep_34 : decode mX11_keep.2.1 34 = .ok (.ireturn, 1) := by decide +kernel
theorem S_X11_keep {E : EE} {d : Nat} {I : IH} {Q : QT}  (h :
(Mt E d mX1_become [.ref (eb E + 42), .ref (eb E + 33)] I (fun rv I1 => rv = none ∧
 (Mt E d mX6_become [.ref (eb E + 43), .ref (eb E + 27)] I1 (fun rv I2 => rv = none ∧
 (∀ I3 : IH, I3 = stI I2 0 3 (nI 1) →
 Q (some (.int (nI 1))) I3)))))) : Mt E (d + 1) mX11_keep [.ref (eb E + 0)] I Q := by
  refine Mt_of [(0, .ref (eb E + 0))] (by decide +kernel) (by simp [lg_sl, Value.category, mX11_keep]) rfl ?_
  refine J_aload_n 0 aX11_keep_0 rfl ?_
  refine J_getR aX11_keep_1 flX11_87 sh0 rfl ?_
  refine J_aload_n 0 aX11_keep_4 rfl ?_
  refine J_getR aX11_keep_5 flX11_83 sh0 rfl ?_
  refine J_callV [.ref (eb E + 33)] [] aX11_keep_8 lkX11_227_X1 okX1_become sh42 rfl rfl rfl (Nat.le_of_ble_eq_true rfl) (Nat.le_refl _) (Mt_mono h (fun rv I1 h => ?_))
  obtain ⟨rfl, h⟩ := h
  refine J_r0 ?_
  refine J_aload_n 0 aX11_keep_11 rfl ?_
  refine J_getR aX11_keep_12 flX11_87 sh0 rfl ?_
  refine J_getR aX11_keep_15 flX11_216 sh42 rfl ?_
  refine J_aload_n 0 aX11_keep_18 rfl ?_
  refine J_getR aX11_keep_19 flX11_83 sh0 rfl ?_
  refine J_getR aX11_keep_22 flX11_216 sh33 rfl ?_
  refine J_callV [.ref (eb E + 27)] [] aX11_keep_25 lkX11_219_X6 okX6_become sh43 rfl rfl rfl (Nat.le_of_ble_eq_true rfl) (Nat.le_refl _) (Mt_mono h (fun rv I2 h => ?_))
  obtain ⟨rfl, h⟩ := h
  refine J_r0 ?_
  refine J_aload_n 0 aX11_keep_28 rfl ?_
  refine J_iconst (nI 1) aX11_keep_29 (by decide +kernel) ?_
  refine J_putZ aX11_keep_30 fpX11_9 sh0 rfl (by decide +kernel) (fun I3 e4 => ?_)
  replace h := h I3 e4
  refine J_iconst (nI 1) aX11_keep_33 (by decide +kernel) ?_
  exact J_iret aX11_keep_34 rfl h
theorem aX11_again_0 : decode mX11_again.2.1 0 = .ok (.aload_n 0, 1) ∧ 0 + 1 = 1 := ⟨by decide +kernel, rfl⟩
theorem aX11_again_1 : decode mX11_again.2.1 1 = .ok (.getfield 9, 3) ∧ 1 + 3 = 4 := ⟨by decide +kernel, rfl⟩
theorem aX11_again_4 : decode mX11_again.2.1 4 = .ok (.ifCond .ne 6, 3) ∧ ((4 : Nat) : Int) + 6 = ((10 : Nat) : Int) ∧ 4 + 3 = 7 := ⟨by decide +kernel, by decide, rfl⟩
theorem aX11_again_7 : decode mX11_again.2.1 7 = .ok (.bipush (-3), 2) ∧ 7 + 2 = 9 := ⟨by decide +kernel, rfl⟩
theorem aX11_again_9 : decode mX11_again.2.1 9 = .ok (.ireturn, 1) := by decide +kernel
theorem aX11_again_10 : decode mX11_again.2.1 10 = .ok (.aload_n 0, 1) ∧ 10 + 1 = 11 := ⟨by decide +kernel, rfl⟩
theorem aX11_again_11 : decode mX11_again.2.1 11 = .ok (.getfield 83, 3) ∧ 11 + 3 = 14 := ⟨by decide +kernel, rfl⟩
theorem aX11_again_14 : decode mX11_again.2.1 14 = .ok (.aload_n 0, 1) ∧ 14 + 1 = 15 := ⟨by decide +kernel, rfl⟩
theorem aX11_again_15 : decode mX11_again.2.1 15 = .ok (.getfield 87, 3) ∧ 15 + 3 = 18 := ⟨by decide +kernel, rfl⟩
theorem aX11_again_18 : decode mX11_again.2.1 18 = .ok (.invokevirtual 227, 3) ∧ 18 + 3 = 21 := ⟨by decide +kernel, rfl⟩
theorem aX11_again_21 : decode mX11_again.2.1 21 = .ok (.aload_n 0, 1) ∧ 21 + 1 = 22 := ⟨by decide +kernel, rfl⟩
theorem aX11_again_22 : decode mX11_again.2.1 22 = .ok (.getfield 83, 3) ∧ 22 + 3 = 25 := ⟨by decide +kernel, rfl⟩
theorem aX11_again_25 : decode mX11_again.2.1 25 = .ok (.getfield 216, 3) ∧ 25 + 3 = 28 := ⟨by decide +kernel, rfl⟩
theorem aX11_again_28 : decode mX11_again.2.1 28 = .ok (.aload_n 0, 1) ∧ 28 + 1 = 29 := ⟨by decide +kernel, rfl⟩
theorem aX11_again_29 : decode mX11_again.2.1 29 = .ok (.getfield 87, 3) ∧ 29 + 3 = 32 := ⟨by decide +kernel, rfl⟩
theorem aX11_again_32 : decode mX11_again.2.1 32 = .ok (.getfield 216, 3) ∧ 32 + 3 = 35 := ⟨by decide +kernel, rfl⟩
theorem aX11_again_35 : decode mX11_again.2.1 35 = .ok (.invokevirtual 219, 3) ∧ 35 + 3 = 38 := ⟨by decide +kernel, rfl⟩
theorem aX11_again_38 : decode mX11_again.2.1 38 = .ok (.aload_n 0, 1) ∧ 38 + 1 = 39 := ⟨by decide +kernel, rfl⟩
theorem aX11_again_39 : decode mX11_again.2.1 39 = .ok (.getfield 83, 3) ∧ 39 + 3 = 42 := ⟨by decide +kernel, rfl⟩
theorem aX11_again_42 : decode mX11_again.2.1 42 = .ok (.getfield 117, 3) ∧ 42 + 3 = 45 := ⟨by decide +kernel, rfl⟩
theorem aX11_again_45 : decode mX11_again.2.1 45 = .ok (.ireturn, 1) := by decide +kernel
theorem S_X11_again {E : EE} {d : Nat} {I : IH} {Q : QT}  (h :
((¬ (I 0 3) = 0 → (Mt E d mX1_become [.ref (eb E + 33), .ref (eb E + 42)] I (fun rv I1 => rv = none ∧
 (Mt E d mX6_become [.ref (eb E + 27), .ref (eb E + 43)] I1 (fun rv I2 => rv = none ∧
 Q (some (.int (I2 33 7))) I2))))) ∧
 ((I 0 3) = 0 → Q (some (.int (-3))) I))) : Mt E (d + 1) mX11_again [.ref (eb E + 0)] I Q := by
  refine Mt_of [(0, .ref (eb E + 0))] (by decide +kernel) (by simp [lg_sl, Value.category, mX11_again]) rfl ?_
  refine J_aload_n 0 aX11_again_0 rfl ?_
  refine J_getI aX11_again_1 flX11_9 sh0 rfl ?_
  refine J_if_ne aX11_again_4 (fun q => ?_) (fun q => ?_)
  · replace h := h.1 q
    refine J_aload_n 0 aX11_again_10 rfl ?_
    refine J_getR aX11_again_11 flX11_83 sh0 rfl ?_
    refine J_aload_n 0 aX11_again_14 rfl ?_
    refine J_getR aX11_again_15 flX11_87 sh0 rfl ?_
    refine J_callV [.ref (eb E + 42)] [] aX11_again_18 lkX11_227_X1 okX1_become sh33 rfl rfl rfl (Nat.le_of_ble_eq_true rfl) (Nat.le_refl _) (Mt_mono h (fun rv I1 h => ?_))
    obtain ⟨rfl, h⟩ := h
    refine J_r0 ?_
    refine J_aload_n 0 aX11_again_21 rfl ?_
    refine J_getR aX11_again_22 flX11_83 sh0 rfl ?_
    refine J_getR aX11_again_25 flX11_216 sh33 rfl ?_
    refine J_aload_n 0 aX11_again_28 rfl ?_
    refine J_getR aX11_again_29 flX11_87 sh0 rfl ?_
    refine J_getR aX11_again_32 flX11_216 sh42 rfl ?_
    refine J_callV [.ref (eb E + 43)] [] aX11_again_35 lkX11_219_X6 okX6_become sh27 rfl rfl rfl (Nat.le_of_ble_eq_true rfl) (Nat.le_refl _) (Mt_mono h (fun rv I2 h => ?_))
    obtain ⟨rfl, h⟩ := h
    refine J_r0 ?_
    refine J_aload_n 0 aX11_again_38 rfl ?_
    refine J_getR aX11_again_39 flX11_83 sh0 rfl ?_
    refine J_getI aX11_again_42 flX11_117 sh33 rfl ?_
    exact J_iret aX11_again_45 rfl h
  · replace h := h.2 q
    refine J_bipush (-3) aX11_again_7 (by decide +kernel) ?_
    exact J_iret aX11_again_9 rfl h
