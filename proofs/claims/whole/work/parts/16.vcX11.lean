theorem aX11_back_0 : decode mX11_back.2.1 0 = .ok (.aload_n 0, 1) ∧ 0 + 1 = 1 := ⟨by decide +kernel, rfl⟩
theorem aX11_back_1 : decode mX11_back.2.1 1 = .ok (.iload_n 1, 1) ∧ 1 + 1 = 2 := ⟨by decide +kernel, rfl⟩
theorem aX11_back_2 : decode mX11_back.2.1 2 = .ok (.invokevirtual 124, 3) ∧ 2 + 3 = 5 := ⟨by decide +kernel, rfl⟩
theorem aX11_back_5 : decode mX11_back.2.1 5 = .ok (.ifCond .ne 5, 3) ∧ ((5 : Nat) : Int) + 5 = ((10 : Nat) : Int) ∧ 5 + 3 = 8 := ⟨by decide +kernel, by decide, rfl⟩
theorem aX11_back_8 : decode mX11_back.2.1 8 = .ok (.iconst (-1), 1) ∧ 8 + 1 = 9 := ⟨by decide +kernel, rfl⟩
theorem aX11_back_9 : decode mX11_back.2.1 9 = .ok (.ireturn, 1) := by decide +kernel
theorem aX11_back_10 : decode mX11_back.2.1 10 = .ok (.aload_n 0, 1) ∧ 10 + 1 = 11 := ⟨by decide +kernel, rfl⟩
theorem aX11_back_11 : decode mX11_back.2.1 11 = .ok (.getfield 83, 3) ∧ 11 + 3 = 14 := ⟨by decide +kernel, rfl⟩
theorem aX11_back_14 : decode mX11_back.2.1 14 = .ok (.iload_n 1, 1) ∧ 14 + 1 = 15 := ⟨by decide +kernel, rfl⟩
theorem aX11_back_15 : decode mX11_back.2.1 15 = .ok (.invokevirtual 146, 3) ∧ 15 + 3 = 18 := ⟨by decide +kernel, rfl⟩
theorem aX11_back_18 : decode mX11_back.2.1 18 = .ok (.astore_n 2, 1) ∧ 18 + 1 = 19 := ⟨by decide +kernel, rfl⟩
theorem aX11_back_19 : decode mX11_back.2.1 19 = .ok (.aload_n 0, 1) ∧ 19 + 1 = 20 := ⟨by decide +kernel, rfl⟩
theorem aX11_back_20 : decode mX11_back.2.1 20 = .ok (.getfield 83, 3) ∧ 20 + 3 = 23 := ⟨by decide +kernel, rfl⟩
theorem aX11_back_23 : decode mX11_back.2.1 23 = .ok (.getfield 134, 3) ∧ 23 + 3 = 26 := ⟨by decide +kernel, rfl⟩
theorem aX11_back_26 : decode mX11_back.2.1 26 = .ok (.iload_n 1, 1) ∧ 26 + 1 = 27 := ⟨by decide +kernel, rfl⟩
theorem aX11_back_27 : decode mX11_back.2.1 27 = .ok (.iaload, 1) ∧ 27 + 1 = 28 := ⟨by decide +kernel, rfl⟩
theorem aX11_back_28 : decode mX11_back.2.1 28 = .ok (.istore_n 3, 1) ∧ 28 + 1 = 29 := ⟨by decide +kernel, rfl⟩
theorem aX11_back_29 : decode mX11_back.2.1 29 = .ok (.iconst 1, 1) ∧ 29 + 1 = 30 := ⟨by decide +kernel, rfl⟩
theorem aX11_back_30 : decode mX11_back.2.1 30 = .ok (.istore 4, 2) ∧ 30 + 2 = 32 := ⟨by decide +kernel, rfl⟩
theorem aX11_back_32 : decode mX11_back.2.1 32 = .ok (.iload 4, 2) ∧ 32 + 2 = 34 := ⟨by decide +kernel, rfl⟩
theorem aX11_back_34 : decode mX11_back.2.1 34 = .ok (.bipush 64, 2) ∧ 34 + 2 = 36 := ⟨by decide +kernel, rfl⟩
theorem aX11_back_36 : decode mX11_back.2.1 36 = .ok (.if_icmp .gt 43, 3) ∧ ((36 : Nat) : Int) + 43 = ((79 : Nat) : Int) ∧ 36 + 3 = 39 := ⟨by decide +kernel, by decide, rfl⟩
theorem aX11_back_39 : decode mX11_back.2.1 39 = .ok (.aload_n 2, 1) ∧ 39 + 1 = 40 := ⟨by decide +kernel, rfl⟩
theorem aX11_back_40 : decode mX11_back.2.1 40 = .ok (.iload_n 3, 1) ∧ 40 + 1 = 41 := ⟨by decide +kernel, rfl⟩
theorem aX11_back_41 : decode mX11_back.2.1 41 = .ok (.aload_n 0, 1) ∧ 41 + 1 = 42 := ⟨by decide +kernel, rfl⟩
theorem aX11_back_42 : decode mX11_back.2.1 42 = .ok (.getfield 83, 3) ∧ 42 + 3 = 45 := ⟨by decide +kernel, rfl⟩
theorem aX11_back_45 : decode mX11_back.2.1 45 = .ok (.getfield 154, 3) ∧ 45 + 3 = 48 := ⟨by decide +kernel, rfl⟩
theorem aX11_back_48 : decode mX11_back.2.1 48 = .ok (.iload 4, 2) ∧ 48 + 2 = 50 := ⟨by decide +kernel, rfl⟩
theorem aX11_back_50 : decode mX11_back.2.1 50 = .ok (.iadd, 1) ∧ 50 + 1 = 51 := ⟨by decide +kernel, rfl⟩
theorem aX11_back_51 : decode mX11_back.2.1 51 = .ok (.iconst 1, 1) ∧ 51 + 1 = 52 := ⟨by decide +kernel, rfl⟩
theorem aX11_back_52 : decode mX11_back.2.1 52 = .ok (.isub, 1) ∧ 52 + 1 = 53 := ⟨by decide +kernel, rfl⟩
theorem aX11_back_53 : decode mX11_back.2.1 53 = .ok (.invokevirtual 157, 3) ∧ 53 + 3 = 56 := ⟨by decide +kernel, rfl⟩
theorem aX11_back_56 : decode mX11_back.2.1 56 = .ok (.istore_n 3, 1) ∧ 56 + 1 = 57 := ⟨by decide +kernel, rfl⟩
theorem aX11_back_57 : decode mX11_back.2.1 57 = .ok (.iload_n 3, 1) ∧ 57 + 1 = 58 := ⟨by decide +kernel, rfl⟩
theorem aX11_back_58 : decode mX11_back.2.1 58 = .ok (.aload_n 0, 1) ∧ 58 + 1 = 59 := ⟨by decide +kernel, rfl⟩
theorem aX11_back_59 : decode mX11_back.2.1 59 = .ok (.getfield 83, 3) ∧ 59 + 3 = 62 := ⟨by decide +kernel, rfl⟩
theorem aX11_back_62 : decode mX11_back.2.1 62 = .ok (.getfield 134, 3) ∧ 62 + 3 = 65 := ⟨by decide +kernel, rfl⟩
theorem aX11_back_65 : decode mX11_back.2.1 65 = .ok (.iload_n 1, 1) ∧ 65 + 1 = 66 := ⟨by decide +kernel, rfl⟩
theorem aX11_back_66 : decode mX11_back.2.1 66 = .ok (.iaload, 1) ∧ 66 + 1 = 67 := ⟨by decide +kernel, rfl⟩
theorem aX11_back_67 : decode mX11_back.2.1 67 = .ok (.if_icmp .ne 6, 3) ∧ ((67 : Nat) : Int) + 6 = ((73 : Nat) : Int) ∧ 67 + 3 = 70 := ⟨by decide +kernel, by decide, rfl⟩
theorem aX11_back_70 : decode mX11_back.2.1 70 = .ok (.iload 4, 2) ∧ 70 + 2 = 72 := ⟨by decide +kernel, rfl⟩
theorem aX11_back_72 : decode mX11_back.2.1 72 = .ok (.ireturn, 1) := by decide +kernel
theorem aX11_back_73 : decode mX11_back.2.1 73 = .ok (.iinc 4 1, 3) ∧ 73 + 3 = 76 := ⟨by decide +kernel, rfl⟩
theorem aX11_back_76 : decode mX11_back.2.1 76 = .ok (.goto (-44), 3) ∧ ((76 : Nat) : Int) + (-44) = ((32 : Nat) : Int) := ⟨by decide +kernel, by decide⟩
theorem aX11_back_79 : decode mX11_back.2.1 79 = .ok (.bipush (-3), 2) ∧ 79 + 2 = 81 := ⟨by decide +kernel, rfl⟩
theorem aX11_back_81 : decode mX11_back.2.1 81 = .ok (.ireturn, 1) := by decide +kernel
theorem S_X11_back {E : EE} {d : Nat} {I : IH} {Q : QT} (x1 : Int32) (h :
(Mt E d mX11_isPane [.ref (eb E + 0), .int x1] I (fun rv I1 => ∃ v2 : Int32, rv = some (.int v2) ∧
 ((¬ v2 = 0 → (Mt E d mX1_thing [.ref (eb E + 33), .int x1] I1 (fun rv I3 => ∃ j4 : Nat, j4 < 6 ∧ rv = some (.ref (eb E + (21 + j4))) ∧
 (∃ j6 : Nat, x1 = nI j6 ∧ j6 < 6 ∧ J E (d + 1) mX11_back 32 [(0, .ref (eb E + 0)), (1, .int x1), (2, .ref (eb E + (21 + j4))), (3, .int (I3 38 j6)), (4, .int (nI 1))] [] I3 Q)))) ∧
 (v2 = 0 → Q (some (.int (-1))) I1))))) : Mt E (d + 1) mX11_back [.ref (eb E + 0), .int x1] I Q := by
  refine Mt_of [(0, .ref (eb E + 0)), (1, .int x1)] (by decide +kernel) (by simp [lg_sl, Value.category, mX11_back]) rfl ?_
  refine J_aload_n 0 aX11_back_0 rfl ?_
  refine J_iload_n 1 aX11_back_1 rfl ?_
  refine J_callV [.int x1] [] aX11_back_2 lkX11_124_X11 okX11_isPane sh0 rfl rfl rfl (Nat.le_of_ble_eq_true rfl) (Nat.le_refl _) (Mt_mono h (fun rv I1 h => ?_))
  obtain ⟨v2, rfl, h⟩ := h
  refine J_r1 ?_
  refine J_if_ne aX11_back_5 (fun q => ?_) (fun q => ?_)
  · replace h := h.1 q
    refine J_aload_n 0 aX11_back_10 rfl ?_
    refine J_getR aX11_back_11 flX11_83 sh0 rfl ?_
    refine J_iload_n 1 aX11_back_14 rfl ?_
    refine J_callV [.int x1] [] aX11_back_15 lkX11_146_X1 okX1_thing sh33 rfl rfl rfl (Nat.le_of_ble_eq_true rfl) (Nat.le_refl _) (Mt_mono h (fun rv I3 h => ?_))
    obtain ⟨j4, b5, rfl, h⟩ := h
    refine J_r1 ?_
    refine J_astore_n [(2, .ref (eb E + (21 + j4))), (0, .ref (eb E + 0)), (1, .int x1)] aX11_back_18 (by decide) rfl ?_
    refine J_aload_n 1 aX11_back_19 rfl ?_
    refine J_getR aX11_back_20 flX11_83 sh0 rfl ?_
    refine J_getR aX11_back_23 flX11_134 sh33 rfl ?_
    refine J_iload_n 2 aX11_back_26 rfl ?_
    obtain ⟨j6, e7, b8, h⟩ := h
    refine J_iaload j6 aX11_back_27 sh38 e7 b8 (by decide) ?_
    refine J_istore_n [(3, .int (I3 38 j6)), (2, .ref (eb E + (21 + j4))), (0, .ref (eb E + 0)), (1, .int x1)] aX11_back_28 (by decide) rfl ?_
    refine J_iconst (nI 1) aX11_back_29 (by decide +kernel) ?_
    refine J_istore [(4, .int (nI 1)), (3, .int (I3 38 j6)), (2, .ref (eb E + (21 + j4))), (0, .ref (eb E + 0)), (1, .int x1)] aX11_back_30 (by decide) rfl ?_
    refine J_pick [3, 4, 2, 1, 0] rfl ?_
    exact h
  · replace h := h.2 q
    refine J_iconst (-1) aX11_back_8 (by decide +kernel) ?_
    exact J_iret aX11_back_9 rfl h
theorem S_X11_back_32 {E : EE} {d : Nat} {I : IH} {Q : QT} (x1 : Int32) {j2 : Nat} (hj2 : j2 < 6) (x3 : Int32) (x4 : Int32) (h :
(((nI 64) < x4 → Q (some (.int (-3))) I) ∧
 (¬ (nI 64) < x4 → (Mt E d (sel_next j2) [.ref (eb E + (21 + j2)), .int x3, .int (((I 33 3) + x4) - (nI 1))] I (fun rv I1 => ∃ v2 : Int32, rv = some (.int v2) ∧
 (∃ j3 : Nat, x1 = nI j3 ∧ j3 < 6 ∧ ((¬ v2 = (I1 38 j3) → J E (d + 1) mX11_back 32 [(0, .ref (eb E + 0)), (1, .int x1), (2, .ref (eb E + (21 + j2))), (3, .int v2), (4, .int (x4 + nI 1))] [] I1 Q) ∧
 (v2 = (I1 38 j3) → Q (some (.int x4)) I1)))))))) : J E (d + 1) mX11_back 32 [(0, .ref (eb E + 0)), (1, .int x1), (2, .ref (eb E + (21 + j2))), (3, .int x3), (4, .int x4)] [] I Q := by
  refine J_iload 4 aX11_back_32 rfl ?_
  refine J_bipush (nI 64) aX11_back_34 (by decide +kernel) ?_
  refine J_icmp_gt aX11_back_36 (fun q => ?_) (fun q => ?_)
  · replace h := h.1 q
    refine J_bipush (-3) aX11_back_79 (by decide +kernel) ?_
    exact J_iret aX11_back_81 rfl h
  · replace h := h.2 q
    refine J_aload_n 2 aX11_back_39 rfl ?_
    refine J_iload_n 3 aX11_back_40 rfl ?_
    refine J_aload_n 0 aX11_back_41 rfl ?_
    refine J_getR aX11_back_42 flX11_83 sh0 rfl ?_
    refine J_getI aX11_back_45 flX11_154 sh33 rfl ?_
    refine J_iload 4 aX11_back_48 rfl ?_
    refine J_iadd aX11_back_50 ?_
    refine J_iconst (nI 1) aX11_back_51 (by decide +kernel) ?_
    refine J_isub aX11_back_52 ?_
    refine dspX11_157 [.int x3, .int (((I 33 3) + x4) - (nI 1))] [] hj2 aX11_back_53 rfl rfl rfl (Nat.le_of_ble_eq_true rfl) (Nat.le_refl _) (Mt_mono h (fun rv I1 h => ?_))
    obtain ⟨v2, rfl, h⟩ := h
    refine J_r1 ?_
    refine J_istore_n [(3, .int v2), (0, .ref (eb E + 0)), (1, .int x1), (2, .ref (eb E + (21 + j2))), (4, .int x4)] aX11_back_56 (by decide) rfl ?_
    refine J_iload_n 0 aX11_back_57 rfl ?_
    refine J_aload_n 1 aX11_back_58 rfl ?_
    refine J_getR aX11_back_59 flX11_83 sh0 rfl ?_
    refine J_getR aX11_back_62 flX11_134 sh33 rfl ?_
    refine J_iload_n 2 aX11_back_65 rfl ?_
    obtain ⟨j3, e4, b5, h⟩ := h
    refine J_iaload j3 aX11_back_66 sh38 e4 b5 (by decide) ?_
    refine J_icmp_ne aX11_back_67 (fun q => ?_) (fun q => ?_)
    · replace h := h.1 q
      refine J_iinc (x4 + nI 1) [(4, .int (x4 + nI 1)), (3, .int v2), (0, .ref (eb E + 0)), (1, .int x1), (2, .ref (eb E + (21 + j2)))] 4 aX11_back_73 rfl (by first | rfl | (congr 1; decide +kernel)) (by decide) rfl ?_
      refine J_goto aX11_back_76 ?_
      refine J_pick [2, 3, 4, 1, 0] rfl ?_
      exact h
    · replace h := h.2 q
      refine J_iload 4 aX11_back_70 rfl ?_
      exact J_iret aX11_back_72 rfl h
theorem aX11_companies_0 : decode mX11_companies.2.1 0 = .ok (.iload_n 1, 1) ∧ 0 + 1 = 1 := ⟨by decide +kernel, rfl⟩
theorem aX11_companies_1 : decode mX11_companies.2.1 1 = .ok (.iconst (-1), 1) ∧ 1 + 1 = 2 := ⟨by decide +kernel, rfl⟩
theorem aX11_companies_2 : decode mX11_companies.2.1 2 = .ok (.if_icmp .ne 8, 3) ∧ ((2 : Nat) : Int) + 8 = ((10 : Nat) : Int) ∧ 2 + 3 = 5 := ⟨by decide +kernel, by decide, rfl⟩
theorem aX11_companies_5 : decode mX11_companies.2.1 5 = .ok (.aload_n 0, 1) ∧ 5 + 1 = 6 := ⟨by decide +kernel, rfl⟩
theorem aX11_companies_6 : decode mX11_companies.2.1 6 = .ok (.invokevirtual 237, 3) ∧ 6 + 3 = 9 := ⟨by decide +kernel, rfl⟩
theorem aX11_companies_9 : decode mX11_companies.2.1 9 = .ok (.ireturn, 1) := by decide +kernel
theorem aX11_companies_10 : decode mX11_companies.2.1 10 = .ok (.aload_n 0, 1) ∧ 10 + 1 = 11 := ⟨by decide +kernel, rfl⟩
theorem aX11_companies_11 : decode mX11_companies.2.1 11 = .ok (.iload_n 1, 1) ∧ 11 + 1 = 12 := ⟨by decide +kernel, rfl⟩
theorem aX11_companies_12 : decode mX11_companies.2.1 12 = .ok (.invokevirtual 124, 3) ∧ 12 + 3 = 15 := ⟨by decide +kernel, rfl⟩
theorem aX11_companies_15 : decode mX11_companies.2.1 15 = .ok (.ifCond .ne 5, 3) ∧ ((15 : Nat) : Int) + 5 = ((20 : Nat) : Int) ∧ 15 + 3 = 18 := ⟨by decide +kernel, by decide, rfl⟩
theorem aX11_companies_18 : decode mX11_companies.2.1 18 = .ok (.iconst (-1), 1) ∧ 18 + 1 = 19 := ⟨by decide +kernel, rfl⟩
theorem aX11_companies_19 : decode mX11_companies.2.1 19 = .ok (.ireturn, 1) := by decide +kernel
theorem aX11_companies_20 : decode mX11_companies.2.1 20 = .ok (.aload_n 0, 1) ∧ 20 + 1 = 21 := ⟨by decide +kernel, rfl⟩
theorem aX11_companies_21 : decode mX11_companies.2.1 21 = .ok (.iload_n 1, 1) ∧ 21 + 1 = 22 := ⟨by decide +kernel, rfl⟩
theorem aX11_companies_22 : decode mX11_companies.2.1 22 = .ok (.invokevirtual 240, 3) ∧ 22 + 3 = 25 := ⟨by decide +kernel, rfl⟩
theorem aX11_companies_25 : decode mX11_companies.2.1 25 = .ok (.ireturn, 1) := by decide +kernel
theorem S_X11_companies {E : EE} {d : Nat} {I : IH} {Q : QT} (x1 : Int32) (h :
((¬ x1 = (-1) → (Mt E d mX11_isPane [.ref (eb E + 0), .int x1] I (fun rv I1 => ∃ v2 : Int32, rv = some (.int v2) ∧
 ((¬ v2 = 0 → (Mt E d mX11_company [.ref (eb E + 0), .int x1] I1 (fun rv I3 => ∃ v4 : Int32, rv = some (.int v4) ∧
 Q (some (.int v4)) I3))) ∧
 (v2 = 0 → Q (some (.int (-1))) I1))))) ∧
 (x1 = (-1) → (Mt E d mX11_countCompanies [.ref (eb E + 0)] I (fun rv I5 => ∃ v6 : Int32, rv = some (.int v6) ∧
 Q (some (.int v6)) I5))))) : Mt E (d + 1) mX11_companies [.ref (eb E + 0), .int x1] I Q := by
  refine Mt_of [(0, .ref (eb E + 0)), (1, .int x1)] (by decide +kernel) (by simp [lg_sl, Value.category, mX11_companies]) rfl ?_
  refine J_iload_n 1 aX11_companies_0 rfl ?_
  refine J_iconst (-1) aX11_companies_1 (by decide +kernel) ?_
  refine J_icmp_ne aX11_companies_2 (fun q => ?_) (fun q => ?_)
  · replace h := h.1 q
    refine J_aload_n 0 aX11_companies_10 rfl ?_
    refine J_iload_n 1 aX11_companies_11 rfl ?_
    refine J_callV [.int x1] [] aX11_companies_12 lkX11_124_X11 okX11_isPane sh0 rfl rfl rfl (Nat.le_of_ble_eq_true rfl) (Nat.le_refl _) (Mt_mono h (fun rv I1 h => ?_))
    obtain ⟨v2, rfl, h⟩ := h
    refine J_r1 ?_
    refine J_if_ne aX11_companies_15 (fun q => ?_) (fun q => ?_)
    · replace h := h.1 q
      refine J_aload_n 0 aX11_companies_20 rfl ?_
      refine J_iload_n 1 aX11_companies_21 rfl ?_
      refine J_callV [.int x1] [] aX11_companies_22 lkX11_240_X11 okX11_company sh0 rfl rfl rfl (Nat.le_of_ble_eq_true rfl) (Nat.le_refl _) (Mt_mono h (fun rv I3 h => ?_))
      obtain ⟨v4, rfl, h⟩ := h
      refine J_r1 ?_
      exact J_iret aX11_companies_25 rfl h
    · replace h := h.2 q
      refine J_iconst (-1) aX11_companies_18 (by decide +kernel) ?_
      exact J_iret aX11_companies_19 rfl h
  · replace h := h.2 q
    refine J_aload_n 0 aX11_companies_5 rfl ?_
    refine J_callV [] [] aX11_companies_6 lkX11_237_X11 okX11_countCompanies sh0 rfl rfl rfl (Nat.le_of_ble_eq_true rfl) (Nat.le_refl _) (Mt_mono h (fun rv I5 h => ?_))
    obtain ⟨v6, rfl, h⟩ := h
    refine J_r1 ?_
    exact J_iret aX11_companies_9 rfl h
theorem aX11_countCompanies_0 : decode mX11_countCompanies.2.1 0 = .ok (.iconst 0, 1) ∧ 0 + 1 = 1 := ⟨by decide +kernel, rfl⟩
theorem aX11_countCompanies_1 : decode mX11_countCompanies.2.1 1 = .ok (.istore_n 1, 1) ∧ 1 + 1 = 2 := ⟨by decide +kernel, rfl⟩
theorem aX11_countCompanies_2 : decode mX11_countCompanies.2.1 2 = .ok (.iconst 0, 1) ∧ 2 + 1 = 3 := ⟨by decide +kernel, rfl⟩
theorem aX11_countCompanies_3 : decode mX11_countCompanies.2.1 3 = .ok (.istore_n 2, 1) ∧ 3 + 1 = 4 := ⟨by decide +kernel, rfl⟩
theorem aX11_countCompanies_4 : decode mX11_countCompanies.2.1 4 = .ok (.iload_n 2, 1) ∧ 4 + 1 = 5 := ⟨by decide +kernel, rfl⟩
theorem aX11_countCompanies_5 : decode mX11_countCompanies.2.1 5 = .ok (.aload_n 0, 1) ∧ 5 + 1 = 6 := ⟨by decide +kernel, rfl⟩
theorem aX11_countCompanies_6 : decode mX11_countCompanies.2.1 6 = .ok (.getfield 83, 3) ∧ 6 + 3 = 9 := ⟨by decide +kernel, rfl⟩
theorem aX11_countCompanies_9 : decode mX11_countCompanies.2.1 9 = .ok (.getfield 117, 3) ∧ 9 + 3 = 12 := ⟨by decide +kernel, rfl⟩
theorem aX11_countCompanies_12 : decode mX11_countCompanies.2.1 12 = .ok (.if_icmp .ge 28, 3) ∧ ((12 : Nat) : Int) + 28 = ((40 : Nat) : Int) ∧ 12 + 3 = 15 := ⟨by decide +kernel, by decide, rfl⟩
theorem aX11_countCompanies_15 : decode mX11_countCompanies.2.1 15 = .ok (.aload_n 0, 1) ∧ 15 + 1 = 16 := ⟨by decide +kernel, rfl⟩
theorem aX11_countCompanies_16 : decode mX11_countCompanies.2.1 16 = .ok (.iload_n 2, 1) ∧ 16 + 1 = 17 := ⟨by decide +kernel, rfl⟩
theorem aX11_countCompanies_17 : decode mX11_countCompanies.2.1 17 = .ok (.invokevirtual 240, 3) ∧ 17 + 3 = 20 := ⟨by decide +kernel, rfl⟩
theorem aX11_countCompanies_20 : decode mX11_countCompanies.2.1 20 = .ok (.istore_n 3, 1) ∧ 20 + 1 = 21 := ⟨by decide +kernel, rfl⟩
theorem aX11_countCompanies_21 : decode mX11_countCompanies.2.1 21 = .ok (.iload_n 3, 1) ∧ 21 + 1 = 22 := ⟨by decide +kernel, rfl⟩
theorem aX11_countCompanies_22 : decode mX11_countCompanies.2.1 22 = .ok (.iload_n 3, 1) ∧ 22 + 1 = 23 := ⟨by decide +kernel, rfl⟩
theorem aX11_countCompanies_23 : decode mX11_countCompanies.2.1 23 = .ok (.ineg, 1) ∧ 23 + 1 = 24 := ⟨by decide +kernel, rfl⟩
theorem aX11_countCompanies_24 : decode mX11_countCompanies.2.1 24 = .ok (.iand, 1) ∧ 24 + 1 = 25 := ⟨by decide +kernel, rfl⟩
theorem aX11_countCompanies_25 : decode mX11_countCompanies.2.1 25 = .ok (.iconst 1, 1) ∧ 25 + 1 = 26 := ⟨by decide +kernel, rfl⟩
theorem aX11_countCompanies_26 : decode mX11_countCompanies.2.1 26 = .ok (.iload_n 2, 1) ∧ 26 + 1 = 27 := ⟨by decide +kernel, rfl⟩
theorem aX11_countCompanies_27 : decode mX11_countCompanies.2.1 27 = .ok (.ishl, 1) ∧ 27 + 1 = 28 := ⟨by decide +kernel, rfl⟩
theorem aX11_countCompanies_28 : decode mX11_countCompanies.2.1 28 = .ok (.if_icmp .ne 6, 3) ∧ ((28 : Nat) : Int) + 6 = ((34 : Nat) : Int) ∧ 28 + 3 = 31 := ⟨by decide +kernel, by decide, rfl⟩
theorem aX11_countCompanies_31 : decode mX11_countCompanies.2.1 31 = .ok (.iinc 1 1, 3) ∧ 31 + 3 = 34 := ⟨by decide +kernel, rfl⟩
theorem aX11_countCompanies_34 : decode mX11_countCompanies.2.1 34 = .ok (.iinc 2 1, 3) ∧ 34 + 3 = 37 := ⟨by decide +kernel, rfl⟩
theorem aX11_countCompanies_37 : decode mX11_countCompanies.2.1 37 = .ok (.goto (-33), 3) ∧ ((37 : Nat) : Int) + (-33) = ((4 : Nat) : Int) := ⟨by decide +kernel, by decide⟩
theorem aX11_countCompanies_40 : decode mX11_countCompanies.2.1 40 = .ok (.iload_n 1, 1) ∧ 40 + 1 = 41 := ⟨by decide +kernel, rfl⟩
theorem aX11_countCompanies_41 : decode mX11_countCompanies.2.1 41 = .ok (.ireturn, 1) := by decide +kernel
theorem S_X11_countCompanies {E : EE} {d : Nat} {I : IH} {Q : QT}  (h :
J E (d + 1) mX11_countCompanies 4 [(0, .ref (eb E + 0)), (1, .int (nI 0)), (2, .int (nI 0))] [] I Q) : Mt E (d + 1) mX11_countCompanies [.ref (eb E + 0)] I Q := by
  refine Mt_of [(0, .ref (eb E + 0))] (by decide +kernel) (by simp [lg_sl, Value.category, mX11_countCompanies]) rfl ?_
  refine J_iconst (nI 0) aX11_countCompanies_0 (by decide +kernel) ?_
  refine J_istore_n [(1, .int (nI 0)), (0, .ref (eb E + 0))] aX11_countCompanies_1 (by decide) rfl ?_
  refine J_iconst (nI 0) aX11_countCompanies_2 (by decide +kernel) ?_
  refine J_istore_n [(2, .int (nI 0)), (1, .int (nI 0)), (0, .ref (eb E + 0))] aX11_countCompanies_3 (by decide) rfl ?_
  refine J_pick [2, 1, 0] rfl ?_
  exact h
theorem S_X11_countCompanies_4 {E : EE} {d : Nat} {I : IH} {Q : QT} (x1 : Int32) (x2 : Int32) (h :
(((I 33 7) ≤ x2 → Q (some (.int x1)) I) ∧
 (¬ (I 33 7) ≤ x2 → (Mt E d mX11_company [.ref (eb E + 0), .int x2] I (fun rv I1 => ∃ v2 : Int32, rv = some (.int v2) ∧
 ((¬ (v2 &&& (-v2)) = ((nI 1) <<< (x2 &&& 31)) → J E (d + 1) mX11_countCompanies 4 [(0, .ref (eb E + 0)), (1, .int x1), (2, .int (x2 + nI 1))] [] I1 Q) ∧
 ((v2 &&& (-v2)) = ((nI 1) <<< (x2 &&& 31)) → J E (d + 1) mX11_countCompanies 4 [(0, .ref (eb E + 0)), (1, .int (x1 + nI 1)), (2, .int (x2 + nI 1))] [] I1 Q))))))) : J E (d + 1) mX11_countCompanies 4 [(0, .ref (eb E + 0)), (1, .int x1), (2, .int x2)] [] I Q := by
  refine J_iload_n 2 aX11_countCompanies_4 rfl ?_
  refine J_aload_n 0 aX11_countCompanies_5 rfl ?_
  refine J_getR aX11_countCompanies_6 flX11_83 sh0 rfl ?_
  refine J_getI aX11_countCompanies_9 flX11_117 sh33 rfl ?_
  refine J_icmp_ge aX11_countCompanies_12 (fun q => ?_) (fun q => ?_)
  · replace h := h.1 q
    refine J_iload_n 1 aX11_countCompanies_40 rfl ?_
    exact J_iret aX11_countCompanies_41 rfl h
  · replace h := h.2 q
    refine J_aload_n 0 aX11_countCompanies_15 rfl ?_
    refine J_iload_n 2 aX11_countCompanies_16 rfl ?_
    refine J_callV [.int x2] [] aX11_countCompanies_17 lkX11_240_X11 okX11_company sh0 rfl rfl rfl (Nat.le_of_ble_eq_true rfl) (Nat.le_refl _) (Mt_mono h (fun rv I1 h => ?_))
    obtain ⟨v2, rfl, h⟩ := h
    refine J_r1 ?_
    refine J_istore_n [(3, .int v2), (0, .ref (eb E + 0)), (1, .int x1), (2, .int x2)] aX11_countCompanies_20 (by decide) rfl ?_
    refine J_iload_n 0 aX11_countCompanies_21 rfl ?_
    refine J_iload_n 0 aX11_countCompanies_22 rfl ?_
    refine J_ineg aX11_countCompanies_23 ?_
    refine J_iand aX11_countCompanies_24 ?_
    refine J_iconst (nI 1) aX11_countCompanies_25 (by decide +kernel) ?_
    refine J_iload_n 3 aX11_countCompanies_26 rfl ?_
    refine J_ishl aX11_countCompanies_27 ?_
    refine J_icmp_ne aX11_countCompanies_28 (fun q => ?_) (fun q => ?_)
    · replace h := h.1 q
      refine J_iinc (x2 + nI 1) [(2, .int (x2 + nI 1)), (3, .int v2), (0, .ref (eb E + 0)), (1, .int x1)] 3 aX11_countCompanies_34 rfl (by first | rfl | (congr 1; decide +kernel)) (by decide) rfl ?_
      refine J_goto aX11_countCompanies_37 ?_
      refine J_pick [2, 3, 0] rfl ?_
      exact h
    · replace h := h.2 q
      refine J_iinc (x1 + nI 1) [(1, .int (x1 + nI 1)), (3, .int v2), (0, .ref (eb E + 0)), (2, .int x2)] 2 aX11_countCompanies_31 rfl (by first | rfl | (congr 1; decide +kernel)) (by decide) rfl ?_
      refine J_iinc (x2 + nI 1) [(2, .int (x2 + nI 1)), (1, .int (x1 + nI 1)), (3, .int v2), (0, .ref (eb E + 0))] 3 aX11_countCompanies_34 rfl (by first | rfl | (congr 1; decide +kernel)) (by decide) rfl ?_
      refine J_goto aX11_countCompanies_37 ?_
      refine J_pick [3, 1, 0] rfl ?_
      exact h
theorem aX11_company_0 : decode mX11_company.2.1 0 = .ok (.aload_n 0, 1) ∧ 0 + 1 = 1 := ⟨by decide +kernel, rfl⟩
theorem aX11_company_1 : decode mX11_company.2.1 1 = .ok (.getfield 83, 3) ∧ 1 + 3 = 4 := ⟨by decide +kernel, rfl⟩
theorem aX11_company_4 : decode mX11_company.2.1 4 = .ok (.getfield 143, 3) ∧ 4 + 3 = 7 := ⟨by decide +kernel, rfl⟩
theorem aX11_company_7 : decode mX11_company.2.1 7 = .ok (.iload_n 1, 1) ∧ 7 + 1 = 8 := ⟨by decide +kernel, rfl⟩
theorem aX11_company_8 : decode mX11_company.2.1 8 = .ok (.ishr, 1) ∧ 8 + 1 = 9 := ⟨by decide +kernel, rfl⟩
theorem aX11_company_9 : decode mX11_company.2.1 9 = .ok (.iconst 1, 1) ∧ 9 + 1 = 10 := ⟨by decide +kernel, rfl⟩
theorem aX11_company_10 : decode mX11_company.2.1 10 = .ok (.iand, 1) ∧ 10 + 1 = 11 := ⟨by decide +kernel, rfl⟩
theorem aX11_company_11 : decode mX11_company.2.1 11 = .ok (.iconst 1, 1) ∧ 11 + 1 = 12 := ⟨by decide +kernel, rfl⟩
theorem aX11_company_12 : decode mX11_company.2.1 12 = .ok (.if_icmp .ne 5, 3) ∧ ((12 : Nat) : Int) + 5 = ((17 : Nat) : Int) ∧ 12 + 3 = 15 := ⟨by decide +kernel, by decide, rfl⟩
theorem aX11_company_15 : decode mX11_company.2.1 15 = .ok (.iconst 0, 1) ∧ 15 + 1 = 16 := ⟨by decide +kernel, rfl⟩
theorem aX11_company_16 : decode mX11_company.2.1 16 = .ok (.ireturn, 1) := by decide +kernel
theorem aX11_company_17 : decode mX11_company.2.1 17 = .ok (.iconst 1, 1) ∧ 17 + 1 = 18 := ⟨by decide +kernel, rfl⟩
theorem aX11_company_18 : decode mX11_company.2.1 18 = .ok (.iload_n 1, 1) ∧ 18 + 1 = 19 := ⟨by decide +kernel, rfl⟩
theorem aX11_company_19 : decode mX11_company.2.1 19 = .ok (.ishl, 1) ∧ 19 + 1 = 20 := ⟨by decide +kernel, rfl⟩
theorem aX11_company_20 : decode mX11_company.2.1 20 = .ok (.istore_n 2, 1) ∧ 20 + 1 = 21 := ⟨by decide +kernel, rfl⟩
theorem aX11_company_21 : decode mX11_company.2.1 21 = .ok (.iconst 0, 1) ∧ 21 + 1 = 22 := ⟨by decide +kernel, rfl⟩
theorem aX11_company_22 : decode mX11_company.2.1 22 = .ok (.istore_n 3, 1) ∧ 22 + 1 = 23 := ⟨by decide +kernel, rfl⟩
theorem aX11_company_23 : decode mX11_company.2.1 23 = .ok (.iload_n 3, 1) ∧ 23 + 1 = 24 := ⟨by decide +kernel, rfl⟩
theorem aX11_company_24 : decode mX11_company.2.1 24 = .ok (.aload_n 0, 1) ∧ 24 + 1 = 25 := ⟨by decide +kernel, rfl⟩
theorem aX11_company_25 : decode mX11_company.2.1 25 = .ok (.getfield 83, 3) ∧ 25 + 3 = 28 := ⟨by decide +kernel, rfl⟩
theorem aX11_company_28 : decode mX11_company.2.1 28 = .ok (.getfield 117, 3) ∧ 28 + 3 = 31 := ⟨by decide +kernel, rfl⟩
theorem aX11_company_31 : decode mX11_company.2.1 31 = .ok (.if_icmp .ge 47, 3) ∧ ((31 : Nat) : Int) + 47 = ((78 : Nat) : Int) ∧ 31 + 3 = 34 := ⟨by decide +kernel, by decide, rfl⟩
theorem aX11_company_34 : decode mX11_company.2.1 34 = .ok (.iconst 0, 1) ∧ 34 + 1 = 35 := ⟨by decide +kernel, rfl⟩
theorem aX11_company_35 : decode mX11_company.2.1 35 = .ok (.istore 4, 2) ∧ 35 + 2 = 37 := ⟨by decide +kernel, rfl⟩
theorem aX11_company_37 : decode mX11_company.2.1 37 = .ok (.iload 4, 2) ∧ 37 + 2 = 39 := ⟨by decide +kernel, rfl⟩
theorem aX11_company_39 : decode mX11_company.2.1 39 = .ok (.aload_n 0, 1) ∧ 39 + 1 = 40 := ⟨by decide +kernel, rfl⟩
theorem aX11_company_40 : decode mX11_company.2.1 40 = .ok (.getfield 83, 3) ∧ 40 + 3 = 43 := ⟨by decide +kernel, rfl⟩
theorem aX11_company_43 : decode mX11_company.2.1 43 = .ok (.getfield 117, 3) ∧ 43 + 3 = 46 := ⟨by decide +kernel, rfl⟩
theorem aX11_company_46 : decode mX11_company.2.1 46 = .ok (.if_icmp .ge 26, 3) ∧ ((46 : Nat) : Int) + 26 = ((72 : Nat) : Int) ∧ 46 + 3 = 49 := ⟨by decide +kernel, by decide, rfl⟩
theorem aX11_company_49 : decode mX11_company.2.1 49 = .ok (.aload_n 0, 1) ∧ 49 + 1 = 50 := ⟨by decide +kernel, rfl⟩
theorem aX11_company_50 : decode mX11_company.2.1 50 = .ok (.iload 4, 2) ∧ 50 + 2 = 52 := ⟨by decide +kernel, rfl⟩
theorem aX11_company_52 : decode mX11_company.2.1 52 = .ok (.iload_n 2, 1) ∧ 52 + 1 = 53 := ⟨by decide +kernel, rfl⟩
theorem aX11_company_53 : decode mX11_company.2.1 53 = .ok (.invokevirtual 243, 3) ∧ 53 + 3 = 56 := ⟨by decide +kernel, rfl⟩
theorem aX11_company_56 : decode mX11_company.2.1 56 = .ok (.ifCond .eq 10, 3) ∧ ((56 : Nat) : Int) + 10 = ((66 : Nat) : Int) ∧ 56 + 3 = 59 := ⟨by decide +kernel, by decide, rfl⟩
theorem aX11_company_59 : decode mX11_company.2.1 59 = .ok (.iload_n 2, 1) ∧ 59 + 1 = 60 := ⟨by decide +kernel, rfl⟩
theorem aX11_company_60 : decode mX11_company.2.1 60 = .ok (.iconst 1, 1) ∧ 60 + 1 = 61 := ⟨by decide +kernel, rfl⟩
theorem aX11_company_61 : decode mX11_company.2.1 61 = .ok (.iload 4, 2) ∧ 61 + 2 = 63 := ⟨by decide +kernel, rfl⟩
theorem aX11_company_63 : decode mX11_company.2.1 63 = .ok (.ishl, 1) ∧ 63 + 1 = 64 := ⟨by decide +kernel, rfl⟩
theorem aX11_company_64 : decode mX11_company.2.1 64 = .ok (.ior, 1) ∧ 64 + 1 = 65 := ⟨by decide +kernel, rfl⟩
theorem aX11_company_65 : decode mX11_company.2.1 65 = .ok (.istore_n 2, 1) ∧ 65 + 1 = 66 := ⟨by decide +kernel, rfl⟩
theorem aX11_company_66 : decode mX11_company.2.1 66 = .ok (.iinc 4 1, 3) ∧ 66 + 3 = 69 := ⟨by decide +kernel, rfl⟩
theorem aX11_company_69 : decode mX11_company.2.1 69 = .ok (.goto (-32), 3) ∧ ((69 : Nat) : Int) + (-32) = ((37 : Nat) : Int) := ⟨by decide +kernel, by decide⟩
theorem aX11_company_72 : decode mX11_company.2.1 72 = .ok (.iinc 3 1, 3) ∧ 72 + 3 = 75 := ⟨by decide +kernel, rfl⟩
theorem aX11_company_75 : decode mX11_company.2.1 75 = .ok (.goto (-52), 3) ∧ ((75 : Nat) : Int) + (-52) = ((23 : Nat) : Int) := ⟨by decide +kernel, by decide⟩
theorem aX11_company_78 : decode mX11_company.2.1 78 = .ok (.iload_n 2, 1) ∧ 78 + 1 = 79 := ⟨by decide +kernel, rfl⟩
theorem aX11_company_79 : decode mX11_company.2.1 79 = .ok (.ireturn, 1) := by decide +kernel
theorem S_X11_company {E : EE} {d : Nat} {I : IH} {Q : QT} (x1 : Int32) (h :
((¬ (((I 33 8) >>> (x1 &&& 31)) &&& (nI 1)) = (nI 1) → J E (d + 1) mX11_company 23 [(0, .ref (eb E + 0)), (2, .int ((nI 1) <<< (x1 &&& 31))), (3, .int (nI 0))] [] I Q) ∧
 ((((I 33 8) >>> (x1 &&& 31)) &&& (nI 1)) = (nI 1) → Q (some (.int (nI 0))) I))) : Mt E (d + 1) mX11_company [.ref (eb E + 0), .int x1] I Q := by
  refine Mt_of [(0, .ref (eb E + 0)), (1, .int x1)] (by decide +kernel) (by simp [lg_sl, Value.category, mX11_company]) rfl ?_
  refine J_aload_n 0 aX11_company_0 rfl ?_
  refine J_getR aX11_company_1 flX11_83 sh0 rfl ?_
  refine J_getI aX11_company_4 flX11_143 sh33 rfl ?_
  refine J_iload_n 1 aX11_company_7 rfl ?_
  refine J_ishr aX11_company_8 ?_
  refine J_iconst (nI 1) aX11_company_9 (by decide +kernel) ?_
  refine J_iand aX11_company_10 ?_
  refine J_iconst (nI 1) aX11_company_11 (by decide +kernel) ?_
  refine J_icmp_ne aX11_company_12 (fun q => ?_) (fun q => ?_)
  · replace h := h.1 q
    refine J_iconst (nI 1) aX11_company_17 (by decide +kernel) ?_
    refine J_iload_n 1 aX11_company_18 rfl ?_
    refine J_ishl aX11_company_19 ?_
    refine J_istore_n [(2, .int ((nI 1) <<< (x1 &&& 31))), (0, .ref (eb E + 0)), (1, .int x1)] aX11_company_20 (by decide) rfl ?_
    refine J_iconst (nI 0) aX11_company_21 (by decide +kernel) ?_
    refine J_istore_n [(3, .int (nI 0)), (2, .int ((nI 1) <<< (x1 &&& 31))), (0, .ref (eb E + 0)), (1, .int x1)] aX11_company_22 (by decide) rfl ?_
    refine J_pick [2, 1, 0] rfl ?_
    exact h
  · replace h := h.2 q
    refine J_iconst (nI 0) aX11_company_15 (by decide +kernel) ?_
    exact J_iret aX11_company_16 rfl h
theorem S_X11_company_23 {E : EE} {d : Nat} {I : IH} {Q : QT} (x2 : Int32) (x3 : Int32) (h :
(((I 33 7) ≤ x3 → Q (some (.int x2)) I) ∧
 (¬ (I 33 7) ≤ x3 → J E (d + 1) mX11_company 37 [(0, .ref (eb E + 0)), (2, .int x2), (3, .int x3), (4, .int (nI 0))] [] I Q))) : J E (d + 1) mX11_company 23 [(0, .ref (eb E + 0)), (2, .int x2), (3, .int x3)] [] I Q := by
  refine J_iload_n 2 aX11_company_23 rfl ?_
  refine J_aload_n 0 aX11_company_24 rfl ?_
  refine J_getR aX11_company_25 flX11_83 sh0 rfl ?_
  refine J_getI aX11_company_28 flX11_117 sh33 rfl ?_
  refine J_icmp_ge aX11_company_31 (fun q => ?_) (fun q => ?_)
  · replace h := h.1 q
    refine J_iload_n 1 aX11_company_78 rfl ?_
    exact J_iret aX11_company_79 rfl h
  · replace h := h.2 q
    refine J_iconst (nI 0) aX11_company_34 (by decide +kernel) ?_
    refine J_istore [(4, .int (nI 0)), (0, .ref (eb E + 0)), (2, .int x2), (3, .int x3)] aX11_company_35 (by decide) rfl ?_
    refine J_pick [1, 2, 3, 0] rfl ?_
    exact h
theorem S_X11_company_37 {E : EE} {d : Nat} {I : IH} {Q : QT} (x2 : Int32) (x3 : Int32) (x4 : Int32) (h :
(((I 33 7) ≤ x4 → J E (d + 1) mX11_company 23 [(0, .ref (eb E + 0)), (2, .int x2), (3, .int (x3 + nI 1))] [] I Q) ∧
 (¬ (I 33 7) ≤ x4 → (Mt E d mX11_hangsOn [.ref (eb E + 0), .int x4, .int x2] I (fun rv I1 => ∃ v2 : Int32, rv = some (.int v2) ∧
 ((v2 = 0 → J E (d + 1) mX11_company 37 [(0, .ref (eb E + 0)), (2, .int x2), (3, .int x3), (4, .int (x4 + nI 1))] [] I1 Q) ∧
 (¬ v2 = 0 → J E (d + 1) mX11_company 37 [(0, .ref (eb E + 0)), (2, .int (x2 ||| ((nI 1) <<< (x4 &&& 31)))), (3, .int x3), (4, .int (x4 + nI 1))] [] I1 Q))))))) : J E (d + 1) mX11_company 37 [(0, .ref (eb E + 0)), (2, .int x2), (3, .int x3), (4, .int x4)] [] I Q := by
  refine J_iload 3 aX11_company_37 rfl ?_
  refine J_aload_n 0 aX11_company_39 rfl ?_
  refine J_getR aX11_company_40 flX11_83 sh0 rfl ?_
  refine J_getI aX11_company_43 flX11_117 sh33 rfl ?_
  refine J_icmp_ge aX11_company_46 (fun q => ?_) (fun q => ?_)
  · replace h := h.1 q
    refine J_iinc (x3 + nI 1) [(3, .int (x3 + nI 1)), (0, .ref (eb E + 0)), (2, .int x2), (4, .int x4)] 2 aX11_company_72 rfl (by first | rfl | (congr 1; decide +kernel)) (by decide) rfl ?_
    refine J_goto aX11_company_75 ?_
    refine J_pick [1, 2, 0] rfl ?_
    exact h
  · replace h := h.2 q
    refine J_aload_n 0 aX11_company_49 rfl ?_
    refine J_iload 3 aX11_company_50 rfl ?_
    refine J_iload_n 1 aX11_company_52 rfl ?_
    refine J_callV [.int x4, .int x2] [] aX11_company_53 lkX11_243_X11 okX11_hangsOn sh0 rfl rfl rfl (Nat.le_of_ble_eq_true rfl) (Nat.le_refl _) (Mt_mono h (fun rv I1 h => ?_))
    obtain ⟨v2, rfl, h⟩ := h
    refine J_r1 ?_
    refine J_if_eq aX11_company_56 (fun q => ?_) (fun q => ?_)
    · replace h := h.1 q
      refine J_iinc (x4 + nI 1) [(4, .int (x4 + nI 1)), (0, .ref (eb E + 0)), (2, .int x2), (3, .int x3)] 3 aX11_company_66 rfl (by first | rfl | (congr 1; decide +kernel)) (by decide) rfl ?_
      refine J_goto aX11_company_69 ?_
      refine J_pick [1, 2, 3, 0] rfl ?_
      exact h
    · replace h := h.2 q
      refine J_iload_n 1 aX11_company_59 rfl ?_
      refine J_iconst (nI 1) aX11_company_60 (by decide +kernel) ?_
      refine J_iload 3 aX11_company_61 rfl ?_
      refine J_ishl aX11_company_63 ?_
      refine J_ior aX11_company_64 ?_
      refine J_istore_n [(2, .int (x2 ||| ((nI 1) <<< (x4 &&& 31)))), (0, .ref (eb E + 0)), (3, .int x3), (4, .int x4)] aX11_company_65 (by decide) rfl ?_
      refine J_iinc (x4 + nI 1) [(4, .int (x4 + nI 1)), (2, .int (x2 ||| ((nI 1) <<< (x4 &&& 31)))), (0, .ref (eb E + 0)), (3, .int x3)] 3 aX11_company_66 rfl (by first | rfl | (congr 1; decide +kernel)) (by decide) rfl ?_
      refine J_goto aX11_company_69 ?_
      refine J_pick [2, 1, 3, 0] rfl ?_
      exact h
theorem aX11_hangsOn_0 : decode mX11_hangsOn.2.1 0 = .ok (.aload_n 0, 1) ∧ 0 + 1 = 1 := ⟨by decide +kernel, rfl⟩
theorem aX11_hangsOn_1 : decode mX11_hangsOn.2.1 1 = .ok (.getfield 83, 3) ∧ 1 + 3 = 4 := ⟨by decide +kernel, rfl⟩
theorem aX11_hangsOn_4 : decode mX11_hangsOn.2.1 4 = .ok (.getfield 143, 3) ∧ 4 + 3 = 7 := ⟨by decide +kernel, rfl⟩
theorem aX11_hangsOn_7 : decode mX11_hangsOn.2.1 7 = .ok (.iload_n 1, 1) ∧ 7 + 1 = 8 := ⟨by decide +kernel, rfl⟩
theorem aX11_hangsOn_8 : decode mX11_hangsOn.2.1 8 = .ok (.ishr, 1) ∧ 8 + 1 = 9 := ⟨by decide +kernel, rfl⟩
theorem aX11_hangsOn_9 : decode mX11_hangsOn.2.1 9 = .ok (.iconst 1, 1) ∧ 9 + 1 = 10 := ⟨by decide +kernel, rfl⟩
theorem aX11_hangsOn_10 : decode mX11_hangsOn.2.1 10 = .ok (.iand, 1) ∧ 10 + 1 = 11 := ⟨by decide +kernel, rfl⟩
theorem aX11_hangsOn_11 : decode mX11_hangsOn.2.1 11 = .ok (.iconst 1, 1) ∧ 11 + 1 = 12 := ⟨by decide +kernel, rfl⟩
theorem aX11_hangsOn_12 : decode mX11_hangsOn.2.1 12 = .ok (.if_icmp .ne 5, 3) ∧ ((12 : Nat) : Int) + 5 = ((17 : Nat) : Int) ∧ 12 + 3 = 15 := ⟨by decide +kernel, by decide, rfl⟩
theorem aX11_hangsOn_15 : decode mX11_hangsOn.2.1 15 = .ok (.iconst 0, 1) ∧ 15 + 1 = 16 := ⟨by decide +kernel, rfl⟩
theorem aX11_hangsOn_16 : decode mX11_hangsOn.2.1 16 = .ok (.ireturn, 1) := by decide +kernel
theorem aX11_hangsOn_17 : decode mX11_hangsOn.2.1 17 = .ok (.iconst 0, 1) ∧ 17 + 1 = 18 := ⟨by decide +kernel, rfl⟩
theorem aX11_hangsOn_18 : decode mX11_hangsOn.2.1 18 = .ok (.istore_n 3, 1) ∧ 18 + 1 = 19 := ⟨by decide +kernel, rfl⟩
theorem aX11_hangsOn_19 : decode mX11_hangsOn.2.1 19 = .ok (.iload_n 3, 1) ∧ 19 + 1 = 20 := ⟨by decide +kernel, rfl⟩
theorem aX11_hangsOn_20 : decode mX11_hangsOn.2.1 20 = .ok (.aload_n 0, 1) ∧ 20 + 1 = 21 := ⟨by decide +kernel, rfl⟩
theorem aX11_hangsOn_21 : decode mX11_hangsOn.2.1 21 = .ok (.getfield 83, 3) ∧ 21 + 3 = 24 := ⟨by decide +kernel, rfl⟩
theorem aX11_hangsOn_24 : decode mX11_hangsOn.2.1 24 = .ok (.getfield 117, 3) ∧ 24 + 3 = 27 := ⟨by decide +kernel, rfl⟩
theorem aX11_hangsOn_27 : decode mX11_hangsOn.2.1 27 = .ok (.if_icmp .ge 29, 3) ∧ ((27 : Nat) : Int) + 29 = ((56 : Nat) : Int) ∧ 27 + 3 = 30 := ⟨by decide +kernel, by decide, rfl⟩
theorem aX11_hangsOn_30 : decode mX11_hangsOn.2.1 30 = .ok (.iload_n 2, 1) ∧ 30 + 1 = 31 := ⟨by decide +kernel, rfl⟩
theorem aX11_hangsOn_31 : decode mX11_hangsOn.2.1 31 = .ok (.iload_n 3, 1) ∧ 31 + 1 = 32 := ⟨by decide +kernel, rfl⟩
theorem aX11_hangsOn_32 : decode mX11_hangsOn.2.1 32 = .ok (.ishr, 1) ∧ 32 + 1 = 33 := ⟨by decide +kernel, rfl⟩
theorem aX11_hangsOn_33 : decode mX11_hangsOn.2.1 33 = .ok (.iconst 1, 1) ∧ 33 + 1 = 34 := ⟨by decide +kernel, rfl⟩
theorem aX11_hangsOn_34 : decode mX11_hangsOn.2.1 34 = .ok (.iand, 1) ∧ 34 + 1 = 35 := ⟨by decide +kernel, rfl⟩
theorem aX11_hangsOn_35 : decode mX11_hangsOn.2.1 35 = .ok (.iconst 1, 1) ∧ 35 + 1 = 36 := ⟨by decide +kernel, rfl⟩
theorem aX11_hangsOn_36 : decode mX11_hangsOn.2.1 36 = .ok (.if_icmp .ne 14, 3) ∧ ((36 : Nat) : Int) + 14 = ((50 : Nat) : Int) ∧ 36 + 3 = 39 := ⟨by decide +kernel, by decide, rfl⟩
theorem aX11_hangsOn_39 : decode mX11_hangsOn.2.1 39 = .ok (.aload_n 0, 1) ∧ 39 + 1 = 40 := ⟨by decide +kernel, rfl⟩
theorem aX11_hangsOn_40 : decode mX11_hangsOn.2.1 40 = .ok (.iload_n 3, 1) ∧ 40 + 1 = 41 := ⟨by decide +kernel, rfl⟩
theorem aX11_hangsOn_41 : decode mX11_hangsOn.2.1 41 = .ok (.iload_n 1, 1) ∧ 41 + 1 = 42 := ⟨by decide +kernel, rfl⟩
theorem aX11_hangsOn_42 : decode mX11_hangsOn.2.1 42 = .ok (.invokevirtual 246, 3) ∧ 42 + 3 = 45 := ⟨by decide +kernel, rfl⟩
theorem aX11_hangsOn_45 : decode mX11_hangsOn.2.1 45 = .ok (.ifCond .eq 5, 3) ∧ ((45 : Nat) : Int) + 5 = ((50 : Nat) : Int) ∧ 45 + 3 = 48 := ⟨by decide +kernel, by decide, rfl⟩
theorem aX11_hangsOn_48 : decode mX11_hangsOn.2.1 48 = .ok (.iconst 1, 1) ∧ 48 + 1 = 49 := ⟨by decide +kernel, rfl⟩
theorem aX11_hangsOn_49 : decode mX11_hangsOn.2.1 49 = .ok (.ireturn, 1) := by decide +kernel
theorem aX11_hangsOn_50 : decode mX11_hangsOn.2.1 50 = .ok (.iinc 3 1, 3) ∧ 50 + 3 = 53 := ⟨by decide +kernel, rfl⟩
theorem aX11_hangsOn_53 : decode mX11_hangsOn.2.1 53 = .ok (.goto (-34), 3) ∧ ((53 : Nat) : Int) + (-34) = ((19 : Nat) : Int) := ⟨by decide +kernel, by decide⟩
theorem aX11_hangsOn_56 : decode mX11_hangsOn.2.1 56 = .ok (.iconst 0, 1) ∧ 56 + 1 = 57 := ⟨by decide +kernel, rfl⟩
theorem aX11_hangsOn_57 : decode mX11_hangsOn.2.1 57 = .ok (.ireturn, 1) := by decide +kernel
theorem S_X11_hangsOn {E : EE} {d : Nat} {I : IH} {Q : QT} (x1 : Int32) (x2 : Int32) (h :
((¬ (((I 33 8) >>> (x1 &&& 31)) &&& (nI 1)) = (nI 1) → J E (d + 1) mX11_hangsOn 19 [(0, .ref (eb E + 0)), (1, .int x1), (2, .int x2), (3, .int (nI 0))] [] I Q) ∧
 ((((I 33 8) >>> (x1 &&& 31)) &&& (nI 1)) = (nI 1) → Q (some (.int (nI 0))) I))) : Mt E (d + 1) mX11_hangsOn [.ref (eb E + 0), .int x1, .int x2] I Q := by
  refine Mt_of [(0, .ref (eb E + 0)), (1, .int x1), (2, .int x2)] (by decide +kernel) (by simp [lg_sl, Value.category, mX11_hangsOn]) rfl ?_
  refine J_aload_n 0 aX11_hangsOn_0 rfl ?_
  refine J_getR aX11_hangsOn_1 flX11_83 sh0 rfl ?_
  refine J_getI aX11_hangsOn_4 flX11_143 sh33 rfl ?_
  refine J_iload_n 1 aX11_hangsOn_7 rfl ?_
  refine J_ishr aX11_hangsOn_8 ?_
  refine J_iconst (nI 1) aX11_hangsOn_9 (by decide +kernel) ?_
  refine J_iand aX11_hangsOn_10 ?_
  refine J_iconst (nI 1) aX11_hangsOn_11 (by decide +kernel) ?_
  refine J_icmp_ne aX11_hangsOn_12 (fun q => ?_) (fun q => ?_)
  · replace h := h.1 q
    refine J_iconst (nI 0) aX11_hangsOn_17 (by decide +kernel) ?_
    refine J_istore_n [(3, .int (nI 0)), (0, .ref (eb E + 0)), (1, .int x1), (2, .int x2)] aX11_hangsOn_18 (by decide) rfl ?_
    refine J_pick [1, 2, 3, 0] rfl ?_
    exact h
  · replace h := h.2 q
    refine J_iconst (nI 0) aX11_hangsOn_15 (by decide +kernel) ?_
    exact J_zret aX11_hangsOn_16 rfl (by decide +kernel) h
theorem S_X11_hangsOn_19 {E : EE} {d : Nat} {I : IH} {Q : QT} (x1 : Int32) (x2 : Int32) (x3 : Int32) (h :
(((I 33 7) ≤ x3 → Q (some (.int (nI 0))) I) ∧
 (¬ (I 33 7) ≤ x3 → ((¬ ((x2 >>> (x3 &&& 31)) &&& (nI 1)) = (nI 1) → J E (d + 1) mX11_hangsOn 19 [(0, .ref (eb E + 0)), (1, .int x1), (2, .int x2), (3, .int (x3 + nI 1))] [] I Q) ∧
 (((x2 >>> (x3 &&& 31)) &&& (nI 1)) = (nI 1) → (Mt E d mX11_areClose [.ref (eb E + 0), .int x3, .int x1] I (fun rv I1 => ∃ v2 : Int32, rv = some (.int v2) ∧
 ((v2 = 0 → J E (d + 1) mX11_hangsOn 19 [(0, .ref (eb E + 0)), (1, .int x1), (2, .int x2), (3, .int (x3 + nI 1))] [] I1 Q) ∧
 (¬ v2 = 0 → Q (some (.int (nI 1))) I1))))))))) : J E (d + 1) mX11_hangsOn 19 [(0, .ref (eb E + 0)), (1, .int x1), (2, .int x2), (3, .int x3)] [] I Q := by
  refine J_iload_n 3 aX11_hangsOn_19 rfl ?_
  refine J_aload_n 0 aX11_hangsOn_20 rfl ?_
  refine J_getR aX11_hangsOn_21 flX11_83 sh0 rfl ?_
  refine J_getI aX11_hangsOn_24 flX11_117 sh33 rfl ?_
  refine J_icmp_ge aX11_hangsOn_27 (fun q => ?_) (fun q => ?_)
  · replace h := h.1 q
    refine J_iconst (nI 0) aX11_hangsOn_56 (by decide +kernel) ?_
    exact J_zret aX11_hangsOn_57 rfl (by decide +kernel) h
  · replace h := h.2 q
    refine J_iload_n 2 aX11_hangsOn_30 rfl ?_
    refine J_iload_n 3 aX11_hangsOn_31 rfl ?_
    refine J_ishr aX11_hangsOn_32 ?_
    refine J_iconst (nI 1) aX11_hangsOn_33 (by decide +kernel) ?_
    refine J_iand aX11_hangsOn_34 ?_
    refine J_iconst (nI 1) aX11_hangsOn_35 (by decide +kernel) ?_
    refine J_icmp_ne aX11_hangsOn_36 (fun q => ?_) (fun q => ?_)
    · replace h := h.1 q
      refine J_iinc (x3 + nI 1) [(3, .int (x3 + nI 1)), (0, .ref (eb E + 0)), (1, .int x1), (2, .int x2)] 3 aX11_hangsOn_50 rfl (by first | rfl | (congr 1; decide +kernel)) (by decide) rfl ?_
      refine J_goto aX11_hangsOn_53 ?_
      refine J_pick [1, 2, 3, 0] rfl ?_
      exact h
    · replace h := h.2 q
      refine J_aload_n 0 aX11_hangsOn_39 rfl ?_
      refine J_iload_n 3 aX11_hangsOn_40 rfl ?_
      refine J_iload_n 1 aX11_hangsOn_41 rfl ?_
      refine J_callV [.int x3, .int x1] [] aX11_hangsOn_42 lkX11_246_X11 okX11_areClose sh0 rfl rfl rfl (Nat.le_of_ble_eq_true rfl) (Nat.le_refl _) (Mt_mono h (fun rv I1 h => ?_))
      obtain ⟨v2, rfl, h⟩ := h
      refine J_r1 ?_
      refine J_if_eq aX11_hangsOn_45 (fun q => ?_) (fun q => ?_)
      · replace h := h.1 q
        refine J_iinc (x3 + nI 1) [(3, .int (x3 + nI 1)), (0, .ref (eb E + 0)), (1, .int x1), (2, .int x2)] 3 aX11_hangsOn_50 rfl (by first | rfl | (congr 1; decide +kernel)) (by decide) rfl ?_
        refine J_goto aX11_hangsOn_53 ?_
        refine J_pick [1, 2, 3, 0] rfl ?_
        exact h
      · replace h := h.2 q
        refine J_iconst (nI 1) aX11_hangsOn_48 (by decide +kernel) ?_
        exact J_zret aX11_hangsOn_49 rfl (by decide +kernel) h
theorem aX11_areClose_0 : decode mX11_areClose.2.1 0 = .ok (.aload_n 0, 1) ∧ 0 + 1 = 1 := ⟨by decide +kernel, rfl⟩
theorem aX11_areClose_1 : decode mX11_areClose.2.1 1 = .ok (.getfield 83, 3) ∧ 1 + 3 = 4 := ⟨by decide +kernel, rfl⟩
theorem aX11_areClose_4 : decode mX11_areClose.2.1 4 = .ok (.getfield 140, 3) ∧ 4 + 3 = 7 := ⟨by decide +kernel, rfl⟩
theorem aX11_areClose_7 : decode mX11_areClose.2.1 7 = .ok (.iload_n 1, 1) ∧ 7 + 1 = 8 := ⟨by decide +kernel, rfl⟩
theorem aX11_areClose_8 : decode mX11_areClose.2.1 8 = .ok (.iaload, 1) ∧ 8 + 1 = 9 := ⟨by decide +kernel, rfl⟩
theorem aX11_areClose_9 : decode mX11_areClose.2.1 9 = .ok (.aload_n 0, 1) ∧ 9 + 1 = 10 := ⟨by decide +kernel, rfl⟩
theorem aX11_areClose_10 : decode mX11_areClose.2.1 10 = .ok (.getfield 83, 3) ∧ 10 + 3 = 13 := ⟨by decide +kernel, rfl⟩
theorem aX11_areClose_13 : decode mX11_areClose.2.1 13 = .ok (.getfield 140, 3) ∧ 13 + 3 = 16 := ⟨by decide +kernel, rfl⟩
theorem aX11_areClose_16 : decode mX11_areClose.2.1 16 = .ok (.iload_n 2, 1) ∧ 16 + 1 = 17 := ⟨by decide +kernel, rfl⟩
theorem aX11_areClose_17 : decode mX11_areClose.2.1 17 = .ok (.iaload, 1) ∧ 17 + 1 = 18 := ⟨by decide +kernel, rfl⟩
theorem aX11_areClose_18 : decode mX11_areClose.2.1 18 = .ok (.if_icmp .eq 29, 3) ∧ ((18 : Nat) : Int) + 29 = ((47 : Nat) : Int) ∧ 18 + 3 = 21 := ⟨by decide +kernel, by decide, rfl⟩
theorem aX11_areClose_21 : decode mX11_areClose.2.1 21 = .ok (.aload_n 0, 1) ∧ 21 + 1 = 22 := ⟨by decide +kernel, rfl⟩
theorem aX11_areClose_22 : decode mX11_areClose.2.1 22 = .ok (.getfield 83, 3) ∧ 22 + 3 = 25 := ⟨by decide +kernel, rfl⟩
theorem aX11_areClose_25 : decode mX11_areClose.2.1 25 = .ok (.getfield 134, 3) ∧ 25 + 3 = 28 := ⟨by decide +kernel, rfl⟩
theorem aX11_areClose_28 : decode mX11_areClose.2.1 28 = .ok (.iload_n 1, 1) ∧ 28 + 1 = 29 := ⟨by decide +kernel, rfl⟩
theorem aX11_areClose_29 : decode mX11_areClose.2.1 29 = .ok (.iaload, 1) ∧ 29 + 1 = 30 := ⟨by decide +kernel, rfl⟩
theorem aX11_areClose_30 : decode mX11_areClose.2.1 30 = .ok (.aload_n 0, 1) ∧ 30 + 1 = 31 := ⟨by decide +kernel, rfl⟩
theorem aX11_areClose_31 : decode mX11_areClose.2.1 31 = .ok (.getfield 83, 3) ∧ 31 + 3 = 34 := ⟨by decide +kernel, rfl⟩
theorem aX11_areClose_34 : decode mX11_areClose.2.1 34 = .ok (.getfield 134, 3) ∧ 34 + 3 = 37 := ⟨by decide +kernel, rfl⟩
theorem aX11_areClose_37 : decode mX11_areClose.2.1 37 = .ok (.iload_n 2, 1) ∧ 37 + 1 = 38 := ⟨by decide +kernel, rfl⟩
theorem aX11_areClose_38 : decode mX11_areClose.2.1 38 = .ok (.iaload, 1) ∧ 38 + 1 = 39 := ⟨by decide +kernel, rfl⟩
theorem aX11_areClose_39 : decode mX11_areClose.2.1 39 = .ok (.ixor, 1) ∧ 39 + 1 = 40 := ⟨by decide +kernel, rfl⟩
theorem aX11_areClose_40 : decode mX11_areClose.2.1 40 = .ok (.invokestatic 249, 3) ∧ 40 + 3 = 43 := ⟨by decide +kernel, rfl⟩
theorem aX11_areClose_43 : decode mX11_areClose.2.1 43 = .ok (.iconst 2, 1) ∧ 43 + 1 = 44 := ⟨by decide +kernel, rfl⟩
theorem aX11_areClose_44 : decode mX11_areClose.2.1 44 = .ok (.if_icmp .gt 7, 3) ∧ ((44 : Nat) : Int) + 7 = ((51 : Nat) : Int) ∧ 44 + 3 = 47 := ⟨by decide +kernel, by decide, rfl⟩
theorem aX11_areClose_47 : decode mX11_areClose.2.1 47 = .ok (.iconst 1, 1) ∧ 47 + 1 = 48 := ⟨by decide +kernel, rfl⟩
theorem aX11_areClose_48 : decode mX11_areClose.2.1 48 = .ok (.goto 4, 3) ∧ ((48 : Nat) : Int) + 4 = ((52 : Nat) : Int) := ⟨by decide +kernel, by decide⟩
theorem aX11_areClose_51 : decode mX11_areClose.2.1 51 = .ok (.iconst 0, 1) ∧ 51 + 1 = 52 := ⟨by decide +kernel, rfl⟩
theorem aX11_areClose_52 : decode mX11_areClose.2.1 52 = .ok (.ireturn, 1) := by decide +kernel
theorem S_X11_areClose {E : EE} {d : Nat} {I : IH} {Q : QT} (x1 : Int32) (x2 : Int32) (h :
(∃ j1 : Nat, x1 = nI j1 ∧ j1 < 6 ∧ (∃ j4 : Nat, x2 = nI j4 ∧ j4 < 6 ∧ (((I 39 j1) = (I 39 j4) → Q (some (.int (nI 1))) I) ∧
 (¬ (I 39 j1) = (I 39 j4) → (∃ j7 : Nat, x1 = nI j7 ∧ j7 < 6 ∧ (∃ j10 : Nat, x2 = nI j10 ∧ j10 < 6 ∧ (Mt E d mJ6_bitCount_0f7a4 [.int ((I 38 j7) ^^^ (I 38 j10))] I (fun rv I13 => ∃ v14 : Int32, rv = some (.int v14) ∧
 (((nI 2) < v14 → Q (some (.int (nI 0))) I13) ∧
 (¬ (nI 2) < v14 → Q (some (.int (nI 1))) I13))))))))))) : Mt E (d + 1) mX11_areClose [.ref (eb E + 0), .int x1, .int x2] I Q := by
  refine Mt_of [(0, .ref (eb E + 0)), (1, .int x1), (2, .int x2)] (by decide +kernel) (by simp [lg_sl, Value.category, mX11_areClose]) rfl ?_
  refine J_aload_n 0 aX11_areClose_0 rfl ?_
  refine J_getR aX11_areClose_1 flX11_83 sh0 rfl ?_
  refine J_getR aX11_areClose_4 flX11_140 sh33 rfl ?_
  refine J_iload_n 1 aX11_areClose_7 rfl ?_
  obtain ⟨j1, e2, b3, h⟩ := h
  refine J_iaload j1 aX11_areClose_8 sh39 e2 b3 (by decide) ?_
  refine J_aload_n 0 aX11_areClose_9 rfl ?_
  refine J_getR aX11_areClose_10 flX11_83 sh0 rfl ?_
  refine J_getR aX11_areClose_13 flX11_140 sh33 rfl ?_
  refine J_iload_n 2 aX11_areClose_16 rfl ?_
  obtain ⟨j4, e5, b6, h⟩ := h
  refine J_iaload j4 aX11_areClose_17 sh39 e5 b6 (by decide) ?_
  refine J_icmp_eq aX11_areClose_18 (fun q => ?_) (fun q => ?_)
  · replace h := h.1 q
    refine J_iconst (nI 1) aX11_areClose_47 (by decide +kernel) ?_
    refine J_goto aX11_areClose_48 ?_
    exact J_zret aX11_areClose_52 rfl (by decide +kernel) h
  · replace h := h.2 q
    refine J_aload_n 0 aX11_areClose_21 rfl ?_
    refine J_getR aX11_areClose_22 flX11_83 sh0 rfl ?_
    refine J_getR aX11_areClose_25 flX11_134 sh33 rfl ?_
    refine J_iload_n 1 aX11_areClose_28 rfl ?_
    obtain ⟨j7, e8, b9, h⟩ := h
    refine J_iaload j7 aX11_areClose_29 sh38 e8 b9 (by decide) ?_
    refine J_aload_n 0 aX11_areClose_30 rfl ?_
    refine J_getR aX11_areClose_31 flX11_83 sh0 rfl ?_
    refine J_getR aX11_areClose_34 flX11_134 sh33 rfl ?_
    refine J_iload_n 2 aX11_areClose_37 rfl ?_
    obtain ⟨j10, e11, b12, h⟩ := h
    refine J_iaload j10 aX11_areClose_38 sh38 e11 b12 (by decide) ?_
    refine J_ixor aX11_areClose_39 ?_
    refine J_callS [.int ((I 38 j7) ^^^ (I 38 j10))] [] aX11_areClose_40 lkX11_249 okJ6_bitCount_0f7a4 rfl rfl (Nat.le_of_ble_eq_true rfl) (Nat.le_refl _) (Mt_mono h (fun rv I13 h => ?_))
    obtain ⟨v14, rfl, h⟩ := h
    refine J_r1 ?_
    refine J_iconst (nI 2) aX11_areClose_43 (by decide +kernel) ?_
    refine J_icmp_gt aX11_areClose_44 (fun q => ?_) (fun q => ?_)
    · replace h := h.1 q
      refine J_iconst (nI 0) aX11_areClose_51 (by decide +kernel) ?_
      exact J_zret aX11_areClose_52 rfl (by decide +kernel) h
    · replace h := h.2 q
      refine J_iconst (nI 1) aX11_areClose_47 (by decide +kernel) ?_
      refine J_goto aX11_areClose_48 ?_
      exact J_zret aX11_areClose_52 rfl (by decide +kernel) h
theorem aX11_tour_0 : decode mX11_tour.2.1 0 = .ok (.iload_n 1, 1) ∧ 0 + 1 = 1 := ⟨by decide +kernel, rfl⟩
theorem aX11_tour_1 : decode mX11_tour.2.1 1 = .ok (.sipush 255, 3) ∧ 1 + 3 = 4 := ⟨by decide +kernel, rfl⟩
theorem aX11_tour_4 : decode mX11_tour.2.1 4 = .ok (.invokestatic 110, 3) ∧ 4 + 3 = 7 := ⟨by decide +kernel, rfl⟩
theorem aX11_tour_7 : decode mX11_tour.2.1 7 = .ok (.ifCond .eq 11, 3) ∧ ((7 : Nat) : Int) + 11 = ((18 : Nat) : Int) ∧ 7 + 3 = 10 := ⟨by decide +kernel, by decide, rfl⟩
theorem aX11_tour_10 : decode mX11_tour.2.1 10 = .ok (.iload_n 2, 1) ∧ 10 + 1 = 11 := ⟨by decide +kernel, rfl⟩
theorem aX11_tour_11 : decode mX11_tour.2.1 11 = .ok (.iconst 1, 1) ∧ 11 + 1 = 12 := ⟨by decide +kernel, rfl⟩
theorem aX11_tour_12 : decode mX11_tour.2.1 12 = .ok (.invokestatic 110, 3) ∧ 12 + 3 = 15 := ⟨by decide +kernel, rfl⟩
theorem aX11_tour_15 : decode mX11_tour.2.1 15 = .ok (.ifCond .ne 5, 3) ∧ ((15 : Nat) : Int) + 5 = ((20 : Nat) : Int) ∧ 15 + 3 = 18 := ⟨by decide +kernel, by decide, rfl⟩
theorem aX11_tour_18 : decode mX11_tour.2.1 18 = .ok (.iconst (-1), 1) ∧ 18 + 1 = 19 := ⟨by decide +kernel, rfl⟩
theorem aX11_tour_19 : decode mX11_tour.2.1 19 = .ok (.ireturn, 1) := by decide +kernel
theorem aX11_tour_20 : decode mX11_tour.2.1 20 = .ok (.aload_n 0, 1) ∧ 20 + 1 = 21 := ⟨by decide +kernel, rfl⟩
theorem aX11_tour_21 : decode mX11_tour.2.1 21 = .ok (.getfield 83, 3) ∧ 21 + 3 = 24 := ⟨by decide +kernel, rfl⟩
theorem aX11_tour_24 : decode mX11_tour.2.1 24 = .ok (.getfield 143, 3) ∧ 24 + 3 = 27 := ⟨by decide +kernel, rfl⟩
theorem aX11_tour_27 : decode mX11_tour.2.1 27 = .ok (.iconst (-1), 1) ∧ 27 + 1 = 28 := ⟨by decide +kernel, rfl⟩
theorem aX11_tour_28 : decode mX11_tour.2.1 28 = .ok (.ixor, 1) ∧ 28 + 1 = 29 := ⟨by decide +kernel, rfl⟩
theorem aX11_tour_29 : decode mX11_tour.2.1 29 = .ok (.iconst 1, 1) ∧ 29 + 1 = 30 := ⟨by decide +kernel, rfl⟩
theorem aX11_tour_30 : decode mX11_tour.2.1 30 = .ok (.aload_n 0, 1) ∧ 30 + 1 = 31 := ⟨by decide +kernel, rfl⟩
theorem aX11_tour_31 : decode mX11_tour.2.1 31 = .ok (.getfield 83, 3) ∧ 31 + 3 = 34 := ⟨by decide +kernel, rfl⟩
theorem aX11_tour_34 : decode mX11_tour.2.1 34 = .ok (.getfield 117, 3) ∧ 34 + 3 = 37 := ⟨by decide +kernel, rfl⟩
theorem aX11_tour_37 : decode mX11_tour.2.1 37 = .ok (.ishl, 1) ∧ 37 + 1 = 38 := ⟨by decide +kernel, rfl⟩
theorem aX11_tour_38 : decode mX11_tour.2.1 38 = .ok (.iconst 1, 1) ∧ 38 + 1 = 39 := ⟨by decide +kernel, rfl⟩
theorem aX11_tour_39 : decode mX11_tour.2.1 39 = .ok (.isub, 1) ∧ 39 + 1 = 40 := ⟨by decide +kernel, rfl⟩
theorem aX11_tour_40 : decode mX11_tour.2.1 40 = .ok (.iand, 1) ∧ 40 + 1 = 41 := ⟨by decide +kernel, rfl⟩
theorem aX11_tour_41 : decode mX11_tour.2.1 41 = .ok (.istore_n 3, 1) ∧ 41 + 1 = 42 := ⟨by decide +kernel, rfl⟩
theorem aX11_tour_42 : decode mX11_tour.2.1 42 = .ok (.aload_n 0, 1) ∧ 42 + 1 = 43 := ⟨by decide +kernel, rfl⟩
theorem aX11_tour_43 : decode mX11_tour.2.1 43 = .ok (.iload_n 1, 1) ∧ 43 + 1 = 44 := ⟨by decide +kernel, rfl⟩
theorem aX11_tour_44 : decode mX11_tour.2.1 44 = .ok (.iload_n 3, 1) ∧ 44 + 1 = 45 := ⟨by decide +kernel, rfl⟩
theorem aX11_tour_45 : decode mX11_tour.2.1 45 = .ok (.invokevirtual 254, 3) ∧ 45 + 3 = 48 := ⟨by decide +kernel, rfl⟩
theorem aX11_tour_48 : decode mX11_tour.2.1 48 = .ok (.istore 4, 2) ∧ 48 + 2 = 50 := ⟨by decide +kernel, rfl⟩
theorem aX11_tour_50 : decode mX11_tour.2.1 50 = .ok (.iload_n 2, 1) ∧ 50 + 1 = 51 := ⟨by decide +kernel, rfl⟩
theorem aX11_tour_51 : decode mX11_tour.2.1 51 = .ok (.ifCond .ne 6, 3) ∧ ((51 : Nat) : Int) + 6 = ((57 : Nat) : Int) ∧ 51 + 3 = 54 := ⟨by decide +kernel, by decide, rfl⟩
theorem aX11_tour_54 : decode mX11_tour.2.1 54 = .ok (.iload 4, 2) ∧ 54 + 2 = 56 := ⟨by decide +kernel, rfl⟩
theorem aX11_tour_56 : decode mX11_tour.2.1 56 = .ok (.ireturn, 1) := by decide +kernel
theorem aX11_tour_57 : decode mX11_tour.2.1 57 = .ok (.iconst 0, 1) ∧ 57 + 1 = 58 := ⟨by decide +kernel, rfl⟩
theorem aX11_tour_58 : decode mX11_tour.2.1 58 = .ok (.istore 5, 2) ∧ 58 + 2 = 60 := ⟨by decide +kernel, rfl⟩
theorem aX11_tour_60 : decode mX11_tour.2.1 60 = .ok (.iload 5, 2) ∧ 60 + 2 = 62 := ⟨by decide +kernel, rfl⟩
theorem aX11_tour_62 : decode mX11_tour.2.1 62 = .ok (.aload_n 0, 1) ∧ 62 + 1 = 63 := ⟨by decide +kernel, rfl⟩
theorem aX11_tour_63 : decode mX11_tour.2.1 63 = .ok (.getfield 83, 3) ∧ 63 + 3 = 66 := ⟨by decide +kernel, rfl⟩
theorem aX11_tour_66 : decode mX11_tour.2.1 66 = .ok (.getfield 117, 3) ∧ 66 + 3 = 69 := ⟨by decide +kernel, rfl⟩
theorem aX11_tour_69 : decode mX11_tour.2.1 69 = .ok (.if_icmp .ge 35, 3) ∧ ((69 : Nat) : Int) + 35 = ((104 : Nat) : Int) ∧ 69 + 3 = 72 := ⟨by decide +kernel, by decide, rfl⟩
theorem aX11_tour_72 : decode mX11_tour.2.1 72 = .ok (.iload_n 3, 1) ∧ 72 + 1 = 73 := ⟨by decide +kernel, rfl⟩
theorem aX11_tour_73 : decode mX11_tour.2.1 73 = .ok (.iload 5, 2) ∧ 73 + 2 = 75 := ⟨by decide +kernel, rfl⟩
theorem aX11_tour_75 : decode mX11_tour.2.1 75 = .ok (.ishr, 1) ∧ 75 + 1 = 76 := ⟨by decide +kernel, rfl⟩
theorem aX11_tour_76 : decode mX11_tour.2.1 76 = .ok (.iconst 1, 1) ∧ 76 + 1 = 77 := ⟨by decide +kernel, rfl⟩
theorem aX11_tour_77 : decode mX11_tour.2.1 77 = .ok (.iand, 1) ∧ 77 + 1 = 78 := ⟨by decide +kernel, rfl⟩
theorem aX11_tour_78 : decode mX11_tour.2.1 78 = .ok (.iconst 1, 1) ∧ 78 + 1 = 79 := ⟨by decide +kernel, rfl⟩
theorem aX11_tour_79 : decode mX11_tour.2.1 79 = .ok (.if_icmp .ne 19, 3) ∧ ((79 : Nat) : Int) + 19 = ((98 : Nat) : Int) ∧ 79 + 3 = 82 := ⟨by decide +kernel, by decide, rfl⟩
theorem aX11_tour_82 : decode mX11_tour.2.1 82 = .ok (.aload_n 0, 1) ∧ 82 + 1 = 83 := ⟨by decide +kernel, rfl⟩
theorem aX11_tour_83 : decode mX11_tour.2.1 83 = .ok (.iload 5, 2) ∧ 83 + 2 = 85 := ⟨by decide +kernel, rfl⟩
theorem aX11_tour_85 : decode mX11_tour.2.1 85 = .ok (.iload_n 1, 1) ∧ 85 + 1 = 86 := ⟨by decide +kernel, rfl⟩
theorem aX11_tour_86 : decode mX11_tour.2.1 86 = .ok (.iload_n 3, 1) ∧ 86 + 1 = 87 := ⟨by decide +kernel, rfl⟩
theorem aX11_tour_87 : decode mX11_tour.2.1 87 = .ok (.invokevirtual 257, 3) ∧ 87 + 3 = 90 := ⟨by decide +kernel, rfl⟩
theorem aX11_tour_90 : decode mX11_tour.2.1 90 = .ok (.iload 4, 2) ∧ 90 + 2 = 92 := ⟨by decide +kernel, rfl⟩
theorem aX11_tour_92 : decode mX11_tour.2.1 92 = .ok (.if_icmp .ne 6, 3) ∧ ((92 : Nat) : Int) + 6 = ((98 : Nat) : Int) ∧ 92 + 3 = 95 := ⟨by decide +kernel, by decide, rfl⟩
theorem aX11_tour_95 : decode mX11_tour.2.1 95 = .ok (.iload 5, 2) ∧ 95 + 2 = 97 := ⟨by decide +kernel, rfl⟩
theorem aX11_tour_97 : decode mX11_tour.2.1 97 = .ok (.ireturn, 1) := by decide +kernel
theorem aX11_tour_98 : decode mX11_tour.2.1 98 = .ok (.iinc 5 1, 3) ∧ 98 + 3 = 101 := ⟨by decide +kernel, rfl⟩
theorem aX11_tour_101 : decode mX11_tour.2.1 101 = .ok (.goto (-41), 3) ∧ ((101 : Nat) : Int) + (-41) = ((60 : Nat) : Int) := ⟨by decide +kernel, by decide⟩
theorem aX11_tour_104 : decode mX11_tour.2.1 104 = .ok (.bipush (-3), 2) ∧ 104 + 2 = 106 := ⟨by decide +kernel, rfl⟩
theorem aX11_tour_106 : decode mX11_tour.2.1 106 = .ok (.ireturn, 1) := by decide +kernel
theorem S_X11_tour {E : EE} {d : Nat} {I : IH} {Q : QT} (x1 : Int32) (x2 : Int32) (h :
(Mt E d mX11_isWithin [.int x1, .int (nI 255)] I (fun rv I1 => ∃ v2 : Int32, rv = some (.int v2) ∧
 ((v2 = 0 → Q (some (.int (-1))) I1) ∧
 (¬ v2 = 0 → (Mt E d mX11_isWithin [.int x2, .int (nI 1)] I1 (fun rv I3 => ∃ v4 : Int32, rv = some (.int v4) ∧
 ((¬ v4 = 0 → (Mt E d mX11_fewestLights [.ref (eb E + 0), .int x1, .int (((I3 33 8) ^^^ (-1)) &&& (((nI 1) <<< ((I3 33 7) &&& 31)) - (nI 1)))] I3 (fun rv I5 => ∃ v6 : Int32, rv = some (.int v6) ∧
 ((¬ x2 = 0 → J E (d + 1) mX11_tour 60 [(0, .ref (eb E + 0)), (1, .int x1), (3, .int (((I3 33 8) ^^^ (-1)) &&& (((nI 1) <<< ((I3 33 7) &&& 31)) - (nI 1)))), (4, .int v6), (5, .int (nI 0))] [] I5 Q) ∧
 (x2 = 0 → Q (some (.int v6)) I5))))) ∧
 (v4 = 0 → Q (some (.int (-1))) I3))))))))) : Mt E (d + 1) mX11_tour [.ref (eb E + 0), .int x1, .int x2] I Q := by
  refine Mt_of [(0, .ref (eb E + 0)), (1, .int x1), (2, .int x2)] (by decide +kernel) (by simp [lg_sl, Value.category, mX11_tour]) rfl ?_
  refine J_iload_n 1 aX11_tour_0 rfl ?_
  refine J_sipush (nI 255) aX11_tour_1 (by decide +kernel) ?_
  refine J_callS [.int x1, .int (nI 255)] [] aX11_tour_4 lkX11_110 okX11_isWithin rfl rfl (Nat.le_of_ble_eq_true rfl) (Nat.le_refl _) (Mt_mono h (fun rv I1 h => ?_))
  obtain ⟨v2, rfl, h⟩ := h
  refine J_r1 ?_
  refine J_if_eq aX11_tour_7 (fun q => ?_) (fun q => ?_)
  · replace h := h.1 q
    refine J_iconst (-1) aX11_tour_18 (by decide +kernel) ?_
    exact J_iret aX11_tour_19 rfl h
  · replace h := h.2 q
    refine J_iload_n 2 aX11_tour_10 rfl ?_
    refine J_iconst (nI 1) aX11_tour_11 (by decide +kernel) ?_
    refine J_callS [.int x2, .int (nI 1)] [] aX11_tour_12 lkX11_110 okX11_isWithin rfl rfl (Nat.le_of_ble_eq_true rfl) (Nat.le_refl _) (Mt_mono h (fun rv I3 h => ?_))
    obtain ⟨v4, rfl, h⟩ := h
    refine J_r1 ?_
    refine J_if_ne aX11_tour_15 (fun q => ?_) (fun q => ?_)
    · replace h := h.1 q
      refine J_aload_n 0 aX11_tour_20 rfl ?_
      refine J_getR aX11_tour_21 flX11_83 sh0 rfl ?_
      refine J_getI aX11_tour_24 flX11_143 sh33 rfl ?_
      refine J_iconst (-1) aX11_tour_27 (by decide +kernel) ?_
      refine J_ixor aX11_tour_28 ?_
      refine J_iconst (nI 1) aX11_tour_29 (by decide +kernel) ?_
      refine J_aload_n 0 aX11_tour_30 rfl ?_
      refine J_getR aX11_tour_31 flX11_83 sh0 rfl ?_
      refine J_getI aX11_tour_34 flX11_117 sh33 rfl ?_
      refine J_ishl aX11_tour_37 ?_
      refine J_iconst (nI 1) aX11_tour_38 (by decide +kernel) ?_
      refine J_isub aX11_tour_39 ?_
      refine J_iand aX11_tour_40 ?_
      refine J_istore_n [(3, .int (((I3 33 8) ^^^ (-1)) &&& (((nI 1) <<< ((I3 33 7) &&& 31)) - (nI 1)))), (0, .ref (eb E + 0)), (1, .int x1), (2, .int x2)] aX11_tour_41 (by decide) rfl ?_
      refine J_aload_n 1 aX11_tour_42 rfl ?_
      refine J_iload_n 2 aX11_tour_43 rfl ?_
      refine J_iload_n 0 aX11_tour_44 rfl ?_
      refine J_callV [.int x1, .int (((I3 33 8) ^^^ (-1)) &&& (((nI 1) <<< ((I3 33 7) &&& 31)) - (nI 1)))] [] aX11_tour_45 lkX11_254_X11 okX11_fewestLights sh0 rfl rfl rfl (Nat.le_of_ble_eq_true rfl) (Nat.le_refl _) (Mt_mono h (fun rv I5 h => ?_))
      obtain ⟨v6, rfl, h⟩ := h
      refine J_r1 ?_
      refine J_istore [(4, .int v6), (3, .int (((I3 33 8) ^^^ (-1)) &&& (((nI 1) <<< ((I3 33 7) &&& 31)) - (nI 1)))), (0, .ref (eb E + 0)), (1, .int x1), (2, .int x2)] aX11_tour_48 (by decide) rfl ?_
      refine J_iload_n 4 aX11_tour_50 rfl ?_
      refine J_if_ne aX11_tour_51 (fun q => ?_) (fun q => ?_)
      · replace h := h.1 q
        refine J_iconst (nI 0) aX11_tour_57 (by decide +kernel) ?_
        refine J_istore [(5, .int (nI 0)), (4, .int v6), (3, .int (((I3 33 8) ^^^ (-1)) &&& (((nI 1) <<< ((I3 33 7) &&& 31)) - (nI 1)))), (0, .ref (eb E + 0)), (1, .int x1), (2, .int x2)] aX11_tour_58 (by decide) rfl ?_
        refine J_pick [3, 4, 2, 1, 0] rfl ?_
        exact h
      · replace h := h.2 q
        refine J_iload 0 aX11_tour_54 rfl ?_
        exact J_iret aX11_tour_56 rfl h
    · replace h := h.2 q
      refine J_iconst (-1) aX11_tour_18 (by decide +kernel) ?_
      exact J_iret aX11_tour_19 rfl h
theorem S_X11_tour_60 {E : EE} {d : Nat} {I : IH} {Q : QT} (x1 : Int32) (x3 : Int32) (x4 : Int32) (x5 : Int32) (h :
(((I 33 7) ≤ x5 → Q (some (.int (-3))) I) ∧
 (¬ (I 33 7) ≤ x5 → ((¬ ((x3 >>> (x5 &&& 31)) &&& (nI 1)) = (nI 1) → J E (d + 1) mX11_tour 60 [(0, .ref (eb E + 0)), (1, .int x1), (3, .int x3), (4, .int x4), (5, .int (x5 + nI 1))] [] I Q) ∧
 (((x3 >>> (x5 &&& 31)) &&& (nI 1)) = (nI 1) → (Mt E d mX11_lightsBy [.ref (eb E + 0), .int x5, .int x1, .int x3] I (fun rv I1 => ∃ v2 : Int32, rv = some (.int v2) ∧
 ((¬ v2 = x4 → J E (d + 1) mX11_tour 60 [(0, .ref (eb E + 0)), (1, .int x1), (3, .int x3), (4, .int x4), (5, .int (x5 + nI 1))] [] I1 Q) ∧
 (v2 = x4 → Q (some (.int x5)) I1))))))))) : J E (d + 1) mX11_tour 60 [(0, .ref (eb E + 0)), (1, .int x1), (3, .int x3), (4, .int x4), (5, .int x5)] [] I Q := by
  refine J_iload 4 aX11_tour_60 rfl ?_
  refine J_aload_n 0 aX11_tour_62 rfl ?_
  refine J_getR aX11_tour_63 flX11_83 sh0 rfl ?_
  refine J_getI aX11_tour_66 flX11_117 sh33 rfl ?_
  refine J_icmp_ge aX11_tour_69 (fun q => ?_) (fun q => ?_)
  · replace h := h.1 q
    refine J_bipush (-3) aX11_tour_104 (by decide +kernel) ?_
    exact J_iret aX11_tour_106 rfl h
  · replace h := h.2 q
    refine J_iload_n 2 aX11_tour_72 rfl ?_
    refine J_iload 4 aX11_tour_73 rfl ?_
    refine J_ishr aX11_tour_75 ?_
    refine J_iconst (nI 1) aX11_tour_76 (by decide +kernel) ?_
    refine J_iand aX11_tour_77 ?_
    refine J_iconst (nI 1) aX11_tour_78 (by decide +kernel) ?_
    refine J_icmp_ne aX11_tour_79 (fun q => ?_) (fun q => ?_)
    · replace h := h.1 q
      refine J_iinc (x5 + nI 1) [(5, .int (x5 + nI 1)), (0, .ref (eb E + 0)), (1, .int x1), (3, .int x3), (4, .int x4)] 4 aX11_tour_98 rfl (by first | rfl | (congr 1; decide +kernel)) (by decide) rfl ?_
      refine J_goto aX11_tour_101 ?_
      refine J_pick [1, 2, 3, 4, 0] rfl ?_
      exact h
    · replace h := h.2 q
      refine J_aload_n 0 aX11_tour_82 rfl ?_
      refine J_iload 4 aX11_tour_83 rfl ?_
      refine J_iload_n 1 aX11_tour_85 rfl ?_
      refine J_iload_n 2 aX11_tour_86 rfl ?_
      refine J_callV [.int x5, .int x1, .int x3] [] aX11_tour_87 lkX11_257_X11 okX11_lightsBy sh0 rfl rfl rfl (Nat.le_of_ble_eq_true rfl) (Nat.le_refl _) (Mt_mono h (fun rv I1 h => ?_))
      obtain ⟨v2, rfl, h⟩ := h
      refine J_r1 ?_
      refine J_iload 3 aX11_tour_90 rfl ?_
      refine J_icmp_ne aX11_tour_92 (fun q => ?_) (fun q => ?_)
      · replace h := h.1 q
        refine J_iinc (x5 + nI 1) [(5, .int (x5 + nI 1)), (0, .ref (eb E + 0)), (1, .int x1), (3, .int x3), (4, .int x4)] 4 aX11_tour_98 rfl (by first | rfl | (congr 1; decide +kernel)) (by decide) rfl ?_
        refine J_goto aX11_tour_101 ?_
        refine J_pick [1, 2, 3, 4, 0] rfl ?_
        exact h
      · replace h := h.2 q
        refine J_iload 4 aX11_tour_95 rfl ?_
        exact J_iret aX11_tour_97 rfl h
theorem aX11_fewestLights_0 : decode mX11_fewestLights.2.1 0 = .ok (.iload_n 2, 1) ∧ 0 + 1 = 1 := ⟨by decide +kernel, rfl⟩
theorem aX11_fewestLights_1 : decode mX11_fewestLights.2.1 1 = .ok (.ifCond .ne 7, 3) ∧ ((1 : Nat) : Int) + 7 = ((8 : Nat) : Int) ∧ 1 + 3 = 4 := ⟨by decide +kernel, by decide, rfl⟩
theorem aX11_fewestLights_4 : decode mX11_fewestLights.2.1 4 = .ok (.iconst 0, 1) ∧ 4 + 1 = 5 := ⟨by decide +kernel, rfl⟩
theorem aX11_fewestLights_5 : decode mX11_fewestLights.2.1 5 = .ok (.goto 5, 3) ∧ ((5 : Nat) : Int) + 5 = ((10 : Nat) : Int) := ⟨by decide +kernel, by decide⟩
theorem aX11_fewestLights_8 : decode mX11_fewestLights.2.1 8 = .ok (.bipush 49, 2) ∧ 8 + 2 = 10 := ⟨by decide +kernel, rfl⟩
theorem aX11_fewestLights_10 : decode mX11_fewestLights.2.1 10 = .ok (.istore_n 3, 1) ∧ 10 + 1 = 11 := ⟨by decide +kernel, rfl⟩
theorem aX11_fewestLights_11 : decode mX11_fewestLights.2.1 11 = .ok (.iconst 0, 1) ∧ 11 + 1 = 12 := ⟨by decide +kernel, rfl⟩
theorem aX11_fewestLights_12 : decode mX11_fewestLights.2.1 12 = .ok (.istore 4, 2) ∧ 12 + 2 = 14 := ⟨by decide +kernel, rfl⟩
theorem aX11_fewestLights_14 : decode mX11_fewestLights.2.1 14 = .ok (.iload 4, 2) ∧ 14 + 2 = 16 := ⟨by decide +kernel, rfl⟩
theorem aX11_fewestLights_16 : decode mX11_fewestLights.2.1 16 = .ok (.aload_n 0, 1) ∧ 16 + 1 = 17 := ⟨by decide +kernel, rfl⟩
theorem aX11_fewestLights_17 : decode mX11_fewestLights.2.1 17 = .ok (.getfield 83, 3) ∧ 17 + 3 = 20 := ⟨by decide +kernel, rfl⟩
theorem aX11_fewestLights_20 : decode mX11_fewestLights.2.1 20 = .ok (.getfield 117, 3) ∧ 20 + 3 = 23 := ⟨by decide +kernel, rfl⟩
theorem aX11_fewestLights_23 : decode mX11_fewestLights.2.1 23 = .ok (.if_icmp .ge 32, 3) ∧ ((23 : Nat) : Int) + 32 = ((55 : Nat) : Int) ∧ 23 + 3 = 26 := ⟨by decide +kernel, by decide, rfl⟩
theorem aX11_fewestLights_26 : decode mX11_fewestLights.2.1 26 = .ok (.iload_n 2, 1) ∧ 26 + 1 = 27 := ⟨by decide +kernel, rfl⟩
theorem aX11_fewestLights_27 : decode mX11_fewestLights.2.1 27 = .ok (.iload 4, 2) ∧ 27 + 2 = 29 := ⟨by decide +kernel, rfl⟩
theorem aX11_fewestLights_29 : decode mX11_fewestLights.2.1 29 = .ok (.ishr, 1) ∧ 29 + 1 = 30 := ⟨by decide +kernel, rfl⟩
theorem aX11_fewestLights_30 : decode mX11_fewestLights.2.1 30 = .ok (.iconst 1, 1) ∧ 30 + 1 = 31 := ⟨by decide +kernel, rfl⟩
theorem aX11_fewestLights_31 : decode mX11_fewestLights.2.1 31 = .ok (.iand, 1) ∧ 31 + 1 = 32 := ⟨by decide +kernel, rfl⟩
theorem aX11_fewestLights_32 : decode mX11_fewestLights.2.1 32 = .ok (.iconst 1, 1) ∧ 32 + 1 = 33 := ⟨by decide +kernel, rfl⟩
theorem aX11_fewestLights_33 : decode mX11_fewestLights.2.1 33 = .ok (.if_icmp .ne 16, 3) ∧ ((33 : Nat) : Int) + 16 = ((49 : Nat) : Int) ∧ 33 + 3 = 36 := ⟨by decide +kernel, by decide, rfl⟩
theorem aX11_fewestLights_36 : decode mX11_fewestLights.2.1 36 = .ok (.iload_n 3, 1) ∧ 36 + 1 = 37 := ⟨by decide +kernel, rfl⟩
theorem aX11_fewestLights_37 : decode mX11_fewestLights.2.1 37 = .ok (.aload_n 0, 1) ∧ 37 + 1 = 38 := ⟨by decide +kernel, rfl⟩
theorem aX11_fewestLights_38 : decode mX11_fewestLights.2.1 38 = .ok (.iload 4, 2) ∧ 38 + 2 = 40 := ⟨by decide +kernel, rfl⟩
theorem aX11_fewestLights_40 : decode mX11_fewestLights.2.1 40 = .ok (.iload_n 1, 1) ∧ 40 + 1 = 41 := ⟨by decide +kernel, rfl⟩
theorem aX11_fewestLights_41 : decode mX11_fewestLights.2.1 41 = .ok (.iload_n 2, 1) ∧ 41 + 1 = 42 := ⟨by decide +kernel, rfl⟩
theorem aX11_fewestLights_42 : decode mX11_fewestLights.2.1 42 = .ok (.invokevirtual 257, 3) ∧ 42 + 3 = 45 := ⟨by decide +kernel, rfl⟩
theorem aX11_fewestLights_45 : decode mX11_fewestLights.2.1 45 = .ok (.invokestatic 260, 3) ∧ 45 + 3 = 48 := ⟨by decide +kernel, rfl⟩
theorem aX11_fewestLights_48 : decode mX11_fewestLights.2.1 48 = .ok (.istore_n 3, 1) ∧ 48 + 1 = 49 := ⟨by decide +kernel, rfl⟩
theorem aX11_fewestLights_49 : decode mX11_fewestLights.2.1 49 = .ok (.iinc 4 1, 3) ∧ 49 + 3 = 52 := ⟨by decide +kernel, rfl⟩
theorem aX11_fewestLights_52 : decode mX11_fewestLights.2.1 52 = .ok (.goto (-38), 3) ∧ ((52 : Nat) : Int) + (-38) = ((14 : Nat) : Int) := ⟨by decide +kernel, by decide⟩
theorem aX11_fewestLights_55 : decode mX11_fewestLights.2.1 55 = .ok (.iload_n 3, 1) ∧ 55 + 1 = 56 := ⟨by decide +kernel, rfl⟩
theorem aX11_fewestLights_56 : decode mX11_fewestLights.2.1 56 = .ok (.ireturn, 1) := by decide +kernel
theorem S_X11_fewestLights {E : EE} {d : Nat} {I : IH} {Q : QT} (x1 : Int32) (x2 : Int32) (h :
((¬ x2 = 0 → J E (d + 1) mX11_fewestLights 14 [(0, .ref (eb E + 0)), (1, .int x1), (2, .int x2), (3, .int (nI 49)), (4, .int (nI 0))] [] I Q) ∧
 (x2 = 0 → J E (d + 1) mX11_fewestLights 14 [(0, .ref (eb E + 0)), (1, .int x1), (2, .int x2), (3, .int (nI 0)), (4, .int (nI 0))] [] I Q))) : Mt E (d + 1) mX11_fewestLights [.ref (eb E + 0), .int x1, .int x2] I Q := by
  refine Mt_of [(0, .ref (eb E + 0)), (1, .int x1), (2, .int x2)] (by decide +kernel) (by simp [lg_sl, Value.category, mX11_fewestLights]) rfl ?_
  refine J_iload_n 2 aX11_fewestLights_0 rfl ?_
  refine J_if_ne aX11_fewestLights_1 (fun q => ?_) (fun q => ?_)
  · replace h := h.1 q
    refine J_bipush (nI 49) aX11_fewestLights_8 (by decide +kernel) ?_
    refine J_istore_n [(3, .int (nI 49)), (0, .ref (eb E + 0)), (1, .int x1), (2, .int x2)] aX11_fewestLights_10 (by decide) rfl ?_
    refine J_iconst (nI 0) aX11_fewestLights_11 (by decide +kernel) ?_
    refine J_istore [(4, .int (nI 0)), (3, .int (nI 49)), (0, .ref (eb E + 0)), (1, .int x1), (2, .int x2)] aX11_fewestLights_12 (by decide) rfl ?_
    refine J_pick [2, 3, 4, 1, 0] rfl ?_
    exact h
  · replace h := h.2 q
    refine J_iconst (nI 0) aX11_fewestLights_4 (by decide +kernel) ?_
    refine J_goto aX11_fewestLights_5 ?_
    refine J_istore_n [(3, .int (nI 0)), (0, .ref (eb E + 0)), (1, .int x1), (2, .int x2)] aX11_fewestLights_10 (by decide) rfl ?_
    refine J_iconst (nI 0) aX11_fewestLights_11 (by decide +kernel) ?_
    refine J_istore [(4, .int (nI 0)), (3, .int (nI 0)), (0, .ref (eb E + 0)), (1, .int x1), (2, .int x2)] aX11_fewestLights_12 (by decide) rfl ?_
    refine J_pick [2, 3, 4, 1, 0] rfl ?_
    exact h
theorem S_X11_fewestLights_14 {E : EE} {d : Nat} {I : IH} {Q : QT} (x1 : Int32) (x2 : Int32) (x3 : Int32) (x4 : Int32) (h :
(((I 33 7) ≤ x4 → Q (some (.int x3)) I) ∧
 (¬ (I 33 7) ≤ x4 → ((¬ ((x2 >>> (x4 &&& 31)) &&& (nI 1)) = (nI 1) → J E (d + 1) mX11_fewestLights 14 [(0, .ref (eb E + 0)), (1, .int x1), (2, .int x2), (3, .int x3), (4, .int (x4 + nI 1))] [] I Q) ∧
 (((x2 >>> (x4 &&& 31)) &&& (nI 1)) = (nI 1) → (Mt E d mX11_lightsBy [.ref (eb E + 0), .int x4, .int x1, .int x2] I (fun rv I1 => ∃ v2 : Int32, rv = some (.int v2) ∧
 J E (d + 1) mX11_fewestLights 14 [(0, .ref (eb E + 0)), (1, .int x1), (2, .int x2), (3, .int (if v2 < x3 then v2 else x3)), (4, .int (x4 + nI 1))] [] I1 Q))))))) : J E (d + 1) mX11_fewestLights 14 [(0, .ref (eb E + 0)), (1, .int x1), (2, .int x2), (3, .int x3), (4, .int x4)] [] I Q := by
  refine J_iload 4 aX11_fewestLights_14 rfl ?_
  refine J_aload_n 0 aX11_fewestLights_16 rfl ?_
  refine J_getR aX11_fewestLights_17 flX11_83 sh0 rfl ?_
  refine J_getI aX11_fewestLights_20 flX11_117 sh33 rfl ?_
  refine J_icmp_ge aX11_fewestLights_23 (fun q => ?_) (fun q => ?_)
  · replace h := h.1 q
    refine J_iload_n 3 aX11_fewestLights_55 rfl ?_
    exact J_iret aX11_fewestLights_56 rfl h
  · replace h := h.2 q
    refine J_iload_n 2 aX11_fewestLights_26 rfl ?_
    refine J_iload 4 aX11_fewestLights_27 rfl ?_
    refine J_ishr aX11_fewestLights_29 ?_
    refine J_iconst (nI 1) aX11_fewestLights_30 (by decide +kernel) ?_
    refine J_iand aX11_fewestLights_31 ?_
    refine J_iconst (nI 1) aX11_fewestLights_32 (by decide +kernel) ?_
    refine J_icmp_ne aX11_fewestLights_33 (fun q => ?_) (fun q => ?_)
    · replace h := h.1 q
      refine J_iinc (x4 + nI 1) [(4, .int (x4 + nI 1)), (0, .ref (eb E + 0)), (1, .int x1), (2, .int x2), (3, .int x3)] 4 aX11_fewestLights_49 rfl (by first | rfl | (congr 1; decide +kernel)) (by decide) rfl ?_
      refine J_goto aX11_fewestLights_52 ?_
      refine J_pick [1, 2, 3, 4, 0] rfl ?_
      exact h
    · replace h := h.2 q
      refine J_iload_n 3 aX11_fewestLights_36 rfl ?_
      refine J_aload_n 0 aX11_fewestLights_37 rfl ?_
      refine J_iload 4 aX11_fewestLights_38 rfl ?_
      refine J_iload_n 1 aX11_fewestLights_40 rfl ?_
      refine J_iload_n 2 aX11_fewestLights_41 rfl ?_
      refine J_callV [.int x4, .int x1, .int x2] [.int x3] aX11_fewestLights_42 lkX11_257_X11 okX11_lightsBy sh0 rfl rfl rfl (Nat.le_of_ble_eq_true rfl) (Nat.le_refl _) (Mt_mono h (fun rv I1 h => ?_))
      obtain ⟨v2, rfl, h⟩ := h
      refine J_r1 ?_
      refine J_min aX11_fewestLights_45 lkX11_260 mth_smin mth_ini mth_cmin (by omega) (Nat.le_of_ble_eq_true rfl) ?_
      refine J_istore_n [(3, .int (if v2 < x3 then v2 else x3)), (0, .ref (eb E + 0)), (1, .int x1), (2, .int x2), (4, .int x4)] aX11_fewestLights_48 (by decide) rfl ?_
      refine J_iinc (x4 + nI 1) [(4, .int (x4 + nI 1)), (3, .int (if v2 < x3 then v2 else x3)), (0, .ref (eb E + 0)), (1, .int x1), (2, .int x2)] 4 aX11_fewestLights_49 rfl (by first | rfl | (congr 1; decide +kernel)) (by decide) rfl ?_
      refine J_goto aX11_fewestLights_52 ?_
      refine J_pick [2, 3, 4, 1, 0] rfl ?_
      exact h
theorem aX11_lightsBy_0 : decode mX11_lightsBy.2.1 0 = .ok (.aload_n 0, 1) ∧ 0 + 1 = 1 := ⟨by decide +kernel, rfl⟩
theorem aX11_lightsBy_1 : decode mX11_lightsBy.2.1 1 = .ok (.getfield 83, 3) ∧ 1 + 3 = 4 := ⟨by decide +kernel, rfl⟩
theorem aX11_lightsBy_4 : decode mX11_lightsBy.2.1 4 = .ok (.getfield 134, 3) ∧ 4 + 3 = 7 := ⟨by decide +kernel, rfl⟩
theorem aX11_lightsBy_7 : decode mX11_lightsBy.2.1 7 = .ok (.iload_n 1, 1) ∧ 7 + 1 = 8 := ⟨by decide +kernel, rfl⟩
theorem aX11_lightsBy_8 : decode mX11_lightsBy.2.1 8 = .ok (.iaload, 1) ∧ 8 + 1 = 9 := ⟨by decide +kernel, rfl⟩
theorem aX11_lightsBy_9 : decode mX11_lightsBy.2.1 9 = .ok (.istore 4, 2) ∧ 9 + 2 = 11 := ⟨by decide +kernel, rfl⟩
theorem aX11_lightsBy_11 : decode mX11_lightsBy.2.1 11 = .ok (.iload_n 2, 1) ∧ 11 + 1 = 12 := ⟨by decide +kernel, rfl⟩
theorem aX11_lightsBy_12 : decode mX11_lightsBy.2.1 12 = .ok (.iload 4, 2) ∧ 12 + 2 = 14 := ⟨by decide +kernel, rfl⟩
theorem aX11_lightsBy_14 : decode mX11_lightsBy.2.1 14 = .ok (.ixor, 1) ∧ 14 + 1 = 15 := ⟨by decide +kernel, rfl⟩
theorem aX11_lightsBy_15 : decode mX11_lightsBy.2.1 15 = .ok (.invokestatic 249, 3) ∧ 15 + 3 = 18 := ⟨by decide +kernel, rfl⟩
theorem aX11_lightsBy_18 : decode mX11_lightsBy.2.1 18 = .ok (.aload_n 0, 1) ∧ 18 + 1 = 19 := ⟨by decide +kernel, rfl⟩
theorem aX11_lightsBy_19 : decode mX11_lightsBy.2.1 19 = .ok (.iload 4, 2) ∧ 19 + 2 = 21 := ⟨by decide +kernel, rfl⟩
theorem aX11_lightsBy_21 : decode mX11_lightsBy.2.1 21 = .ok (.iload_n 3, 1) ∧ 21 + 1 = 22 := ⟨by decide +kernel, rfl⟩
theorem aX11_lightsBy_22 : decode mX11_lightsBy.2.1 22 = .ok (.iconst 1, 1) ∧ 22 + 1 = 23 := ⟨by decide +kernel, rfl⟩
theorem aX11_lightsBy_23 : decode mX11_lightsBy.2.1 23 = .ok (.iload_n 1, 1) ∧ 23 + 1 = 24 := ⟨by decide +kernel, rfl⟩
theorem aX11_lightsBy_24 : decode mX11_lightsBy.2.1 24 = .ok (.ishl, 1) ∧ 24 + 1 = 25 := ⟨by decide +kernel, rfl⟩
theorem aX11_lightsBy_25 : decode mX11_lightsBy.2.1 25 = .ok (.iconst (-1), 1) ∧ 25 + 1 = 26 := ⟨by decide +kernel, rfl⟩
theorem aX11_lightsBy_26 : decode mX11_lightsBy.2.1 26 = .ok (.ixor, 1) ∧ 26 + 1 = 27 := ⟨by decide +kernel, rfl⟩
theorem aX11_lightsBy_27 : decode mX11_lightsBy.2.1 27 = .ok (.iand, 1) ∧ 27 + 1 = 28 := ⟨by decide +kernel, rfl⟩
theorem aX11_lightsBy_28 : decode mX11_lightsBy.2.1 28 = .ok (.invokevirtual 254, 3) ∧ 28 + 3 = 31 := ⟨by decide +kernel, rfl⟩
theorem aX11_lightsBy_31 : decode mX11_lightsBy.2.1 31 = .ok (.iadd, 1) ∧ 31 + 1 = 32 := ⟨by decide +kernel, rfl⟩
theorem aX11_lightsBy_32 : decode mX11_lightsBy.2.1 32 = .ok (.ireturn, 1) := by decide +kernel
theorem S_X11_lightsBy {E : EE} {d : Nat} {I : IH} {Q : QT} (x1 : Int32) (x2 : Int32) (x3 : Int32) (h :
(∃ j1 : Nat, x1 = nI j1 ∧ j1 < 6 ∧ (Mt E d mJ6_bitCount_0f7a4 [.int (x2 ^^^ (I 38 j1))] I (fun rv I4 => ∃ v5 : Int32, rv = some (.int v5) ∧
 (Mt E d mX11_fewestLights [.ref (eb E + 0), .int (I 38 j1), .int (x3 &&& (((nI 1) <<< (x1 &&& 31)) ^^^ (-1)))] I4 (fun rv I6 => ∃ v7 : Int32, rv = some (.int v7) ∧
 Q (some (.int (v5 + v7))) I6)))))) : Mt E (d + 1) mX11_lightsBy [.ref (eb E + 0), .int x1, .int x2, .int x3] I Q := by
  refine Mt_of [(0, .ref (eb E + 0)), (1, .int x1), (2, .int x2), (3, .int x3)] (by decide +kernel) (by simp [lg_sl, Value.category, mX11_lightsBy]) rfl ?_
  refine J_aload_n 0 aX11_lightsBy_0 rfl ?_
  refine J_getR aX11_lightsBy_1 flX11_83 sh0 rfl ?_
  refine J_getR aX11_lightsBy_4 flX11_134 sh33 rfl ?_
  refine J_iload_n 1 aX11_lightsBy_7 rfl ?_
  obtain ⟨j1, e2, b3, h⟩ := h
  refine J_iaload j1 aX11_lightsBy_8 sh38 e2 b3 (by decide) ?_
  refine J_istore [(4, .int (I 38 j1)), (0, .ref (eb E + 0)), (1, .int x1), (2, .int x2), (3, .int x3)] aX11_lightsBy_9 (by decide) rfl ?_
  refine J_iload_n 3 aX11_lightsBy_11 rfl ?_
  refine J_iload 0 aX11_lightsBy_12 rfl ?_
  refine J_ixor aX11_lightsBy_14 ?_
  refine J_callS [.int (x2 ^^^ (I 38 j1))] [] aX11_lightsBy_15 lkX11_249 okJ6_bitCount_0f7a4 rfl rfl (Nat.le_of_ble_eq_true rfl) (Nat.le_refl _) (Mt_mono h (fun rv I4 h => ?_))
  obtain ⟨v5, rfl, h⟩ := h
  refine J_r1 ?_
  refine J_aload_n 1 aX11_lightsBy_18 rfl ?_
  refine J_iload 0 aX11_lightsBy_19 rfl ?_
  refine J_iload_n 4 aX11_lightsBy_21 rfl ?_
  refine J_iconst (nI 1) aX11_lightsBy_22 (by decide +kernel) ?_
  refine J_iload_n 2 aX11_lightsBy_23 rfl ?_
  refine J_ishl aX11_lightsBy_24 ?_
  refine J_iconst (-1) aX11_lightsBy_25 (by decide +kernel) ?_
  refine J_ixor aX11_lightsBy_26 ?_
  refine J_iand aX11_lightsBy_27 ?_
  refine J_callV [.int (I 38 j1), .int (x3 &&& (((nI 1) <<< (x1 &&& 31)) ^^^ (-1)))] [.int v5] aX11_lightsBy_28 lkX11_254_X11 okX11_fewestLights sh0 rfl rfl rfl (Nat.le_of_ble_eq_true rfl) (Nat.le_refl _) (Mt_mono h (fun rv I6 h => ?_))
  obtain ⟨v7, rfl, h⟩ := h
  refine J_r1 ?_
  refine J_iadd aX11_lightsBy_31 ?_
  exact J_iret aX11_lightsBy_32 rfl h
theorem aX11_best_0 : decode mX11_best.2.1 0 = .ok (.iload_n 1, 1) ∧ 0 + 1 = 1 := ⟨by decide +kernel, rfl⟩
theorem aX11_best_1 : decode mX11_best.2.1 1 = .ok (.iconst 4, 1) ∧ 1 + 1 = 2 := ⟨by decide +kernel, rfl⟩
theorem aX11_best_2 : decode mX11_best.2.1 2 = .ok (.invokestatic 110, 3) ∧ 2 + 3 = 5 := ⟨by decide +kernel, rfl⟩
theorem aX11_best_5 : decode mX11_best.2.1 5 = .ok (.ifCond .ne 5, 3) ∧ ((5 : Nat) : Int) + 5 = ((10 : Nat) : Int) ∧ 5 + 3 = 8 := ⟨by decide +kernel, by decide, rfl⟩
theorem aX11_best_8 : decode mX11_best.2.1 8 = .ok (.iconst (-1), 1) ∧ 8 + 1 = 9 := ⟨by decide +kernel, rfl⟩
theorem aX11_best_9 : decode mX11_best.2.1 9 = .ok (.ireturn, 1) := by decide +kernel
theorem aX11_best_10 : decode mX11_best.2.1 10 = .ok (.aload_n 0, 1) ∧ 10 + 1 = 11 := ⟨by decide +kernel, rfl⟩
theorem aX11_best_11 : decode mX11_best.2.1 11 = .ok (.getfield 96, 3) ∧ 11 + 3 = 14 := ⟨by decide +kernel, rfl⟩
theorem aX11_best_14 : decode mX11_best.2.1 14 = .ok (.aload_n 0, 1) ∧ 14 + 1 = 15 := ⟨by decide +kernel, rfl⟩
theorem aX11_best_15 : decode mX11_best.2.1 15 = .ok (.getfield 83, 3) ∧ 15 + 3 = 18 := ⟨by decide +kernel, rfl⟩
theorem aX11_best_18 : decode mX11_best.2.1 18 = .ok (.iload_n 1, 1) ∧ 18 + 1 = 19 := ⟨by decide +kernel, rfl⟩
theorem aX11_best_19 : decode mX11_best.2.1 19 = .ok (.iconst 0, 1) ∧ 19 + 1 = 20 := ⟨by decide +kernel, rfl⟩
theorem aX11_best_20 : decode mX11_best.2.1 20 = .ok (.invokevirtual 265, 3) ∧ 20 + 3 = 23 := ⟨by decide +kernel, rfl⟩
theorem aX11_best_23 : decode mX11_best.2.1 23 = .ok (.aload_n 0, 1) ∧ 23 + 1 = 24 := ⟨by decide +kernel, rfl⟩
theorem aX11_best_24 : decode mX11_best.2.1 24 = .ok (.getfield 96, 3) ∧ 24 + 3 = 27 := ⟨by decide +kernel, rfl⟩
theorem aX11_best_27 : decode mX11_best.2.1 27 = .ok (.getfield 269, 3) ∧ 27 + 3 = 30 := ⟨by decide +kernel, rfl⟩
theorem aX11_best_30 : decode mX11_best.2.1 30 = .ok (.ireturn, 1) := by decide +kernel
theorem S_X11_best {E : EE} {d : Nat} {I : IH} {Q : QT} (x1 : Int32) (h :
(Mt E d mX11_isWithin [.int x1, .int (nI 4)] I (fun rv I1 => ∃ v2 : Int32, rv = some (.int v2) ∧
 ((¬ v2 = 0 → (Mt E d mX5_search [.ref (eb E + 66), .ref (eb E + 33), .int x1, .int (nI 0)] I1 (fun rv I3 => rv = none ∧
 Q (some (.int (I3 66 4))) I3))) ∧
 (v2 = 0 → Q (some (.int (-1))) I1))))) : Mt E (d + 1) mX11_best [.ref (eb E + 0), .int x1] I Q := by
  refine Mt_of [(0, .ref (eb E + 0)), (1, .int x1)] (by decide +kernel) (by simp [lg_sl, Value.category, mX11_best]) rfl ?_
  refine J_iload_n 1 aX11_best_0 rfl ?_
  refine J_iconst (nI 4) aX11_best_1 (by decide +kernel) ?_
  refine J_callS [.int x1, .int (nI 4)] [] aX11_best_2 lkX11_110 okX11_isWithin rfl rfl (Nat.le_of_ble_eq_true rfl) (Nat.le_refl _) (Mt_mono h (fun rv I1 h => ?_))
  obtain ⟨v2, rfl, h⟩ := h
  refine J_r1 ?_
  refine J_if_ne aX11_best_5 (fun q => ?_) (fun q => ?_)
  · replace h := h.1 q
    refine J_aload_n 0 aX11_best_10 rfl ?_
    refine J_getR aX11_best_11 flX11_96 sh0 rfl ?_
    refine J_aload_n 0 aX11_best_14 rfl ?_
    refine J_getR aX11_best_15 flX11_83 sh0 rfl ?_
    refine J_iload_n 1 aX11_best_18 rfl ?_
    refine J_iconst (nI 0) aX11_best_19 (by decide +kernel) ?_
    refine J_callV [.ref (eb E + 33), .int x1, .int (nI 0)] [] aX11_best_20 lkX11_265_X5 okX5_search sh66 rfl rfl rfl (Nat.le_of_ble_eq_true rfl) (Nat.le_refl _) (Mt_mono h (fun rv I3 h => ?_))
    obtain ⟨rfl, h⟩ := h
    refine J_r0 ?_
    refine J_aload_n 0 aX11_best_23 rfl ?_
    refine J_getR aX11_best_24 flX11_96 sh0 rfl ?_
    refine J_getI aX11_best_27 flX11_269 sh66 rfl ?_
    exact J_iret aX11_best_30 rfl h
  · replace h := h.2 q
    refine J_iconst (-1) aX11_best_8 (by decide +kernel) ?_
    exact J_iret aX11_best_9 rfl h
theorem aX11_ith_0 : decode mX11_ith.2.1 0 = .ok (.iload_n 1, 1) ∧ 0 + 1 = 1 := ⟨by decide +kernel, rfl⟩
theorem aX11_ith_1 : decode mX11_ith.2.1 1 = .ok (.iconst 4, 1) ∧ 1 + 1 = 2 := ⟨by decide +kernel, rfl⟩
theorem aX11_ith_2 : decode mX11_ith.2.1 2 = .ok (.invokestatic 110, 3) ∧ 2 + 3 = 5 := ⟨by decide +kernel, rfl⟩
theorem aX11_ith_5 : decode mX11_ith.2.1 5 = .ok (.ifCond .eq 11, 3) ∧ ((5 : Nat) : Int) + 11 = ((16 : Nat) : Int) ∧ 5 + 3 = 8 := ⟨by decide +kernel, by decide, rfl⟩
theorem aX11_ith_8 : decode mX11_ith.2.1 8 = .ok (.iload_n 2, 1) ∧ 8 + 1 = 9 := ⟨by decide +kernel, rfl⟩
theorem aX11_ith_9 : decode mX11_ith.2.1 9 = .ok (.iconst 3, 1) ∧ 9 + 1 = 10 := ⟨by decide +kernel, rfl⟩
theorem aX11_ith_10 : decode mX11_ith.2.1 10 = .ok (.invokestatic 110, 3) ∧ 10 + 3 = 13 := ⟨by decide +kernel, rfl⟩
theorem aX11_ith_13 : decode mX11_ith.2.1 13 = .ok (.ifCond .ne 5, 3) ∧ ((13 : Nat) : Int) + 5 = ((18 : Nat) : Int) ∧ 13 + 3 = 16 := ⟨by decide +kernel, by decide, rfl⟩
theorem aX11_ith_16 : decode mX11_ith.2.1 16 = .ok (.iconst (-1), 1) ∧ 16 + 1 = 17 := ⟨by decide +kernel, rfl⟩
theorem aX11_ith_17 : decode mX11_ith.2.1 17 = .ok (.ireturn, 1) := by decide +kernel
theorem aX11_ith_18 : decode mX11_ith.2.1 18 = .ok (.aload_n 0, 1) ∧ 18 + 1 = 19 := ⟨by decide +kernel, rfl⟩
theorem aX11_ith_19 : decode mX11_ith.2.1 19 = .ok (.getfield 96, 3) ∧ 19 + 3 = 22 := ⟨by decide +kernel, rfl⟩
theorem aX11_ith_22 : decode mX11_ith.2.1 22 = .ok (.aload_n 0, 1) ∧ 22 + 1 = 23 := ⟨by decide +kernel, rfl⟩
theorem aX11_ith_23 : decode mX11_ith.2.1 23 = .ok (.getfield 83, 3) ∧ 23 + 3 = 26 := ⟨by decide +kernel, rfl⟩
theorem aX11_ith_26 : decode mX11_ith.2.1 26 = .ok (.iload_n 1, 1) ∧ 26 + 1 = 27 := ⟨by decide +kernel, rfl⟩
theorem aX11_ith_27 : decode mX11_ith.2.1 27 = .ok (.iconst 0, 1) ∧ 27 + 1 = 28 := ⟨by decide +kernel, rfl⟩
theorem aX11_ith_28 : decode mX11_ith.2.1 28 = .ok (.invokevirtual 265, 3) ∧ 28 + 3 = 31 := ⟨by decide +kernel, rfl⟩
theorem aX11_ith_31 : decode mX11_ith.2.1 31 = .ok (.iload_n 2, 1) ∧ 31 + 1 = 32 := ⟨by decide +kernel, rfl⟩
theorem aX11_ith_32 : decode mX11_ith.2.1 32 = .ok (.aload_n 0, 1) ∧ 32 + 1 = 33 := ⟨by decide +kernel, rfl⟩
theorem aX11_ith_33 : decode mX11_ith.2.1 33 = .ok (.getfield 96, 3) ∧ 33 + 3 = 36 := ⟨by decide +kernel, rfl⟩
theorem aX11_ith_36 : decode mX11_ith.2.1 36 = .ok (.getfield 272, 3) ∧ 36 + 3 = 39 := ⟨by decide +kernel, rfl⟩
theorem aX11_ith_39 : decode mX11_ith.2.1 39 = .ok (.if_icmp .ge 15, 3) ∧ ((39 : Nat) : Int) + 15 = ((54 : Nat) : Int) ∧ 39 + 3 = 42 := ⟨by decide +kernel, by decide, rfl⟩
theorem aX11_ith_42 : decode mX11_ith.2.1 42 = .ok (.aload_n 0, 1) ∧ 42 + 1 = 43 := ⟨by decide +kernel, rfl⟩
theorem aX11_ith_43 : decode mX11_ith.2.1 43 = .ok (.getfield 96, 3) ∧ 43 + 3 = 46 := ⟨by decide +kernel, rfl⟩
theorem aX11_ith_46 : decode mX11_ith.2.1 46 = .ok (.getfield 275, 3) ∧ 46 + 3 = 49 := ⟨by decide +kernel, rfl⟩
theorem aX11_ith_49 : decode mX11_ith.2.1 49 = .ok (.iload_n 2, 1) ∧ 49 + 1 = 50 := ⟨by decide +kernel, rfl⟩
theorem aX11_ith_50 : decode mX11_ith.2.1 50 = .ok (.iaload, 1) ∧ 50 + 1 = 51 := ⟨by decide +kernel, rfl⟩
theorem aX11_ith_51 : decode mX11_ith.2.1 51 = .ok (.goto 5, 3) ∧ ((51 : Nat) : Int) + 5 = ((56 : Nat) : Int) := ⟨by decide +kernel, by decide⟩
theorem aX11_ith_54 : decode mX11_ith.2.1 54 = .ok (.bipush (-3), 2) ∧ 54 + 2 = 56 := ⟨by decide +kernel, rfl⟩
theorem aX11_ith_56 : decode mX11_ith.2.1 56 = .ok (.ireturn, 1) := by decide +kernel
theorem S_X11_ith {E : EE} {d : Nat} {I : IH} {Q : QT} (x1 : Int32) (x2 : Int32) (h :
(Mt E d mX11_isWithin [.int x1, .int (nI 4)] I (fun rv I1 => ∃ v2 : Int32, rv = some (.int v2) ∧
 ((v2 = 0 → Q (some (.int (-1))) I1) ∧
 (¬ v2 = 0 → (Mt E d mX11_isWithin [.int x2, .int (nI 3)] I1 (fun rv I3 => ∃ v4 : Int32, rv = some (.int v4) ∧
 ((¬ v4 = 0 → (Mt E d mX5_search [.ref (eb E + 66), .ref (eb E + 33), .int x1, .int (nI 0)] I3 (fun rv I5 => rv = none ∧
 (((I5 66 3) ≤ x2 → Q (some (.int (-3))) I5) ∧
 (¬ (I5 66 3) ≤ x2 → (∃ j6 : Nat, x2 = nI j6 ∧ j6 < 4 ∧ Q (some (.int (I5 69 j6))) I5)))))) ∧
 (v4 = 0 → Q (some (.int (-1))) I3))))))))) : Mt E (d + 1) mX11_ith [.ref (eb E + 0), .int x1, .int x2] I Q := by
  refine Mt_of [(0, .ref (eb E + 0)), (1, .int x1), (2, .int x2)] (by decide +kernel) (by simp [lg_sl, Value.category, mX11_ith]) rfl ?_
  refine J_iload_n 1 aX11_ith_0 rfl ?_
  refine J_iconst (nI 4) aX11_ith_1 (by decide +kernel) ?_
  refine J_callS [.int x1, .int (nI 4)] [] aX11_ith_2 lkX11_110 okX11_isWithin rfl rfl (Nat.le_of_ble_eq_true rfl) (Nat.le_refl _) (Mt_mono h (fun rv I1 h => ?_))
  obtain ⟨v2, rfl, h⟩ := h
  refine J_r1 ?_
  refine J_if_eq aX11_ith_5 (fun q => ?_) (fun q => ?_)
  · replace h := h.1 q
    refine J_iconst (-1) aX11_ith_16 (by decide +kernel) ?_
    exact J_iret aX11_ith_17 rfl h
  · replace h := h.2 q
    refine J_iload_n 2 aX11_ith_8 rfl ?_
    refine J_iconst (nI 3) aX11_ith_9 (by decide +kernel) ?_
    refine J_callS [.int x2, .int (nI 3)] [] aX11_ith_10 lkX11_110 okX11_isWithin rfl rfl (Nat.le_of_ble_eq_true rfl) (Nat.le_refl _) (Mt_mono h (fun rv I3 h => ?_))
    obtain ⟨v4, rfl, h⟩ := h
    refine J_r1 ?_
    refine J_if_ne aX11_ith_13 (fun q => ?_) (fun q => ?_)
    · replace h := h.1 q
      refine J_aload_n 0 aX11_ith_18 rfl ?_
      refine J_getR aX11_ith_19 flX11_96 sh0 rfl ?_
      refine J_aload_n 0 aX11_ith_22 rfl ?_
      refine J_getR aX11_ith_23 flX11_83 sh0 rfl ?_
      refine J_iload_n 1 aX11_ith_26 rfl ?_
      refine J_iconst (nI 0) aX11_ith_27 (by decide +kernel) ?_
      refine J_callV [.ref (eb E + 33), .int x1, .int (nI 0)] [] aX11_ith_28 lkX11_265_X5 okX5_search sh66 rfl rfl rfl (Nat.le_of_ble_eq_true rfl) (Nat.le_refl _) (Mt_mono h (fun rv I5 h => ?_))
      obtain ⟨rfl, h⟩ := h
      refine J_r0 ?_
      refine J_iload_n 2 aX11_ith_31 rfl ?_
      refine J_aload_n 0 aX11_ith_32 rfl ?_
      refine J_getR aX11_ith_33 flX11_96 sh0 rfl ?_
      refine J_getI aX11_ith_36 flX11_272 sh66 rfl ?_
      refine J_icmp_ge aX11_ith_39 (fun q => ?_) (fun q => ?_)
      · replace h := h.1 q
        refine J_bipush (-3) aX11_ith_54 (by decide +kernel) ?_
        exact J_iret aX11_ith_56 rfl h
      · replace h := h.2 q
        refine J_aload_n 0 aX11_ith_42 rfl ?_
        refine J_getR aX11_ith_43 flX11_96 sh0 rfl ?_
        refine J_getR aX11_ith_46 flX11_275 sh66 rfl ?_
        refine J_iload_n 2 aX11_ith_49 rfl ?_
        obtain ⟨j6, e7, b8, h⟩ := h
        refine J_iaload j6 aX11_ith_50 sh69 e7 b8 (by decide) ?_
        refine J_goto aX11_ith_51 ?_
        exact J_iret aX11_ith_56 rfl h
    · replace h := h.2 q
      refine J_iconst (-1) aX11_ith_16 (by decide +kernel) ?_
      exact J_iret aX11_ith_17 rfl h
theorem aX11_ways_0 : decode mX11_ways.2.1 0 = .ok (.iload_n 1, 1) ∧ 0 + 1 = 1 := ⟨by decide +kernel, rfl⟩
theorem aX11_ways_1 : decode mX11_ways.2.1 1 = .ok (.iconst 4, 1) ∧ 1 + 1 = 2 := ⟨by decide +kernel, rfl⟩
theorem aX11_ways_2 : decode mX11_ways.2.1 2 = .ok (.invokestatic 110, 3) ∧ 2 + 3 = 5 := ⟨by decide +kernel, rfl⟩
theorem aX11_ways_5 : decode mX11_ways.2.1 5 = .ok (.ifCond .ne 5, 3) ∧ ((5 : Nat) : Int) + 5 = ((10 : Nat) : Int) ∧ 5 + 3 = 8 := ⟨by decide +kernel, by decide, rfl⟩
theorem aX11_ways_8 : decode mX11_ways.2.1 8 = .ok (.iconst (-1), 1) ∧ 8 + 1 = 9 := ⟨by decide +kernel, rfl⟩
theorem aX11_ways_9 : decode mX11_ways.2.1 9 = .ok (.ireturn, 1) := by decide +kernel
theorem aX11_ways_10 : decode mX11_ways.2.1 10 = .ok (.aload_n 0, 1) ∧ 10 + 1 = 11 := ⟨by decide +kernel, rfl⟩
theorem aX11_ways_11 : decode mX11_ways.2.1 11 = .ok (.getfield 96, 3) ∧ 11 + 3 = 14 := ⟨by decide +kernel, rfl⟩
theorem aX11_ways_14 : decode mX11_ways.2.1 14 = .ok (.aload_n 0, 1) ∧ 14 + 1 = 15 := ⟨by decide +kernel, rfl⟩
theorem aX11_ways_15 : decode mX11_ways.2.1 15 = .ok (.getfield 83, 3) ∧ 15 + 3 = 18 := ⟨by decide +kernel, rfl⟩
theorem aX11_ways_18 : decode mX11_ways.2.1 18 = .ok (.iload_n 1, 1) ∧ 18 + 1 = 19 := ⟨by decide +kernel, rfl⟩
theorem aX11_ways_19 : decode mX11_ways.2.1 19 = .ok (.iconst 0, 1) ∧ 19 + 1 = 20 := ⟨by decide +kernel, rfl⟩
theorem aX11_ways_20 : decode mX11_ways.2.1 20 = .ok (.invokevirtual 265, 3) ∧ 20 + 3 = 23 := ⟨by decide +kernel, rfl⟩
theorem aX11_ways_23 : decode mX11_ways.2.1 23 = .ok (.aload_n 0, 1) ∧ 23 + 1 = 24 := ⟨by decide +kernel, rfl⟩
theorem aX11_ways_24 : decode mX11_ways.2.1 24 = .ok (.getfield 96, 3) ∧ 24 + 3 = 27 := ⟨by decide +kernel, rfl⟩
theorem aX11_ways_27 : decode mX11_ways.2.1 27 = .ok (.getfield 278, 3) ∧ 27 + 3 = 30 := ⟨by decide +kernel, rfl⟩
theorem aX11_ways_30 : decode mX11_ways.2.1 30 = .ok (.ireturn, 1) := by decide +kernel
theorem S_X11_ways {E : EE} {d : Nat} {I : IH} {Q : QT} (x1 : Int32) (h :
(Mt E d mX11_isWithin [.int x1, .int (nI 4)] I (fun rv I1 => ∃ v2 : Int32, rv = some (.int v2) ∧
 ((¬ v2 = 0 → (Mt E d mX5_search [.ref (eb E + 66), .ref (eb E + 33), .int x1, .int (nI 0)] I1 (fun rv I3 => rv = none ∧
 Q (some (.int (I3 66 5))) I3))) ∧
 (v2 = 0 → Q (some (.int (-1))) I1))))) : Mt E (d + 1) mX11_ways [.ref (eb E + 0), .int x1] I Q := by
  refine Mt_of [(0, .ref (eb E + 0)), (1, .int x1)] (by decide +kernel) (by simp [lg_sl, Value.category, mX11_ways]) rfl ?_
  refine J_iload_n 1 aX11_ways_0 rfl ?_
  refine J_iconst (nI 4) aX11_ways_1 (by decide +kernel) ?_
  refine J_callS [.int x1, .int (nI 4)] [] aX11_ways_2 lkX11_110 okX11_isWithin rfl rfl (Nat.le_of_ble_eq_true rfl) (Nat.le_refl _) (Mt_mono h (fun rv I1 h => ?_))
  obtain ⟨v2, rfl, h⟩ := h
  refine J_r1 ?_
  refine J_if_ne aX11_ways_5 (fun q => ?_) (fun q => ?_)
  · replace h := h.1 q
    refine J_aload_n 0 aX11_ways_10 rfl ?_
    refine J_getR aX11_ways_11 flX11_96 sh0 rfl ?_
    refine J_aload_n 0 aX11_ways_14 rfl ?_
    refine J_getR aX11_ways_15 flX11_83 sh0 rfl ?_
    refine J_iload_n 1 aX11_ways_18 rfl ?_
    refine J_iconst (nI 0) aX11_ways_19 (by decide +kernel) ?_
    refine J_callV [.ref (eb E + 33), .int x1, .int (nI 0)] [] aX11_ways_20 lkX11_265_X5 okX5_search sh66 rfl rfl rfl (Nat.le_of_ble_eq_true rfl) (Nat.le_refl _) (Mt_mono h (fun rv I3 h => ?_))
    obtain ⟨rfl, h⟩ := h
    refine J_r0 ?_
    refine J_aload_n 0 aX11_ways_23 rfl ?_
    refine J_getR aX11_ways_24 flX11_96 sh0 rfl ?_
    refine J_getI aX11_ways_27 flX11_278 sh66 rfl ?_
    exact J_iret aX11_ways_30 rfl h
  · replace h := h.2 q
    refine J_iconst (-1) aX11_ways_8 (by decide +kernel) ?_
    exact J_iret aX11_ways_9 rfl h
theorem aX11_visit_0 : decode mX11_visit.2.1 0 = .ok (.iload_n 1, 1) ∧ 0 + 1 = 1 := ⟨by decide +kernel, rfl⟩
theorem aX11_visit_1 : decode mX11_visit.2.1 1 = .ok (.iconst 4, 1) ∧ 1 + 1 = 2 := ⟨by decide +kernel, rfl⟩
theorem aX11_visit_2 : decode mX11_visit.2.1 2 = .ok (.invokestatic 110, 3) ∧ 2 + 3 = 5 := ⟨by decide +kernel, rfl⟩
theorem aX11_visit_5 : decode mX11_visit.2.1 5 = .ok (.ifCond .eq 11, 3) ∧ ((5 : Nat) : Int) + 11 = ((16 : Nat) : Int) ∧ 5 + 3 = 8 := ⟨by decide +kernel, by decide, rfl⟩
theorem aX11_visit_8 : decode mX11_visit.2.1 8 = .ok (.aload_n 0, 1) ∧ 8 + 1 = 9 := ⟨by decide +kernel, rfl⟩
theorem aX11_visit_9 : decode mX11_visit.2.1 9 = .ok (.iload_n 2, 1) ∧ 9 + 1 = 10 := ⟨by decide +kernel, rfl⟩
theorem aX11_visit_10 : decode mX11_visit.2.1 10 = .ok (.invokevirtual 279, 3) ∧ 10 + 3 = 13 := ⟨by decide +kernel, rfl⟩
theorem aX11_visit_13 : decode mX11_visit.2.1 13 = .ok (.ifCond .ne 5, 3) ∧ ((13 : Nat) : Int) + 5 = ((18 : Nat) : Int) ∧ 13 + 3 = 16 := ⟨by decide +kernel, by decide, rfl⟩
theorem aX11_visit_16 : decode mX11_visit.2.1 16 = .ok (.iconst (-1), 1) ∧ 16 + 1 = 17 := ⟨by decide +kernel, rfl⟩
theorem aX11_visit_17 : decode mX11_visit.2.1 17 = .ok (.ireturn, 1) := by decide +kernel
theorem aX11_visit_18 : decode mX11_visit.2.1 18 = .ok (.aload_n 0, 1) ∧ 18 + 1 = 19 := ⟨by decide +kernel, rfl⟩
theorem aX11_visit_19 : decode mX11_visit.2.1 19 = .ok (.getfield 96, 3) ∧ 19 + 3 = 22 := ⟨by decide +kernel, rfl⟩
theorem aX11_visit_22 : decode mX11_visit.2.1 22 = .ok (.aload_n 0, 1) ∧ 22 + 1 = 23 := ⟨by decide +kernel, rfl⟩
theorem aX11_visit_23 : decode mX11_visit.2.1 23 = .ok (.getfield 83, 3) ∧ 23 + 3 = 26 := ⟨by decide +kernel, rfl⟩
theorem aX11_visit_26 : decode mX11_visit.2.1 26 = .ok (.iload_n 1, 1) ∧ 26 + 1 = 27 := ⟨by decide +kernel, rfl⟩
theorem aX11_visit_27 : decode mX11_visit.2.1 27 = .ok (.iload_n 2, 1) ∧ 27 + 1 = 28 := ⟨by decide +kernel, rfl⟩
theorem aX11_visit_28 : decode mX11_visit.2.1 28 = .ok (.invokevirtual 265, 3) ∧ 28 + 3 = 31 := ⟨by decide +kernel, rfl⟩
theorem aX11_visit_31 : decode mX11_visit.2.1 31 = .ok (.aload_n 0, 1) ∧ 31 + 1 = 32 := ⟨by decide +kernel, rfl⟩
theorem aX11_visit_32 : decode mX11_visit.2.1 32 = .ok (.getfield 96, 3) ∧ 32 + 3 = 35 := ⟨by decide +kernel, rfl⟩
theorem aX11_visit_35 : decode mX11_visit.2.1 35 = .ok (.getfield 282, 3) ∧ 35 + 3 = 38 := ⟨by decide +kernel, rfl⟩
theorem aX11_visit_38 : decode mX11_visit.2.1 38 = .ok (.iconst 4, 1) ∧ 38 + 1 = 39 := ⟨by decide +kernel, rfl⟩
theorem aX11_visit_39 : decode mX11_visit.2.1 39 = .ok (.if_icmp .gt 13, 3) ∧ ((39 : Nat) : Int) + 13 = ((52 : Nat) : Int) ∧ 39 + 3 = 42 := ⟨by decide +kernel, by decide, rfl⟩
theorem aX11_visit_42 : decode mX11_visit.2.1 42 = .ok (.aload_n 0, 1) ∧ 42 + 1 = 43 := ⟨by decide +kernel, rfl⟩
theorem aX11_visit_43 : decode mX11_visit.2.1 43 = .ok (.getfield 96, 3) ∧ 43 + 3 = 46 := ⟨by decide +kernel, rfl⟩
theorem aX11_visit_46 : decode mX11_visit.2.1 46 = .ok (.getfield 282, 3) ∧ 46 + 3 = 49 := ⟨by decide +kernel, rfl⟩
theorem aX11_visit_49 : decode mX11_visit.2.1 49 = .ok (.goto 5, 3) ∧ ((49 : Nat) : Int) + 5 = ((54 : Nat) : Int) := ⟨by decide +kernel, by decide⟩
theorem aX11_visit_52 : decode mX11_visit.2.1 52 = .ok (.bipush (-3), 2) ∧ 52 + 2 = 54 := ⟨by decide +kernel, rfl⟩
theorem aX11_visit_54 : decode mX11_visit.2.1 54 = .ok (.ireturn, 1) := by decide +kernel
theorem S_X11_visit {E : EE} {d : Nat} {I : IH} {Q : QT} (x1 : Int32) (x2 : Int32) (h :
(Mt E d mX11_isWithin [.int x1, .int (nI 4)] I (fun rv I1 => ∃ v2 : Int32, rv = some (.int v2) ∧
 ((v2 = 0 → Q (some (.int (-1))) I1) ∧
 (¬ v2 = 0 → (Mt E d mX11_isSet [.ref (eb E + 0), .int x2] I1 (fun rv I3 => ∃ v4 : Int32, rv = some (.int v4) ∧
 ((¬ v4 = 0 → (Mt E d mX5_search [.ref (eb E + 66), .ref (eb E + 33), .int x1, .int x2] I3 (fun rv I5 => rv = none ∧
 (((nI 4) < (I5 66 7) → Q (some (.int (-3))) I5) ∧
 (¬ (nI 4) < (I5 66 7) → Q (some (.int (I5 66 7))) I5))))) ∧
 (v4 = 0 → Q (some (.int (-1))) I3))))))))) : Mt E (d + 1) mX11_visit [.ref (eb E + 0), .int x1, .int x2] I Q := by
  refine Mt_of [(0, .ref (eb E + 0)), (1, .int x1), (2, .int x2)] (by decide +kernel) (by simp [lg_sl, Value.category, mX11_visit]) rfl ?_
  refine J_iload_n 1 aX11_visit_0 rfl ?_
  refine J_iconst (nI 4) aX11_visit_1 (by decide +kernel) ?_
  refine J_callS [.int x1, .int (nI 4)] [] aX11_visit_2 lkX11_110 okX11_isWithin rfl rfl (Nat.le_of_ble_eq_true rfl) (Nat.le_refl _) (Mt_mono h (fun rv I1 h => ?_))
  obtain ⟨v2, rfl, h⟩ := h
  refine J_r1 ?_
  refine J_if_eq aX11_visit_5 (fun q => ?_) (fun q => ?_)
  · replace h := h.1 q
    refine J_iconst (-1) aX11_visit_16 (by decide +kernel) ?_
    exact J_iret aX11_visit_17 rfl h
  · replace h := h.2 q
    refine J_aload_n 0 aX11_visit_8 rfl ?_
    refine J_iload_n 2 aX11_visit_9 rfl ?_
    refine J_callV [.int x2] [] aX11_visit_10 lkX11_279_X11 okX11_isSet sh0 rfl rfl rfl (Nat.le_of_ble_eq_true rfl) (Nat.le_refl _) (Mt_mono h (fun rv I3 h => ?_))
    obtain ⟨v4, rfl, h⟩ := h
    refine J_r1 ?_
    refine J_if_ne aX11_visit_13 (fun q => ?_) (fun q => ?_)
    · replace h := h.1 q
      refine J_aload_n 0 aX11_visit_18 rfl ?_
      refine J_getR aX11_visit_19 flX11_96 sh0 rfl ?_
      refine J_aload_n 0 aX11_visit_22 rfl ?_
      refine J_getR aX11_visit_23 flX11_83 sh0 rfl ?_
      refine J_iload_n 1 aX11_visit_26 rfl ?_
      refine J_iload_n 2 aX11_visit_27 rfl ?_
      refine J_callV [.ref (eb E + 33), .int x1, .int x2] [] aX11_visit_28 lkX11_265_X5 okX5_search sh66 rfl rfl rfl (Nat.le_of_ble_eq_true rfl) (Nat.le_refl _) (Mt_mono h (fun rv I5 h => ?_))
      obtain ⟨rfl, h⟩ := h
      refine J_r0 ?_
      refine J_aload_n 0 aX11_visit_31 rfl ?_
      refine J_getR aX11_visit_32 flX11_96 sh0 rfl ?_
      refine J_getI aX11_visit_35 flX11_282 sh66 rfl ?_
      refine J_iconst (nI 4) aX11_visit_38 (by decide +kernel) ?_
      refine J_icmp_gt aX11_visit_39 (fun q => ?_) (fun q => ?_)
      · replace h := h.1 q
        refine J_bipush (-3) aX11_visit_52 (by decide +kernel) ?_
        exact J_iret aX11_visit_54 rfl h
      · replace h := h.2 q
        refine J_aload_n 0 aX11_visit_42 rfl ?_
        refine J_getR aX11_visit_43 flX11_96 sh0 rfl ?_
        refine J_getI aX11_visit_46 flX11_282 sh66 rfl ?_
        refine J_goto aX11_visit_49 ?_
        exact J_iret aX11_visit_54 rfl h
    · replace h := h.2 q
      refine J_iconst (-1) aX11_visit_16 (by decide +kernel) ?_
      exact J_iret aX11_visit_17 rfl h
theorem aX11_bars_0 : decode mX11_bars.2.1 0 = .ok (.iload_n 1, 1) ∧ 0 + 1 = 1 := ⟨by decide +kernel, rfl⟩
theorem aX11_bars_1 : decode mX11_bars.2.1 1 = .ok (.iconst 4, 1) ∧ 1 + 1 = 2 := ⟨by decide +kernel, rfl⟩
theorem aX11_bars_2 : decode mX11_bars.2.1 2 = .ok (.invokestatic 110, 3) ∧ 2 + 3 = 5 := ⟨by decide +kernel, rfl⟩
theorem aX11_bars_5 : decode mX11_bars.2.1 5 = .ok (.ifCond .eq 11, 3) ∧ ((5 : Nat) : Int) + 11 = ((16 : Nat) : Int) ∧ 5 + 3 = 8 := ⟨by decide +kernel, by decide, rfl⟩
theorem aX11_bars_8 : decode mX11_bars.2.1 8 = .ok (.aload_n 0, 1) ∧ 8 + 1 = 9 := ⟨by decide +kernel, rfl⟩
theorem aX11_bars_9 : decode mX11_bars.2.1 9 = .ok (.iload_n 2, 1) ∧ 9 + 1 = 10 := ⟨by decide +kernel, rfl⟩
theorem aX11_bars_10 : decode mX11_bars.2.1 10 = .ok (.invokevirtual 279, 3) ∧ 10 + 3 = 13 := ⟨by decide +kernel, rfl⟩
theorem aX11_bars_13 : decode mX11_bars.2.1 13 = .ok (.ifCond .ne 5, 3) ∧ ((13 : Nat) : Int) + 5 = ((18 : Nat) : Int) ∧ 13 + 3 = 16 := ⟨by decide +kernel, by decide, rfl⟩
theorem aX11_bars_16 : decode mX11_bars.2.1 16 = .ok (.iconst (-1), 1) ∧ 16 + 1 = 17 := ⟨by decide +kernel, rfl⟩
theorem aX11_bars_17 : decode mX11_bars.2.1 17 = .ok (.ireturn, 1) := by decide +kernel
theorem aX11_bars_18 : decode mX11_bars.2.1 18 = .ok (.aload_n 0, 1) ∧ 18 + 1 = 19 := ⟨by decide +kernel, rfl⟩
theorem aX11_bars_19 : decode mX11_bars.2.1 19 = .ok (.getfield 96, 3) ∧ 19 + 3 = 22 := ⟨by decide +kernel, rfl⟩
theorem aX11_bars_22 : decode mX11_bars.2.1 22 = .ok (.aload_n 0, 1) ∧ 22 + 1 = 23 := ⟨by decide +kernel, rfl⟩
theorem aX11_bars_23 : decode mX11_bars.2.1 23 = .ok (.getfield 83, 3) ∧ 23 + 3 = 26 := ⟨by decide +kernel, rfl⟩
theorem aX11_bars_26 : decode mX11_bars.2.1 26 = .ok (.iload_n 1, 1) ∧ 26 + 1 = 27 := ⟨by decide +kernel, rfl⟩
theorem aX11_bars_27 : decode mX11_bars.2.1 27 = .ok (.iload_n 2, 1) ∧ 27 + 1 = 28 := ⟨by decide +kernel, rfl⟩
theorem aX11_bars_28 : decode mX11_bars.2.1 28 = .ok (.invokevirtual 265, 3) ∧ 28 + 3 = 31 := ⟨by decide +kernel, rfl⟩
theorem aX11_bars_31 : decode mX11_bars.2.1 31 = .ok (.iload_n 2, 1) ∧ 31 + 1 = 32 := ⟨by decide +kernel, rfl⟩
theorem aX11_bars_32 : decode mX11_bars.2.1 32 = .ok (.aload_n 0, 1) ∧ 32 + 1 = 33 := ⟨by decide +kernel, rfl⟩
theorem aX11_bars_33 : decode mX11_bars.2.1 33 = .ok (.getfield 96, 3) ∧ 33 + 3 = 36 := ⟨by decide +kernel, rfl⟩
theorem aX11_bars_36 : decode mX11_bars.2.1 36 = .ok (.getfield 285, 3) ∧ 36 + 3 = 39 := ⟨by decide +kernel, rfl⟩
theorem aX11_bars_39 : decode mX11_bars.2.1 39 = .ok (.iconst (-1), 1) ∧ 39 + 1 = 40 := ⟨by decide +kernel, rfl⟩
theorem aX11_bars_40 : decode mX11_bars.2.1 40 = .ok (.ixor, 1) ∧ 40 + 1 = 41 := ⟨by decide +kernel, rfl⟩
theorem aX11_bars_41 : decode mX11_bars.2.1 41 = .ok (.iand, 1) ∧ 41 + 1 = 42 := ⟨by decide +kernel, rfl⟩
theorem aX11_bars_42 : decode mX11_bars.2.1 42 = .ok (.istore_n 3, 1) ∧ 42 + 1 = 43 := ⟨by decide +kernel, rfl⟩
theorem aX11_bars_43 : decode mX11_bars.2.1 43 = .ok (.iload_n 3, 1) ∧ 43 + 1 = 44 := ⟨by decide +kernel, rfl⟩
theorem aX11_bars_44 : decode mX11_bars.2.1 44 = .ok (.ifCond .ne 8, 3) ∧ ((44 : Nat) : Int) + 8 = ((52 : Nat) : Int) ∧ 44 + 3 = 47 := ⟨by decide +kernel, by decide, rfl⟩
theorem aX11_bars_47 : decode mX11_bars.2.1 47 = .ok (.bipush (-3), 2) ∧ 47 + 2 = 49 := ⟨by decide +kernel, rfl⟩
theorem aX11_bars_49 : decode mX11_bars.2.1 49 = .ok (.goto 7, 3) ∧ ((49 : Nat) : Int) + 7 = ((56 : Nat) : Int) := ⟨by decide +kernel, by decide⟩
theorem aX11_bars_52 : decode mX11_bars.2.1 52 = .ok (.iload_n 3, 1) ∧ 52 + 1 = 53 := ⟨by decide +kernel, rfl⟩
theorem aX11_bars_53 : decode mX11_bars.2.1 53 = .ok (.invokestatic 288, 3) ∧ 53 + 3 = 56 := ⟨by decide +kernel, rfl⟩
theorem aX11_bars_56 : decode mX11_bars.2.1 56 = .ok (.ireturn, 1) := by decide +kernel
theorem S_X11_bars {E : EE} {d : Nat} {I : IH} {Q : QT} (x1 : Int32) (x2 : Int32) (h :
(Mt E d mX11_isWithin [.int x1, .int (nI 4)] I (fun rv I1 => ∃ v2 : Int32, rv = some (.int v2) ∧
 ((v2 = 0 → Q (some (.int (-1))) I1) ∧
 (¬ v2 = 0 → (Mt E d mX11_isSet [.ref (eb E + 0), .int x2] I1 (fun rv I3 => ∃ v4 : Int32, rv = some (.int v4) ∧
 ((¬ v4 = 0 → (Mt E d mX5_search [.ref (eb E + 66), .ref (eb E + 33), .int x1, .int x2] I3 (fun rv I5 => rv = none ∧
 ((¬ (x2 &&& ((I5 66 8) ^^^ (-1))) = 0 → (Mt E d mJ6_numberOfTrailingZeros_0f7a4 [.int (x2 &&& ((I5 66 8) ^^^ (-1)))] I5 (fun rv I6 => ∃ v7 : Int32, rv = some (.int v7) ∧
 Q (some (.int v7)) I6))) ∧
 ((x2 &&& ((I5 66 8) ^^^ (-1))) = 0 → Q (some (.int (-3))) I5))))) ∧
 (v4 = 0 → Q (some (.int (-1))) I3))))))))) : Mt E (d + 1) mX11_bars [.ref (eb E + 0), .int x1, .int x2] I Q := by
  refine Mt_of [(0, .ref (eb E + 0)), (1, .int x1), (2, .int x2)] (by decide +kernel) (by simp [lg_sl, Value.category, mX11_bars]) rfl ?_
  refine J_iload_n 1 aX11_bars_0 rfl ?_
  refine J_iconst (nI 4) aX11_bars_1 (by decide +kernel) ?_
  refine J_callS [.int x1, .int (nI 4)] [] aX11_bars_2 lkX11_110 okX11_isWithin rfl rfl (Nat.le_of_ble_eq_true rfl) (Nat.le_refl _) (Mt_mono h (fun rv I1 h => ?_))
  obtain ⟨v2, rfl, h⟩ := h
  refine J_r1 ?_
  refine J_if_eq aX11_bars_5 (fun q => ?_) (fun q => ?_)
  · replace h := h.1 q
    refine J_iconst (-1) aX11_bars_16 (by decide +kernel) ?_
    exact J_iret aX11_bars_17 rfl h
  · replace h := h.2 q
    refine J_aload_n 0 aX11_bars_8 rfl ?_
    refine J_iload_n 2 aX11_bars_9 rfl ?_
    refine J_callV [.int x2] [] aX11_bars_10 lkX11_279_X11 okX11_isSet sh0 rfl rfl rfl (Nat.le_of_ble_eq_true rfl) (Nat.le_refl _) (Mt_mono h (fun rv I3 h => ?_))
    obtain ⟨v4, rfl, h⟩ := h
    refine J_r1 ?_
    refine J_if_ne aX11_bars_13 (fun q => ?_) (fun q => ?_)
    · replace h := h.1 q
      refine J_aload_n 0 aX11_bars_18 rfl ?_
      refine J_getR aX11_bars_19 flX11_96 sh0 rfl ?_
      refine J_aload_n 0 aX11_bars_22 rfl ?_
      refine J_getR aX11_bars_23 flX11_83 sh0 rfl ?_
      refine J_iload_n 1 aX11_bars_26 rfl ?_
      refine J_iload_n 2 aX11_bars_27 rfl ?_
      refine J_callV [.ref (eb E + 33), .int x1, .int x2] [] aX11_bars_28 lkX11_265_X5 okX5_search sh66 rfl rfl rfl (Nat.le_of_ble_eq_true rfl) (Nat.le_refl _) (Mt_mono h (fun rv I5 h => ?_))
      obtain ⟨rfl, h⟩ := h
      refine J_r0 ?_
      refine J_iload_n 2 aX11_bars_31 rfl ?_
      refine J_aload_n 0 aX11_bars_32 rfl ?_
      refine J_getR aX11_bars_33 flX11_96 sh0 rfl ?_
      refine J_getI aX11_bars_36 flX11_285 sh66 rfl ?_
      refine J_iconst (-1) aX11_bars_39 (by decide +kernel) ?_
      refine J_ixor aX11_bars_40 ?_
      refine J_iand aX11_bars_41 ?_
      refine J_istore_n [(3, .int (x2 &&& ((I5 66 8) ^^^ (-1)))), (0, .ref (eb E + 0)), (1, .int x1), (2, .int x2)] aX11_bars_42 (by decide) rfl ?_
      refine J_iload_n 0 aX11_bars_43 rfl ?_
      refine J_if_ne aX11_bars_44 (fun q => ?_) (fun q => ?_)
      · replace h := h.1 q
        refine J_iload_n 0 aX11_bars_52 rfl ?_
        refine J_callS [.int (x2 &&& ((I5 66 8) ^^^ (-1)))] [] aX11_bars_53 lkX11_288 okJ6_numberOfTrailingZeros_0f7a4 rfl rfl (Nat.le_of_ble_eq_true rfl) (Nat.le_refl _) (Mt_mono h (fun rv I6 h => ?_))
        obtain ⟨v7, rfl, h⟩ := h
        refine J_r1 ?_
        exact J_iret aX11_bars_56 rfl h
      · replace h := h.2 q
        refine J_bipush (-3) aX11_bars_47 (by decide +kernel) ?_
        refine J_goto aX11_bars_49 ?_
        exact J_iret aX11_bars_56 rfl h
    · replace h := h.2 q
      refine J_iconst (-1) aX11_bars_16 (by decide +kernel) ?_
      exact J_iret aX11_bars_17 rfl h
theorem aX11_isSet_0 : decode mX11_isSet.2.1 0 = .ok (.iload_n 1, 1) ∧ 0 + 1 = 1 := ⟨by decide +kernel, rfl⟩
theorem aX11_isSet_1 : decode mX11_isSet.2.1 1 = .ok (.iconst 1, 1) ∧ 1 + 1 = 2 := ⟨by decide +kernel, rfl⟩
theorem aX11_isSet_2 : decode mX11_isSet.2.1 2 = .ok (.aload_n 0, 1) ∧ 2 + 1 = 3 := ⟨by decide +kernel, rfl⟩
theorem aX11_isSet_3 : decode mX11_isSet.2.1 3 = .ok (.getfield 83, 3) ∧ 3 + 3 = 6 := ⟨by decide +kernel, rfl⟩
theorem aX11_isSet_6 : decode mX11_isSet.2.1 6 = .ok (.getfield 117, 3) ∧ 6 + 3 = 9 := ⟨by decide +kernel, rfl⟩
theorem aX11_isSet_9 : decode mX11_isSet.2.1 9 = .ok (.ishl, 1) ∧ 9 + 1 = 10 := ⟨by decide +kernel, rfl⟩
theorem aX11_isSet_10 : decode mX11_isSet.2.1 10 = .ok (.iconst 1, 1) ∧ 10 + 1 = 11 := ⟨by decide +kernel, rfl⟩
theorem aX11_isSet_11 : decode mX11_isSet.2.1 11 = .ok (.isub, 1) ∧ 11 + 1 = 12 := ⟨by decide +kernel, rfl⟩
theorem aX11_isSet_12 : decode mX11_isSet.2.1 12 = .ok (.invokestatic 110, 3) ∧ 12 + 3 = 15 := ⟨by decide +kernel, rfl⟩
theorem aX11_isSet_15 : decode mX11_isSet.2.1 15 = .ok (.ireturn, 1) := by decide +kernel
theorem S_X11_isSet {E : EE} {d : Nat} {I : IH} {Q : QT} (x1 : Int32) (h :
(Mt E d mX11_isWithin [.int x1, .int (((nI 1) <<< ((I 33 7) &&& 31)) - (nI 1))] I (fun rv I1 => ∃ v2 : Int32, rv = some (.int v2) ∧
 ((v2 = 0 ∨ v2 = 1) ∧ Q (some (.int v2)) I1)))) : Mt E (d + 1) mX11_isSet [.ref (eb E + 0), .int x1] I Q := by
  refine Mt_of [(0, .ref (eb E + 0)), (1, .int x1)] (by decide +kernel) (by simp [lg_sl, Value.category, mX11_isSet]) rfl ?_
  refine J_iload_n 1 aX11_isSet_0 rfl ?_
  refine J_iconst (nI 1) aX11_isSet_1 (by decide +kernel) ?_
  refine J_aload_n 0 aX11_isSet_2 rfl ?_
  refine J_getR aX11_isSet_3 flX11_83 sh0 rfl ?_
  refine J_getI aX11_isSet_6 flX11_117 sh33 rfl ?_
  refine J_ishl aX11_isSet_9 ?_
  refine J_iconst (nI 1) aX11_isSet_10 (by decide +kernel) ?_
  refine J_isub aX11_isSet_11 ?_
  refine J_callS [.int x1, .int (((nI 1) <<< ((I 33 7) &&& 31)) - (nI 1))] [] aX11_isSet_12 lkX11_110 okX11_isWithin rfl rfl (Nat.le_of_ble_eq_true rfl) (Nat.le_refl _) (Mt_mono h (fun rv I1 h => ?_))
  obtain ⟨v2, rfl, h⟩ := h
  refine J_r1 ?_
  exact J_zret aX11_isSet_15 rfl (nar_bool h.1).1 h.2
theorem aX11_game_0 : decode mX11_game.2.1 0 = .ok (.iload_n 1, 1) ∧ 0 + 1 = 1 := ⟨by decide +kernel, rfl⟩
theorem aX11_game_1 : decode mX11_game.2.1 1 = .ok (.iconst 1, 1) ∧ 1 + 1 = 2 := ⟨by decide +kernel, rfl⟩
theorem aX11_game_2 : decode mX11_game.2.1 2 = .ok (.if_icmp .lt 8, 3) ∧ ((2 : Nat) : Int) + 8 = ((10 : Nat) : Int) ∧ 2 + 3 = 5 := ⟨by decide +kernel, by decide, rfl⟩
theorem aX11_game_5 : decode mX11_game.2.1 5 = .ok (.iload_n 1, 1) ∧ 5 + 1 = 6 := ⟨by decide +kernel, rfl⟩
theorem aX11_game_6 : decode mX11_game.2.1 6 = .ok (.iconst 4, 1) ∧ 6 + 1 = 7 := ⟨by decide +kernel, rfl⟩
theorem aX11_game_7 : decode mX11_game.2.1 7 = .ok (.if_icmp .le 5, 3) ∧ ((7 : Nat) : Int) + 5 = ((12 : Nat) : Int) ∧ 7 + 3 = 10 := ⟨by decide +kernel, by decide, rfl⟩
theorem aX11_game_10 : decode mX11_game.2.1 10 = .ok (.iconst (-1), 1) ∧ 10 + 1 = 11 := ⟨by decide +kernel, rfl⟩
theorem aX11_game_11 : decode mX11_game.2.1 11 = .ok (.ireturn, 1) := by decide +kernel
theorem aX11_game_12 : decode mX11_game.2.1 12 = .ok (.aload_n 0, 1) ∧ 12 + 1 = 13 := ⟨by decide +kernel, rfl⟩
theorem aX11_game_13 : decode mX11_game.2.1 13 = .ok (.getfield 96, 3) ∧ 13 + 3 = 16 := ⟨by decide +kernel, rfl⟩
theorem aX11_game_16 : decode mX11_game.2.1 16 = .ok (.aload_n 0, 1) ∧ 16 + 1 = 17 := ⟨by decide +kernel, rfl⟩
theorem aX11_game_17 : decode mX11_game.2.1 17 = .ok (.getfield 83, 3) ∧ 17 + 3 = 20 := ⟨by decide +kernel, rfl⟩
theorem aX11_game_20 : decode mX11_game.2.1 20 = .ok (.iload_n 1, 1) ∧ 20 + 1 = 21 := ⟨by decide +kernel, rfl⟩
theorem aX11_game_21 : decode mX11_game.2.1 21 = .ok (.invokevirtual 291, 3) ∧ 21 + 3 = 24 := ⟨by decide +kernel, rfl⟩
theorem aX11_game_24 : decode mX11_game.2.1 24 = .ok (.ireturn, 1) := by decide +kernel
theorem S_X11_game {E : EE} {d : Nat} {I : IH} {Q : QT} (x1 : Int32) (h :
((x1 < (nI 1) → Q (some (.int (-1))) I) ∧
 (¬ x1 < (nI 1) → ((x1 ≤ (nI 4) → (Mt E d mX5_contest [.ref (eb E + 66), .ref (eb E + 33), .int x1] I (fun rv I1 => ∃ v2 : Int32, rv = some (.int v2) ∧
 Q (some (.int v2)) I1))) ∧
 (¬ x1 ≤ (nI 4) → Q (some (.int (-1))) I))))) : Mt E (d + 1) mX11_game [.ref (eb E + 0), .int x1] I Q := by
  refine Mt_of [(0, .ref (eb E + 0)), (1, .int x1)] (by decide +kernel) (by simp [lg_sl, Value.category, mX11_game]) rfl ?_
  refine J_iload_n 1 aX11_game_0 rfl ?_
  refine J_iconst (nI 1) aX11_game_1 (by decide +kernel) ?_
  refine J_icmp_lt aX11_game_2 (fun q => ?_) (fun q => ?_)
  · replace h := h.1 q
    refine J_iconst (-1) aX11_game_10 (by decide +kernel) ?_
    exact J_iret aX11_game_11 rfl h
  · replace h := h.2 q
    refine J_iload_n 1 aX11_game_5 rfl ?_
    refine J_iconst (nI 4) aX11_game_6 (by decide +kernel) ?_
    refine J_icmp_le aX11_game_7 (fun q => ?_) (fun q => ?_)
    · replace h := h.1 q
      refine J_aload_n 0 aX11_game_12 rfl ?_
      refine J_getR aX11_game_13 flX11_96 sh0 rfl ?_
      refine J_aload_n 0 aX11_game_16 rfl ?_
      refine J_getR aX11_game_17 flX11_83 sh0 rfl ?_
      refine J_iload_n 1 aX11_game_20 rfl ?_
      refine J_callV [.ref (eb E + 33), .int x1] [] aX11_game_21 lkX11_291_X5 okX5_contest sh66 rfl rfl rfl (Nat.le_of_ble_eq_true rfl) (Nat.le_refl _) (Mt_mono h (fun rv I1 h => ?_))
      obtain ⟨v2, rfl, h⟩ := h
      refine J_r1 ?_
      exact J_iret aX11_game_24 rfl h
    · replace h := h.2 q
      refine J_iconst (-1) aX11_game_10 (by decide +kernel) ?_
      exact J_iret aX11_game_11 rfl h
theorem aX11_play_0 : decode mX11_play.2.1 0 = .ok (.iload_n 1, 1) ∧ 0 + 1 = 1 := ⟨by decide +kernel, rfl⟩
theorem aX11_play_1 : decode mX11_play.2.1 1 = .ok (.iconst 1, 1) ∧ 1 + 1 = 2 := ⟨by decide +kernel, rfl⟩
theorem aX11_play_2 : decode mX11_play.2.1 2 = .ok (.if_icmp .lt 8, 3) ∧ ((2 : Nat) : Int) + 8 = ((10 : Nat) : Int) ∧ 2 + 3 = 5 := ⟨by decide +kernel, by decide, rfl⟩
theorem aX11_play_5 : decode mX11_play.2.1 5 = .ok (.iload_n 1, 1) ∧ 5 + 1 = 6 := ⟨by decide +kernel, rfl⟩
theorem aX11_play_6 : decode mX11_play.2.1 6 = .ok (.iconst 4, 1) ∧ 6 + 1 = 7 := ⟨by decide +kernel, rfl⟩
theorem aX11_play_7 : decode mX11_play.2.1 7 = .ok (.if_icmp .le 5, 3) ∧ ((7 : Nat) : Int) + 5 = ((12 : Nat) : Int) ∧ 7 + 3 = 10 := ⟨by decide +kernel, by decide, rfl⟩
theorem aX11_play_10 : decode mX11_play.2.1 10 = .ok (.iconst (-1), 1) ∧ 10 + 1 = 11 := ⟨by decide +kernel, rfl⟩
theorem aX11_play_11 : decode mX11_play.2.1 11 = .ok (.ireturn, 1) := by decide +kernel
theorem aX11_play_12 : decode mX11_play.2.1 12 = .ok (.aload_n 0, 1) ∧ 12 + 1 = 13 := ⟨by decide +kernel, rfl⟩
theorem aX11_play_13 : decode mX11_play.2.1 13 = .ok (.getfield 83, 3) ∧ 13 + 3 = 16 := ⟨by decide +kernel, rfl⟩
theorem aX11_play_16 : decode mX11_play.2.1 16 = .ok (.invokevirtual 197, 3) ∧ 16 + 3 = 19 := ⟨by decide +kernel, rfl⟩
theorem aX11_play_19 : decode mX11_play.2.1 19 = .ok (.ifCond .eq 6, 3) ∧ ((19 : Nat) : Int) + 6 = ((25 : Nat) : Int) ∧ 19 + 3 = 22 := ⟨by decide +kernel, by decide, rfl⟩
theorem aX11_play_22 : decode mX11_play.2.1 22 = .ok (.bipush (-3), 2) ∧ 22 + 2 = 24 := ⟨by decide +kernel, rfl⟩
theorem aX11_play_24 : decode mX11_play.2.1 24 = .ok (.ireturn, 1) := by decide +kernel
theorem aX11_play_25 : decode mX11_play.2.1 25 = .ok (.aload_n 0, 1) ∧ 25 + 1 = 26 := ⟨by decide +kernel, rfl⟩
theorem aX11_play_26 : decode mX11_play.2.1 26 = .ok (.getfield 96, 3) ∧ 26 + 3 = 29 := ⟨by decide +kernel, rfl⟩
theorem aX11_play_29 : decode mX11_play.2.1 29 = .ok (.aload_n 0, 1) ∧ 29 + 1 = 30 := ⟨by decide +kernel, rfl⟩
theorem aX11_play_30 : decode mX11_play.2.1 30 = .ok (.getfield 83, 3) ∧ 30 + 3 = 33 := ⟨by decide +kernel, rfl⟩
theorem aX11_play_33 : decode mX11_play.2.1 33 = .ok (.iload_n 1, 1) ∧ 33 + 1 = 34 := ⟨by decide +kernel, rfl⟩
theorem aX11_play_34 : decode mX11_play.2.1 34 = .ok (.invokevirtual 291, 3) ∧ 34 + 3 = 37 := ⟨by decide +kernel, rfl⟩
theorem aX11_play_37 : decode mX11_play.2.1 37 = .ok (.pop, 1) ∧ 37 + 1 = 38 := ⟨by decide +kernel, rfl⟩
theorem aX11_play_38 : decode mX11_play.2.1 38 = .ok (.aload_n 0, 1) ∧ 38 + 1 = 39 := ⟨by decide +kernel, rfl⟩
theorem aX11_play_39 : decode mX11_play.2.1 39 = .ok (.getfield 96, 3) ∧ 39 + 3 = 42 := ⟨by decide +kernel, rfl⟩
theorem aX11_play_42 : decode mX11_play.2.1 42 = .ok (.getfield 275, 3) ∧ 42 + 3 = 45 := ⟨by decide +kernel, rfl⟩
theorem aX11_play_45 : decode mX11_play.2.1 45 = .ok (.iconst 0, 1) ∧ 45 + 1 = 46 := ⟨by decide +kernel, rfl⟩
theorem aX11_play_46 : decode mX11_play.2.1 46 = .ok (.iaload, 1) ∧ 46 + 1 = 47 := ⟨by decide +kernel, rfl⟩
theorem aX11_play_47 : decode mX11_play.2.1 47 = .ok (.ireturn, 1) := by decide +kernel
theorem S_X11_play {E : EE} {d : Nat} {I : IH} {Q : QT} (x1 : Int32) (h :
((x1 < (nI 1) → Q (some (.int (-1))) I) ∧
 (¬ x1 < (nI 1) → ((x1 ≤ (nI 4) → (Mt E d mX1_isOver [.ref (eb E + 33)] I (fun rv I1 => ∃ v2 : Int32, rv = some (.int v2) ∧
 ((v2 = 0 → (Mt E d mX5_contest [.ref (eb E + 66), .ref (eb E + 33), .int x1] I1 (fun rv I3 => ∃ v4 : Int32, rv = some (.int v4) ∧
 Q (some (.int (I3 69 0))) I3))) ∧
 (¬ v2 = 0 → Q (some (.int (-3))) I1))))) ∧
 (¬ x1 ≤ (nI 4) → Q (some (.int (-1))) I))))) : Mt E (d + 1) mX11_play [.ref (eb E + 0), .int x1] I Q := by
  refine Mt_of [(0, .ref (eb E + 0)), (1, .int x1)] (by decide +kernel) (by simp [lg_sl, Value.category, mX11_play]) rfl ?_
  refine J_iload_n 1 aX11_play_0 rfl ?_
  refine J_iconst (nI 1) aX11_play_1 (by decide +kernel) ?_
  refine J_icmp_lt aX11_play_2 (fun q => ?_) (fun q => ?_)
  · replace h := h.1 q
    refine J_iconst (-1) aX11_play_10 (by decide +kernel) ?_
    exact J_iret aX11_play_11 rfl h
  · replace h := h.2 q
    refine J_iload_n 1 aX11_play_5 rfl ?_
    refine J_iconst (nI 4) aX11_play_6 (by decide +kernel) ?_
    refine J_icmp_le aX11_play_7 (fun q => ?_) (fun q => ?_)
    · replace h := h.1 q
      refine J_aload_n 0 aX11_play_12 rfl ?_
      refine J_getR aX11_play_13 flX11_83 sh0 rfl ?_
      refine J_callV [] [] aX11_play_16 lkX11_197_X1 okX1_isOver sh33 rfl rfl rfl (Nat.le_of_ble_eq_true rfl) (Nat.le_refl _) (Mt_mono h (fun rv I1 h => ?_))
      obtain ⟨v2, rfl, h⟩ := h
      refine J_r1 ?_
      refine J_if_eq aX11_play_19 (fun q => ?_) (fun q => ?_)
      · replace h := h.1 q
        refine J_aload_n 0 aX11_play_25 rfl ?_
        refine J_getR aX11_play_26 flX11_96 sh0 rfl ?_
        refine J_aload_n 0 aX11_play_29 rfl ?_
        refine J_getR aX11_play_30 flX11_83 sh0 rfl ?_
        refine J_iload_n 1 aX11_play_33 rfl ?_
        refine J_callV [.ref (eb E + 33), .int x1] [] aX11_play_34 lkX11_291_X5 okX5_contest sh66 rfl rfl rfl (Nat.le_of_ble_eq_true rfl) (Nat.le_refl _) (Mt_mono h (fun rv I3 h => ?_))
        obtain ⟨v4, rfl, h⟩ := h
        refine J_r1 ?_
        refine J_pop aX11_play_37 rfl ?_
        refine J_aload_n 0 aX11_play_38 rfl ?_
        refine J_getR aX11_play_39 flX11_96 sh0 rfl ?_
        refine J_getR aX11_play_42 flX11_275 sh66 rfl ?_
        refine J_iconst (nI 0) aX11_play_45 (by decide +kernel) ?_
        refine J_iaload 0 aX11_play_46 sh69 rfl (by decide) (by decide) ?_
        exact J_iret aX11_play_47 rfl h
      · replace h := h.2 q
        refine J_bipush (-3) aX11_play_22 (by decide +kernel) ?_
        exact J_iret aX11_play_24 rfl h
    · replace h := h.2 q
      refine J_iconst (-1) aX11_play_10 (by decide +kernel) ?_
      exact J_iret aX11_play_11 rfl h
theorem aX11_report_0 : decode mX11_report.2.1 0 = .ok (.iload_n 1, 1) ∧ 0 + 1 = 1 := ⟨by decide +kernel, rfl⟩
theorem aX11_report_1 : decode mX11_report.2.1 1 = .ok (.bipush 15, 2) ∧ 1 + 2 = 3 := ⟨by decide +kernel, rfl⟩
theorem aX11_report_3 : decode mX11_report.2.1 3 = .ok (.invokestatic 110, 3) ∧ 3 + 3 = 6 := ⟨by decide +kernel, rfl⟩
theorem aX11_report_6 : decode mX11_report.2.1 6 = .ok (.ifCond .eq 11, 3) ∧ ((6 : Nat) : Int) + 11 = ((17 : Nat) : Int) ∧ 6 + 3 = 9 := ⟨by decide +kernel, by decide, rfl⟩
theorem aX11_report_9 : decode mX11_report.2.1 9 = .ok (.iload_n 2, 1) ∧ 9 + 1 = 10 := ⟨by decide +kernel, rfl⟩
theorem aX11_report_10 : decode mX11_report.2.1 10 = .ok (.iconst 1, 1) ∧ 10 + 1 = 11 := ⟨by decide +kernel, rfl⟩
theorem aX11_report_11 : decode mX11_report.2.1 11 = .ok (.invokestatic 110, 3) ∧ 11 + 3 = 14 := ⟨by decide +kernel, rfl⟩
theorem aX11_report_14 : decode mX11_report.2.1 14 = .ok (.ifCond .ne 5, 3) ∧ ((14 : Nat) : Int) + 5 = ((19 : Nat) : Int) ∧ 14 + 3 = 17 := ⟨by decide +kernel, by decide, rfl⟩
theorem aX11_report_17 : decode mX11_report.2.1 17 = .ok (.iconst (-1), 1) ∧ 17 + 1 = 18 := ⟨by decide +kernel, rfl⟩
theorem aX11_report_18 : decode mX11_report.2.1 18 = .ok (.ireturn, 1) := by decide +kernel
theorem aX11_report_19 : decode mX11_report.2.1 19 = .ok (.iload 4, 2) ∧ 19 + 2 = 21 := ⟨by decide +kernel, rfl⟩
theorem aX11_report_21 : decode mX11_report.2.1 21 = .ok (.iload_n 2, 1) ∧ 21 + 1 = 22 := ⟨by decide +kernel, rfl⟩
theorem aX11_report_22 : decode mX11_report.2.1 22 = .ok (.ifCond .ne 8, 3) ∧ ((22 : Nat) : Int) + 8 = ((30 : Nat) : Int) ∧ 22 + 3 = 25 := ⟨by decide +kernel, by decide, rfl⟩
theorem aX11_report_25 : decode mX11_report.2.1 25 = .ok (.bipush 8, 2) ∧ 25 + 2 = 27 := ⟨by decide +kernel, rfl⟩
theorem aX11_report_27 : decode mX11_report.2.1 27 = .ok (.goto 5, 3) ∧ ((27 : Nat) : Int) + 5 = ((32 : Nat) : Int) := ⟨by decide +kernel, by decide⟩
theorem aX11_report_30 : decode mX11_report.2.1 30 = .ok (.bipush 15, 2) ∧ 30 + 2 = 32 := ⟨by decide +kernel, rfl⟩
theorem aX11_report_32 : decode mX11_report.2.1 32 = .ok (.invokestatic 110, 3) ∧ 32 + 3 = 35 := ⟨by decide +kernel, rfl⟩
theorem aX11_report_35 : decode mX11_report.2.1 35 = .ok (.ifCond .eq 12, 3) ∧ ((35 : Nat) : Int) + 12 = ((47 : Nat) : Int) ∧ 35 + 3 = 38 := ⟨by decide +kernel, by decide, rfl⟩
theorem aX11_report_38 : decode mX11_report.2.1 38 = .ok (.iload_n 3, 1) ∧ 38 + 1 = 39 := ⟨by decide +kernel, rfl⟩
theorem aX11_report_39 : decode mX11_report.2.1 39 = .ok (.iload 4, 2) ∧ 39 + 2 = 41 := ⟨by decide +kernel, rfl⟩
theorem aX11_report_41 : decode mX11_report.2.1 41 = .ok (.invokestatic 110, 3) ∧ 41 + 3 = 44 := ⟨by decide +kernel, rfl⟩
theorem aX11_report_44 : decode mX11_report.2.1 44 = .ok (.ifCond .ne 5, 3) ∧ ((44 : Nat) : Int) + 5 = ((49 : Nat) : Int) ∧ 44 + 3 = 47 := ⟨by decide +kernel, by decide, rfl⟩
theorem aX11_report_47 : decode mX11_report.2.1 47 = .ok (.iconst (-1), 1) ∧ 47 + 1 = 48 := ⟨by decide +kernel, rfl⟩
theorem aX11_report_48 : decode mX11_report.2.1 48 = .ok (.ireturn, 1) := by decide +kernel
theorem aX11_report_49 : decode mX11_report.2.1 49 = .ok (.aload_n 0, 1) ∧ 49 + 1 = 50 := ⟨by decide +kernel, rfl⟩
theorem aX11_report_50 : decode mX11_report.2.1 50 = .ok (.getfield 83, 3) ∧ 50 + 3 = 53 := ⟨by decide +kernel, rfl⟩
theorem aX11_report_53 : decode mX11_report.2.1 53 = .ok (.getfield 295, 3) ∧ 53 + 3 = 56 := ⟨by decide +kernel, rfl⟩
theorem aX11_report_56 : decode mX11_report.2.1 56 = .ok (.bipush 6, 2) ∧ 56 + 2 = 58 := ⟨by decide +kernel, rfl⟩
theorem aX11_report_58 : decode mX11_report.2.1 58 = .ok (.if_icmp .lt 6, 3) ∧ ((58 : Nat) : Int) + 6 = ((64 : Nat) : Int) ∧ 58 + 3 = 61 := ⟨by decide +kernel, by decide, rfl⟩
theorem aX11_report_61 : decode mX11_report.2.1 61 = .ok (.bipush (-2), 2) ∧ 61 + 2 = 63 := ⟨by decide +kernel, rfl⟩
theorem aX11_report_63 : decode mX11_report.2.1 63 = .ok (.ireturn, 1) := by decide +kernel
theorem aX11_report_64 : decode mX11_report.2.1 64 = .ok (.aload_n 0, 1) ∧ 64 + 1 = 65 := ⟨by decide +kernel, rfl⟩
theorem aX11_report_65 : decode mX11_report.2.1 65 = .ok (.getfield 83, 3) ∧ 65 + 3 = 68 := ⟨by decide +kernel, rfl⟩
theorem aX11_report_68 : decode mX11_report.2.1 68 = .ok (.iload_n 1, 1) ∧ 68 + 1 = 69 := ⟨by decide +kernel, rfl⟩
theorem aX11_report_69 : decode mX11_report.2.1 69 = .ok (.iload_n 2, 1) ∧ 69 + 1 = 70 := ⟨by decide +kernel, rfl⟩
theorem aX11_report_70 : decode mX11_report.2.1 70 = .ok (.iload_n 3, 1) ∧ 70 + 1 = 71 := ⟨by decide +kernel, rfl⟩
theorem aX11_report_71 : decode mX11_report.2.1 71 = .ok (.iload 4, 2) ∧ 71 + 2 = 73 := ⟨by decide +kernel, rfl⟩
theorem aX11_report_73 : decode mX11_report.2.1 73 = .ok (.invokevirtual 298, 3) ∧ 73 + 3 = 76 := ⟨by decide +kernel, rfl⟩
theorem aX11_report_76 : decode mX11_report.2.1 76 = .ok (.ireturn, 1) := by decide +kernel
theorem S_X11_report {E : EE} {d : Nat} {I : IH} {Q : QT} (x1 : Int32) (x2 : Int32) (x3 : Int32) (x4 : Int32) (h :
(Mt E d mX11_isWithin [.int x1, .int (nI 15)] I (fun rv I1 => ∃ v2 : Int32, rv = some (.int v2) ∧
 ((v2 = 0 → Q (some (.int (-1))) I1) ∧
 (¬ v2 = 0 → (Mt E d mX11_isWithin [.int x2, .int (nI 1)] I1 (fun rv I3 => ∃ v4 : Int32, rv = some (.int v4) ∧
 ((¬ v4 = 0 → ((¬ x2 = 0 → J E (d + 1) mX11_report 32 [(0, .ref (eb E + 0)), (1, .int x1), (2, .int x2), (3, .int x3), (4, .int x4)] [.int (nI 15), .int x4] I3 Q) ∧
 (x2 = 0 → J E (d + 1) mX11_report 32 [(0, .ref (eb E + 0)), (1, .int x1), (2, .int x2), (3, .int x3), (4, .int x4)] [.int (nI 8), .int x4] I3 Q))) ∧
 (v4 = 0 → Q (some (.int (-1))) I3))))))))) : Mt E (d + 1) mX11_report [.ref (eb E + 0), .int x1, .int x2, .int x3, .int x4] I Q := by
  refine Mt_of [(0, .ref (eb E + 0)), (1, .int x1), (2, .int x2), (3, .int x3), (4, .int x4)] (by decide +kernel) (by simp [lg_sl, Value.category, mX11_report]) rfl ?_
  refine J_iload_n 1 aX11_report_0 rfl ?_
  refine J_bipush (nI 15) aX11_report_1 (by decide +kernel) ?_
  refine J_callS [.int x1, .int (nI 15)] [] aX11_report_3 lkX11_110 okX11_isWithin rfl rfl (Nat.le_of_ble_eq_true rfl) (Nat.le_refl _) (Mt_mono h (fun rv I1 h => ?_))
  obtain ⟨v2, rfl, h⟩ := h
  refine J_r1 ?_
  refine J_if_eq aX11_report_6 (fun q => ?_) (fun q => ?_)
  · replace h := h.1 q
    refine J_iconst (-1) aX11_report_17 (by decide +kernel) ?_
    exact J_iret aX11_report_18 rfl h
  · replace h := h.2 q
    refine J_iload_n 2 aX11_report_9 rfl ?_
    refine J_iconst (nI 1) aX11_report_10 (by decide +kernel) ?_
    refine J_callS [.int x2, .int (nI 1)] [] aX11_report_11 lkX11_110 okX11_isWithin rfl rfl (Nat.le_of_ble_eq_true rfl) (Nat.le_refl _) (Mt_mono h (fun rv I3 h => ?_))
    obtain ⟨v4, rfl, h⟩ := h
    refine J_r1 ?_
    refine J_if_ne aX11_report_14 (fun q => ?_) (fun q => ?_)
    · replace h := h.1 q
      refine J_iload 4 aX11_report_19 rfl ?_
      refine J_iload_n 2 aX11_report_21 rfl ?_
      refine J_if_ne aX11_report_22 (fun q => ?_) (fun q => ?_)
      · replace h := h.1 q
        refine J_bipush (nI 15) aX11_report_30 (by decide +kernel) ?_
        refine J_pick [0, 1, 2, 3, 4] rfl ?_
        exact h
      · replace h := h.2 q
        refine J_bipush (nI 8) aX11_report_25 (by decide +kernel) ?_
        refine J_goto aX11_report_27 ?_
        refine J_pick [0, 1, 2, 3, 4] rfl ?_
        exact h
    · replace h := h.2 q
      refine J_iconst (-1) aX11_report_17 (by decide +kernel) ?_
      exact J_iret aX11_report_18 rfl h
theorem S_X11_report_32 {E : EE} {d : Nat} {I : IH} {Q : QT} (x1 : Int32) (x2 : Int32) (x3 : Int32) (x4 : Int32) (t0 : Int32) (t1 : Int32) (h :
(Mt E d mX11_isWithin [.int t1, .int t0] I (fun rv I1 => ∃ v2 : Int32, rv = some (.int v2) ∧
 ((v2 = 0 → Q (some (.int (-1))) I1) ∧
 (¬ v2 = 0 → (Mt E d mX11_isWithin [.int x3, .int x4] I1 (fun rv I3 => ∃ v4 : Int32, rv = some (.int v4) ∧
 ((¬ v4 = 0 → (((I3 33 10) < (nI 6) → (Mt E d mX1_addReport [.ref (eb E + 33), .int x1, .int x2, .int x3, .int x4] I3 (fun rv I5 => ∃ v6 : Int32, rv = some (.int v6) ∧
 Q (some (.int v6)) I5))) ∧
 (¬ (I3 33 10) < (nI 6) → Q (some (.int (-2))) I3))) ∧
 (v4 = 0 → Q (some (.int (-1))) I3))))))))) : J E (d + 1) mX11_report 32 [(0, .ref (eb E + 0)), (1, .int x1), (2, .int x2), (3, .int x3), (4, .int x4)] [.int t0, .int t1] I Q := by
  refine J_callS [.int t1, .int t0] [] aX11_report_32 lkX11_110 okX11_isWithin rfl rfl (Nat.le_of_ble_eq_true rfl) (Nat.le_refl _) (Mt_mono h (fun rv I1 h => ?_))
  obtain ⟨v2, rfl, h⟩ := h
  refine J_r1 ?_
  refine J_if_eq aX11_report_35 (fun q => ?_) (fun q => ?_)
  · replace h := h.1 q
    refine J_iconst (-1) aX11_report_47 (by decide +kernel) ?_
    exact J_iret aX11_report_48 rfl h
  · replace h := h.2 q
    refine J_iload_n 3 aX11_report_38 rfl ?_
    refine J_iload 4 aX11_report_39 rfl ?_
    refine J_callS [.int x3, .int x4] [] aX11_report_41 lkX11_110 okX11_isWithin rfl rfl (Nat.le_of_ble_eq_true rfl) (Nat.le_refl _) (Mt_mono h (fun rv I3 h => ?_))
    obtain ⟨v4, rfl, h⟩ := h
    refine J_r1 ?_
    refine J_if_ne aX11_report_44 (fun q => ?_) (fun q => ?_)
    · replace h := h.1 q
      refine J_aload_n 0 aX11_report_49 rfl ?_
      refine J_getR aX11_report_50 flX11_83 sh0 rfl ?_
      refine J_getI aX11_report_53 flX11_295 sh33 rfl ?_
      refine J_bipush (nI 6) aX11_report_56 (by decide +kernel) ?_
      refine J_icmp_lt aX11_report_58 (fun q => ?_) (fun q => ?_)
      · replace h := h.1 q
        refine J_aload_n 0 aX11_report_64 rfl ?_
        refine J_getR aX11_report_65 flX11_83 sh0 rfl ?_
        refine J_iload_n 1 aX11_report_68 rfl ?_
        refine J_iload_n 2 aX11_report_69 rfl ?_
        refine J_iload_n 3 aX11_report_70 rfl ?_
        refine J_iload 4 aX11_report_71 rfl ?_
        refine J_callV [.int x1, .int x2, .int x3, .int x4] [] aX11_report_73 lkX11_298_X1 okX1_addReport sh33 rfl rfl rfl (Nat.le_of_ble_eq_true rfl) (Nat.le_refl _) (Mt_mono h (fun rv I5 h => ?_))
        obtain ⟨v6, rfl, h⟩ := h
        refine J_r1 ?_
        exact J_iret aX11_report_76 rfl h
      · replace h := h.2 q
        refine J_bipush (-2) aX11_report_61 (by decide +kernel) ?_
        exact J_iret aX11_report_63 rfl h
    · replace h := h.2 q
      refine J_iconst (-1) aX11_report_47 (by decide +kernel) ?_
      exact J_iret aX11_report_48 rfl h
theorem aX11_forget_0 : decode mX11_forget.2.1 0 = .ok (.aload_n 0, 1) ∧ 0 + 1 = 1 := ⟨by decide +kernel, rfl⟩
theorem aX11_forget_1 : decode mX11_forget.2.1 1 = .ok (.getfield 83, 3) ∧ 1 + 3 = 4 := ⟨by decide +kernel, rfl⟩
theorem aX11_forget_4 : decode mX11_forget.2.1 4 = .ok (.getfield 295, 3) ∧ 4 + 3 = 7 := ⟨by decide +kernel, rfl⟩
theorem aX11_forget_7 : decode mX11_forget.2.1 7 = .ok (.istore_n 1, 1) ∧ 7 + 1 = 8 := ⟨by decide +kernel, rfl⟩
theorem aX11_forget_8 : decode mX11_forget.2.1 8 = .ok (.aload_n 0, 1) ∧ 8 + 1 = 9 := ⟨by decide +kernel, rfl⟩
theorem aX11_forget_9 : decode mX11_forget.2.1 9 = .ok (.getfield 83, 3) ∧ 9 + 3 = 12 := ⟨by decide +kernel, rfl⟩
theorem aX11_forget_12 : decode mX11_forget.2.1 12 = .ok (.iconst 0, 1) ∧ 12 + 1 = 13 := ⟨by decide +kernel, rfl⟩
theorem aX11_forget_13 : decode mX11_forget.2.1 13 = .ok (.putfield 295, 3) ∧ 13 + 3 = 16 := ⟨by decide +kernel, rfl⟩
theorem aX11_forget_16 : decode mX11_forget.2.1 16 = .ok (.iload_n 1, 1) ∧ 16 + 1 = 17 := ⟨by decide +kernel, rfl⟩
theorem aX11_forget_17 : decode mX11_forget.2.1 17 = .ok (.ireturn, 1) := by decide +kernel
theorem S_X11_forget {E : EE} {d : Nat} {I : IH} {Q : QT}  (h :
(∀ I1 : IH, I1 = stI I 33 10 (nI 0) →
 Q (some (.int (I 33 10))) I1)) : Mt E d mX11_forget [.ref (eb E + 0)] I Q := by
  refine Mt_of [(0, .ref (eb E + 0))] (by decide +kernel) (by simp [lg_sl, Value.category, mX11_forget]) rfl ?_
  refine J_aload_n 0 aX11_forget_0 rfl ?_
  refine J_getR aX11_forget_1 flX11_83 sh0 rfl ?_
  refine J_getI aX11_forget_4 flX11_295 sh33 rfl ?_
  refine J_istore_n [(1, .int (I 33 10)), (0, .ref (eb E + 0))] aX11_forget_7 (by decide) rfl ?_
  refine J_aload_n 1 aX11_forget_8 rfl ?_
  refine J_getR aX11_forget_9 flX11_83 sh0 rfl ?_
  refine J_iconst (nI 0) aX11_forget_12 (by decide +kernel) ?_
  refine J_putI aX11_forget_13 fpX11_295 sh33 rfl (fun I1 e2 => ?_)
  replace h := h I1 e2
  refine J_iload_n 0 aX11_forget_16 rfl ?_
  exact J_iret aX11_forget_17 rfl h
theorem aX11_who_0 : decode mX11_who.2.1 0 = .ok (.iload_n 1, 1) ∧ 0 + 1 = 1 := ⟨by decide +kernel, rfl⟩
theorem aX11_who_1 : decode mX11_who.2.1 1 = .ok (.iconst 2, 1) ∧ 1 + 1 = 2 := ⟨by decide +kernel, rfl⟩
theorem aX11_who_2 : decode mX11_who.2.1 2 = .ok (.invokestatic 110, 3) ∧ 2 + 3 = 5 := ⟨by decide +kernel, rfl⟩
theorem aX11_who_5 : decode mX11_who.2.1 5 = .ok (.ifCond .ne 5, 3) ∧ ((5 : Nat) : Int) + 5 = ((10 : Nat) : Int) ∧ 5 + 3 = 8 := ⟨by decide +kernel, by decide, rfl⟩
theorem aX11_who_8 : decode mX11_who.2.1 8 = .ok (.iconst (-1), 1) ∧ 8 + 1 = 9 := ⟨by decide +kernel, rfl⟩
theorem aX11_who_9 : decode mX11_who.2.1 9 = .ok (.ireturn, 1) := by decide +kernel
theorem aX11_who_10 : decode mX11_who.2.1 10 = .ok (.aload_n 0, 1) ∧ 10 + 1 = 11 := ⟨by decide +kernel, rfl⟩
theorem aX11_who_11 : decode mX11_who.2.1 11 = .ok (.getfield 83, 3) ∧ 11 + 3 = 14 := ⟨by decide +kernel, rfl⟩
theorem aX11_who_14 : decode mX11_who.2.1 14 = .ok (.invokevirtual 302, 3) ∧ 14 + 3 = 17 := ⟨by decide +kernel, rfl⟩
theorem aX11_who_17 : decode mX11_who.2.1 17 = .ok (.istore_n 2, 1) ∧ 17 + 1 = 18 := ⟨by decide +kernel, rfl⟩
theorem aX11_who_18 : decode mX11_who.2.1 18 = .ok (.iconst 0, 1) ∧ 18 + 1 = 19 := ⟨by decide +kernel, rfl⟩
theorem aX11_who_19 : decode mX11_who.2.1 19 = .ok (.istore_n 3, 1) ∧ 19 + 1 = 20 := ⟨by decide +kernel, rfl⟩
theorem aX11_who_20 : decode mX11_who.2.1 20 = .ok (.iconst 1, 1) ∧ 20 + 1 = 21 := ⟨by decide +kernel, rfl⟩
theorem aX11_who_21 : decode mX11_who.2.1 21 = .ok (.istore 4, 2) ∧ 21 + 2 = 23 := ⟨by decide +kernel, rfl⟩
theorem aX11_who_23 : decode mX11_who.2.1 23 = .ok (.iload 4, 2) ∧ 23 + 2 = 25 := ⟨by decide +kernel, rfl⟩
theorem aX11_who_25 : decode mX11_who.2.1 25 = .ok (.iconst 5, 1) ∧ 25 + 1 = 26 := ⟨by decide +kernel, rfl⟩
theorem aX11_who_26 : decode mX11_who.2.1 26 = .ok (.if_icmp .gt 61, 3) ∧ ((26 : Nat) : Int) + 61 = ((87 : Nat) : Int) ∧ 26 + 3 = 29 := ⟨by decide +kernel, by decide, rfl⟩
theorem aX11_who_29 : decode mX11_who.2.1 29 = .ok (.iconst 0, 1) ∧ 29 + 1 = 30 := ⟨by decide +kernel, rfl⟩
theorem aX11_who_30 : decode mX11_who.2.1 30 = .ok (.istore 5, 2) ∧ 30 + 2 = 32 := ⟨by decide +kernel, rfl⟩
theorem aX11_who_32 : decode mX11_who.2.1 32 = .ok (.iload 5, 2) ∧ 32 + 2 = 34 := ⟨by decide +kernel, rfl⟩
theorem aX11_who_34 : decode mX11_who.2.1 34 = .ok (.sipush 255, 3) ∧ 34 + 3 = 37 := ⟨by decide +kernel, rfl⟩
theorem aX11_who_37 : decode mX11_who.2.1 37 = .ok (.if_icmp .gt 44, 3) ∧ ((37 : Nat) : Int) + 44 = ((81 : Nat) : Int) ∧ 37 + 3 = 40 := ⟨by decide +kernel, by decide, rfl⟩
theorem aX11_who_40 : decode mX11_who.2.1 40 = .ok (.aload_n 0, 1) ∧ 40 + 1 = 41 := ⟨by decide +kernel, rfl⟩
theorem aX11_who_41 : decode mX11_who.2.1 41 = .ok (.getfield 83, 3) ∧ 41 + 3 = 44 := ⟨by decide +kernel, rfl⟩
theorem aX11_who_44 : decode mX11_who.2.1 44 = .ok (.iload 4, 2) ∧ 44 + 2 = 46 := ⟨by decide +kernel, rfl⟩
theorem aX11_who_46 : decode mX11_who.2.1 46 = .ok (.iload 5, 2) ∧ 46 + 2 = 48 := ⟨by decide +kernel, rfl⟩
theorem aX11_who_48 : decode mX11_who.2.1 48 = .ok (.iload_n 2, 1) ∧ 48 + 1 = 49 := ⟨by decide +kernel, rfl⟩
theorem aX11_who_49 : decode mX11_who.2.1 49 = .ok (.invokevirtual 305, 3) ∧ 49 + 3 = 52 := ⟨by decide +kernel, rfl⟩
theorem aX11_who_52 : decode mX11_who.2.1 52 = .ok (.ifCond .ne 23, 3) ∧ ((52 : Nat) : Int) + 23 = ((75 : Nat) : Int) ∧ 52 + 3 = 55 := ⟨by decide +kernel, by decide, rfl⟩
theorem aX11_who_55 : decode mX11_who.2.1 55 = .ok (.iload_n 1, 1) ∧ 55 + 1 = 56 := ⟨by decide +kernel, rfl⟩
theorem aX11_who_56 : decode mX11_who.2.1 56 = .ok (.ifCond .eq 16, 3) ∧ ((56 : Nat) : Int) + 16 = ((72 : Nat) : Int) ∧ 56 + 3 = 59 := ⟨by decide +kernel, by decide, rfl⟩
theorem aX11_who_59 : decode mX11_who.2.1 59 = .ok (.iload_n 1, 1) ∧ 59 + 1 = 60 := ⟨by decide +kernel, rfl⟩
theorem aX11_who_60 : decode mX11_who.2.1 60 = .ok (.iconst 1, 1) ∧ 60 + 1 = 61 := ⟨by decide +kernel, rfl⟩
theorem aX11_who_61 : decode mX11_who.2.1 61 = .ok (.if_icmp .ne 8, 3) ∧ ((61 : Nat) : Int) + 8 = ((69 : Nat) : Int) ∧ 61 + 3 = 64 := ⟨by decide +kernel, by decide, rfl⟩
theorem aX11_who_64 : decode mX11_who.2.1 64 = .ok (.iload 4, 2) ∧ 64 + 2 = 66 := ⟨by decide +kernel, rfl⟩
theorem aX11_who_66 : decode mX11_who.2.1 66 = .ok (.goto 5, 3) ∧ ((66 : Nat) : Int) + 5 = ((71 : Nat) : Int) := ⟨by decide +kernel, by decide⟩
theorem aX11_who_69 : decode mX11_who.2.1 69 = .ok (.iload 5, 2) ∧ 69 + 2 = 71 := ⟨by decide +kernel, rfl⟩
theorem aX11_who_71 : decode mX11_who.2.1 71 = .ok (.ireturn, 1) := by decide +kernel
theorem aX11_who_72 : decode mX11_who.2.1 72 = .ok (.iinc 3 1, 3) ∧ 72 + 3 = 75 := ⟨by decide +kernel, rfl⟩
theorem aX11_who_75 : decode mX11_who.2.1 75 = .ok (.iinc 5 1, 3) ∧ 75 + 3 = 78 := ⟨by decide +kernel, rfl⟩
theorem aX11_who_78 : decode mX11_who.2.1 78 = .ok (.goto (-46), 3) ∧ ((78 : Nat) : Int) + (-46) = ((32 : Nat) : Int) := ⟨by decide +kernel, by decide⟩
theorem aX11_who_81 : decode mX11_who.2.1 81 = .ok (.iinc 4 1, 3) ∧ 81 + 3 = 84 := ⟨by decide +kernel, rfl⟩
theorem aX11_who_84 : decode mX11_who.2.1 84 = .ok (.goto (-61), 3) ∧ ((84 : Nat) : Int) + (-61) = ((23 : Nat) : Int) := ⟨by decide +kernel, by decide⟩
theorem aX11_who_87 : decode mX11_who.2.1 87 = .ok (.iload_n 1, 1) ∧ 87 + 1 = 88 := ⟨by decide +kernel, rfl⟩
theorem aX11_who_88 : decode mX11_who.2.1 88 = .ok (.ifCond .ne 7, 3) ∧ ((88 : Nat) : Int) + 7 = ((95 : Nat) : Int) ∧ 88 + 3 = 91 := ⟨by decide +kernel, by decide, rfl⟩
theorem aX11_who_91 : decode mX11_who.2.1 91 = .ok (.iload_n 3, 1) ∧ 91 + 1 = 92 := ⟨by decide +kernel, rfl⟩
theorem aX11_who_92 : decode mX11_who.2.1 92 = .ok (.goto 5, 3) ∧ ((92 : Nat) : Int) + 5 = ((97 : Nat) : Int) := ⟨by decide +kernel, by decide⟩
theorem aX11_who_95 : decode mX11_who.2.1 95 = .ok (.bipush (-3), 2) ∧ 95 + 2 = 97 := ⟨by decide +kernel, rfl⟩
theorem aX11_who_97 : decode mX11_who.2.1 97 = .ok (.ireturn, 1) := by decide +kernel
theorem S_X11_who {E : EE} {d : Nat} {I : IH} {Q : QT} (x1 : Int32) (h :
(Mt E d mX11_isWithin [.int x1, .int (nI 2)] I (fun rv I1 => ∃ v2 : Int32, rv = some (.int v2) ∧
 ((¬ v2 = 0 → (Mt E d mX1_lastReported [.ref (eb E + 33)] I1 (fun rv I3 => ∃ v4 : Int32, rv = some (.int v4) ∧
 J E (d + 1) mX11_who 23 [(0, .ref (eb E + 0)), (1, .int x1), (2, .int v4), (3, .int (nI 0)), (4, .int (nI 1))] [] I3 Q))) ∧
 (v2 = 0 → Q (some (.int (-1))) I1))))) : Mt E (d + 1) mX11_who [.ref (eb E + 0), .int x1] I Q := by
  refine Mt_of [(0, .ref (eb E + 0)), (1, .int x1)] (by decide +kernel) (by simp [lg_sl, Value.category, mX11_who]) rfl ?_
  refine J_iload_n 1 aX11_who_0 rfl ?_
  refine J_iconst (nI 2) aX11_who_1 (by decide +kernel) ?_
  refine J_callS [.int x1, .int (nI 2)] [] aX11_who_2 lkX11_110 okX11_isWithin rfl rfl (Nat.le_of_ble_eq_true rfl) (Nat.le_refl _) (Mt_mono h (fun rv I1 h => ?_))
  obtain ⟨v2, rfl, h⟩ := h
  refine J_r1 ?_
  refine J_if_ne aX11_who_5 (fun q => ?_) (fun q => ?_)
  · replace h := h.1 q
    refine J_aload_n 0 aX11_who_10 rfl ?_
    refine J_getR aX11_who_11 flX11_83 sh0 rfl ?_
    refine J_callV [] [] aX11_who_14 lkX11_302_X1 okX1_lastReported sh33 rfl rfl rfl (Nat.le_of_ble_eq_true rfl) (Nat.le_refl _) (Mt_mono h (fun rv I3 h => ?_))
    obtain ⟨v4, rfl, h⟩ := h
    refine J_r1 ?_
    refine J_istore_n [(2, .int v4), (0, .ref (eb E + 0)), (1, .int x1)] aX11_who_17 (by decide) rfl ?_
    refine J_iconst (nI 0) aX11_who_18 (by decide +kernel) ?_
    refine J_istore_n [(3, .int (nI 0)), (2, .int v4), (0, .ref (eb E + 0)), (1, .int x1)] aX11_who_19 (by decide) rfl ?_
    refine J_iconst (nI 1) aX11_who_20 (by decide +kernel) ?_
    refine J_istore [(4, .int (nI 1)), (3, .int (nI 0)), (2, .int v4), (0, .ref (eb E + 0)), (1, .int x1)] aX11_who_21 (by decide) rfl ?_
    refine J_pick [3, 4, 2, 1, 0] rfl ?_
    exact h
  · replace h := h.2 q
    refine J_iconst (-1) aX11_who_8 (by decide +kernel) ?_
    exact J_iret aX11_who_9 rfl h
theorem S_X11_who_23 {E : EE} {d : Nat} {I : IH} {Q : QT} (x1 : Int32) (x2 : Int32) (x3 : Int32) (x4 : Int32) (h :
(((nI 5) < x4 → ((¬ x1 = 0 → Q (some (.int (-3))) I) ∧
 (x1 = 0 → Q (some (.int x3)) I))) ∧
 (¬ (nI 5) < x4 → J E (d + 1) mX11_who 32 [(0, .ref (eb E + 0)), (1, .int x1), (2, .int x2), (3, .int x3), (4, .int x4), (5, .int (nI 0))] [] I Q))) : J E (d + 1) mX11_who 23 [(0, .ref (eb E + 0)), (1, .int x1), (2, .int x2), (3, .int x3), (4, .int x4)] [] I Q := by
  refine J_iload 4 aX11_who_23 rfl ?_
  refine J_iconst (nI 5) aX11_who_25 (by decide +kernel) ?_
  refine J_icmp_gt aX11_who_26 (fun q => ?_) (fun q => ?_)
  · replace h := h.1 q
    refine J_iload_n 1 aX11_who_87 rfl ?_
    refine J_if_ne aX11_who_88 (fun q => ?_) (fun q => ?_)
    · replace h := h.1 q
      refine J_bipush (-3) aX11_who_95 (by decide +kernel) ?_
      exact J_iret aX11_who_97 rfl h
    · replace h := h.2 q
      refine J_iload_n 3 aX11_who_91 rfl ?_
      refine J_goto aX11_who_92 ?_
      exact J_iret aX11_who_97 rfl h
  · replace h := h.2 q
    refine J_iconst (nI 0) aX11_who_29 (by decide +kernel) ?_
    refine J_istore [(5, .int (nI 0)), (0, .ref (eb E + 0)), (1, .int x1), (2, .int x2), (3, .int x3), (4, .int x4)] aX11_who_30 (by decide) rfl ?_
    refine J_pick [1, 2, 3, 4, 5, 0] rfl ?_
    exact h
theorem S_X11_who_32 {E : EE} {d : Nat} {I : IH} {Q : QT} (x1 : Int32) (x2 : Int32) (x3 : Int32) (x4 : Int32) (x5 : Int32) (h :
(((nI 255) < x5 → J E (d + 1) mX11_who 23 [(0, .ref (eb E + 0)), (1, .int x1), (2, .int x2), (3, .int x3), (4, .int (x4 + nI 1))] [] I Q) ∧
 (¬ (nI 255) < x5 → (Mt E d mX1_wrongReports [.ref (eb E + 33), .int x4, .int x5, .int x2] I (fun rv I1 => ∃ v2 : Int32, rv = some (.int v2) ∧
 ((¬ v2 = 0 → J E (d + 1) mX11_who 32 [(0, .ref (eb E + 0)), (1, .int x1), (2, .int x2), (3, .int x3), (4, .int x4), (5, .int (x5 + nI 1))] [] I1 Q) ∧
 (v2 = 0 → ((x1 = 0 → J E (d + 1) mX11_who 32 [(0, .ref (eb E + 0)), (1, .int x1), (2, .int x2), (3, .int (x3 + nI 1)), (4, .int x4), (5, .int (x5 + nI 1))] [] I1 Q) ∧
 (¬ x1 = 0 → ((¬ x1 = (nI 1) → Q (some (.int x5)) I1) ∧
 (x1 = (nI 1) → Q (some (.int x4)) I1))))))))))) : J E (d + 1) mX11_who 32 [(0, .ref (eb E + 0)), (1, .int x1), (2, .int x2), (3, .int x3), (4, .int x4), (5, .int x5)] [] I Q := by
  refine J_iload 5 aX11_who_32 rfl ?_
  refine J_sipush (nI 255) aX11_who_34 (by decide +kernel) ?_
  refine J_icmp_gt aX11_who_37 (fun q => ?_) (fun q => ?_)
  · replace h := h.1 q
    refine J_iinc (x4 + nI 1) [(4, .int (x4 + nI 1)), (0, .ref (eb E + 0)), (1, .int x1), (2, .int x2), (3, .int x3), (5, .int x5)] 4 aX11_who_81 rfl (by first | rfl | (congr 1; decide +kernel)) (by decide) rfl ?_
    refine J_goto aX11_who_84 ?_
    refine J_pick [1, 2, 3, 4, 0] rfl ?_
    exact h
  · replace h := h.2 q
    refine J_aload_n 0 aX11_who_40 rfl ?_
    refine J_getR aX11_who_41 flX11_83 sh0 rfl ?_
    refine J_iload 4 aX11_who_44 rfl ?_
    refine J_iload 5 aX11_who_46 rfl ?_
    refine J_iload_n 2 aX11_who_48 rfl ?_
    refine J_callV [.int x4, .int x5, .int x2] [] aX11_who_49 lkX11_305_X1 okX1_wrongReports sh33 rfl rfl rfl (Nat.le_of_ble_eq_true rfl) (Nat.le_refl _) (Mt_mono h (fun rv I1 h => ?_))
    obtain ⟨v2, rfl, h⟩ := h
    refine J_r1 ?_
    refine J_if_ne aX11_who_52 (fun q => ?_) (fun q => ?_)
    · replace h := h.1 q
      refine J_iinc (x5 + nI 1) [(5, .int (x5 + nI 1)), (0, .ref (eb E + 0)), (1, .int x1), (2, .int x2), (3, .int x3), (4, .int x4)] 5 aX11_who_75 rfl (by first | rfl | (congr 1; decide +kernel)) (by decide) rfl ?_
      refine J_goto aX11_who_78 ?_
      refine J_pick [1, 2, 3, 4, 5, 0] rfl ?_
      exact h
    · replace h := h.2 q
      refine J_iload_n 1 aX11_who_55 rfl ?_
      refine J_if_eq aX11_who_56 (fun q => ?_) (fun q => ?_)
      · replace h := h.1 q
        refine J_iinc (x3 + nI 1) [(3, .int (x3 + nI 1)), (0, .ref (eb E + 0)), (1, .int x1), (2, .int x2), (4, .int x4), (5, .int x5)] 3 aX11_who_72 rfl (by first | rfl | (congr 1; decide +kernel)) (by decide) rfl ?_
        refine J_iinc (x5 + nI 1) [(5, .int (x5 + nI 1)), (3, .int (x3 + nI 1)), (0, .ref (eb E + 0)), (1, .int x1), (2, .int x2), (4, .int x4)] 5 aX11_who_75 rfl (by first | rfl | (congr 1; decide +kernel)) (by decide) rfl ?_
        refine J_goto aX11_who_78 ?_
        refine J_pick [2, 3, 4, 1, 5, 0] rfl ?_
        exact h
      · replace h := h.2 q
        refine J_iload_n 1 aX11_who_59 rfl ?_
        refine J_iconst (nI 1) aX11_who_60 (by decide +kernel) ?_
        refine J_icmp_ne aX11_who_61 (fun q => ?_) (fun q => ?_)
        · replace h := h.1 q
          refine J_iload 5 aX11_who_69 rfl ?_
          exact J_iret aX11_who_71 rfl h
        · replace h := h.2 q
          refine J_iload 4 aX11_who_64 rfl ?_
          refine J_goto aX11_who_66 ?_
          exact J_iret aX11_who_71 rfl h
theorem aX11_liar_0 : decode mX11_liar.2.1 0 = .ok (.aload_n 0, 1) ∧ 0 + 1 = 1 := ⟨by decide +kernel, rfl⟩
theorem aX11_liar_1 : decode mX11_liar.2.1 1 = .ok (.getfield 83, 3) ∧ 1 + 3 = 4 := ⟨by decide +kernel, rfl⟩
theorem aX11_liar_4 : decode mX11_liar.2.1 4 = .ok (.invokevirtual 302, 3) ∧ 4 + 3 = 7 := ⟨by decide +kernel, rfl⟩
theorem aX11_liar_7 : decode mX11_liar.2.1 7 = .ok (.istore_n 1, 1) ∧ 7 + 1 = 8 := ⟨by decide +kernel, rfl⟩
theorem aX11_liar_8 : decode mX11_liar.2.1 8 = .ok (.iconst 0, 1) ∧ 8 + 1 = 9 := ⟨by decide +kernel, rfl⟩
theorem aX11_liar_9 : decode mX11_liar.2.1 9 = .ok (.istore_n 2, 1) ∧ 9 + 1 = 10 := ⟨by decide +kernel, rfl⟩
theorem aX11_liar_10 : decode mX11_liar.2.1 10 = .ok (.iconst 1, 1) ∧ 10 + 1 = 11 := ⟨by decide +kernel, rfl⟩
theorem aX11_liar_11 : decode mX11_liar.2.1 11 = .ok (.istore_n 3, 1) ∧ 11 + 1 = 12 := ⟨by decide +kernel, rfl⟩
theorem aX11_liar_12 : decode mX11_liar.2.1 12 = .ok (.iload_n 3, 1) ∧ 12 + 1 = 13 := ⟨by decide +kernel, rfl⟩
theorem aX11_liar_13 : decode mX11_liar.2.1 13 = .ok (.iconst 5, 1) ∧ 13 + 1 = 14 := ⟨by decide +kernel, rfl⟩
theorem aX11_liar_14 : decode mX11_liar.2.1 14 = .ok (.if_icmp .gt 62, 3) ∧ ((14 : Nat) : Int) + 62 = ((76 : Nat) : Int) ∧ 14 + 3 = 17 := ⟨by decide +kernel, by decide, rfl⟩
theorem aX11_liar_17 : decode mX11_liar.2.1 17 = .ok (.iconst 0, 1) ∧ 17 + 1 = 18 := ⟨by decide +kernel, rfl⟩
theorem aX11_liar_18 : decode mX11_liar.2.1 18 = .ok (.istore 4, 2) ∧ 18 + 2 = 20 := ⟨by decide +kernel, rfl⟩
theorem aX11_liar_20 : decode mX11_liar.2.1 20 = .ok (.iload 4, 2) ∧ 20 + 2 = 22 := ⟨by decide +kernel, rfl⟩
theorem aX11_liar_22 : decode mX11_liar.2.1 22 = .ok (.sipush 255, 3) ∧ 22 + 3 = 25 := ⟨by decide +kernel, rfl⟩
theorem aX11_liar_25 : decode mX11_liar.2.1 25 = .ok (.if_icmp .gt 45, 3) ∧ ((25 : Nat) : Int) + 45 = ((70 : Nat) : Int) ∧ 25 + 3 = 28 := ⟨by decide +kernel, by decide, rfl⟩
theorem aX11_liar_28 : decode mX11_liar.2.1 28 = .ok (.aload_n 0, 1) ∧ 28 + 1 = 29 := ⟨by decide +kernel, rfl⟩
theorem aX11_liar_29 : decode mX11_liar.2.1 29 = .ok (.getfield 83, 3) ∧ 29 + 3 = 32 := ⟨by decide +kernel, rfl⟩
theorem aX11_liar_32 : decode mX11_liar.2.1 32 = .ok (.iload_n 3, 1) ∧ 32 + 1 = 33 := ⟨by decide +kernel, rfl⟩
theorem aX11_liar_33 : decode mX11_liar.2.1 33 = .ok (.iload 4, 2) ∧ 33 + 2 = 35 := ⟨by decide +kernel, rfl⟩
theorem aX11_liar_35 : decode mX11_liar.2.1 35 = .ok (.iload_n 1, 1) ∧ 35 + 1 = 36 := ⟨by decide +kernel, rfl⟩
theorem aX11_liar_36 : decode mX11_liar.2.1 36 = .ok (.invokevirtual 305, 3) ∧ 36 + 3 = 39 := ⟨by decide +kernel, rfl⟩
theorem aX11_liar_39 : decode mX11_liar.2.1 39 = .ok (.istore 5, 2) ∧ 39 + 2 = 41 := ⟨by decide +kernel, rfl⟩
theorem aX11_liar_41 : decode mX11_liar.2.1 41 = .ok (.iload 5, 2) ∧ 41 + 2 = 43 := ⟨by decide +kernel, rfl⟩
theorem aX11_liar_43 : decode mX11_liar.2.1 43 = .ok (.ifCond .ne 6, 3) ∧ ((43 : Nat) : Int) + 6 = ((49 : Nat) : Int) ∧ 43 + 3 = 46 := ⟨by decide +kernel, by decide, rfl⟩
theorem aX11_liar_46 : decode mX11_liar.2.1 46 = .ok (.bipush (-3), 2) ∧ 46 + 2 = 48 := ⟨by decide +kernel, rfl⟩
theorem aX11_liar_48 : decode mX11_liar.2.1 48 = .ok (.ireturn, 1) := by decide +kernel
theorem aX11_liar_49 : decode mX11_liar.2.1 49 = .ok (.iload 5, 2) ∧ 49 + 2 = 51 := ⟨by decide +kernel, rfl⟩
theorem aX11_liar_51 : decode mX11_liar.2.1 51 = .ok (.iload 5, 2) ∧ 51 + 2 = 53 := ⟨by decide +kernel, rfl⟩
theorem aX11_liar_53 : decode mX11_liar.2.1 53 = .ok (.iconst 1, 1) ∧ 53 + 1 = 54 := ⟨by decide +kernel, rfl⟩
theorem aX11_liar_54 : decode mX11_liar.2.1 54 = .ok (.isub, 1) ∧ 54 + 1 = 55 := ⟨by decide +kernel, rfl⟩
theorem aX11_liar_55 : decode mX11_liar.2.1 55 = .ok (.iand, 1) ∧ 55 + 1 = 56 := ⟨by decide +kernel, rfl⟩
theorem aX11_liar_56 : decode mX11_liar.2.1 56 = .ok (.ifCond .ne 8, 3) ∧ ((56 : Nat) : Int) + 8 = ((64 : Nat) : Int) ∧ 56 + 3 = 59 := ⟨by decide +kernel, by decide, rfl⟩
theorem aX11_liar_59 : decode mX11_liar.2.1 59 = .ok (.iload_n 2, 1) ∧ 59 + 1 = 60 := ⟨by decide +kernel, rfl⟩
theorem aX11_liar_60 : decode mX11_liar.2.1 60 = .ok (.iload 5, 2) ∧ 60 + 2 = 62 := ⟨by decide +kernel, rfl⟩
theorem aX11_liar_62 : decode mX11_liar.2.1 62 = .ok (.ior, 1) ∧ 62 + 1 = 63 := ⟨by decide +kernel, rfl⟩
theorem aX11_liar_63 : decode mX11_liar.2.1 63 = .ok (.istore_n 2, 1) ∧ 63 + 1 = 64 := ⟨by decide +kernel, rfl⟩
theorem aX11_liar_64 : decode mX11_liar.2.1 64 = .ok (.iinc 4 1, 3) ∧ 64 + 3 = 67 := ⟨by decide +kernel, rfl⟩
theorem aX11_liar_67 : decode mX11_liar.2.1 67 = .ok (.goto (-47), 3) ∧ ((67 : Nat) : Int) + (-47) = ((20 : Nat) : Int) := ⟨by decide +kernel, by decide⟩
theorem aX11_liar_70 : decode mX11_liar.2.1 70 = .ok (.iinc 3 1, 3) ∧ 70 + 3 = 73 := ⟨by decide +kernel, rfl⟩
theorem aX11_liar_73 : decode mX11_liar.2.1 73 = .ok (.goto (-61), 3) ∧ ((73 : Nat) : Int) + (-61) = ((12 : Nat) : Int) := ⟨by decide +kernel, by decide⟩
theorem aX11_liar_76 : decode mX11_liar.2.1 76 = .ok (.iload_n 2, 1) ∧ 76 + 1 = 77 := ⟨by decide +kernel, rfl⟩
theorem aX11_liar_77 : decode mX11_liar.2.1 77 = .ok (.ifCond .ne 8, 3) ∧ ((77 : Nat) : Int) + 8 = ((85 : Nat) : Int) ∧ 77 + 3 = 80 := ⟨by decide +kernel, by decide, rfl⟩
theorem aX11_liar_80 : decode mX11_liar.2.1 80 = .ok (.bipush (-3), 2) ∧ 80 + 2 = 82 := ⟨by decide +kernel, rfl⟩
theorem aX11_liar_82 : decode mX11_liar.2.1 82 = .ok (.goto 7, 3) ∧ ((82 : Nat) : Int) + 7 = ((89 : Nat) : Int) := ⟨by decide +kernel, by decide⟩
theorem aX11_liar_85 : decode mX11_liar.2.1 85 = .ok (.iload_n 2, 1) ∧ 85 + 1 = 86 := ⟨by decide +kernel, rfl⟩
theorem aX11_liar_86 : decode mX11_liar.2.1 86 = .ok (.invokestatic 288, 3) ∧ 86 + 3 = 89 := ⟨by decide +kernel, rfl⟩
theorem aX11_liar_89 : decode mX11_liar.2.1 89 = .ok (.ireturn, 1) := by decide +kernel
theorem S_X11_liar {E : EE} {d : Nat} {I : IH} {Q : QT}  (h :
(Mt E d mX1_lastReported [.ref (eb E + 33)] I (fun rv I1 => ∃ v2 : Int32, rv = some (.int v2) ∧
 J E (d + 1) mX11_liar 12 [(0, .ref (eb E + 0)), (1, .int v2), (2, .int (nI 0)), (3, .int (nI 1))] [] I1 Q))) : Mt E (d + 1) mX11_liar [.ref (eb E + 0)] I Q := by
  refine Mt_of [(0, .ref (eb E + 0))] (by decide +kernel) (by simp [lg_sl, Value.category, mX11_liar]) rfl ?_
  refine J_aload_n 0 aX11_liar_0 rfl ?_
  refine J_getR aX11_liar_1 flX11_83 sh0 rfl ?_
  refine J_callV [] [] aX11_liar_4 lkX11_302_X1 okX1_lastReported sh33 rfl rfl rfl (Nat.le_of_ble_eq_true rfl) (Nat.le_refl _) (Mt_mono h (fun rv I1 h => ?_))
  obtain ⟨v2, rfl, h⟩ := h
  refine J_r1 ?_
  refine J_istore_n [(1, .int v2), (0, .ref (eb E + 0))] aX11_liar_7 (by decide) rfl ?_
  refine J_iconst (nI 0) aX11_liar_8 (by decide +kernel) ?_
  refine J_istore_n [(2, .int (nI 0)), (1, .int v2), (0, .ref (eb E + 0))] aX11_liar_9 (by decide) rfl ?_
  refine J_iconst (nI 1) aX11_liar_10 (by decide +kernel) ?_
  refine J_istore_n [(3, .int (nI 1)), (2, .int (nI 0)), (1, .int v2), (0, .ref (eb E + 0))] aX11_liar_11 (by decide) rfl ?_
  refine J_pick [3, 2, 1, 0] rfl ?_
  exact h
theorem S_X11_liar_12 {E : EE} {d : Nat} {I : IH} {Q : QT} (x1 : Int32) (x2 : Int32) (x3 : Int32) (h :
(((nI 5) < x3 → ((¬ x2 = 0 → (Mt E d mJ6_numberOfTrailingZeros_0f7a4 [.int x2] I (fun rv I1 => ∃ v2 : Int32, rv = some (.int v2) ∧
 Q (some (.int v2)) I1))) ∧
 (x2 = 0 → Q (some (.int (-3))) I))) ∧
 (¬ (nI 5) < x3 → J E (d + 1) mX11_liar 20 [(0, .ref (eb E + 0)), (1, .int x1), (2, .int x2), (3, .int x3), (4, .int (nI 0))] [] I Q))) : J E (d + 1) mX11_liar 12 [(0, .ref (eb E + 0)), (1, .int x1), (2, .int x2), (3, .int x3)] [] I Q := by
  refine J_iload_n 3 aX11_liar_12 rfl ?_
  refine J_iconst (nI 5) aX11_liar_13 (by decide +kernel) ?_
  refine J_icmp_gt aX11_liar_14 (fun q => ?_) (fun q => ?_)
  · replace h := h.1 q
    refine J_iload_n 2 aX11_liar_76 rfl ?_
    refine J_if_ne aX11_liar_77 (fun q => ?_) (fun q => ?_)
    · replace h := h.1 q
      refine J_iload_n 2 aX11_liar_85 rfl ?_
      refine J_callS [.int x2] [] aX11_liar_86 lkX11_288 okJ6_numberOfTrailingZeros_0f7a4 rfl rfl (Nat.le_of_ble_eq_true rfl) (Nat.le_refl _) (Mt_mono h (fun rv I1 h => ?_))
      obtain ⟨v2, rfl, h⟩ := h
      refine J_r1 ?_
      exact J_iret aX11_liar_89 rfl h
    · replace h := h.2 q
      refine J_bipush (-3) aX11_liar_80 (by decide +kernel) ?_
      refine J_goto aX11_liar_82 ?_
      exact J_iret aX11_liar_89 rfl h
  · replace h := h.2 q
    refine J_iconst (nI 0) aX11_liar_17 (by decide +kernel) ?_
    refine J_istore [(4, .int (nI 0)), (0, .ref (eb E + 0)), (1, .int x1), (2, .int x2), (3, .int x3)] aX11_liar_18 (by decide) rfl ?_
    refine J_pick [1, 2, 3, 4, 0] rfl ?_
    exact h
theorem S_X11_liar_20 {E : EE} {d : Nat} {I : IH} {Q : QT} (x1 : Int32) (x2 : Int32) (x3 : Int32) (x4 : Int32) (h :
(((nI 255) < x4 → J E (d + 1) mX11_liar 12 [(0, .ref (eb E + 0)), (1, .int x1), (2, .int x2), (3, .int (x3 + nI 1))] [] I Q) ∧
 (¬ (nI 255) < x4 → (Mt E d mX1_wrongReports [.ref (eb E + 33), .int x3, .int x4, .int x1] I (fun rv I1 => ∃ v2 : Int32, rv = some (.int v2) ∧
 ((¬ v2 = 0 → ((¬ (v2 &&& (v2 - (nI 1))) = 0 → J E (d + 1) mX11_liar 20 [(0, .ref (eb E + 0)), (1, .int x1), (2, .int x2), (3, .int x3), (4, .int (x4 + nI 1))] [] I1 Q) ∧
 ((v2 &&& (v2 - (nI 1))) = 0 → J E (d + 1) mX11_liar 20 [(0, .ref (eb E + 0)), (1, .int x1), (2, .int (x2 ||| v2)), (3, .int x3), (4, .int (x4 + nI 1))] [] I1 Q))) ∧
 (v2 = 0 → Q (some (.int (-3))) I1))))))) : J E (d + 1) mX11_liar 20 [(0, .ref (eb E + 0)), (1, .int x1), (2, .int x2), (3, .int x3), (4, .int x4)] [] I Q := by
  refine J_iload 4 aX11_liar_20 rfl ?_
  refine J_sipush (nI 255) aX11_liar_22 (by decide +kernel) ?_
  refine J_icmp_gt aX11_liar_25 (fun q => ?_) (fun q => ?_)
  · replace h := h.1 q
    refine J_iinc (x3 + nI 1) [(3, .int (x3 + nI 1)), (0, .ref (eb E + 0)), (1, .int x1), (2, .int x2), (4, .int x4)] 3 aX11_liar_70 rfl (by first | rfl | (congr 1; decide +kernel)) (by decide) rfl ?_
    refine J_goto aX11_liar_73 ?_
    refine J_pick [1, 2, 3, 0] rfl ?_
    exact h
  · replace h := h.2 q
    refine J_aload_n 0 aX11_liar_28 rfl ?_
    refine J_getR aX11_liar_29 flX11_83 sh0 rfl ?_
    refine J_iload_n 3 aX11_liar_32 rfl ?_
    refine J_iload 4 aX11_liar_33 rfl ?_
    refine J_iload_n 1 aX11_liar_35 rfl ?_
    refine J_callV [.int x3, .int x4, .int x1] [] aX11_liar_36 lkX11_305_X1 okX1_wrongReports sh33 rfl rfl rfl (Nat.le_of_ble_eq_true rfl) (Nat.le_refl _) (Mt_mono h (fun rv I1 h => ?_))
    obtain ⟨v2, rfl, h⟩ := h
    refine J_r1 ?_
    refine J_istore [(5, .int v2), (0, .ref (eb E + 0)), (1, .int x1), (2, .int x2), (3, .int x3), (4, .int x4)] aX11_liar_39 (by decide) rfl ?_
    refine J_iload 0 aX11_liar_41 rfl ?_
    refine J_if_ne aX11_liar_43 (fun q => ?_) (fun q => ?_)
    · replace h := h.1 q
      refine J_iload 0 aX11_liar_49 rfl ?_
      refine J_iload 0 aX11_liar_51 rfl ?_
      refine J_iconst (nI 1) aX11_liar_53 (by decide +kernel) ?_
      refine J_isub aX11_liar_54 ?_
      refine J_iand aX11_liar_55 ?_
      refine J_if_ne aX11_liar_56 (fun q => ?_) (fun q => ?_)
      · replace h := h.1 q
        refine J_iinc (x4 + nI 1) [(4, .int (x4 + nI 1)), (5, .int v2), (0, .ref (eb E + 0)), (1, .int x1), (2, .int x2), (3, .int x3)] 5 aX11_liar_64 rfl (by first | rfl | (congr 1; decide +kernel)) (by decide) rfl ?_
        refine J_goto aX11_liar_67 ?_
        refine J_pick [2, 3, 4, 5, 0] rfl ?_
        exact h
      · replace h := h.2 q
        refine J_iload_n 3 aX11_liar_59 rfl ?_
        refine J_iload 0 aX11_liar_60 rfl ?_
        refine J_ior aX11_liar_62 ?_
        refine J_istore_n [(2, .int (x2 ||| v2)), (5, .int v2), (0, .ref (eb E + 0)), (1, .int x1), (3, .int x3), (4, .int x4)] aX11_liar_63 (by decide) rfl ?_
        refine J_iinc (x4 + nI 1) [(4, .int (x4 + nI 1)), (2, .int (x2 ||| v2)), (5, .int v2), (0, .ref (eb E + 0)), (1, .int x1), (3, .int x3)] 5 aX11_liar_64 rfl (by first | rfl | (congr 1; decide +kernel)) (by decide) rfl ?_
        refine J_goto aX11_liar_67 ?_
        refine J_pick [3, 4, 1, 5, 0] rfl ?_
        exact h
    · replace h := h.2 q
      refine J_bipush (-3) aX11_liar_46 (by decide +kernel) ?_
      exact J_iret aX11_liar_48 rfl h
