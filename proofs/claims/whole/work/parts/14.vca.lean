theorem aX1_isSo_0 : decode mX1_isSo.2.1 0 = .ok (.iload_n 1, 1) ∧ 0 + 1 = 1 := ⟨by decide +kernel, rfl⟩
theorem aX1_isSo_1 : decode mX1_isSo.2.1 1 = .ok (.iconst 4, 1) ∧ 1 + 1 = 2 := ⟨by decide +kernel, rfl⟩
theorem aX1_isSo_2 : decode mX1_isSo.2.1 2 = .ok (.imul, 1) ∧ 2 + 1 = 3 := ⟨by decide +kernel, rfl⟩
theorem aX1_isSo_3 : decode mX1_isSo.2.1 3 = .ok (.istore_n 3, 1) ∧ 3 + 1 = 4 := ⟨by decide +kernel, rfl⟩
theorem aX1_isSo_4 : decode mX1_isSo.2.1 4 = .ok (.aload_n 0, 1) ∧ 4 + 1 = 5 := ⟨by decide +kernel, rfl⟩
theorem aX1_isSo_5 : decode mX1_isSo.2.1 5 = .ok (.getfield 61, 3) ∧ 5 + 3 = 8 := ⟨by decide +kernel, rfl⟩
theorem aX1_isSo_8 : decode mX1_isSo.2.1 8 = .ok (.iload_n 3, 1) ∧ 8 + 1 = 9 := ⟨by decide +kernel, rfl⟩
theorem aX1_isSo_9 : decode mX1_isSo.2.1 9 = .ok (.iconst 1, 1) ∧ 9 + 1 = 10 := ⟨by decide +kernel, rfl⟩
theorem aX1_isSo_10 : decode mX1_isSo.2.1 10 = .ok (.iadd, 1) ∧ 10 + 1 = 11 := ⟨by decide +kernel, rfl⟩
theorem aX1_isSo_11 : decode mX1_isSo.2.1 11 = .ok (.iaload, 1) ∧ 11 + 1 = 12 := ⟨by decide +kernel, rfl⟩
theorem aX1_isSo_12 : decode mX1_isSo.2.1 12 = .ok (.ifCond .ne 10, 3) ∧ ((12 : Nat) : Int) + 10 = ((22 : Nat) : Int) ∧ 12 + 3 = 15 := ⟨by decide +kernel, by decide, rfl⟩
theorem aX1_isSo_15 : decode mX1_isSo.2.1 15 = .ok (.iload_n 2, 1) ∧ 15 + 1 = 16 := ⟨by decide +kernel, rfl⟩
theorem aX1_isSo_16 : decode mX1_isSo.2.1 16 = .ok (.invokestatic 88, 3) ∧ 16 + 3 = 19 := ⟨by decide +kernel, rfl⟩
theorem aX1_isSo_19 : decode mX1_isSo.2.1 19 = .ok (.goto 7, 3) ∧ ((19 : Nat) : Int) + 7 = ((26 : Nat) : Int) := ⟨by decide +kernel, by decide⟩
theorem aX1_isSo_22 : decode mX1_isSo.2.1 22 = .ok (.iload_n 2, 1) ∧ 22 + 1 = 23 := ⟨by decide +kernel, rfl⟩
theorem aX1_isSo_23 : decode mX1_isSo.2.1 23 = .ok (.bipush 16, 2) ∧ 23 + 2 = 25 := ⟨by decide +kernel, rfl⟩
theorem aX1_isSo_25 : decode mX1_isSo.2.1 25 = .ok (.irem, 1) ∧ 25 + 1 = 26 := ⟨by decide +kernel, rfl⟩
theorem aX1_isSo_26 : decode mX1_isSo.2.1 26 = .ok (.istore 4, 2) ∧ 26 + 2 = 28 := ⟨by decide +kernel, rfl⟩
theorem aX1_isSo_28 : decode mX1_isSo.2.1 28 = .ok (.iload 4, 2) ∧ 28 + 2 = 30 := ⟨by decide +kernel, rfl⟩
theorem aX1_isSo_30 : decode mX1_isSo.2.1 30 = .ok (.aload_n 0, 1) ∧ 30 + 1 = 31 := ⟨by decide +kernel, rfl⟩
theorem aX1_isSo_31 : decode mX1_isSo.2.1 31 = .ok (.getfield 61, 3) ∧ 31 + 3 = 34 := ⟨by decide +kernel, rfl⟩
theorem aX1_isSo_34 : decode mX1_isSo.2.1 34 = .ok (.iload_n 3, 1) ∧ 34 + 1 = 35 := ⟨by decide +kernel, rfl⟩
theorem aX1_isSo_35 : decode mX1_isSo.2.1 35 = .ok (.iconst 2, 1) ∧ 35 + 1 = 36 := ⟨by decide +kernel, rfl⟩
theorem aX1_isSo_36 : decode mX1_isSo.2.1 36 = .ok (.iadd, 1) ∧ 36 + 1 = 37 := ⟨by decide +kernel, rfl⟩
theorem aX1_isSo_37 : decode mX1_isSo.2.1 37 = .ok (.iaload, 1) ∧ 37 + 1 = 38 := ⟨by decide +kernel, rfl⟩
theorem aX1_isSo_38 : decode mX1_isSo.2.1 38 = .ok (.if_icmp .lt 20, 3) ∧ ((38 : Nat) : Int) + 20 = ((58 : Nat) : Int) ∧ 38 + 3 = 41 := ⟨by decide +kernel, by decide, rfl⟩
theorem aX1_isSo_41 : decode mX1_isSo.2.1 41 = .ok (.iload 4, 2) ∧ 41 + 2 = 43 := ⟨by decide +kernel, rfl⟩
theorem aX1_isSo_43 : decode mX1_isSo.2.1 43 = .ok (.aload_n 0, 1) ∧ 43 + 1 = 44 := ⟨by decide +kernel, rfl⟩
theorem aX1_isSo_44 : decode mX1_isSo.2.1 44 = .ok (.getfield 61, 3) ∧ 44 + 3 = 47 := ⟨by decide +kernel, rfl⟩
theorem aX1_isSo_47 : decode mX1_isSo.2.1 47 = .ok (.iload_n 3, 1) ∧ 47 + 1 = 48 := ⟨by decide +kernel, rfl⟩
theorem aX1_isSo_48 : decode mX1_isSo.2.1 48 = .ok (.iconst 3, 1) ∧ 48 + 1 = 49 := ⟨by decide +kernel, rfl⟩
theorem aX1_isSo_49 : decode mX1_isSo.2.1 49 = .ok (.iadd, 1) ∧ 49 + 1 = 50 := ⟨by decide +kernel, rfl⟩
theorem aX1_isSo_50 : decode mX1_isSo.2.1 50 = .ok (.iaload, 1) ∧ 50 + 1 = 51 := ⟨by decide +kernel, rfl⟩
theorem aX1_isSo_51 : decode mX1_isSo.2.1 51 = .ok (.if_icmp .gt 7, 3) ∧ ((51 : Nat) : Int) + 7 = ((58 : Nat) : Int) ∧ 51 + 3 = 54 := ⟨by decide +kernel, by decide, rfl⟩
theorem aX1_isSo_54 : decode mX1_isSo.2.1 54 = .ok (.iconst 1, 1) ∧ 54 + 1 = 55 := ⟨by decide +kernel, rfl⟩
theorem aX1_isSo_55 : decode mX1_isSo.2.1 55 = .ok (.goto 4, 3) ∧ ((55 : Nat) : Int) + 4 = ((59 : Nat) : Int) := ⟨by decide +kernel, by decide⟩
theorem aX1_isSo_58 : decode mX1_isSo.2.1 58 = .ok (.iconst 0, 1) ∧ 58 + 1 = 59 := ⟨by decide +kernel, rfl⟩
theorem aX1_isSo_59 : decode mX1_isSo.2.1 59 = .ok (.ireturn, 1) := by decide +kernel
theorem S_X1_isSo {E : EE} {d : Nat} {I : IH} {Q : QT} {e g r : Nat} (hE : isEv e g r) (x1 : Int32) (x2 : Int32) (h :
(∃ j1 : Nat, ((x1 * (nI 4)) + (nI 1)) = nI j1 ∧ j1 < 24 ∧ ((¬ (I (g + 7) j1) = 0 → J E (d + 1) mX1_isSo 26 [(0, .ref (eb E + e)), (3, .int (x1 * (nI 4)))] [.int (x2 - x2 / (nI 16) * (nI 16))] I Q) ∧
 ((I (g + 7) j1) = 0 → (Mt E d mJ6_bitCount_0f7a4 [.int x2] I (fun rv I4 => ∃ v5 : Int32, rv = some (.int v5) ∧
 J E (d + 1) mX1_isSo 26 [(0, .ref (eb E + e)), (3, .int (x1 * (nI 4)))] [.int v5] I4 Q)))))) : Mt E (d + 1) mX1_isSo [.ref (eb E + e), .int x1, .int x2] I Q := by
  refine Mt_of [(0, .ref (eb E + e)), (1, .int x1), (2, .int x2)] (by decide +kernel) (by simp [lg_sl, Value.category, mX1_isSo]) rfl ?_
  refine J_iload_n 1 aX1_isSo_0 rfl ?_
  refine J_iconst (nI 4) aX1_isSo_1 (by decide +kernel) ?_
  refine J_imul aX1_isSo_2 ?_
  refine J_istore_n [(3, .int (x1 * (nI 4))), (0, .ref (eb E + e)), (1, .int x1), (2, .int x2)] aX1_isSo_3 (by decide) rfl ?_
  refine J_aload_n 1 aX1_isSo_4 rfl ?_
  refine J_getR aX1_isSo_5 flX1_61 (shEv hE) rfl ?_
  refine J_iload_n 0 aX1_isSo_8 rfl ?_
  refine J_iconst (nI 1) aX1_isSo_9 (by decide +kernel) ?_
  refine J_iadd aX1_isSo_10 ?_
  obtain ⟨j1, e2, b3, h⟩ := h
  refine J_iaload j1 aX1_isSo_11 (shEv7 hE) e2 b3 (by decide) ?_
  refine J_if_ne aX1_isSo_12 (fun q => ?_) (fun q => ?_)
  · replace h := h.1 q
    refine J_iload_n 3 aX1_isSo_22 rfl ?_
    refine J_bipush (nI 16) aX1_isSo_23 (by decide +kernel) ?_
    refine J_irem aX1_isSo_25 (by decide +kernel) ?_
    refine J_pick [1, 0] rfl ?_
    exact h
  · replace h := h.2 q
    refine J_iload_n 3 aX1_isSo_15 rfl ?_
    refine J_callS [.int x2] [] aX1_isSo_16 lkX1_88 okJ6_bitCount_0f7a4 rfl rfl (Nat.le_of_ble_eq_true rfl) (Nat.le_refl _) (Mt_mono h (fun rv I4 h => ?_))
    obtain ⟨v5, rfl, h⟩ := h
    refine J_r1 ?_
    refine J_goto aX1_isSo_19 ?_
    refine J_pick [1, 0] rfl ?_
    exact h
theorem S_X1_isSo_26 {E : EE} {d : Nat} {I : IH} {Q : QT} {e g r : Nat} (hE : isEv e g r) (x3 : Int32) (t0 : Int32) (h :
(∃ j1 : Nat, (x3 + (nI 2)) = nI j1 ∧ j1 < 24 ∧ ((t0 < (I (g + 7) j1) → Q (some (.int (nI 0))) I) ∧
 (¬ t0 < (I (g + 7) j1) → (∃ j4 : Nat, (x3 + (nI 3)) = nI j4 ∧ j4 < 24 ∧ (((I (g + 7) j4) < t0 → Q (some (.int (nI 0))) I) ∧
 (¬ (I (g + 7) j4) < t0 → Q (some (.int (nI 1))) I))))))) : J E (d + 1) mX1_isSo 26 [(0, .ref (eb E + e)), (3, .int x3)] [.int t0] I Q := by
  refine J_istore [(4, .int t0), (0, .ref (eb E + e)), (3, .int x3)] aX1_isSo_26 (by decide) rfl ?_
  refine J_iload 0 aX1_isSo_28 rfl ?_
  refine J_aload_n 1 aX1_isSo_30 rfl ?_
  refine J_getR aX1_isSo_31 flX1_61 (shEv hE) rfl ?_
  refine J_iload_n 2 aX1_isSo_34 rfl ?_
  refine J_iconst (nI 2) aX1_isSo_35 (by decide +kernel) ?_
  refine J_iadd aX1_isSo_36 ?_
  obtain ⟨j1, e2, b3, h⟩ := h
  refine J_iaload j1 aX1_isSo_37 (shEv7 hE) e2 b3 (by decide) ?_
  refine J_icmp_lt aX1_isSo_38 (fun q => ?_) (fun q => ?_)
  · replace h := h.1 q
    refine J_iconst (nI 0) aX1_isSo_58 (by decide +kernel) ?_
    exact J_zret aX1_isSo_59 rfl (by decide +kernel) h
  · replace h := h.2 q
    refine J_iload 0 aX1_isSo_41 rfl ?_
    refine J_aload_n 1 aX1_isSo_43 rfl ?_
    refine J_getR aX1_isSo_44 flX1_61 (shEv hE) rfl ?_
    refine J_iload_n 2 aX1_isSo_47 rfl ?_
    refine J_iconst (nI 3) aX1_isSo_48 (by decide +kernel) ?_
    refine J_iadd aX1_isSo_49 ?_
    obtain ⟨j4, e5, b6, h⟩ := h
    refine J_iaload j4 aX1_isSo_50 (shEv7 hE) e5 b6 (by decide) ?_
    refine J_icmp_gt aX1_isSo_51 (fun q => ?_) (fun q => ?_)
    · replace h := h.1 q
      refine J_iconst (nI 0) aX1_isSo_58 (by decide +kernel) ?_
      exact J_zret aX1_isSo_59 rfl (by decide +kernel) h
    · replace h := h.2 q
      refine J_iconst (nI 1) aX1_isSo_54 (by decide +kernel) ?_
      refine J_goto aX1_isSo_55 ?_
      exact J_zret aX1_isSo_59 rfl (by decide +kernel) h
theorem aX5_begin_0 : decode mX5_begin.2.1 0 = .ok (.aload_n 0, 1) ∧ 0 + 1 = 1 := ⟨by decide +kernel, rfl⟩
theorem aX5_begin_1 : decode mX5_begin.2.1 1 = .ok (.iload_n 2, 1) ∧ 1 + 1 = 2 := ⟨by decide +kernel, rfl⟩
theorem aX5_begin_2 : decode mX5_begin.2.1 2 = .ok (.aload_n 1, 1) ∧ 2 + 1 = 3 := ⟨by decide +kernel, rfl⟩
theorem aX5_begin_3 : decode mX5_begin.2.1 3 = .ok (.getfield 46, 3) ∧ 3 + 3 = 6 := ⟨by decide +kernel, rfl⟩
theorem aX5_begin_6 : decode mX5_begin.2.1 6 = .ok (.aload_n 1, 1) ∧ 6 + 1 = 7 := ⟨by decide +kernel, rfl⟩
theorem aX5_begin_7 : decode mX5_begin.2.1 7 = .ok (.getfield 49, 3) ∧ 7 + 3 = 10 := ⟨by decide +kernel, rfl⟩
theorem aX5_begin_10 : decode mX5_begin.2.1 10 = .ok (.isub, 1) ∧ 10 + 1 = 11 := ⟨by decide +kernel, rfl⟩
theorem aX5_begin_11 : decode mX5_begin.2.1 11 = .ok (.invokestatic 52, 3) ∧ 11 + 3 = 14 := ⟨by decide +kernel, rfl⟩
theorem aX5_begin_14 : decode mX5_begin.2.1 14 = .ok (.iconst 0, 1) ∧ 14 + 1 = 15 := ⟨by decide +kernel, rfl⟩
theorem aX5_begin_15 : decode mX5_begin.2.1 15 = .ok (.invokestatic 58, 3) ∧ 15 + 3 = 18 := ⟨by decide +kernel, rfl⟩
theorem aX5_begin_18 : decode mX5_begin.2.1 18 = .ok (.putfield 24, 3) ∧ 18 + 3 = 21 := ⟨by decide +kernel, rfl⟩
theorem aX5_begin_21 : decode mX5_begin.2.1 21 = .ok (.iconst 0, 1) ∧ 21 + 1 = 22 := ⟨by decide +kernel, rfl⟩
theorem aX5_begin_22 : decode mX5_begin.2.1 22 = .ok (.istore_n 3, 1) ∧ 22 + 1 = 23 := ⟨by decide +kernel, rfl⟩
theorem aX5_begin_23 : decode mX5_begin.2.1 23 = .ok (.iload_n 3, 1) ∧ 23 + 1 = 24 := ⟨by decide +kernel, rfl⟩
theorem aX5_begin_24 : decode mX5_begin.2.1 24 = .ok (.aload_n 0, 1) ∧ 24 + 1 = 25 := ⟨by decide +kernel, rfl⟩
theorem aX5_begin_25 : decode mX5_begin.2.1 25 = .ok (.getfield 24, 3) ∧ 25 + 3 = 28 := ⟨by decide +kernel, rfl⟩
theorem aX5_begin_28 : decode mX5_begin.2.1 28 = .ok (.if_icmp .gt 19, 3) ∧ ((28 : Nat) : Int) + 19 = ((47 : Nat) : Int) ∧ 28 + 3 = 31 := ⟨by decide +kernel, by decide, rfl⟩
theorem aX5_begin_31 : decode mX5_begin.2.1 31 = .ok (.aload_n 0, 1) ∧ 31 + 1 = 32 := ⟨by decide +kernel, rfl⟩
theorem aX5_begin_32 : decode mX5_begin.2.1 32 = .ok (.getfield 11, 3) ∧ 32 + 3 = 35 := ⟨by decide +kernel, rfl⟩
theorem aX5_begin_35 : decode mX5_begin.2.1 35 = .ok (.iload_n 3, 1) ∧ 35 + 1 = 36 := ⟨by decide +kernel, rfl⟩
theorem aX5_begin_36 : decode mX5_begin.2.1 36 = .ok (.aaload, 1) ∧ 36 + 1 = 37 := ⟨by decide +kernel, rfl⟩
theorem aX5_begin_37 : decode mX5_begin.2.1 37 = .ok (.aload_n 1, 1) ∧ 37 + 1 = 38 := ⟨by decide +kernel, rfl⟩
theorem aX5_begin_38 : decode mX5_begin.2.1 38 = .ok (.invokevirtual 61, 3) ∧ 38 + 3 = 41 := ⟨by decide +kernel, rfl⟩
theorem aX5_begin_41 : decode mX5_begin.2.1 41 = .ok (.iinc 3 1, 3) ∧ 41 + 3 = 44 := ⟨by decide +kernel, rfl⟩
theorem aX5_begin_44 : decode mX5_begin.2.1 44 = .ok (.goto (-21), 3) ∧ ((44 : Nat) : Int) + (-21) = ((23 : Nat) : Int) := ⟨by decide +kernel, by decide⟩
theorem aX5_begin_47 : decode mX5_begin.2.1 47 = .ok (.return_, 1) := by decide +kernel
theorem S_X5_begin {E : EE} {d : Nat} {I : IH} {Q : QT} {e1 g1 r1 : Nat} (hE1 : isEv e1 g1 r1) (x2 : Int32) (h :
(∀ I1 : IH, I1 = stI I 66 3 (if (if ((I e1 2) - (I e1 3)) < x2 then ((I e1 2) - (I e1 3)) else x2) < (nI 0) then (nI 0) else (if ((I e1 2) - (I e1 3)) < x2 then ((I e1 2) - (I e1 3)) else x2)) →
 J E (d + 1) mX5_begin 23 [(0, .ref (eb E + 66)), (1, .ref (eb E + e1)), (3, .int (nI 0))] [] I1 Q)) : Mt E (d + 1) mX5_begin [.ref (eb E + 66), .ref (eb E + e1), .int x2] I Q := by
  refine Mt_of [(0, .ref (eb E + 66)), (1, .ref (eb E + e1)), (2, .int x2)] (by decide +kernel) (by simp [lg_sl, Value.category, mX5_begin]) rfl ?_
  refine J_aload_n 0 aX5_begin_0 rfl ?_
  refine J_iload_n 2 aX5_begin_1 rfl ?_
  refine J_aload_n 1 aX5_begin_2 rfl ?_
  refine J_getI aX5_begin_3 flX5_46 (shEv hE1) rfl ?_
  refine J_aload_n 1 aX5_begin_6 rfl ?_
  refine J_getI aX5_begin_7 flX5_49 (shEv hE1) rfl ?_
  refine J_isub aX5_begin_10 ?_
  refine J_min aX5_begin_11 lkX5_52 mth_smin mth_ini mth_cmin (by omega) (Nat.le_of_ble_eq_true rfl) ?_
  refine J_iconst (nI 0) aX5_begin_14 (by decide +kernel) ?_
  refine J_max aX5_begin_15 lkX5_58 mth_smax mth_ini mth_cmax (by omega) (Nat.le_of_ble_eq_true rfl) ?_
  refine J_putI aX5_begin_18 fpX5_24 sh66 rfl (fun I1 e2 => ?_)
  replace h := h I1 e2
  refine J_iconst (nI 0) aX5_begin_21 (by decide +kernel) ?_
  refine J_istore_n [(3, .int (nI 0)), (0, .ref (eb E + 66)), (1, .ref (eb E + e1)), (2, .int x2)] aX5_begin_22 (by decide) rfl ?_
  refine J_pick [1, 2, 0] rfl ?_
  exact h
theorem S_X5_begin_23 {E : EE} {d : Nat} {I : IH} {Q : QT} {e1 g1 r1 : Nat} (hE1 : isEv e1 g1 r1) (x3 : Int32) (h :
(((I 66 3) < x3 → Q none I) ∧
 (¬ (I 66 3) < x3 → (∃ j1 : Nat, x3 = nI j1 ∧ j1 < 5 ∧ (Mt E d mX1_become [.ref (eb E + (70 + 9 * j1)), .ref (eb E + e1)] I (fun rv I4 => rv = none ∧
 J E (d + 1) mX5_begin 23 [(0, .ref (eb E + 66)), (1, .ref (eb E + e1)), (3, .int (x3 + nI 1))] [] I4 Q)))))) : J E (d + 1) mX5_begin 23 [(0, .ref (eb E + 66)), (1, .ref (eb E + e1)), (3, .int x3)] [] I Q := by
  refine J_iload_n 2 aX5_begin_23 rfl ?_
  refine J_aload_n 0 aX5_begin_24 rfl ?_
  refine J_getI aX5_begin_25 flX5_24 sh66 rfl ?_
  refine J_icmp_gt aX5_begin_28 (fun q => ?_) (fun q => ?_)
  · replace h := h.1 q
    exact J_vret aX5_begin_47 rfl h
  · replace h := h.2 q
    refine J_aload_n 0 aX5_begin_31 rfl ?_
    refine J_getR aX5_begin_32 flX5_11 sh66 rfl ?_
    refine J_iload_n 2 aX5_begin_35 rfl ?_
    obtain ⟨j1, e2, b3, h⟩ := h
    refine J_aaload j1 aX5_begin_36 sh67 (Or.inr rfl) e2 b3 (by decide) (levels_at b3) ?_
    refine J_aload_n 1 aX5_begin_37 rfl ?_
    refine J_callV [.ref (eb E + e1)] [] aX5_begin_38 lkX5_61_X1 okX1_become (shEv (levels_ev b3)) rfl rfl rfl (Nat.le_of_ble_eq_true rfl) (Nat.le_refl _) (Mt_mono h (fun rv I4 h => ?_))
    obtain ⟨rfl, h⟩ := h
    refine J_r0 ?_
    refine J_iinc (x3 + nI 1) [(3, .int (x3 + nI 1)), (0, .ref (eb E + 66)), (1, .ref (eb E + e1))] 2 aX5_begin_41 rfl (by first | rfl | (congr 1; decide +kernel)) (by decide) rfl ?_
    refine J_goto aX5_begin_44 ?_
    refine J_pick [1, 2, 0] rfl ?_
    exact h
theorem aX5_search_0 : decode mX5_search.2.1 0 = .ok (.aload_n 0, 1) ∧ 0 + 1 = 1 := ⟨by decide +kernel, rfl⟩
theorem aX5_search_1 : decode mX5_search.2.1 1 = .ok (.aload_n 1, 1) ∧ 1 + 1 = 2 := ⟨by decide +kernel, rfl⟩
theorem aX5_search_2 : decode mX5_search.2.1 2 = .ok (.iload_n 2, 1) ∧ 2 + 1 = 3 := ⟨by decide +kernel, rfl⟩
theorem aX5_search_3 : decode mX5_search.2.1 3 = .ok (.invokevirtual 65, 3) ∧ 3 + 3 = 6 := ⟨by decide +kernel, rfl⟩
theorem aX5_search_6 : decode mX5_search.2.1 6 = .ok (.aload_n 0, 1) ∧ 6 + 1 = 7 := ⟨by decide +kernel, rfl⟩
theorem aX5_search_7 : decode mX5_search.2.1 7 = .ok (.iload_n 3, 1) ∧ 7 + 1 = 8 := ⟨by decide +kernel, rfl⟩
theorem aX5_search_8 : decode mX5_search.2.1 8 = .ok (.putfield 34, 3) ∧ 8 + 3 = 11 := ⟨by decide +kernel, rfl⟩
theorem aX5_search_11 : decode mX5_search.2.1 11 = .ok (.aload_n 0, 1) ∧ 11 + 1 = 12 := ⟨by decide +kernel, rfl⟩
theorem aX5_search_12 : decode mX5_search.2.1 12 = .ok (.iconst 0, 1) ∧ 12 + 1 = 13 := ⟨by decide +kernel, rfl⟩
theorem aX5_search_13 : decode mX5_search.2.1 13 = .ok (.putfield 31, 3) ∧ 13 + 3 = 16 := ⟨by decide +kernel, rfl⟩
theorem aX5_search_16 : decode mX5_search.2.1 16 = .ok (.aload_n 0, 1) ∧ 16 + 1 = 17 := ⟨by decide +kernel, rfl⟩
theorem aX5_search_17 : decode mX5_search.2.1 17 = .ok (.iconst 0, 1) ∧ 17 + 1 = 18 := ⟨by decide +kernel, rfl⟩
theorem aX5_search_18 : decode mX5_search.2.1 18 = .ok (.putfield 28, 3) ∧ 18 + 3 = 21 := ⟨by decide +kernel, rfl⟩
theorem aX5_search_21 : decode mX5_search.2.1 21 = .ok (.aload_n 0, 1) ∧ 21 + 1 = 22 := ⟨by decide +kernel, rfl⟩
theorem aX5_search_22 : decode mX5_search.2.1 22 = .ok (.iconst 5, 1) ∧ 22 + 1 = 23 := ⟨by decide +kernel, rfl⟩
theorem aX5_search_23 : decode mX5_search.2.1 23 = .ok (.putfield 37, 3) ∧ 23 + 3 = 26 := ⟨by decide +kernel, rfl⟩
theorem aX5_search_26 : decode mX5_search.2.1 26 = .ok (.aload_n 0, 1) ∧ 26 + 1 = 27 := ⟨by decide +kernel, rfl⟩
theorem aX5_search_27 : decode mX5_search.2.1 27 = .ok (.iconst 0, 1) ∧ 27 + 1 = 28 := ⟨by decide +kernel, rfl⟩
theorem aX5_search_28 : decode mX5_search.2.1 28 = .ok (.putfield 40, 3) ∧ 28 + 3 = 31 := ⟨by decide +kernel, rfl⟩
theorem aX5_search_31 : decode mX5_search.2.1 31 = .ok (.aload_n 0, 1) ∧ 31 + 1 = 32 := ⟨by decide +kernel, rfl⟩
theorem aX5_search_32 : decode mX5_search.2.1 32 = .ok (.iconst 0, 1) ∧ 32 + 1 = 33 := ⟨by decide +kernel, rfl⟩
theorem aX5_search_33 : decode mX5_search.2.1 33 = .ok (.iconst 0, 1) ∧ 33 + 1 = 34 := ⟨by decide +kernel, rfl⟩
theorem aX5_search_34 : decode mX5_search.2.1 34 = .ok (.iconst 0, 1) ∧ 34 + 1 = 35 := ⟨by decide +kernel, rfl⟩
theorem aX5_search_35 : decode mX5_search.2.1 35 = .ok (.invokevirtual 69, 3) ∧ 35 + 3 = 38 := ⟨by decide +kernel, rfl⟩
theorem aX5_search_38 : decode mX5_search.2.1 38 = .ok (.return_, 1) := by decide +kernel
theorem S_X5_search {E : EE} {d : Nat} {I : IH} {Q : QT} {e1 g1 r1 : Nat} (hE1 : isEv e1 g1 r1) (x2 : Int32) (x3 : Int32) (h :
(Mt E d mX5_begin [.ref (eb E + 66), .ref (eb E + e1), .int x2] I (fun rv I1 => rv = none ∧
 (∀ I2 : IH, I2 = stI I1 66 6 x3 →
 (∀ I4 : IH, I4 = stI I2 66 5 (nI 0) →
 (∀ I6 : IH, I6 = stI I4 66 4 (nI 0) →
 (∀ I8 : IH, I8 = stI I6 66 7 (nI 5) →
 (∀ I10 : IH, I10 = stI I8 66 8 (nI 0) →
 (Mt E d mX5_explore [.ref (eb E + 66), .int (nI 0), .int (nI 0), .int (nI 0)] I10 (fun rv I12 => rv = none ∧
 Q none I12)))))))))) : Mt E (d + 1) mX5_search [.ref (eb E + 66), .ref (eb E + e1), .int x2, .int x3] I Q := by
  refine Mt_of [(0, .ref (eb E + 66)), (1, .ref (eb E + e1)), (2, .int x2), (3, .int x3)] (by decide +kernel) (by simp [lg_sl, Value.category, mX5_search]) rfl ?_
  refine J_aload_n 0 aX5_search_0 rfl ?_
  refine J_aload_n 1 aX5_search_1 rfl ?_
  refine J_iload_n 2 aX5_search_2 rfl ?_
  refine J_callV [.ref (eb E + e1), .int x2] [] aX5_search_3 lkX5_65_X5 okX5_begin sh66 rfl rfl rfl (Nat.le_of_ble_eq_true rfl) (Nat.le_refl _) (Mt_mono h (fun rv I1 h => ?_))
  obtain ⟨rfl, h⟩ := h
  refine J_r0 ?_
  refine J_aload_n 0 aX5_search_6 rfl ?_
  refine J_iload_n 3 aX5_search_7 rfl ?_
  refine J_putI aX5_search_8 fpX5_34 sh66 rfl (fun I2 e3 => ?_)
  replace h := h I2 e3
  refine J_aload_n 0 aX5_search_11 rfl ?_
  refine J_iconst (nI 0) aX5_search_12 (by decide +kernel) ?_
  refine J_putI aX5_search_13 fpX5_31 sh66 rfl (fun I4 e5 => ?_)
  replace h := h I4 e5
  refine J_aload_n 0 aX5_search_16 rfl ?_
  refine J_iconst (nI 0) aX5_search_17 (by decide +kernel) ?_
  refine J_putI aX5_search_18 fpX5_28 sh66 rfl (fun I6 e7 => ?_)
  replace h := h I6 e7
  refine J_aload_n 0 aX5_search_21 rfl ?_
  refine J_iconst (nI 5) aX5_search_22 (by decide +kernel) ?_
  refine J_putI aX5_search_23 fpX5_37 sh66 rfl (fun I8 e9 => ?_)
  replace h := h I8 e9
  refine J_aload_n 0 aX5_search_26 rfl ?_
  refine J_iconst (nI 0) aX5_search_27 (by decide +kernel) ?_
  refine J_putI aX5_search_28 fpX5_40 sh66 rfl (fun I10 e11 => ?_)
  replace h := h I10 e11
  refine J_aload_n 0 aX5_search_31 rfl ?_
  refine J_iconst (nI 0) aX5_search_32 (by decide +kernel) ?_
  refine J_iconst (nI 0) aX5_search_33 (by decide +kernel) ?_
  refine J_iconst (nI 0) aX5_search_34 (by decide +kernel) ?_
  refine J_callV [.int (nI 0), .int (nI 0), .int (nI 0)] [] aX5_search_35 lkX5_69_X5 okX5_explore sh66 rfl rfl rfl (Nat.le_of_ble_eq_true rfl) (Nat.le_refl _) (Mt_mono h (fun rv I12 h => ?_))
  obtain ⟨rfl, h⟩ := h
  refine J_r0 ?_
  exact J_vret aX5_search_38 rfl h
theorem aX5_explore_0 : decode mX5_explore.2.1 0 = .ok (.aload_n 0, 1) ∧ 0 + 1 = 1 := ⟨by decide +kernel, rfl⟩
theorem aX5_explore_1 : decode mX5_explore.2.1 1 = .ok (.getfield 11, 3) ∧ 1 + 3 = 4 := ⟨by decide +kernel, rfl⟩
theorem aX5_explore_4 : decode mX5_explore.2.1 4 = .ok (.iload_n 1, 1) ∧ 4 + 1 = 5 := ⟨by decide +kernel, rfl⟩
theorem aX5_explore_5 : decode mX5_explore.2.1 5 = .ok (.aaload, 1) ∧ 5 + 1 = 6 := ⟨by decide +kernel, rfl⟩
theorem aX5_explore_6 : decode mX5_explore.2.1 6 = .ok (.astore 4, 2) ∧ 6 + 2 = 8 := ⟨by decide +kernel, rfl⟩
theorem aX5_explore_8 : decode mX5_explore.2.1 8 = .ok (.iload_n 1, 1) ∧ 8 + 1 = 9 := ⟨by decide +kernel, rfl⟩
theorem aX5_explore_9 : decode mX5_explore.2.1 9 = .ok (.aload_n 0, 1) ∧ 9 + 1 = 10 := ⟨by decide +kernel, rfl⟩
theorem aX5_explore_10 : decode mX5_explore.2.1 10 = .ok (.getfield 24, 3) ∧ 10 + 3 = 13 := ⟨by decide +kernel, rfl⟩
theorem aX5_explore_13 : decode mX5_explore.2.1 13 = .ok (.if_icmp .lt 15, 3) ∧ ((13 : Nat) : Int) + 15 = ((28 : Nat) : Int) ∧ 13 + 3 = 16 := ⟨by decide +kernel, by decide, rfl⟩
theorem aX5_explore_16 : decode mX5_explore.2.1 16 = .ok (.aload_n 0, 1) ∧ 16 + 1 = 17 := ⟨by decide +kernel, rfl⟩
theorem aX5_explore_17 : decode mX5_explore.2.1 17 = .ok (.aload 4, 2) ∧ 17 + 2 = 19 := ⟨by decide +kernel, rfl⟩
theorem aX5_explore_19 : decode mX5_explore.2.1 19 = .ok (.getfield 73, 3) ∧ 19 + 3 = 22 := ⟨by decide +kernel, rfl⟩
theorem aX5_explore_22 : decode mX5_explore.2.1 22 = .ok (.iload_n 2, 1) ∧ 22 + 1 = 23 := ⟨by decide +kernel, rfl⟩
theorem aX5_explore_23 : decode mX5_explore.2.1 23 = .ok (.iload_n 3, 1) ∧ 23 + 1 = 24 := ⟨by decide +kernel, rfl⟩
theorem aX5_explore_24 : decode mX5_explore.2.1 24 = .ok (.invokevirtual 76, 3) ∧ 24 + 3 = 27 := ⟨by decide +kernel, rfl⟩
theorem aX5_explore_27 : decode mX5_explore.2.1 27 = .ok (.return_, 1) := by decide +kernel
theorem aX5_explore_28 : decode mX5_explore.2.1 28 = .ok (.aload_n 0, 1) ∧ 28 + 1 = 29 := ⟨by decide +kernel, rfl⟩
theorem aX5_explore_29 : decode mX5_explore.2.1 29 = .ok (.getfield 11, 3) ∧ 29 + 3 = 32 := ⟨by decide +kernel, rfl⟩
theorem aX5_explore_32 : decode mX5_explore.2.1 32 = .ok (.iload_n 1, 1) ∧ 32 + 1 = 33 := ⟨by decide +kernel, rfl⟩
theorem aX5_explore_33 : decode mX5_explore.2.1 33 = .ok (.iconst 1, 1) ∧ 33 + 1 = 34 := ⟨by decide +kernel, rfl⟩
theorem aX5_explore_34 : decode mX5_explore.2.1 34 = .ok (.iadd, 1) ∧ 34 + 1 = 35 := ⟨by decide +kernel, rfl⟩
theorem aX5_explore_35 : decode mX5_explore.2.1 35 = .ok (.aaload, 1) ∧ 35 + 1 = 36 := ⟨by decide +kernel, rfl⟩
theorem aX5_explore_36 : decode mX5_explore.2.1 36 = .ok (.astore 5, 2) ∧ 36 + 2 = 38 := ⟨by decide +kernel, rfl⟩
theorem aX5_explore_38 : decode mX5_explore.2.1 38 = .ok (.iconst 0, 1) ∧ 38 + 1 = 39 := ⟨by decide +kernel, rfl⟩
theorem aX5_explore_39 : decode mX5_explore.2.1 39 = .ok (.istore 6, 2) ∧ 39 + 2 = 41 := ⟨by decide +kernel, rfl⟩
theorem aX5_explore_41 : decode mX5_explore.2.1 41 = .ok (.iload 6, 2) ∧ 41 + 2 = 43 := ⟨by decide +kernel, rfl⟩
theorem aX5_explore_43 : decode mX5_explore.2.1 43 = .ok (.aload 4, 2) ∧ 43 + 2 = 45 := ⟨by decide +kernel, rfl⟩
theorem aX5_explore_45 : decode mX5_explore.2.1 45 = .ok (.getfield 79, 3) ∧ 45 + 3 = 48 := ⟨by decide +kernel, rfl⟩
theorem aX5_explore_48 : decode mX5_explore.2.1 48 = .ok (.if_icmp .gt 52, 3) ∧ ((48 : Nat) : Int) + 52 = ((100 : Nat) : Int) ∧ 48 + 3 = 51 := ⟨by decide +kernel, by decide, rfl⟩
theorem aX5_explore_51 : decode mX5_explore.2.1 51 = .ok (.aload 5, 2) ∧ 51 + 2 = 53 := ⟨by decide +kernel, rfl⟩
theorem aX5_explore_53 : decode mX5_explore.2.1 53 = .ok (.aload 4, 2) ∧ 53 + 2 = 55 := ⟨by decide +kernel, rfl⟩
theorem aX5_explore_55 : decode mX5_explore.2.1 55 = .ok (.invokevirtual 82, 3) ∧ 55 + 3 = 58 := ⟨by decide +kernel, rfl⟩
theorem aX5_explore_58 : decode mX5_explore.2.1 58 = .ok (.aload_n 0, 1) ∧ 58 + 1 = 59 := ⟨by decide +kernel, rfl⟩
theorem aX5_explore_59 : decode mX5_explore.2.1 59 = .ok (.getfield 17, 3) ∧ 59 + 3 = 62 := ⟨by decide +kernel, rfl⟩
theorem aX5_explore_62 : decode mX5_explore.2.1 62 = .ok (.iload_n 1, 1) ∧ 62 + 1 = 63 := ⟨by decide +kernel, rfl⟩
theorem aX5_explore_63 : decode mX5_explore.2.1 63 = .ok (.iload 6, 2) ∧ 63 + 2 = 65 := ⟨by decide +kernel, rfl⟩
theorem aX5_explore_65 : decode mX5_explore.2.1 65 = .ok (.iastore, 1) ∧ 65 + 1 = 66 := ⟨by decide +kernel, rfl⟩
theorem aX5_explore_66 : decode mX5_explore.2.1 66 = .ok (.aload_n 0, 1) ∧ 66 + 1 = 67 := ⟨by decide +kernel, rfl⟩
theorem aX5_explore_67 : decode mX5_explore.2.1 67 = .ok (.iload_n 1, 1) ∧ 67 + 1 = 68 := ⟨by decide +kernel, rfl⟩
theorem aX5_explore_68 : decode mX5_explore.2.1 68 = .ok (.iconst 1, 1) ∧ 68 + 1 = 69 := ⟨by decide +kernel, rfl⟩
theorem aX5_explore_69 : decode mX5_explore.2.1 69 = .ok (.iadd, 1) ∧ 69 + 1 = 70 := ⟨by decide +kernel, rfl⟩
theorem aX5_explore_70 : decode mX5_explore.2.1 70 = .ok (.iload_n 2, 1) ∧ 70 + 1 = 71 := ⟨by decide +kernel, rfl⟩
theorem aX5_explore_71 : decode mX5_explore.2.1 71 = .ok (.aload 5, 2) ∧ 71 + 2 = 73 := ⟨by decide +kernel, rfl⟩
theorem aX5_explore_73 : decode mX5_explore.2.1 73 = .ok (.iload 6, 2) ∧ 73 + 2 = 75 := ⟨by decide +kernel, rfl⟩
theorem aX5_explore_75 : decode mX5_explore.2.1 75 = .ok (.invokevirtual 85, 3) ∧ 75 + 3 = 78 := ⟨by decide +kernel, rfl⟩
theorem aX5_explore_78 : decode mX5_explore.2.1 78 = .ok (.iadd, 1) ∧ 78 + 1 = 79 := ⟨by decide +kernel, rfl⟩
theorem aX5_explore_79 : decode mX5_explore.2.1 79 = .ok (.iload 6, 2) ∧ 79 + 2 = 81 := ⟨by decide +kernel, rfl⟩
theorem aX5_explore_81 : decode mX5_explore.2.1 81 = .ok (.ifCond .ne 7, 3) ∧ ((81 : Nat) : Int) + 7 = ((88 : Nat) : Int) ∧ 81 + 3 = 84 := ⟨by decide +kernel, by decide, rfl⟩
theorem aX5_explore_84 : decode mX5_explore.2.1 84 = .ok (.iload_n 3, 1) ∧ 84 + 1 = 85 := ⟨by decide +kernel, rfl⟩
theorem aX5_explore_85 : decode mX5_explore.2.1 85 = .ok (.goto 6, 3) ∧ ((85 : Nat) : Int) + 6 = ((91 : Nat) : Int) := ⟨by decide +kernel, by decide⟩
theorem aX5_explore_88 : decode mX5_explore.2.1 88 = .ok (.iload_n 3, 1) ∧ 88 + 1 = 89 := ⟨by decide +kernel, rfl⟩
theorem aX5_explore_89 : decode mX5_explore.2.1 89 = .ok (.iconst 1, 1) ∧ 89 + 1 = 90 := ⟨by decide +kernel, rfl⟩
theorem aX5_explore_90 : decode mX5_explore.2.1 90 = .ok (.iadd, 1) ∧ 90 + 1 = 91 := ⟨by decide +kernel, rfl⟩
theorem aX5_explore_91 : decode mX5_explore.2.1 91 = .ok (.invokevirtual 69, 3) ∧ 91 + 3 = 94 := ⟨by decide +kernel, rfl⟩
theorem aX5_explore_94 : decode mX5_explore.2.1 94 = .ok (.iinc 6 1, 3) ∧ 94 + 3 = 97 := ⟨by decide +kernel, rfl⟩
theorem aX5_explore_97 : decode mX5_explore.2.1 97 = .ok (.goto (-56), 3) ∧ ((97 : Nat) : Int) + (-56) = ((41 : Nat) : Int) := ⟨by decide +kernel, by decide⟩
theorem aX5_explore_100 : decode mX5_explore.2.1 100 = .ok (.return_, 1) := by decide +kernel
theorem S_X5_explore {E : EE} {d : Nat} {I : IH} {Q : QT} (x1 : Int32) (x2 : Int32) (x3 : Int32) (h :
(∃ j1 : Nat, x1 = nI j1 ∧ j1 < 5 ∧ ((x1 < (I 66 3) → (∃ j4 : Nat, (x1 + (nI 1)) = nI j4 ∧ j4 < 5 ∧ J E (d + 1) mX5_explore 41 [(0, .ref (eb E + 66)), (1, .int x1), (2, .int x2), (3, .int x3), (4, .ref (eb E + (70 + 9 * j1))), (5, .ref (eb E + (70 + 9 * j4))), (6, .int (nI 0))] [] I Q)) ∧
 (¬ x1 < (I 66 3) → (Mt E d mX5_note [.ref (eb E + 66), .int (I (70 + 9 * j1) 8), .int x2, .int x3] I (fun rv I7 => rv = none ∧
 Q none I7)))))) : Mt E (d + 1) mX5_explore [.ref (eb E + 66), .int x1, .int x2, .int x3] I Q := by
  refine Mt_of [(0, .ref (eb E + 66)), (1, .int x1), (2, .int x2), (3, .int x3)] (by decide +kernel) (by simp [lg_sl, Value.category, mX5_explore]) rfl ?_
  refine J_aload_n 0 aX5_explore_0 rfl ?_
  refine J_getR aX5_explore_1 flX5_11 sh66 rfl ?_
  refine J_iload_n 1 aX5_explore_4 rfl ?_
  obtain ⟨j1, e2, b3, h⟩ := h
  refine J_aaload j1 aX5_explore_5 sh67 (Or.inr rfl) e2 b3 (by decide) (levels_at b3) ?_
  refine J_astore [(4, .ref (eb E + (70 + 9 * j1))), (0, .ref (eb E + 66)), (1, .int x1), (2, .int x2), (3, .int x3)] aX5_explore_6 (by decide) rfl ?_
  refine J_iload_n 2 aX5_explore_8 rfl ?_
  refine J_aload_n 1 aX5_explore_9 rfl ?_
  refine J_getI aX5_explore_10 flX5_24 sh66 rfl ?_
  refine J_icmp_lt aX5_explore_13 (fun q => ?_) (fun q => ?_)
  · replace h := h.1 q
    refine J_aload_n 1 aX5_explore_28 rfl ?_
    refine J_getR aX5_explore_29 flX5_11 sh66 rfl ?_
    refine J_iload_n 2 aX5_explore_32 rfl ?_
    refine J_iconst (nI 1) aX5_explore_33 (by decide +kernel) ?_
    refine J_iadd aX5_explore_34 ?_
    obtain ⟨j4, e5, b6, h⟩ := h
    refine J_aaload j4 aX5_explore_35 sh67 (Or.inr rfl) e5 b6 (by decide) (levels_at b6) ?_
    refine J_astore [(5, .ref (eb E + (70 + 9 * j4))), (4, .ref (eb E + (70 + 9 * j1))), (0, .ref (eb E + 66)), (1, .int x1), (2, .int x2), (3, .int x3)] aX5_explore_36 (by decide) rfl ?_
    refine J_iconst (nI 0) aX5_explore_38 (by decide +kernel) ?_
    refine J_istore [(6, .int (nI 0)), (5, .ref (eb E + (70 + 9 * j4))), (4, .ref (eb E + (70 + 9 * j1))), (0, .ref (eb E + 66)), (1, .int x1), (2, .int x2), (3, .int x3)] aX5_explore_39 (by decide) rfl ?_
    refine J_pick [3, 4, 5, 6, 2, 1, 0] rfl ?_
    exact h
  · replace h := h.2 q
    refine J_aload_n 1 aX5_explore_16 rfl ?_
    refine J_aload 0 aX5_explore_17 rfl ?_
    refine J_getI aX5_explore_19 flX5_73 (shEv (levels_ev b3)) rfl ?_
    refine J_iload_n 3 aX5_explore_22 rfl ?_
    refine J_iload_n 4 aX5_explore_23 rfl ?_
    refine J_callV [.int (I (70 + 9 * j1) 8), .int x2, .int x3] [] aX5_explore_24 lkX5_76_X5 okX5_note sh66 rfl rfl rfl (Nat.le_of_ble_eq_true rfl) (Nat.le_refl _) (Mt_mono h (fun rv I7 h => ?_))
    obtain ⟨rfl, h⟩ := h
    refine J_r0 ?_
    exact J_vret aX5_explore_27 rfl h
theorem S_X5_explore_41 {E : EE} {d : Nat} {I : IH} {Q : QT} (x1 : Int32) (x2 : Int32) (x3 : Int32) {e4 g4 r4 : Nat} (hE4 : isEv e4 g4 r4) {e5 g5 r5 : Nat} (hE5 : isEv e5 g5 r5) (x6 : Int32) (h :
(((I e4 7) < x6 → Q none I) ∧
 (¬ (I e4 7) < x6 → (Mt E d mX1_moveTo [.ref (eb E + e5), .ref (eb E + e4)] I (fun rv I1 => rv = none ∧
 (∃ j4 : Nat, x1 = nI j4 ∧ j4 < 4 ∧ (∀ I2 : IH, I2 = stI I1 68 j4 x6 →
 (Mt E d mX1_go [.ref (eb E + e5), .int x6] I2 (fun rv I7 => ∃ v8 : Int32, rv = some (.int v8) ∧
 ((¬ x6 = 0 → J E (d + 1) mX5_explore 91 [(0, .ref (eb E + 66)), (1, .int x1), (2, .int x2), (3, .int x3), (4, .ref (eb E + e4)), (5, .ref (eb E + e5)), (6, .int x6)] [.int (x3 + (nI 1)), .int (x2 + v8), .int (x1 + (nI 1)), .ref (eb E + 66)] I7 Q) ∧
 (x6 = 0 → J E (d + 1) mX5_explore 91 [(0, .ref (eb E + 66)), (1, .int x1), (2, .int x2), (3, .int x3), (4, .ref (eb E + e4)), (5, .ref (eb E + e5)), (6, .int x6)] [.int x3, .int (x2 + v8), .int (x1 + (nI 1)), .ref (eb E + 66)] I7 Q))))))))))) : J E (d + 1) mX5_explore 41 [(0, .ref (eb E + 66)), (1, .int x1), (2, .int x2), (3, .int x3), (4, .ref (eb E + e4)), (5, .ref (eb E + e5)), (6, .int x6)] [] I Q := by
  refine J_iload 6 aX5_explore_41 rfl ?_
  refine J_aload 4 aX5_explore_43 rfl ?_
  refine J_getI aX5_explore_45 flX5_79 (shEv hE4) rfl ?_
  refine J_icmp_gt aX5_explore_48 (fun q => ?_) (fun q => ?_)
  · replace h := h.1 q
    exact J_vret aX5_explore_100 rfl h
  · replace h := h.2 q
    refine J_aload 5 aX5_explore_51 rfl ?_
    refine J_aload 4 aX5_explore_53 rfl ?_
    refine J_callV [.ref (eb E + e4)] [] aX5_explore_55 lkX5_82_X1 okX1_moveTo (shEv hE5) rfl rfl rfl (Nat.le_of_ble_eq_true rfl) (Nat.le_refl _) (Mt_mono h (fun rv I1 h => ?_))
    obtain ⟨rfl, h⟩ := h
    refine J_r0 ?_
    refine J_aload_n 0 aX5_explore_58 rfl ?_
    refine J_getR aX5_explore_59 flX5_17 sh66 rfl ?_
    refine J_iload_n 1 aX5_explore_62 rfl ?_
    refine J_iload 6 aX5_explore_63 rfl ?_
    obtain ⟨j4, e5, b6, h⟩ := h
    refine J_iastore j4 aX5_explore_65 sh68 e5 b6 (by decide) (fun I2 e3 => ?_)
    replace h := h I2 e3
    refine J_aload_n 0 aX5_explore_66 rfl ?_
    refine J_iload_n 1 aX5_explore_67 rfl ?_
    refine J_iconst (nI 1) aX5_explore_68 (by decide +kernel) ?_
    refine J_iadd aX5_explore_69 ?_
    refine J_iload_n 2 aX5_explore_70 rfl ?_
    refine J_aload 5 aX5_explore_71 rfl ?_
    refine J_iload 6 aX5_explore_73 rfl ?_
    refine J_callV [.int x6] [.int x2, .int (x1 + (nI 1)), .ref (eb E + 66)] aX5_explore_75 lkX5_85_X1 okX1_go (shEv hE5) rfl rfl rfl (Nat.le_of_ble_eq_true rfl) (Nat.le_refl _) (Mt_mono h (fun rv I7 h => ?_))
    obtain ⟨v8, rfl, h⟩ := h
    refine J_r1 ?_
    refine J_iadd aX5_explore_78 ?_
    refine J_iload 6 aX5_explore_79 rfl ?_
    refine J_if_ne aX5_explore_81 (fun q => ?_) (fun q => ?_)
    · replace h := h.1 q
      refine J_iload_n 3 aX5_explore_88 rfl ?_
      refine J_iconst (nI 1) aX5_explore_89 (by decide +kernel) ?_
      refine J_iadd aX5_explore_90 ?_
      refine J_pick [0, 1, 2, 3, 4, 5, 6] rfl ?_
      exact h
    · replace h := h.2 q
      refine J_iload_n 3 aX5_explore_84 rfl ?_
      refine J_goto aX5_explore_85 ?_
      refine J_pick [0, 1, 2, 3, 4, 5, 6] rfl ?_
      exact h
theorem S_X5_explore_91 {E : EE} {d : Nat} {I : IH} {Q : QT} (x1 : Int32) (x2 : Int32) (x3 : Int32) {e4 g4 r4 : Nat} (hE4 : isEv e4 g4 r4) {e5 g5 r5 : Nat} (hE5 : isEv e5 g5 r5) (x6 : Int32) (t0 : Int32) (t1 : Int32) (t2 : Int32) (h :
(Mt E d mX5_explore [.ref (eb E + 66), .int t2, .int t1, .int t0] I (fun rv I1 => rv = none ∧
 J E (d + 1) mX5_explore 41 [(0, .ref (eb E + 66)), (1, .int x1), (2, .int x2), (3, .int x3), (4, .ref (eb E + e4)), (5, .ref (eb E + e5)), (6, .int (x6 + nI 1))] [] I1 Q))) : J E (d + 1) mX5_explore 91 [(0, .ref (eb E + 66)), (1, .int x1), (2, .int x2), (3, .int x3), (4, .ref (eb E + e4)), (5, .ref (eb E + e5)), (6, .int x6)] [.int t0, .int t1, .int t2, .ref (eb E + 66)] I Q := by
  refine J_callV [.int t2, .int t1, .int t0] [] aX5_explore_91 lkX5_69_X5 okX5_explore sh66 rfl rfl rfl (Nat.le_of_ble_eq_true rfl) (Nat.le_refl _) (Mt_mono h (fun rv I1 h => ?_))
  obtain ⟨rfl, h⟩ := h
  refine J_r0 ?_
  refine J_iinc (x6 + nI 1) [(6, .int (x6 + nI 1)), (0, .ref (eb E + 66)), (1, .int x1), (2, .int x2), (3, .int x3), (4, .ref (eb E + e4)), (5, .ref (eb E + e5))] 6 aX5_explore_94 rfl (by first | rfl | (congr 1; decide +kernel)) (by decide) rfl ?_
  refine J_goto aX5_explore_97 ?_
  refine J_pick [1, 2, 3, 4, 5, 6, 0] rfl ?_
  exact h
theorem aX5_note_0 : decode mX5_note.2.1 0 = .ok (.aload_n 0, 1) ∧ 0 + 1 = 1 := ⟨by decide +kernel, rfl⟩
theorem aX5_note_1 : decode mX5_note.2.1 1 = .ok (.dup, 1) ∧ 1 + 1 = 2 := ⟨by decide +kernel, rfl⟩
theorem aX5_note_2 : decode mX5_note.2.1 2 = .ok (.getfield 40, 3) ∧ 2 + 3 = 5 := ⟨by decide +kernel, rfl⟩
theorem aX5_note_5 : decode mX5_note.2.1 5 = .ok (.iload_n 1, 1) ∧ 5 + 1 = 6 := ⟨by decide +kernel, rfl⟩
theorem aX5_note_6 : decode mX5_note.2.1 6 = .ok (.ior, 1) ∧ 6 + 1 = 7 := ⟨by decide +kernel, rfl⟩
theorem aX5_note_7 : decode mX5_note.2.1 7 = .ok (.putfield 40, 3) ∧ 7 + 3 = 10 := ⟨by decide +kernel, rfl⟩
theorem aX5_note_10 : decode mX5_note.2.1 10 = .ok (.iload_n 1, 1) ∧ 10 + 1 = 11 := ⟨by decide +kernel, rfl⟩
theorem aX5_note_11 : decode mX5_note.2.1 11 = .ok (.aload_n 0, 1) ∧ 11 + 1 = 12 := ⟨by decide +kernel, rfl⟩
theorem aX5_note_12 : decode mX5_note.2.1 12 = .ok (.getfield 34, 3) ∧ 12 + 3 = 15 := ⟨by decide +kernel, rfl⟩
theorem aX5_note_15 : decode mX5_note.2.1 15 = .ok (.iand, 1) ∧ 15 + 1 = 16 := ⟨by decide +kernel, rfl⟩
theorem aX5_note_16 : decode mX5_note.2.1 16 = .ok (.aload_n 0, 1) ∧ 16 + 1 = 17 := ⟨by decide +kernel, rfl⟩
theorem aX5_note_17 : decode mX5_note.2.1 17 = .ok (.getfield 34, 3) ∧ 17 + 3 = 20 := ⟨by decide +kernel, rfl⟩
theorem aX5_note_20 : decode mX5_note.2.1 20 = .ok (.if_icmp .ne 15, 3) ∧ ((20 : Nat) : Int) + 15 = ((35 : Nat) : Int) ∧ 20 + 3 = 23 := ⟨by decide +kernel, by decide, rfl⟩
theorem aX5_note_23 : decode mX5_note.2.1 23 = .ok (.aload_n 0, 1) ∧ 23 + 1 = 24 := ⟨by decide +kernel, rfl⟩
theorem aX5_note_24 : decode mX5_note.2.1 24 = .ok (.aload_n 0, 1) ∧ 24 + 1 = 25 := ⟨by decide +kernel, rfl⟩
theorem aX5_note_25 : decode mX5_note.2.1 25 = .ok (.getfield 37, 3) ∧ 25 + 3 = 28 := ⟨by decide +kernel, rfl⟩
theorem aX5_note_28 : decode mX5_note.2.1 28 = .ok (.iload_n 3, 1) ∧ 28 + 1 = 29 := ⟨by decide +kernel, rfl⟩
theorem aX5_note_29 : decode mX5_note.2.1 29 = .ok (.invokestatic 52, 3) ∧ 29 + 3 = 32 := ⟨by decide +kernel, rfl⟩
theorem aX5_note_32 : decode mX5_note.2.1 32 = .ok (.putfield 37, 3) ∧ 32 + 3 = 35 := ⟨by decide +kernel, rfl⟩
theorem aX5_note_35 : decode mX5_note.2.1 35 = .ok (.aload_n 0, 1) ∧ 35 + 1 = 36 := ⟨by decide +kernel, rfl⟩
theorem aX5_note_36 : decode mX5_note.2.1 36 = .ok (.getfield 31, 3) ∧ 36 + 3 = 39 := ⟨by decide +kernel, rfl⟩
theorem aX5_note_39 : decode mX5_note.2.1 39 = .ok (.ifCond .eq 11, 3) ∧ ((39 : Nat) : Int) + 11 = ((50 : Nat) : Int) ∧ 39 + 3 = 42 := ⟨by decide +kernel, by decide, rfl⟩
theorem aX5_note_42 : decode mX5_note.2.1 42 = .ok (.iload_n 2, 1) ∧ 42 + 1 = 43 := ⟨by decide +kernel, rfl⟩
theorem aX5_note_43 : decode mX5_note.2.1 43 = .ok (.aload_n 0, 1) ∧ 43 + 1 = 44 := ⟨by decide +kernel, rfl⟩
theorem aX5_note_44 : decode mX5_note.2.1 44 = .ok (.getfield 28, 3) ∧ 44 + 3 = 47 := ⟨by decide +kernel, rfl⟩
theorem aX5_note_47 : decode mX5_note.2.1 47 = .ok (.if_icmp .le 33, 3) ∧ ((47 : Nat) : Int) + 33 = ((80 : Nat) : Int) ∧ 47 + 3 = 50 := ⟨by decide +kernel, by decide, rfl⟩
theorem aX5_note_50 : decode mX5_note.2.1 50 = .ok (.aload_n 0, 1) ∧ 50 + 1 = 51 := ⟨by decide +kernel, rfl⟩
theorem aX5_note_51 : decode mX5_note.2.1 51 = .ok (.iload_n 2, 1) ∧ 51 + 1 = 52 := ⟨by decide +kernel, rfl⟩
theorem aX5_note_52 : decode mX5_note.2.1 52 = .ok (.putfield 28, 3) ∧ 52 + 3 = 55 := ⟨by decide +kernel, rfl⟩
theorem aX5_note_55 : decode mX5_note.2.1 55 = .ok (.aload_n 0, 1) ∧ 55 + 1 = 56 := ⟨by decide +kernel, rfl⟩
theorem aX5_note_56 : decode mX5_note.2.1 56 = .ok (.iconst 1, 1) ∧ 56 + 1 = 57 := ⟨by decide +kernel, rfl⟩
theorem aX5_note_57 : decode mX5_note.2.1 57 = .ok (.putfield 31, 3) ∧ 57 + 3 = 60 := ⟨by decide +kernel, rfl⟩
theorem aX5_note_60 : decode mX5_note.2.1 60 = .ok (.aload_n 0, 1) ∧ 60 + 1 = 61 := ⟨by decide +kernel, rfl⟩
theorem aX5_note_61 : decode mX5_note.2.1 61 = .ok (.getfield 17, 3) ∧ 61 + 3 = 64 := ⟨by decide +kernel, rfl⟩
theorem aX5_note_64 : decode mX5_note.2.1 64 = .ok (.iconst 0, 1) ∧ 64 + 1 = 65 := ⟨by decide +kernel, rfl⟩
theorem aX5_note_65 : decode mX5_note.2.1 65 = .ok (.aload_n 0, 1) ∧ 65 + 1 = 66 := ⟨by decide +kernel, rfl⟩
theorem aX5_note_66 : decode mX5_note.2.1 66 = .ok (.getfield 21, 3) ∧ 66 + 3 = 69 := ⟨by decide +kernel, rfl⟩
theorem aX5_note_69 : decode mX5_note.2.1 69 = .ok (.iconst 0, 1) ∧ 69 + 1 = 70 := ⟨by decide +kernel, rfl⟩
theorem aX5_note_70 : decode mX5_note.2.1 70 = .ok (.aload_n 0, 1) ∧ 70 + 1 = 71 := ⟨by decide +kernel, rfl⟩
theorem aX5_note_71 : decode mX5_note.2.1 71 = .ok (.getfield 24, 3) ∧ 71 + 3 = 74 := ⟨by decide +kernel, rfl⟩
theorem aX5_note_74 : decode mX5_note.2.1 74 = .ok (.invokestatic 89, 3) ∧ 74 + 3 = 77 := ⟨by decide +kernel, rfl⟩
theorem aX5_note_77 : decode mX5_note.2.1 77 = .ok (.goto 21, 3) ∧ ((77 : Nat) : Int) + 21 = ((98 : Nat) : Int) := ⟨by decide +kernel, by decide⟩
theorem aX5_note_80 : decode mX5_note.2.1 80 = .ok (.iload_n 2, 1) ∧ 80 + 1 = 81 := ⟨by decide +kernel, rfl⟩
theorem aX5_note_81 : decode mX5_note.2.1 81 = .ok (.aload_n 0, 1) ∧ 81 + 1 = 82 := ⟨by decide +kernel, rfl⟩
theorem aX5_note_82 : decode mX5_note.2.1 82 = .ok (.getfield 28, 3) ∧ 82 + 3 = 85 := ⟨by decide +kernel, rfl⟩
theorem aX5_note_85 : decode mX5_note.2.1 85 = .ok (.if_icmp .ne 13, 3) ∧ ((85 : Nat) : Int) + 13 = ((98 : Nat) : Int) ∧ 85 + 3 = 88 := ⟨by decide +kernel, by decide, rfl⟩
theorem aX5_note_88 : decode mX5_note.2.1 88 = .ok (.aload_n 0, 1) ∧ 88 + 1 = 89 := ⟨by decide +kernel, rfl⟩
theorem aX5_note_89 : decode mX5_note.2.1 89 = .ok (.dup, 1) ∧ 89 + 1 = 90 := ⟨by decide +kernel, rfl⟩
theorem aX5_note_90 : decode mX5_note.2.1 90 = .ok (.getfield 31, 3) ∧ 90 + 3 = 93 := ⟨by decide +kernel, rfl⟩
theorem aX5_note_93 : decode mX5_note.2.1 93 = .ok (.iconst 1, 1) ∧ 93 + 1 = 94 := ⟨by decide +kernel, rfl⟩
theorem aX5_note_94 : decode mX5_note.2.1 94 = .ok (.iadd, 1) ∧ 94 + 1 = 95 := ⟨by decide +kernel, rfl⟩
theorem aX5_note_95 : decode mX5_note.2.1 95 = .ok (.putfield 31, 3) ∧ 95 + 3 = 98 := ⟨by decide +kernel, rfl⟩
theorem aX5_note_98 : decode mX5_note.2.1 98 = .ok (.return_, 1) := by decide +kernel
theorem S_X5_note {E : EE} {d : Nat} {I : IH} {Q : QT} (x1 : Int32) (x2 : Int32) (x3 : Int32) (h :
(∀ I1 : IH, I1 = stI I 66 8 ((I 66 8) ||| x1) →
 ((¬ (x1 &&& (I1 66 6)) = (I1 66 6) → J E (d + 2) mX5_note 35 [(0, .ref (eb E + 66)), (2, .int x2)] [] I1 Q) ∧
 ((x1 &&& (I1 66 6)) = (I1 66 6) → (∀ I3 : IH, I3 = stI I1 66 7 (if x3 < (I1 66 7) then x3 else (I1 66 7)) →
 J E (d + 2) mX5_note 35 [(0, .ref (eb E + 66)), (2, .int x2)] [] I3 Q))))) : Mt E (d + 2) mX5_note [.ref (eb E + 66), .int x1, .int x2, .int x3] I Q := by
  refine Mt_of [(0, .ref (eb E + 66)), (1, .int x1), (2, .int x2), (3, .int x3)] (by decide +kernel) (by simp [lg_sl, Value.category, mX5_note]) rfl ?_
  refine J_aload_n 0 aX5_note_0 rfl ?_
  refine J_dup aX5_note_1 rfl ?_
  refine J_getI aX5_note_2 flX5_40 sh66 rfl ?_
  refine J_iload_n 1 aX5_note_5 rfl ?_
  refine J_ior aX5_note_6 ?_
  refine J_putI aX5_note_7 fpX5_40 sh66 rfl (fun I1 e2 => ?_)
  replace h := h I1 e2
  refine J_iload_n 1 aX5_note_10 rfl ?_
  refine J_aload_n 0 aX5_note_11 rfl ?_
  refine J_getI aX5_note_12 flX5_34 sh66 rfl ?_
  refine J_iand aX5_note_15 ?_
  refine J_aload_n 0 aX5_note_16 rfl ?_
  refine J_getI aX5_note_17 flX5_34 sh66 rfl ?_
  refine J_icmp_ne aX5_note_20 (fun q => ?_) (fun q => ?_)
  · replace h := h.1 q
    refine J_pick [0, 2] rfl ?_
    exact h
  · replace h := h.2 q
    refine J_aload_n 0 aX5_note_23 rfl ?_
    refine J_aload_n 0 aX5_note_24 rfl ?_
    refine J_getI aX5_note_25 flX5_37 sh66 rfl ?_
    refine J_iload_n 3 aX5_note_28 rfl ?_
    refine J_min aX5_note_29 lkX5_52 mth_smin mth_ini mth_cmin (by omega) (Nat.le_of_ble_eq_true rfl) ?_
    refine J_putI aX5_note_32 fpX5_37 sh66 rfl (fun I3 e4 => ?_)
    replace h := h I3 e4
    refine J_pick [0, 2] rfl ?_
    exact h
theorem S_X5_note_35 {E : EE} {d : Nat} {I : IH} {Q : QT} (x2 : Int32) (h :
(((I 66 5) = 0 → J E (d + 2) mX5_note 50 [(0, .ref (eb E + 66)), (2, .int x2)] [] I Q) ∧
 (¬ (I 66 5) = 0 → ((x2 ≤ (I 66 4) → ((¬ x2 = (I 66 4) → Q none I) ∧
 (x2 = (I 66 4) → (∀ I1 : IH, I1 = stI I 66 5 ((I 66 5) + (nI 1)) →
 Q none I1)))) ∧
 (¬ x2 ≤ (I 66 4) → J E (d + 2) mX5_note 50 [(0, .ref (eb E + 66)), (2, .int x2)] [] I Q))))) : J E (d + 2) mX5_note 35 [(0, .ref (eb E + 66)), (2, .int x2)] [] I Q := by
  refine J_aload_n 0 aX5_note_35 rfl ?_
  refine J_getI aX5_note_36 flX5_31 sh66 rfl ?_
  refine J_if_eq aX5_note_39 (fun q => ?_) (fun q => ?_)
  · replace h := h.1 q
    refine J_pick [0, 1] rfl ?_
    exact h
  · replace h := h.2 q
    refine J_iload_n 1 aX5_note_42 rfl ?_
    refine J_aload_n 0 aX5_note_43 rfl ?_
    refine J_getI aX5_note_44 flX5_28 sh66 rfl ?_
    refine J_icmp_le aX5_note_47 (fun q => ?_) (fun q => ?_)
    · replace h := h.1 q
      refine J_iload_n 1 aX5_note_80 rfl ?_
      refine J_aload_n 0 aX5_note_81 rfl ?_
      refine J_getI aX5_note_82 flX5_28 sh66 rfl ?_
      refine J_icmp_ne aX5_note_85 (fun q => ?_) (fun q => ?_)
      · replace h := h.1 q
        exact J_vret aX5_note_98 rfl h
      · replace h := h.2 q
        refine J_aload_n 0 aX5_note_88 rfl ?_
        refine J_dup aX5_note_89 rfl ?_
        refine J_getI aX5_note_90 flX5_31 sh66 rfl ?_
        refine J_iconst (nI 1) aX5_note_93 (by decide +kernel) ?_
        refine J_iadd aX5_note_94 ?_
        refine J_putI aX5_note_95 fpX5_31 sh66 rfl (fun I1 e2 => ?_)
        replace h := h I1 e2
        exact J_vret aX5_note_98 rfl h
    · replace h := h.2 q
      refine J_pick [0, 1] rfl ?_
      exact h
theorem S_X5_note_50 {E : EE} {d : Nat} {I : IH} {Q : QT} (x2 : Int32) (h :
(∀ I1 : IH, I1 = stI I 66 4 x2 →
 (∀ I3 : IH, I3 = stI I1 66 5 (nI 1) →
 (∃ n7 : Nat, (I3 66 3) = nI n7 ∧ n7 ≤ 4 ∧ (∀ I5 : IH, I5 = stA I3 69 (va_cpy (I3 68) (I3 69) 0 0 n7) →
 Q none I5))))) : J E (d + 2) mX5_note 50 [(0, .ref (eb E + 66)), (2, .int x2)] [] I Q := by
  refine J_aload_n 0 aX5_note_50 rfl ?_
  refine J_iload_n 1 aX5_note_51 rfl ?_
  refine J_putI aX5_note_52 fpX5_28 sh66 rfl (fun I1 e2 => ?_)
  replace h := h I1 e2
  refine J_aload_n 0 aX5_note_55 rfl ?_
  refine J_iconst (nI 1) aX5_note_56 (by decide +kernel) ?_
  refine J_putI aX5_note_57 fpX5_31 sh66 rfl (fun I3 e4 => ?_)
  replace h := h I3 e4
  refine J_aload_n 0 aX5_note_60 rfl ?_
  refine J_getR aX5_note_61 flX5_17 sh66 rfl ?_
  refine J_iconst (nI 0) aX5_note_64 (by decide +kernel) ?_
  refine J_aload_n 0 aX5_note_65 rfl ?_
  refine J_getR aX5_note_66 flX5_21 sh66 rfl ?_
  refine J_iconst (nI 0) aX5_note_69 (by decide +kernel) ?_
  refine J_aload_n 0 aX5_note_70 rfl ?_
  refine J_getI aX5_note_71 flX5_24 sh66 rfl ?_
  obtain ⟨n7, e8, b9, h⟩ := h
  refine J_copy 0 0 n7 aX5_note_74 lkX5_89 cp_nat cp_stat cp_ini sh68 sh69 rfl rfl e8 (by omega) (by omega) (by decide) (by decide) (by omega) (Nat.le_of_ble_eq_true rfl) (fun I5 e6 => ?_)
  replace h := h I5 e6
  refine J_goto aX5_note_77 ?_
  exact J_vret aX5_note_98 rfl h
theorem aX5_contest_0 : decode mX5_contest.2.1 0 = .ok (.aload_n 0, 1) ∧ 0 + 1 = 1 := ⟨by decide +kernel, rfl⟩
theorem aX5_contest_1 : decode mX5_contest.2.1 1 = .ok (.aload_n 1, 1) ∧ 1 + 1 = 2 := ⟨by decide +kernel, rfl⟩
theorem aX5_contest_2 : decode mX5_contest.2.1 2 = .ok (.iload_n 2, 1) ∧ 2 + 1 = 3 := ⟨by decide +kernel, rfl⟩
theorem aX5_contest_3 : decode mX5_contest.2.1 3 = .ok (.invokevirtual 65, 3) ∧ 3 + 3 = 6 := ⟨by decide +kernel, rfl⟩
theorem aX5_contest_6 : decode mX5_contest.2.1 6 = .ok (.aload_n 0, 1) ∧ 6 + 1 = 7 := ⟨by decide +kernel, rfl⟩
theorem aX5_contest_7 : decode mX5_contest.2.1 7 = .ok (.iconst 0, 1) ∧ 7 + 1 = 8 := ⟨by decide +kernel, rfl⟩
theorem aX5_contest_8 : decode mX5_contest.2.1 8 = .ok (.invokevirtual 95, 3) ∧ 8 + 3 = 11 := ⟨by decide +kernel, rfl⟩
theorem aX5_contest_11 : decode mX5_contest.2.1 11 = .ok (.ireturn, 1) := by decide +kernel
theorem S_X5_contest {E : EE} {d : Nat} {I : IH} {Q : QT} {e1 g1 r1 : Nat} (hE1 : isEv e1 g1 r1) (x2 : Int32) (h :
(Mt E d mX5_begin [.ref (eb E + 66), .ref (eb E + e1), .int x2] I (fun rv I1 => rv = none ∧
 (Mt E d mX5_value [.ref (eb E + 66), .int (nI 0)] I1 (fun rv I2 => ∃ v3 : Int32, rv = some (.int v3) ∧
 Q (some (.int v3)) I2))))) : Mt E (d + 1) mX5_contest [.ref (eb E + 66), .ref (eb E + e1), .int x2] I Q := by
  refine Mt_of [(0, .ref (eb E + 66)), (1, .ref (eb E + e1)), (2, .int x2)] (by decide +kernel) (by simp [lg_sl, Value.category, mX5_contest]) rfl ?_
  refine J_aload_n 0 aX5_contest_0 rfl ?_
  refine J_aload_n 1 aX5_contest_1 rfl ?_
  refine J_iload_n 2 aX5_contest_2 rfl ?_
  refine J_callV [.ref (eb E + e1), .int x2] [] aX5_contest_3 lkX5_65_X5 okX5_begin sh66 rfl rfl rfl (Nat.le_of_ble_eq_true rfl) (Nat.le_refl _) (Mt_mono h (fun rv I1 h => ?_))
  obtain ⟨rfl, h⟩ := h
  refine J_r0 ?_
  refine J_aload_n 0 aX5_contest_6 rfl ?_
  refine J_iconst (nI 0) aX5_contest_7 (by decide +kernel) ?_
  refine J_callV [.int (nI 0)] [] aX5_contest_8 lkX5_95_X5 okX5_value sh66 rfl rfl rfl (Nat.le_of_ble_eq_true rfl) (Nat.le_refl _) (Mt_mono h (fun rv I2 h => ?_))
  obtain ⟨v3, rfl, h⟩ := h
  refine J_r1 ?_
  exact J_iret aX5_contest_11 rfl h
theorem aX5_value_0 : decode mX5_value.2.1 0 = .ok (.iload_n 1, 1) ∧ 0 + 1 = 1 := ⟨by decide +kernel, rfl⟩
theorem aX5_value_1 : decode mX5_value.2.1 1 = .ok (.aload_n 0, 1) ∧ 1 + 1 = 2 := ⟨by decide +kernel, rfl⟩
theorem aX5_value_2 : decode mX5_value.2.1 2 = .ok (.getfield 24, 3) ∧ 2 + 3 = 5 := ⟨by decide +kernel, rfl⟩
theorem aX5_value_5 : decode mX5_value.2.1 5 = .ok (.if_icmp .lt 5, 3) ∧ ((5 : Nat) : Int) + 5 = ((10 : Nat) : Int) ∧ 5 + 3 = 8 := ⟨by decide +kernel, by decide, rfl⟩
theorem aX5_value_8 : decode mX5_value.2.1 8 = .ok (.iconst 0, 1) ∧ 8 + 1 = 9 := ⟨by decide +kernel, rfl⟩
theorem aX5_value_9 : decode mX5_value.2.1 9 = .ok (.ireturn, 1) := by decide +kernel
theorem aX5_value_10 : decode mX5_value.2.1 10 = .ok (.aload_n 0, 1) ∧ 10 + 1 = 11 := ⟨by decide +kernel, rfl⟩
theorem aX5_value_11 : decode mX5_value.2.1 11 = .ok (.getfield 11, 3) ∧ 11 + 3 = 14 := ⟨by decide +kernel, rfl⟩
theorem aX5_value_14 : decode mX5_value.2.1 14 = .ok (.iload_n 1, 1) ∧ 14 + 1 = 15 := ⟨by decide +kernel, rfl⟩
theorem aX5_value_15 : decode mX5_value.2.1 15 = .ok (.aaload, 1) ∧ 15 + 1 = 16 := ⟨by decide +kernel, rfl⟩
theorem aX5_value_16 : decode mX5_value.2.1 16 = .ok (.astore_n 2, 1) ∧ 16 + 1 = 17 := ⟨by decide +kernel, rfl⟩
theorem aX5_value_17 : decode mX5_value.2.1 17 = .ok (.aload_n 0, 1) ∧ 17 + 1 = 18 := ⟨by decide +kernel, rfl⟩
theorem aX5_value_18 : decode mX5_value.2.1 18 = .ok (.getfield 11, 3) ∧ 18 + 3 = 21 := ⟨by decide +kernel, rfl⟩
theorem aX5_value_21 : decode mX5_value.2.1 21 = .ok (.iload_n 1, 1) ∧ 21 + 1 = 22 := ⟨by decide +kernel, rfl⟩
theorem aX5_value_22 : decode mX5_value.2.1 22 = .ok (.iconst 1, 1) ∧ 22 + 1 = 23 := ⟨by decide +kernel, rfl⟩
theorem aX5_value_23 : decode mX5_value.2.1 23 = .ok (.iadd, 1) ∧ 23 + 1 = 24 := ⟨by decide +kernel, rfl⟩
theorem aX5_value_24 : decode mX5_value.2.1 24 = .ok (.aaload, 1) ∧ 24 + 1 = 25 := ⟨by decide +kernel, rfl⟩
theorem aX5_value_25 : decode mX5_value.2.1 25 = .ok (.astore_n 3, 1) ∧ 25 + 1 = 26 := ⟨by decide +kernel, rfl⟩
theorem aX5_value_26 : decode mX5_value.2.1 26 = .ok (.iconst 0, 1) ∧ 26 + 1 = 27 := ⟨by decide +kernel, rfl⟩
theorem aX5_value_27 : decode mX5_value.2.1 27 = .ok (.istore 4, 2) ∧ 27 + 2 = 29 := ⟨by decide +kernel, rfl⟩
theorem aX5_value_29 : decode mX5_value.2.1 29 = .ok (.iconst 0, 1) ∧ 29 + 1 = 30 := ⟨by decide +kernel, rfl⟩
theorem aX5_value_30 : decode mX5_value.2.1 30 = .ok (.istore 5, 2) ∧ 30 + 2 = 32 := ⟨by decide +kernel, rfl⟩
theorem aX5_value_32 : decode mX5_value.2.1 32 = .ok (.iload 5, 2) ∧ 32 + 2 = 34 := ⟨by decide +kernel, rfl⟩
theorem aX5_value_34 : decode mX5_value.2.1 34 = .ok (.aload_n 2, 1) ∧ 34 + 1 = 35 := ⟨by decide +kernel, rfl⟩
theorem aX5_value_35 : decode mX5_value.2.1 35 = .ok (.getfield 79, 3) ∧ 35 + 3 = 38 := ⟨by decide +kernel, rfl⟩
theorem aX5_value_38 : decode mX5_value.2.1 38 = .ok (.if_icmp .gt 87, 3) ∧ ((38 : Nat) : Int) + 87 = ((125 : Nat) : Int) ∧ 38 + 3 = 41 := ⟨by decide +kernel, by decide, rfl⟩
theorem aX5_value_41 : decode mX5_value.2.1 41 = .ok (.aload_n 3, 1) ∧ 41 + 1 = 42 := ⟨by decide +kernel, rfl⟩
theorem aX5_value_42 : decode mX5_value.2.1 42 = .ok (.aload_n 2, 1) ∧ 42 + 1 = 43 := ⟨by decide +kernel, rfl⟩
theorem aX5_value_43 : decode mX5_value.2.1 43 = .ok (.invokevirtual 82, 3) ∧ 43 + 3 = 46 := ⟨by decide +kernel, rfl⟩
theorem aX5_value_46 : decode mX5_value.2.1 46 = .ok (.aload_n 3, 1) ∧ 46 + 1 = 47 := ⟨by decide +kernel, rfl⟩
theorem aX5_value_47 : decode mX5_value.2.1 47 = .ok (.iload 5, 2) ∧ 47 + 2 = 49 := ⟨by decide +kernel, rfl⟩
theorem aX5_value_49 : decode mX5_value.2.1 49 = .ok (.invokevirtual 85, 3) ∧ 49 + 3 = 52 := ⟨by decide +kernel, rfl⟩
theorem aX5_value_52 : decode mX5_value.2.1 52 = .ok (.aload_n 0, 1) ∧ 52 + 1 = 53 := ⟨by decide +kernel, rfl⟩
theorem aX5_value_53 : decode mX5_value.2.1 53 = .ok (.iload_n 1, 1) ∧ 53 + 1 = 54 := ⟨by decide +kernel, rfl⟩
theorem aX5_value_54 : decode mX5_value.2.1 54 = .ok (.iconst 1, 1) ∧ 54 + 1 = 55 := ⟨by decide +kernel, rfl⟩
theorem aX5_value_55 : decode mX5_value.2.1 55 = .ok (.iadd, 1) ∧ 55 + 1 = 56 := ⟨by decide +kernel, rfl⟩
theorem aX5_value_56 : decode mX5_value.2.1 56 = .ok (.invokevirtual 95, 3) ∧ 56 + 3 = 59 := ⟨by decide +kernel, rfl⟩
theorem aX5_value_59 : decode mX5_value.2.1 59 = .ok (.iadd, 1) ∧ 59 + 1 = 60 := ⟨by decide +kernel, rfl⟩
theorem aX5_value_60 : decode mX5_value.2.1 60 = .ok (.istore 6, 2) ∧ 60 + 2 = 62 := ⟨by decide +kernel, rfl⟩
theorem aX5_value_62 : decode mX5_value.2.1 62 = .ok (.iload_n 1, 1) ∧ 62 + 1 = 63 := ⟨by decide +kernel, rfl⟩
theorem aX5_value_63 : decode mX5_value.2.1 63 = .ok (.iconst 2, 1) ∧ 63 + 1 = 64 := ⟨by decide +kernel, rfl⟩
theorem aX5_value_64 : decode mX5_value.2.1 64 = .ok (.irem, 1) ∧ 64 + 1 = 65 := ⟨by decide +kernel, rfl⟩
theorem aX5_value_65 : decode mX5_value.2.1 65 = .ok (.ifCond .ne 18, 3) ∧ ((65 : Nat) : Int) + 18 = ((83 : Nat) : Int) ∧ 65 + 3 = 68 := ⟨by decide +kernel, by decide, rfl⟩
theorem aX5_value_68 : decode mX5_value.2.1 68 = .ok (.iload 6, 2) ∧ 68 + 2 = 70 := ⟨by decide +kernel, rfl⟩
theorem aX5_value_70 : decode mX5_value.2.1 70 = .ok (.iload 4, 2) ∧ 70 + 2 = 72 := ⟨by decide +kernel, rfl⟩
theorem aX5_value_72 : decode mX5_value.2.1 72 = .ok (.if_icmp .le 7, 3) ∧ ((72 : Nat) : Int) + 7 = ((79 : Nat) : Int) ∧ 72 + 3 = 75 := ⟨by decide +kernel, by decide, rfl⟩
theorem aX5_value_75 : decode mX5_value.2.1 75 = .ok (.iconst 1, 1) ∧ 75 + 1 = 76 := ⟨by decide +kernel, rfl⟩
theorem aX5_value_76 : decode mX5_value.2.1 76 = .ok (.goto 19, 3) ∧ ((76 : Nat) : Int) + 19 = ((95 : Nat) : Int) := ⟨by decide +kernel, by decide⟩
theorem aX5_value_79 : decode mX5_value.2.1 79 = .ok (.iconst 0, 1) ∧ 79 + 1 = 80 := ⟨by decide +kernel, rfl⟩
theorem aX5_value_80 : decode mX5_value.2.1 80 = .ok (.goto 15, 3) ∧ ((80 : Nat) : Int) + 15 = ((95 : Nat) : Int) := ⟨by decide +kernel, by decide⟩
theorem aX5_value_83 : decode mX5_value.2.1 83 = .ok (.iload 6, 2) ∧ 83 + 2 = 85 := ⟨by decide +kernel, rfl⟩
theorem aX5_value_85 : decode mX5_value.2.1 85 = .ok (.iload 4, 2) ∧ 85 + 2 = 87 := ⟨by decide +kernel, rfl⟩
theorem aX5_value_87 : decode mX5_value.2.1 87 = .ok (.if_icmp .ge 7, 3) ∧ ((87 : Nat) : Int) + 7 = ((94 : Nat) : Int) ∧ 87 + 3 = 90 := ⟨by decide +kernel, by decide, rfl⟩
theorem aX5_value_90 : decode mX5_value.2.1 90 = .ok (.iconst 1, 1) ∧ 90 + 1 = 91 := ⟨by decide +kernel, rfl⟩
theorem aX5_value_91 : decode mX5_value.2.1 91 = .ok (.goto 4, 3) ∧ ((91 : Nat) : Int) + 4 = ((95 : Nat) : Int) := ⟨by decide +kernel, by decide⟩
theorem aX5_value_94 : decode mX5_value.2.1 94 = .ok (.iconst 0, 1) ∧ 94 + 1 = 95 := ⟨by decide +kernel, rfl⟩
theorem aX5_value_95 : decode mX5_value.2.1 95 = .ok (.istore 7, 2) ∧ 95 + 2 = 97 := ⟨by decide +kernel, rfl⟩
theorem aX5_value_97 : decode mX5_value.2.1 97 = .ok (.iload 5, 2) ∧ 97 + 2 = 99 := ⟨by decide +kernel, rfl⟩
theorem aX5_value_99 : decode mX5_value.2.1 99 = .ok (.ifCond .eq 8, 3) ∧ ((99 : Nat) : Int) + 8 = ((107 : Nat) : Int) ∧ 99 + 3 = 102 := ⟨by decide +kernel, by decide, rfl⟩
theorem aX5_value_102 : decode mX5_value.2.1 102 = .ok (.iload 7, 2) ∧ 102 + 2 = 104 := ⟨by decide +kernel, rfl⟩
theorem aX5_value_104 : decode mX5_value.2.1 104 = .ok (.ifCond .eq 15, 3) ∧ ((104 : Nat) : Int) + 15 = ((119 : Nat) : Int) ∧ 104 + 3 = 107 := ⟨by decide +kernel, by decide, rfl⟩
theorem aX5_value_107 : decode mX5_value.2.1 107 = .ok (.iload 6, 2) ∧ 107 + 2 = 109 := ⟨by decide +kernel, rfl⟩
theorem aX5_value_109 : decode mX5_value.2.1 109 = .ok (.istore 4, 2) ∧ 109 + 2 = 111 := ⟨by decide +kernel, rfl⟩
theorem aX5_value_111 : decode mX5_value.2.1 111 = .ok (.aload_n 0, 1) ∧ 111 + 1 = 112 := ⟨by decide +kernel, rfl⟩
theorem aX5_value_112 : decode mX5_value.2.1 112 = .ok (.getfield 21, 3) ∧ 112 + 3 = 115 := ⟨by decide +kernel, rfl⟩
theorem aX5_value_115 : decode mX5_value.2.1 115 = .ok (.iload_n 1, 1) ∧ 115 + 1 = 116 := ⟨by decide +kernel, rfl⟩
theorem aX5_value_116 : decode mX5_value.2.1 116 = .ok (.iload 5, 2) ∧ 116 + 2 = 118 := ⟨by decide +kernel, rfl⟩
theorem aX5_value_118 : decode mX5_value.2.1 118 = .ok (.iastore, 1) ∧ 118 + 1 = 119 := ⟨by decide +kernel, rfl⟩
theorem aX5_value_119 : decode mX5_value.2.1 119 = .ok (.iinc 5 1, 3) ∧ 119 + 3 = 122 := ⟨by decide +kernel, rfl⟩
theorem aX5_value_122 : decode mX5_value.2.1 122 = .ok (.goto (-90), 3) ∧ ((122 : Nat) : Int) + (-90) = ((32 : Nat) : Int) := ⟨by decide +kernel, by decide⟩
theorem aX5_value_125 : decode mX5_value.2.1 125 = .ok (.iload 4, 2) ∧ 125 + 2 = 127 := ⟨by decide +kernel, rfl⟩
theorem aX5_value_127 : decode mX5_value.2.1 127 = .ok (.ireturn, 1) := by decide +kernel
theorem S_X5_value {E : EE} {d : Nat} {I : IH} {Q : QT} (x1 : Int32) (h :
((x1 < (I 66 3) → (∃ j1 : Nat, x1 = nI j1 ∧ j1 < 5 ∧ (∃ j4 : Nat, (x1 + (nI 1)) = nI j4 ∧ j4 < 5 ∧ J E (d + 1) mX5_value 32 [(0, .ref (eb E + 66)), (1, .int x1), (2, .ref (eb E + (70 + 9 * j1))), (3, .ref (eb E + (70 + 9 * j4))), (4, .int (nI 0)), (5, .int (nI 0))] [] I Q))) ∧
 (¬ x1 < (I 66 3) → Q (some (.int (nI 0))) I))) : Mt E (d + 1) mX5_value [.ref (eb E + 66), .int x1] I Q := by
  refine Mt_of [(0, .ref (eb E + 66)), (1, .int x1)] (by decide +kernel) (by simp [lg_sl, Value.category, mX5_value]) rfl ?_
  refine J_iload_n 1 aX5_value_0 rfl ?_
  refine J_aload_n 0 aX5_value_1 rfl ?_
  refine J_getI aX5_value_2 flX5_24 sh66 rfl ?_
  refine J_icmp_lt aX5_value_5 (fun q => ?_) (fun q => ?_)
  · replace h := h.1 q
    refine J_aload_n 0 aX5_value_10 rfl ?_
    refine J_getR aX5_value_11 flX5_11 sh66 rfl ?_
    refine J_iload_n 1 aX5_value_14 rfl ?_
    obtain ⟨j1, e2, b3, h⟩ := h
    refine J_aaload j1 aX5_value_15 sh67 (Or.inr rfl) e2 b3 (by decide) (levels_at b3) ?_
    refine J_astore_n [(2, .ref (eb E + (70 + 9 * j1))), (0, .ref (eb E + 66)), (1, .int x1)] aX5_value_16 (by decide) rfl ?_
    refine J_aload_n 1 aX5_value_17 rfl ?_
    refine J_getR aX5_value_18 flX5_11 sh66 rfl ?_
    refine J_iload_n 2 aX5_value_21 rfl ?_
    refine J_iconst (nI 1) aX5_value_22 (by decide +kernel) ?_
    refine J_iadd aX5_value_23 ?_
    obtain ⟨j4, e5, b6, h⟩ := h
    refine J_aaload j4 aX5_value_24 sh67 (Or.inr rfl) e5 b6 (by decide) (levels_at b6) ?_
    refine J_astore_n [(3, .ref (eb E + (70 + 9 * j4))), (2, .ref (eb E + (70 + 9 * j1))), (0, .ref (eb E + 66)), (1, .int x1)] aX5_value_25 (by decide) rfl ?_
    refine J_iconst (nI 0) aX5_value_26 (by decide +kernel) ?_
    refine J_istore [(4, .int (nI 0)), (3, .ref (eb E + (70 + 9 * j4))), (2, .ref (eb E + (70 + 9 * j1))), (0, .ref (eb E + 66)), (1, .int x1)] aX5_value_27 (by decide) rfl ?_
    refine J_iconst (nI 0) aX5_value_29 (by decide +kernel) ?_
    refine J_istore [(5, .int (nI 0)), (4, .int (nI 0)), (3, .ref (eb E + (70 + 9 * j4))), (2, .ref (eb E + (70 + 9 * j1))), (0, .ref (eb E + 66)), (1, .int x1)] aX5_value_30 (by decide) rfl ?_
    refine J_pick [4, 5, 3, 2, 1, 0] rfl ?_
    exact h
  · replace h := h.2 q
    refine J_iconst (nI 0) aX5_value_8 (by decide +kernel) ?_
    exact J_iret aX5_value_9 rfl h
theorem S_X5_value_32 {E : EE} {d : Nat} {I : IH} {Q : QT} (x1 : Int32) {e2 g2 r2 : Nat} (hE2 : isEv e2 g2 r2) {e3 g3 r3 : Nat} (hE3 : isEv e3 g3 r3) (x4 : Int32) (x5 : Int32) (h :
(((I e2 7) < x5 → Q (some (.int x4)) I) ∧
 (¬ (I e2 7) < x5 → (Mt E d mX1_moveTo [.ref (eb E + e3), .ref (eb E + e2)] I (fun rv I1 => rv = none ∧
 (Mt E d mX1_go [.ref (eb E + e3), .int x5] I1 (fun rv I2 => ∃ v3 : Int32, rv = some (.int v3) ∧
 (Mt E d mX5_value [.ref (eb E + 66), .int (x1 + (nI 1))] I2 (fun rv I4 => ∃ v5 : Int32, rv = some (.int v5) ∧
 ((¬ (x1 - x1 / (nI 2) * (nI 2)) = 0 → ((x4 ≤ (v3 + v5) → ((x5 = 0 → (∃ j8 : Nat, x1 = nI j8 ∧ j8 < 4 ∧ (∀ I6 : IH, I6 = stI I4 69 j8 x5 →
 J E (d + 1) mX5_value 32 [(0, .ref (eb E + 66)), (1, .int x1), (2, .ref (eb E + e2)), (3, .ref (eb E + e3)), (4, .int (v3 + v5)), (5, .int (x5 + nI 1))] [] I6 Q))) ∧
 (¬ x5 = 0 → (((nI 0) = 0 → J E (d + 1) mX5_value 32 [(0, .ref (eb E + 66)), (1, .int x1), (2, .ref (eb E + e2)), (3, .ref (eb E + e3)), (4, .int x4), (5, .int (x5 + nI 1))] [] I4 Q) ∧
 (¬ (nI 0) = 0 → (∃ j13 : Nat, x1 = nI j13 ∧ j13 < 4 ∧ (∀ I11 : IH, I11 = stI I4 69 j13 x5 →
 J E (d + 1) mX5_value 32 [(0, .ref (eb E + 66)), (1, .int x1), (2, .ref (eb E + e2)), (3, .ref (eb E + e3)), (4, .int (v3 + v5)), (5, .int (x5 + nI 1))] [] I11 Q))))))) ∧
 (¬ x4 ≤ (v3 + v5) → ((x5 = 0 → (∃ j18 : Nat, x1 = nI j18 ∧ j18 < 4 ∧ (∀ I16 : IH, I16 = stI I4 69 j18 x5 →
 J E (d + 1) mX5_value 32 [(0, .ref (eb E + 66)), (1, .int x1), (2, .ref (eb E + e2)), (3, .ref (eb E + e3)), (4, .int (v3 + v5)), (5, .int (x5 + nI 1))] [] I16 Q))) ∧
 (¬ x5 = 0 → (((nI 1) = 0 → J E (d + 1) mX5_value 32 [(0, .ref (eb E + 66)), (1, .int x1), (2, .ref (eb E + e2)), (3, .ref (eb E + e3)), (4, .int x4), (5, .int (x5 + nI 1))] [] I4 Q) ∧
 (¬ (nI 1) = 0 → (∃ j23 : Nat, x1 = nI j23 ∧ j23 < 4 ∧ (∀ I21 : IH, I21 = stI I4 69 j23 x5 →
 J E (d + 1) mX5_value 32 [(0, .ref (eb E + 66)), (1, .int x1), (2, .ref (eb E + e2)), (3, .ref (eb E + e3)), (4, .int (v3 + v5)), (5, .int (x5 + nI 1))] [] I21 Q))))))))) ∧
 ((x1 - x1 / (nI 2) * (nI 2)) = 0 → (((v3 + v5) ≤ x4 → ((x5 = 0 → (∃ j28 : Nat, x1 = nI j28 ∧ j28 < 4 ∧ (∀ I26 : IH, I26 = stI I4 69 j28 x5 →
 J E (d + 1) mX5_value 32 [(0, .ref (eb E + 66)), (1, .int x1), (2, .ref (eb E + e2)), (3, .ref (eb E + e3)), (4, .int (v3 + v5)), (5, .int (x5 + nI 1))] [] I26 Q))) ∧
 (¬ x5 = 0 → (((nI 0) = 0 → J E (d + 1) mX5_value 32 [(0, .ref (eb E + 66)), (1, .int x1), (2, .ref (eb E + e2)), (3, .ref (eb E + e3)), (4, .int x4), (5, .int (x5 + nI 1))] [] I4 Q) ∧
 (¬ (nI 0) = 0 → (∃ j33 : Nat, x1 = nI j33 ∧ j33 < 4 ∧ (∀ I31 : IH, I31 = stI I4 69 j33 x5 →
 J E (d + 1) mX5_value 32 [(0, .ref (eb E + 66)), (1, .int x1), (2, .ref (eb E + e2)), (3, .ref (eb E + e3)), (4, .int (v3 + v5)), (5, .int (x5 + nI 1))] [] I31 Q))))))) ∧
 (¬ (v3 + v5) ≤ x4 → ((x5 = 0 → (∃ j38 : Nat, x1 = nI j38 ∧ j38 < 4 ∧ (∀ I36 : IH, I36 = stI I4 69 j38 x5 →
 J E (d + 1) mX5_value 32 [(0, .ref (eb E + 66)), (1, .int x1), (2, .ref (eb E + e2)), (3, .ref (eb E + e3)), (4, .int (v3 + v5)), (5, .int (x5 + nI 1))] [] I36 Q))) ∧
 (¬ x5 = 0 → (((nI 1) = 0 → J E (d + 1) mX5_value 32 [(0, .ref (eb E + 66)), (1, .int x1), (2, .ref (eb E + e2)), (3, .ref (eb E + e3)), (4, .int x4), (5, .int (x5 + nI 1))] [] I4 Q) ∧
 (¬ (nI 1) = 0 → (∃ j43 : Nat, x1 = nI j43 ∧ j43 < 4 ∧ (∀ I41 : IH, I41 = stI I4 69 j43 x5 →
 J E (d + 1) mX5_value 32 [(0, .ref (eb E + 66)), (1, .int x1), (2, .ref (eb E + e2)), (3, .ref (eb E + e3)), (4, .int (v3 + v5)), (5, .int (x5 + nI 1))] [] I41 Q))))))))))))))))))) : J E (d + 1) mX5_value 32 [(0, .ref (eb E + 66)), (1, .int x1), (2, .ref (eb E + e2)), (3, .ref (eb E + e3)), (4, .int x4), (5, .int x5)] [] I Q := by
  refine J_iload 5 aX5_value_32 rfl ?_
  refine J_aload_n 2 aX5_value_34 rfl ?_
  refine J_getI aX5_value_35 flX5_79 (shEv hE2) rfl ?_
  refine J_icmp_gt aX5_value_38 (fun q => ?_) (fun q => ?_)
  · replace h := h.1 q
    refine J_iload 4 aX5_value_125 rfl ?_
    exact J_iret aX5_value_127 rfl h
  · replace h := h.2 q
    refine J_aload_n 3 aX5_value_41 rfl ?_
    refine J_aload_n 2 aX5_value_42 rfl ?_
    refine J_callV [.ref (eb E + e2)] [] aX5_value_43 lkX5_82_X1 okX1_moveTo (shEv hE3) rfl rfl rfl (Nat.le_of_ble_eq_true rfl) (Nat.le_refl _) (Mt_mono h (fun rv I1 h => ?_))
    obtain ⟨rfl, h⟩ := h
    refine J_r0 ?_
    refine J_aload_n 3 aX5_value_46 rfl ?_
    refine J_iload 5 aX5_value_47 rfl ?_
    refine J_callV [.int x5] [] aX5_value_49 lkX5_85_X1 okX1_go (shEv hE3) rfl rfl rfl (Nat.le_of_ble_eq_true rfl) (Nat.le_refl _) (Mt_mono h (fun rv I2 h => ?_))
    obtain ⟨v3, rfl, h⟩ := h
    refine J_r1 ?_
    refine J_aload_n 0 aX5_value_52 rfl ?_
    refine J_iload_n 1 aX5_value_53 rfl ?_
    refine J_iconst (nI 1) aX5_value_54 (by decide +kernel) ?_
    refine J_iadd aX5_value_55 ?_
    refine J_callV [.int (x1 + (nI 1))] [.int v3] aX5_value_56 lkX5_95_X5 okX5_value sh66 rfl rfl rfl (Nat.le_of_ble_eq_true rfl) (Nat.le_refl _) (Mt_mono h (fun rv I4 h => ?_))
    obtain ⟨v5, rfl, h⟩ := h
    refine J_r1 ?_
    refine J_iadd aX5_value_59 ?_
    refine J_istore [(6, .int (v3 + v5)), (0, .ref (eb E + 66)), (1, .int x1), (2, .ref (eb E + e2)), (3, .ref (eb E + e3)), (4, .int x4), (5, .int x5)] aX5_value_60 (by decide) rfl ?_
    refine J_iload_n 2 aX5_value_62 rfl ?_
    refine J_iconst (nI 2) aX5_value_63 (by decide +kernel) ?_
    refine J_irem aX5_value_64 (by decide +kernel) ?_
    refine J_if_ne aX5_value_65 (fun q => ?_) (fun q => ?_)
    · replace h := h.1 q
      refine J_iload 0 aX5_value_83 rfl ?_
      refine J_iload 5 aX5_value_85 rfl ?_
      refine J_icmp_ge aX5_value_87 (fun q => ?_) (fun q => ?_)
      · replace h := h.1 q
        refine J_iconst (nI 0) aX5_value_94 (by decide +kernel) ?_
        refine J_istore [(7, .int (nI 0)), (6, .int (v3 + v5)), (0, .ref (eb E + 66)), (1, .int x1), (2, .ref (eb E + e2)), (3, .ref (eb E + e3)), (4, .int x4), (5, .int x5)] aX5_value_95 (by decide) rfl ?_
        refine J_iload 7 aX5_value_97 rfl ?_
        refine J_if_eq aX5_value_99 (fun q => ?_) (fun q => ?_)
        · replace h := h.1 q
          refine J_iload 1 aX5_value_107 rfl ?_
          refine J_istore [(4, .int (v3 + v5)), (7, .int (nI 0)), (6, .int (v3 + v5)), (0, .ref (eb E + 66)), (1, .int x1), (2, .ref (eb E + e2)), (3, .ref (eb E + e3)), (5, .int x5)] aX5_value_109 (by decide) rfl ?_
          refine J_aload_n 3 aX5_value_111 rfl ?_
          refine J_getR aX5_value_112 flX5_21 sh66 rfl ?_
          refine J_iload_n 4 aX5_value_115 rfl ?_
          refine J_iload 7 aX5_value_116 rfl ?_
          obtain ⟨j8, e9, b10, h⟩ := h
          refine J_iastore j8 aX5_value_118 sh69 e9 b10 (by decide) (fun I6 e7 => ?_)
          replace h := h I6 e7
          refine J_iinc (x5 + nI 1) [(5, .int (x5 + nI 1)), (4, .int (v3 + v5)), (7, .int (nI 0)), (6, .int (v3 + v5)), (0, .ref (eb E + 66)), (1, .int x1), (2, .ref (eb E + e2)), (3, .ref (eb E + e3))] 7 aX5_value_119 rfl (by first | rfl | (congr 1; decide +kernel)) (by decide) rfl ?_
          refine J_goto aX5_value_122 ?_
          refine J_pick [4, 5, 6, 7, 1, 0] rfl ?_
          exact h
        · replace h := h.2 q
          refine J_iload 0 aX5_value_102 rfl ?_
          refine J_if_eq aX5_value_104 (fun q => ?_) (fun q => ?_)
          · replace h := h.1 q
            refine J_iinc (x5 + nI 1) [(5, .int (x5 + nI 1)), (7, .int (nI 0)), (6, .int (v3 + v5)), (0, .ref (eb E + 66)), (1, .int x1), (2, .ref (eb E + e2)), (3, .ref (eb E + e3)), (4, .int x4)] 7 aX5_value_119 rfl (by first | rfl | (congr 1; decide +kernel)) (by decide) rfl ?_
            refine J_goto aX5_value_122 ?_
            refine J_pick [3, 4, 5, 6, 7, 0] rfl ?_
            exact h
          · replace h := h.2 q
            refine J_iload 1 aX5_value_107 rfl ?_
            refine J_istore [(4, .int (v3 + v5)), (7, .int (nI 0)), (6, .int (v3 + v5)), (0, .ref (eb E + 66)), (1, .int x1), (2, .ref (eb E + e2)), (3, .ref (eb E + e3)), (5, .int x5)] aX5_value_109 (by decide) rfl ?_
            refine J_aload_n 3 aX5_value_111 rfl ?_
            refine J_getR aX5_value_112 flX5_21 sh66 rfl ?_
            refine J_iload_n 4 aX5_value_115 rfl ?_
            refine J_iload 7 aX5_value_116 rfl ?_
            obtain ⟨j13, e14, b15, h⟩ := h
            refine J_iastore j13 aX5_value_118 sh69 e14 b15 (by decide) (fun I11 e12 => ?_)
            replace h := h I11 e12
            refine J_iinc (x5 + nI 1) [(5, .int (x5 + nI 1)), (4, .int (v3 + v5)), (7, .int (nI 0)), (6, .int (v3 + v5)), (0, .ref (eb E + 66)), (1, .int x1), (2, .ref (eb E + e2)), (3, .ref (eb E + e3))] 7 aX5_value_119 rfl (by first | rfl | (congr 1; decide +kernel)) (by decide) rfl ?_
            refine J_goto aX5_value_122 ?_
            refine J_pick [4, 5, 6, 7, 1, 0] rfl ?_
            exact h
      · replace h := h.2 q
        refine J_iconst (nI 1) aX5_value_90 (by decide +kernel) ?_
        refine J_goto aX5_value_91 ?_
        refine J_istore [(7, .int (nI 1)), (6, .int (v3 + v5)), (0, .ref (eb E + 66)), (1, .int x1), (2, .ref (eb E + e2)), (3, .ref (eb E + e3)), (4, .int x4), (5, .int x5)] aX5_value_95 (by decide) rfl ?_
        refine J_iload 7 aX5_value_97 rfl ?_
        refine J_if_eq aX5_value_99 (fun q => ?_) (fun q => ?_)
        · replace h := h.1 q
          refine J_iload 1 aX5_value_107 rfl ?_
          refine J_istore [(4, .int (v3 + v5)), (7, .int (nI 1)), (6, .int (v3 + v5)), (0, .ref (eb E + 66)), (1, .int x1), (2, .ref (eb E + e2)), (3, .ref (eb E + e3)), (5, .int x5)] aX5_value_109 (by decide) rfl ?_
          refine J_aload_n 3 aX5_value_111 rfl ?_
          refine J_getR aX5_value_112 flX5_21 sh66 rfl ?_
          refine J_iload_n 4 aX5_value_115 rfl ?_
          refine J_iload 7 aX5_value_116 rfl ?_
          obtain ⟨j18, e19, b20, h⟩ := h
          refine J_iastore j18 aX5_value_118 sh69 e19 b20 (by decide) (fun I16 e17 => ?_)
          replace h := h I16 e17
          refine J_iinc (x5 + nI 1) [(5, .int (x5 + nI 1)), (4, .int (v3 + v5)), (7, .int (nI 1)), (6, .int (v3 + v5)), (0, .ref (eb E + 66)), (1, .int x1), (2, .ref (eb E + e2)), (3, .ref (eb E + e3))] 7 aX5_value_119 rfl (by first | rfl | (congr 1; decide +kernel)) (by decide) rfl ?_
          refine J_goto aX5_value_122 ?_
          refine J_pick [4, 5, 6, 7, 1, 0] rfl ?_
          exact h
        · replace h := h.2 q
          refine J_iload 0 aX5_value_102 rfl ?_
          refine J_if_eq aX5_value_104 (fun q => ?_) (fun q => ?_)
          · replace h := h.1 q
            refine J_iinc (x5 + nI 1) [(5, .int (x5 + nI 1)), (7, .int (nI 1)), (6, .int (v3 + v5)), (0, .ref (eb E + 66)), (1, .int x1), (2, .ref (eb E + e2)), (3, .ref (eb E + e3)), (4, .int x4)] 7 aX5_value_119 rfl (by first | rfl | (congr 1; decide +kernel)) (by decide) rfl ?_
            refine J_goto aX5_value_122 ?_
            refine J_pick [3, 4, 5, 6, 7, 0] rfl ?_
            exact h
          · replace h := h.2 q
            refine J_iload 1 aX5_value_107 rfl ?_
            refine J_istore [(4, .int (v3 + v5)), (7, .int (nI 1)), (6, .int (v3 + v5)), (0, .ref (eb E + 66)), (1, .int x1), (2, .ref (eb E + e2)), (3, .ref (eb E + e3)), (5, .int x5)] aX5_value_109 (by decide) rfl ?_
            refine J_aload_n 3 aX5_value_111 rfl ?_
            refine J_getR aX5_value_112 flX5_21 sh66 rfl ?_
            refine J_iload_n 4 aX5_value_115 rfl ?_
            refine J_iload 7 aX5_value_116 rfl ?_
            obtain ⟨j23, e24, b25, h⟩ := h
            refine J_iastore j23 aX5_value_118 sh69 e24 b25 (by decide) (fun I21 e22 => ?_)
            replace h := h I21 e22
            refine J_iinc (x5 + nI 1) [(5, .int (x5 + nI 1)), (4, .int (v3 + v5)), (7, .int (nI 1)), (6, .int (v3 + v5)), (0, .ref (eb E + 66)), (1, .int x1), (2, .ref (eb E + e2)), (3, .ref (eb E + e3))] 7 aX5_value_119 rfl (by first | rfl | (congr 1; decide +kernel)) (by decide) rfl ?_
            refine J_goto aX5_value_122 ?_
            refine J_pick [4, 5, 6, 7, 1, 0] rfl ?_
            exact h
    · replace h := h.2 q
      refine J_iload 0 aX5_value_68 rfl ?_
      refine J_iload 5 aX5_value_70 rfl ?_
      refine J_icmp_le aX5_value_72 (fun q => ?_) (fun q => ?_)
      · replace h := h.1 q
        refine J_iconst (nI 0) aX5_value_79 (by decide +kernel) ?_
        refine J_goto aX5_value_80 ?_
        refine J_istore [(7, .int (nI 0)), (6, .int (v3 + v5)), (0, .ref (eb E + 66)), (1, .int x1), (2, .ref (eb E + e2)), (3, .ref (eb E + e3)), (4, .int x4), (5, .int x5)] aX5_value_95 (by decide) rfl ?_
        refine J_iload 7 aX5_value_97 rfl ?_
        refine J_if_eq aX5_value_99 (fun q => ?_) (fun q => ?_)
        · replace h := h.1 q
          refine J_iload 1 aX5_value_107 rfl ?_
          refine J_istore [(4, .int (v3 + v5)), (7, .int (nI 0)), (6, .int (v3 + v5)), (0, .ref (eb E + 66)), (1, .int x1), (2, .ref (eb E + e2)), (3, .ref (eb E + e3)), (5, .int x5)] aX5_value_109 (by decide) rfl ?_
          refine J_aload_n 3 aX5_value_111 rfl ?_
          refine J_getR aX5_value_112 flX5_21 sh66 rfl ?_
          refine J_iload_n 4 aX5_value_115 rfl ?_
          refine J_iload 7 aX5_value_116 rfl ?_
          obtain ⟨j28, e29, b30, h⟩ := h
          refine J_iastore j28 aX5_value_118 sh69 e29 b30 (by decide) (fun I26 e27 => ?_)
          replace h := h I26 e27
          refine J_iinc (x5 + nI 1) [(5, .int (x5 + nI 1)), (4, .int (v3 + v5)), (7, .int (nI 0)), (6, .int (v3 + v5)), (0, .ref (eb E + 66)), (1, .int x1), (2, .ref (eb E + e2)), (3, .ref (eb E + e3))] 7 aX5_value_119 rfl (by first | rfl | (congr 1; decide +kernel)) (by decide) rfl ?_
          refine J_goto aX5_value_122 ?_
          refine J_pick [4, 5, 6, 7, 1, 0] rfl ?_
          exact h
        · replace h := h.2 q
          refine J_iload 0 aX5_value_102 rfl ?_
          refine J_if_eq aX5_value_104 (fun q => ?_) (fun q => ?_)
          · replace h := h.1 q
            refine J_iinc (x5 + nI 1) [(5, .int (x5 + nI 1)), (7, .int (nI 0)), (6, .int (v3 + v5)), (0, .ref (eb E + 66)), (1, .int x1), (2, .ref (eb E + e2)), (3, .ref (eb E + e3)), (4, .int x4)] 7 aX5_value_119 rfl (by first | rfl | (congr 1; decide +kernel)) (by decide) rfl ?_
            refine J_goto aX5_value_122 ?_
            refine J_pick [3, 4, 5, 6, 7, 0] rfl ?_
            exact h
          · replace h := h.2 q
            refine J_iload 1 aX5_value_107 rfl ?_
            refine J_istore [(4, .int (v3 + v5)), (7, .int (nI 0)), (6, .int (v3 + v5)), (0, .ref (eb E + 66)), (1, .int x1), (2, .ref (eb E + e2)), (3, .ref (eb E + e3)), (5, .int x5)] aX5_value_109 (by decide) rfl ?_
            refine J_aload_n 3 aX5_value_111 rfl ?_
            refine J_getR aX5_value_112 flX5_21 sh66 rfl ?_
            refine J_iload_n 4 aX5_value_115 rfl ?_
            refine J_iload 7 aX5_value_116 rfl ?_
            obtain ⟨j33, e34, b35, h⟩ := h
            refine J_iastore j33 aX5_value_118 sh69 e34 b35 (by decide) (fun I31 e32 => ?_)
            replace h := h I31 e32
            refine J_iinc (x5 + nI 1) [(5, .int (x5 + nI 1)), (4, .int (v3 + v5)), (7, .int (nI 0)), (6, .int (v3 + v5)), (0, .ref (eb E + 66)), (1, .int x1), (2, .ref (eb E + e2)), (3, .ref (eb E + e3))] 7 aX5_value_119 rfl (by first | rfl | (congr 1; decide +kernel)) (by decide) rfl ?_
            refine J_goto aX5_value_122 ?_
            refine J_pick [4, 5, 6, 7, 1, 0] rfl ?_
            exact h
      · replace h := h.2 q
        refine J_iconst (nI 1) aX5_value_75 (by decide +kernel) ?_
        refine J_goto aX5_value_76 ?_
        refine J_istore [(7, .int (nI 1)), (6, .int (v3 + v5)), (0, .ref (eb E + 66)), (1, .int x1), (2, .ref (eb E + e2)), (3, .ref (eb E + e3)), (4, .int x4), (5, .int x5)] aX5_value_95 (by decide) rfl ?_
        refine J_iload 7 aX5_value_97 rfl ?_
        refine J_if_eq aX5_value_99 (fun q => ?_) (fun q => ?_)
        · replace h := h.1 q
          refine J_iload 1 aX5_value_107 rfl ?_
          refine J_istore [(4, .int (v3 + v5)), (7, .int (nI 1)), (6, .int (v3 + v5)), (0, .ref (eb E + 66)), (1, .int x1), (2, .ref (eb E + e2)), (3, .ref (eb E + e3)), (5, .int x5)] aX5_value_109 (by decide) rfl ?_
          refine J_aload_n 3 aX5_value_111 rfl ?_
          refine J_getR aX5_value_112 flX5_21 sh66 rfl ?_
          refine J_iload_n 4 aX5_value_115 rfl ?_
          refine J_iload 7 aX5_value_116 rfl ?_
          obtain ⟨j38, e39, b40, h⟩ := h
          refine J_iastore j38 aX5_value_118 sh69 e39 b40 (by decide) (fun I36 e37 => ?_)
          replace h := h I36 e37
          refine J_iinc (x5 + nI 1) [(5, .int (x5 + nI 1)), (4, .int (v3 + v5)), (7, .int (nI 1)), (6, .int (v3 + v5)), (0, .ref (eb E + 66)), (1, .int x1), (2, .ref (eb E + e2)), (3, .ref (eb E + e3))] 7 aX5_value_119 rfl (by first | rfl | (congr 1; decide +kernel)) (by decide) rfl ?_
          refine J_goto aX5_value_122 ?_
          refine J_pick [4, 5, 6, 7, 1, 0] rfl ?_
          exact h
        · replace h := h.2 q
          refine J_iload 0 aX5_value_102 rfl ?_
          refine J_if_eq aX5_value_104 (fun q => ?_) (fun q => ?_)
          · replace h := h.1 q
            refine J_iinc (x5 + nI 1) [(5, .int (x5 + nI 1)), (7, .int (nI 1)), (6, .int (v3 + v5)), (0, .ref (eb E + 66)), (1, .int x1), (2, .ref (eb E + e2)), (3, .ref (eb E + e3)), (4, .int x4)] 7 aX5_value_119 rfl (by first | rfl | (congr 1; decide +kernel)) (by decide) rfl ?_
            refine J_goto aX5_value_122 ?_
            refine J_pick [3, 4, 5, 6, 7, 0] rfl ?_
            exact h
          · replace h := h.2 q
            refine J_iload 1 aX5_value_107 rfl ?_
            refine J_istore [(4, .int (v3 + v5)), (7, .int (nI 1)), (6, .int (v3 + v5)), (0, .ref (eb E + 66)), (1, .int x1), (2, .ref (eb E + e2)), (3, .ref (eb E + e3)), (5, .int x5)] aX5_value_109 (by decide) rfl ?_
            refine J_aload_n 3 aX5_value_111 rfl ?_
            refine J_getR aX5_value_112 flX5_21 sh66 rfl ?_
            refine J_iload_n 4 aX5_value_115 rfl ?_
            refine J_iload 7 aX5_value_116 rfl ?_
            obtain ⟨j43, e44, b45, h⟩ := h
            refine J_iastore j43 aX5_value_118 sh69 e44 b45 (by decide) (fun I41 e42 => ?_)
            replace h := h I41 e42
            refine J_iinc (x5 + nI 1) [(5, .int (x5 + nI 1)), (4, .int (v3 + v5)), (7, .int (nI 1)), (6, .int (v3 + v5)), (0, .ref (eb E + 66)), (1, .int x1), (2, .ref (eb E + e2)), (3, .ref (eb E + e3))] 7 aX5_value_119 rfl (by first | rfl | (congr 1; decide +kernel)) (by decide) rfl ?_
            refine J_goto aX5_value_122 ?_
            refine J_pick [4, 5, 6, 7, 1, 0] rfl ?_
            exact h
