theorem aX1_become_0 : decode mX1_become.2.1 0 = .ok (.aload_n 0, 1) ∧ 0 + 1 = 1 := ⟨by decide +kernel, rfl⟩
theorem aX1_become_1 : decode mX1_become.2.1 1 = .ok (.aload_n 1, 1) ∧ 1 + 1 = 2 := ⟨by decide +kernel, rfl⟩
theorem aX1_become_2 : decode mX1_become.2.1 2 = .ok (.getfield 9, 3) ∧ 2 + 3 = 5 := ⟨by decide +kernel, rfl⟩
theorem aX1_become_5 : decode mX1_become.2.1 5 = .ok (.putfield 9, 3) ∧ 5 + 3 = 8 := ⟨by decide +kernel, rfl⟩
theorem aX1_become_8 : decode mX1_become.2.1 8 = .ok (.aload_n 0, 1) ∧ 8 + 1 = 9 := ⟨by decide +kernel, rfl⟩
theorem aX1_become_9 : decode mX1_become.2.1 9 = .ok (.aload_n 1, 1) ∧ 9 + 1 = 10 := ⟨by decide +kernel, rfl⟩
theorem aX1_become_10 : decode mX1_become.2.1 10 = .ok (.getfield 24, 3) ∧ 10 + 3 = 13 := ⟨by decide +kernel, rfl⟩
theorem aX1_become_13 : decode mX1_become.2.1 13 = .ok (.putfield 24, 3) ∧ 13 + 3 = 16 := ⟨by decide +kernel, rfl⟩
theorem aX1_become_16 : decode mX1_become.2.1 16 = .ok (.aload_n 0, 1) ∧ 16 + 1 = 17 := ⟨by decide +kernel, rfl⟩
theorem aX1_become_17 : decode mX1_become.2.1 17 = .ok (.aload_n 1, 1) ∧ 17 + 1 = 18 := ⟨by decide +kernel, rfl⟩
theorem aX1_become_18 : decode mX1_become.2.1 18 = .ok (.getfield 27, 3) ∧ 18 + 3 = 21 := ⟨by decide +kernel, rfl⟩
theorem aX1_become_21 : decode mX1_become.2.1 21 = .ok (.putfield 27, 3) ∧ 21 + 3 = 24 := ⟨by decide +kernel, rfl⟩
theorem aX1_become_24 : decode mX1_become.2.1 24 = .ok (.aload_n 0, 1) ∧ 24 + 1 = 25 := ⟨by decide +kernel, rfl⟩
theorem aX1_become_25 : decode mX1_become.2.1 25 = .ok (.aload_n 1, 1) ∧ 25 + 1 = 26 := ⟨by decide +kernel, rfl⟩
theorem aX1_become_26 : decode mX1_become.2.1 26 = .ok (.getfield 33, 3) ∧ 26 + 3 = 29 := ⟨by decide +kernel, rfl⟩
theorem aX1_become_29 : decode mX1_become.2.1 29 = .ok (.putfield 33, 3) ∧ 29 + 3 = 32 := ⟨by decide +kernel, rfl⟩
theorem aX1_become_32 : decode mX1_become.2.1 32 = .ok (.aload_n 0, 1) ∧ 32 + 1 = 33 := ⟨by decide +kernel, rfl⟩
theorem aX1_become_33 : decode mX1_become.2.1 33 = .ok (.aload_n 1, 1) ∧ 33 + 1 = 34 := ⟨by decide +kernel, rfl⟩
theorem aX1_become_34 : decode mX1_become.2.1 34 = .ok (.getfield 36, 3) ∧ 34 + 3 = 37 := ⟨by decide +kernel, rfl⟩
theorem aX1_become_37 : decode mX1_become.2.1 37 = .ok (.putfield 36, 3) ∧ 37 + 3 = 40 := ⟨by decide +kernel, rfl⟩
theorem aX1_become_40 : decode mX1_become.2.1 40 = .ok (.aload_n 1, 1) ∧ 40 + 1 = 41 := ⟨by decide +kernel, rfl⟩
theorem aX1_become_41 : decode mX1_become.2.1 41 = .ok (.getfield 39, 3) ∧ 41 + 3 = 44 := ⟨by decide +kernel, rfl⟩
theorem aX1_become_44 : decode mX1_become.2.1 44 = .ok (.iconst 0, 1) ∧ 44 + 1 = 45 := ⟨by decide +kernel, rfl⟩
theorem aX1_become_45 : decode mX1_become.2.1 45 = .ok (.aload_n 0, 1) ∧ 45 + 1 = 46 := ⟨by decide +kernel, rfl⟩
theorem aX1_become_46 : decode mX1_become.2.1 46 = .ok (.getfield 39, 3) ∧ 46 + 3 = 49 := ⟨by decide +kernel, rfl⟩
theorem aX1_become_49 : decode mX1_become.2.1 49 = .ok (.iconst 0, 1) ∧ 49 + 1 = 50 := ⟨by decide +kernel, rfl⟩
theorem aX1_become_50 : decode mX1_become.2.1 50 = .ok (.bipush 16, 2) ∧ 50 + 2 = 52 := ⟨by decide +kernel, rfl⟩
theorem aX1_become_52 : decode mX1_become.2.1 52 = .ok (.invokestatic 78, 3) ∧ 52 + 3 = 55 := ⟨by decide +kernel, rfl⟩
theorem aX1_become_55 : decode mX1_become.2.1 55 = .ok (.aload_n 1, 1) ∧ 55 + 1 = 56 := ⟨by decide +kernel, rfl⟩
theorem aX1_become_56 : decode mX1_become.2.1 56 = .ok (.getfield 46, 3) ∧ 56 + 3 = 59 := ⟨by decide +kernel, rfl⟩
theorem aX1_become_59 : decode mX1_become.2.1 59 = .ok (.iconst 0, 1) ∧ 59 + 1 = 60 := ⟨by decide +kernel, rfl⟩
theorem aX1_become_60 : decode mX1_become.2.1 60 = .ok (.aload_n 0, 1) ∧ 60 + 1 = 61 := ⟨by decide +kernel, rfl⟩
theorem aX1_become_61 : decode mX1_become.2.1 61 = .ok (.getfield 46, 3) ∧ 61 + 3 = 64 := ⟨by decide +kernel, rfl⟩
theorem aX1_become_64 : decode mX1_become.2.1 64 = .ok (.iconst 0, 1) ∧ 64 + 1 = 65 := ⟨by decide +kernel, rfl⟩
theorem aX1_become_65 : decode mX1_become.2.1 65 = .ok (.bipush 6, 2) ∧ 65 + 2 = 67 := ⟨by decide +kernel, rfl⟩
theorem aX1_become_67 : decode mX1_become.2.1 67 = .ok (.invokestatic 78, 3) ∧ 67 + 3 = 70 := ⟨by decide +kernel, rfl⟩
theorem aX1_become_70 : decode mX1_become.2.1 70 = .ok (.aload_n 1, 1) ∧ 70 + 1 = 71 := ⟨by decide +kernel, rfl⟩
theorem aX1_become_71 : decode mX1_become.2.1 71 = .ok (.getfield 49, 3) ∧ 71 + 3 = 74 := ⟨by decide +kernel, rfl⟩
theorem aX1_become_74 : decode mX1_become.2.1 74 = .ok (.iconst 0, 1) ∧ 74 + 1 = 75 := ⟨by decide +kernel, rfl⟩
theorem aX1_become_75 : decode mX1_become.2.1 75 = .ok (.aload_n 0, 1) ∧ 75 + 1 = 76 := ⟨by decide +kernel, rfl⟩
theorem aX1_become_76 : decode mX1_become.2.1 76 = .ok (.getfield 49, 3) ∧ 76 + 3 = 79 := ⟨by decide +kernel, rfl⟩
theorem aX1_become_79 : decode mX1_become.2.1 79 = .ok (.iconst 0, 1) ∧ 79 + 1 = 80 := ⟨by decide +kernel, rfl⟩
theorem aX1_become_80 : decode mX1_become.2.1 80 = .ok (.bipush 6, 2) ∧ 80 + 2 = 82 := ⟨by decide +kernel, rfl⟩
theorem aX1_become_82 : decode mX1_become.2.1 82 = .ok (.invokestatic 78, 3) ∧ 82 + 3 = 85 := ⟨by decide +kernel, rfl⟩
theorem aX1_become_85 : decode mX1_become.2.1 85 = .ok (.aload_n 1, 1) ∧ 85 + 1 = 86 := ⟨by decide +kernel, rfl⟩
theorem aX1_become_86 : decode mX1_become.2.1 86 = .ok (.getfield 55, 3) ∧ 86 + 3 = 89 := ⟨by decide +kernel, rfl⟩
theorem aX1_become_89 : decode mX1_become.2.1 89 = .ok (.iconst 0, 1) ∧ 89 + 1 = 90 := ⟨by decide +kernel, rfl⟩
theorem aX1_become_90 : decode mX1_become.2.1 90 = .ok (.aload_n 0, 1) ∧ 90 + 1 = 91 := ⟨by decide +kernel, rfl⟩
theorem aX1_become_91 : decode mX1_become.2.1 91 = .ok (.getfield 55, 3) ∧ 91 + 3 = 94 := ⟨by decide +kernel, rfl⟩
theorem aX1_become_94 : decode mX1_become.2.1 94 = .ok (.iconst 0, 1) ∧ 94 + 1 = 95 := ⟨by decide +kernel, rfl⟩
theorem aX1_become_95 : decode mX1_become.2.1 95 = .ok (.bipush 6, 2) ∧ 95 + 2 = 97 := ⟨by decide +kernel, rfl⟩
theorem aX1_become_97 : decode mX1_become.2.1 97 = .ok (.invokestatic 78, 3) ∧ 97 + 3 = 100 := ⟨by decide +kernel, rfl⟩
theorem aX1_become_100 : decode mX1_become.2.1 100 = .ok (.aload_n 1, 1) ∧ 100 + 1 = 101 := ⟨by decide +kernel, rfl⟩
theorem aX1_become_101 : decode mX1_become.2.1 101 = .ok (.getfield 61, 3) ∧ 101 + 3 = 104 := ⟨by decide +kernel, rfl⟩
theorem aX1_become_104 : decode mX1_become.2.1 104 = .ok (.iconst 0, 1) ∧ 104 + 1 = 105 := ⟨by decide +kernel, rfl⟩
theorem aX1_become_105 : decode mX1_become.2.1 105 = .ok (.aload_n 0, 1) ∧ 105 + 1 = 106 := ⟨by decide +kernel, rfl⟩
theorem aX1_become_106 : decode mX1_become.2.1 106 = .ok (.getfield 61, 3) ∧ 106 + 3 = 109 := ⟨by decide +kernel, rfl⟩
theorem aX1_become_109 : decode mX1_become.2.1 109 = .ok (.iconst 0, 1) ∧ 109 + 1 = 110 := ⟨by decide +kernel, rfl⟩
theorem aX1_become_110 : decode mX1_become.2.1 110 = .ok (.bipush 24, 2) ∧ 110 + 2 = 112 := ⟨by decide +kernel, rfl⟩
theorem aX1_become_112 : decode mX1_become.2.1 112 = .ok (.invokestatic 78, 3) ∧ 112 + 3 = 115 := ⟨by decide +kernel, rfl⟩
theorem aX1_become_115 : decode mX1_become.2.1 115 = .ok (.aload_n 0, 1) ∧ 115 + 1 = 116 := ⟨by decide +kernel, rfl⟩
theorem aX1_become_116 : decode mX1_become.2.1 116 = .ok (.aload_n 1, 1) ∧ 116 + 1 = 117 := ⟨by decide +kernel, rfl⟩
theorem aX1_become_117 : decode mX1_become.2.1 117 = .ok (.invokevirtual 84, 3) ∧ 117 + 3 = 120 := ⟨by decide +kernel, rfl⟩
theorem aX1_become_120 : decode mX1_become.2.1 120 = .ok (.return_, 1) := by decide +kernel
theorem S_X1_become {E : EE} {d : Nat} {I : IH} {Q : QT} {e g r : Nat} (hE : isEv e g r) {e1 g1 r1 : Nat} (hE1 : isEv e1 g1 r1) (h :
(∀ I1 : IH, I1 = stI I e 2 (I e1 2) →
 (∀ I3 : IH, I3 = stI I1 e 6 (I1 e1 6) →
 (∀ I5 : IH, I5 = stI I3 e 7 (I3 e1 7) →
 (∀ I7 : IH, I7 = stI I5 e 9 (I5 e1 9) →
 (∀ I9 : IH, I9 = stI I7 e 10 (I7 e1 10) →
 (∀ I11 : IH, I11 = stA I9 g (va_cpy (I9 g1) (I9 g) 0 0 16) →
 (∀ I13 : IH, I13 = stA I11 (g + 2) (va_cpy (I11 (g1 + 2)) (I11 (g + 2)) 0 0 6) →
 (∀ I15 : IH, I15 = stA I13 (g + 3) (va_cpy (I13 (g1 + 3)) (I13 (g + 3)) 0 0 6) →
 (∀ I17 : IH, I17 = stA I15 (g + 5) (va_cpy (I15 (g1 + 5)) (I15 (g + 5)) 0 0 6) →
 (∀ I19 : IH, I19 = stA I17 (g + 7) (va_cpy (I17 (g1 + 7)) (I17 (g + 7)) 0 0 24) →
 (Mt E (d + 1) mX1_moveTo [.ref (eb E + e), .ref (eb E + e1)] I19 (fun rv I21 => rv = none ∧
 Q none I21))))))))))))) : Mt E (d + 2) mX1_become [.ref (eb E + e), .ref (eb E + e1)] I Q := by
  refine Mt_of [(0, .ref (eb E + e)), (1, .ref (eb E + e1))] (by decide +kernel) (by simp [lg_sl, Value.category, mX1_become]) rfl ?_
  refine J_aload_n 0 aX1_become_0 rfl ?_
  refine J_aload_n 1 aX1_become_1 rfl ?_
  refine J_getI aX1_become_2 flX1_9 (shEv hE1) rfl ?_
  refine J_putI aX1_become_5 fpX1_9 (shEv hE) rfl (fun I1 e2 => ?_)
  replace h := h I1 e2
  refine J_aload_n 0 aX1_become_8 rfl ?_
  refine J_aload_n 1 aX1_become_9 rfl ?_
  refine J_getI aX1_become_10 flX1_24 (shEv hE1) rfl ?_
  refine J_putI aX1_become_13 fpX1_24 (shEv hE) rfl (fun I3 e4 => ?_)
  replace h := h I3 e4
  refine J_aload_n 0 aX1_become_16 rfl ?_
  refine J_aload_n 1 aX1_become_17 rfl ?_
  refine J_getI aX1_become_18 flX1_27 (shEv hE1) rfl ?_
  refine J_putI aX1_become_21 fpX1_27 (shEv hE) rfl (fun I5 e6 => ?_)
  replace h := h I5 e6
  refine J_aload_n 0 aX1_become_24 rfl ?_
  refine J_aload_n 1 aX1_become_25 rfl ?_
  refine J_getI aX1_become_26 flX1_33 (shEv hE1) rfl ?_
  refine J_putI aX1_become_29 fpX1_33 (shEv hE) rfl (fun I7 e8 => ?_)
  replace h := h I7 e8
  refine J_aload_n 0 aX1_become_32 rfl ?_
  refine J_aload_n 1 aX1_become_33 rfl ?_
  refine J_getI aX1_become_34 flX1_36 (shEv hE1) rfl ?_
  refine J_putI aX1_become_37 fpX1_36 (shEv hE) rfl (fun I9 e10 => ?_)
  replace h := h I9 e10
  refine J_aload_n 1 aX1_become_40 rfl ?_
  refine J_getR aX1_become_41 flX1_39 (shEv hE1) rfl ?_
  refine J_iconst (nI 0) aX1_become_44 (by decide +kernel) ?_
  refine J_aload_n 0 aX1_become_45 rfl ?_
  refine J_getR aX1_become_46 flX1_39 (shEv hE) rfl ?_
  refine J_iconst (nI 0) aX1_become_49 (by decide +kernel) ?_
  refine J_bipush (nI 16) aX1_become_50 (by decide +kernel) ?_
  refine J_copy 0 0 16 aX1_become_52 lkX1_78 cp_nat cp_stat cp_ini (shEv0 hE1) (shEv0 hE) rfl rfl rfl (by decide) (by decide) (by decide) (by decide) (by omega) (Nat.le_of_ble_eq_true rfl) (fun I11 e12 => ?_)
  replace h := h I11 e12
  refine J_aload_n 1 aX1_become_55 rfl ?_
  refine J_getR aX1_become_56 flX1_46 (shEv hE1) rfl ?_
  refine J_iconst (nI 0) aX1_become_59 (by decide +kernel) ?_
  refine J_aload_n 0 aX1_become_60 rfl ?_
  refine J_getR aX1_become_61 flX1_46 (shEv hE) rfl ?_
  refine J_iconst (nI 0) aX1_become_64 (by decide +kernel) ?_
  refine J_bipush (nI 6) aX1_become_65 (by decide +kernel) ?_
  refine J_copy 0 0 6 aX1_become_67 lkX1_78 cp_nat cp_stat cp_ini (shEv2 hE1) (shEv2 hE) rfl rfl rfl (by decide) (by decide) (by decide) (by decide) (by omega) (Nat.le_of_ble_eq_true rfl) (fun I13 e14 => ?_)
  replace h := h I13 e14
  refine J_aload_n 1 aX1_become_70 rfl ?_
  refine J_getR aX1_become_71 flX1_49 (shEv hE1) rfl ?_
  refine J_iconst (nI 0) aX1_become_74 (by decide +kernel) ?_
  refine J_aload_n 0 aX1_become_75 rfl ?_
  refine J_getR aX1_become_76 flX1_49 (shEv hE) rfl ?_
  refine J_iconst (nI 0) aX1_become_79 (by decide +kernel) ?_
  refine J_bipush (nI 6) aX1_become_80 (by decide +kernel) ?_
  refine J_copy 0 0 6 aX1_become_82 lkX1_78 cp_nat cp_stat cp_ini (shEv3 hE1) (shEv3 hE) rfl rfl rfl (by decide) (by decide) (by decide) (by decide) (by omega) (Nat.le_of_ble_eq_true rfl) (fun I15 e16 => ?_)
  replace h := h I15 e16
  refine J_aload_n 1 aX1_become_85 rfl ?_
  refine J_getR aX1_become_86 flX1_55 (shEv hE1) rfl ?_
  refine J_iconst (nI 0) aX1_become_89 (by decide +kernel) ?_
  refine J_aload_n 0 aX1_become_90 rfl ?_
  refine J_getR aX1_become_91 flX1_55 (shEv hE) rfl ?_
  refine J_iconst (nI 0) aX1_become_94 (by decide +kernel) ?_
  refine J_bipush (nI 6) aX1_become_95 (by decide +kernel) ?_
  refine J_copy 0 0 6 aX1_become_97 lkX1_78 cp_nat cp_stat cp_ini (shEv5 hE1) (shEv5 hE) rfl rfl rfl (by decide) (by decide) (by decide) (by decide) (by omega) (Nat.le_of_ble_eq_true rfl) (fun I17 e18 => ?_)
  replace h := h I17 e18
  refine J_aload_n 1 aX1_become_100 rfl ?_
  refine J_getR aX1_become_101 flX1_61 (shEv hE1) rfl ?_
  refine J_iconst (nI 0) aX1_become_104 (by decide +kernel) ?_
  refine J_aload_n 0 aX1_become_105 rfl ?_
  refine J_getR aX1_become_106 flX1_61 (shEv hE) rfl ?_
  refine J_iconst (nI 0) aX1_become_109 (by decide +kernel) ?_
  refine J_bipush (nI 24) aX1_become_110 (by decide +kernel) ?_
  refine J_copy 0 0 24 aX1_become_112 lkX1_78 cp_nat cp_stat cp_ini (shEv7 hE1) (shEv7 hE) rfl rfl rfl (by decide) (by decide) (by decide) (by decide) (by omega) (Nat.le_of_ble_eq_true rfl) (fun I19 e20 => ?_)
  replace h := h I19 e20
  refine J_aload_n 0 aX1_become_115 rfl ?_
  refine J_aload_n 1 aX1_become_116 rfl ?_
  refine J_callV [.ref (eb E + e1)] [] aX1_become_117 lkX1_84_X1 okX1_moveTo (shEv hE) rfl rfl rfl (Nat.le_of_ble_eq_true rfl) (Nat.le_refl _) (Mt_mono h (fun rv I21 h => ?_))
  obtain ⟨rfl, h⟩ := h
  refine J_r0 ?_
  exact J_vret aX1_become_120 rfl h
theorem aX1_moveTo_0 : decode mX1_moveTo.2.1 0 = .ok (.aload_n 0, 1) ∧ 0 + 1 = 1 := ⟨by decide +kernel, rfl⟩
theorem aX1_moveTo_1 : decode mX1_moveTo.2.1 1 = .ok (.aload_n 1, 1) ∧ 1 + 1 = 2 := ⟨by decide +kernel, rfl⟩
theorem aX1_moveTo_2 : decode mX1_moveTo.2.1 2 = .ok (.getfield 15, 3) ∧ 2 + 3 = 5 := ⟨by decide +kernel, rfl⟩
theorem aX1_moveTo_5 : decode mX1_moveTo.2.1 5 = .ok (.putfield 15, 3) ∧ 5 + 3 = 8 := ⟨by decide +kernel, rfl⟩
theorem aX1_moveTo_8 : decode mX1_moveTo.2.1 8 = .ok (.aload_n 0, 1) ∧ 8 + 1 = 9 := ⟨by decide +kernel, rfl⟩
theorem aX1_moveTo_9 : decode mX1_moveTo.2.1 9 = .ok (.aload_n 1, 1) ∧ 9 + 1 = 10 := ⟨by decide +kernel, rfl⟩
theorem aX1_moveTo_10 : decode mX1_moveTo.2.1 10 = .ok (.getfield 18, 3) ∧ 10 + 3 = 13 := ⟨by decide +kernel, rfl⟩
theorem aX1_moveTo_13 : decode mX1_moveTo.2.1 13 = .ok (.putfield 18, 3) ∧ 13 + 3 = 16 := ⟨by decide +kernel, rfl⟩
theorem aX1_moveTo_16 : decode mX1_moveTo.2.1 16 = .ok (.aload_n 0, 1) ∧ 16 + 1 = 17 := ⟨by decide +kernel, rfl⟩
theorem aX1_moveTo_17 : decode mX1_moveTo.2.1 17 = .ok (.aload_n 1, 1) ∧ 17 + 1 = 18 := ⟨by decide +kernel, rfl⟩
theorem aX1_moveTo_18 : decode mX1_moveTo.2.1 18 = .ok (.getfield 21, 3) ∧ 18 + 3 = 21 := ⟨by decide +kernel, rfl⟩
theorem aX1_moveTo_21 : decode mX1_moveTo.2.1 21 = .ok (.putfield 21, 3) ∧ 21 + 3 = 24 := ⟨by decide +kernel, rfl⟩
theorem aX1_moveTo_24 : decode mX1_moveTo.2.1 24 = .ok (.aload_n 0, 1) ∧ 24 + 1 = 25 := ⟨by decide +kernel, rfl⟩
theorem aX1_moveTo_25 : decode mX1_moveTo.2.1 25 = .ok (.aload_n 1, 1) ∧ 25 + 1 = 26 := ⟨by decide +kernel, rfl⟩
theorem aX1_moveTo_26 : decode mX1_moveTo.2.1 26 = .ok (.getfield 30, 3) ∧ 26 + 3 = 29 := ⟨by decide +kernel, rfl⟩
theorem aX1_moveTo_29 : decode mX1_moveTo.2.1 29 = .ok (.putfield 30, 3) ∧ 29 + 3 = 32 := ⟨by decide +kernel, rfl⟩
theorem aX1_moveTo_32 : decode mX1_moveTo.2.1 32 = .ok (.aload_n 1, 1) ∧ 32 + 1 = 33 := ⟨by decide +kernel, rfl⟩
theorem aX1_moveTo_33 : decode mX1_moveTo.2.1 33 = .ok (.getfield 43, 3) ∧ 33 + 3 = 36 := ⟨by decide +kernel, rfl⟩
theorem aX1_moveTo_36 : decode mX1_moveTo.2.1 36 = .ok (.iconst 0, 1) ∧ 36 + 1 = 37 := ⟨by decide +kernel, rfl⟩
theorem aX1_moveTo_37 : decode mX1_moveTo.2.1 37 = .ok (.aload_n 0, 1) ∧ 37 + 1 = 38 := ⟨by decide +kernel, rfl⟩
theorem aX1_moveTo_38 : decode mX1_moveTo.2.1 38 = .ok (.getfield 43, 3) ∧ 38 + 3 = 41 := ⟨by decide +kernel, rfl⟩
theorem aX1_moveTo_41 : decode mX1_moveTo.2.1 41 = .ok (.iconst 0, 1) ∧ 41 + 1 = 42 := ⟨by decide +kernel, rfl⟩
theorem aX1_moveTo_42 : decode mX1_moveTo.2.1 42 = .ok (.bipush 6, 2) ∧ 42 + 2 = 44 := ⟨by decide +kernel, rfl⟩
theorem aX1_moveTo_44 : decode mX1_moveTo.2.1 44 = .ok (.invokestatic 78, 3) ∧ 44 + 3 = 47 := ⟨by decide +kernel, rfl⟩
theorem aX1_moveTo_47 : decode mX1_moveTo.2.1 47 = .ok (.aload_n 1, 1) ∧ 47 + 1 = 48 := ⟨by decide +kernel, rfl⟩
theorem aX1_moveTo_48 : decode mX1_moveTo.2.1 48 = .ok (.getfield 52, 3) ∧ 48 + 3 = 51 := ⟨by decide +kernel, rfl⟩
theorem aX1_moveTo_51 : decode mX1_moveTo.2.1 51 = .ok (.iconst 0, 1) ∧ 51 + 1 = 52 := ⟨by decide +kernel, rfl⟩
theorem aX1_moveTo_52 : decode mX1_moveTo.2.1 52 = .ok (.aload_n 0, 1) ∧ 52 + 1 = 53 := ⟨by decide +kernel, rfl⟩
theorem aX1_moveTo_53 : decode mX1_moveTo.2.1 53 = .ok (.getfield 52, 3) ∧ 53 + 3 = 56 := ⟨by decide +kernel, rfl⟩
theorem aX1_moveTo_56 : decode mX1_moveTo.2.1 56 = .ok (.iconst 0, 1) ∧ 56 + 1 = 57 := ⟨by decide +kernel, rfl⟩
theorem aX1_moveTo_57 : decode mX1_moveTo.2.1 57 = .ok (.bipush 6, 2) ∧ 57 + 2 = 59 := ⟨by decide +kernel, rfl⟩
theorem aX1_moveTo_59 : decode mX1_moveTo.2.1 59 = .ok (.invokestatic 78, 3) ∧ 59 + 3 = 62 := ⟨by decide +kernel, rfl⟩
theorem aX1_moveTo_62 : decode mX1_moveTo.2.1 62 = .ok (.aload_n 1, 1) ∧ 62 + 1 = 63 := ⟨by decide +kernel, rfl⟩
theorem aX1_moveTo_63 : decode mX1_moveTo.2.1 63 = .ok (.getfield 58, 3) ∧ 63 + 3 = 66 := ⟨by decide +kernel, rfl⟩
theorem aX1_moveTo_66 : decode mX1_moveTo.2.1 66 = .ok (.iconst 0, 1) ∧ 66 + 1 = 67 := ⟨by decide +kernel, rfl⟩
theorem aX1_moveTo_67 : decode mX1_moveTo.2.1 67 = .ok (.aload_n 0, 1) ∧ 67 + 1 = 68 := ⟨by decide +kernel, rfl⟩
theorem aX1_moveTo_68 : decode mX1_moveTo.2.1 68 = .ok (.getfield 58, 3) ∧ 68 + 3 = 71 := ⟨by decide +kernel, rfl⟩
theorem aX1_moveTo_71 : decode mX1_moveTo.2.1 71 = .ok (.iconst 0, 1) ∧ 71 + 1 = 72 := ⟨by decide +kernel, rfl⟩
theorem aX1_moveTo_72 : decode mX1_moveTo.2.1 72 = .ok (.bipush 6, 2) ∧ 72 + 2 = 74 := ⟨by decide +kernel, rfl⟩
theorem aX1_moveTo_74 : decode mX1_moveTo.2.1 74 = .ok (.invokestatic 78, 3) ∧ 74 + 3 = 77 := ⟨by decide +kernel, rfl⟩
theorem aX1_moveTo_77 : decode mX1_moveTo.2.1 77 = .ok (.return_, 1) := by decide +kernel
theorem S_X1_moveTo {E : EE} {d : Nat} {I : IH} {Q : QT} {e g r : Nat} (hE : isEv e g r) {e1 g1 r1 : Nat} (hE1 : isEv e1 g1 r1) (h :
(∀ I1 : IH, I1 = stI I e 3 (I e1 3) →
 (∀ I3 : IH, I3 = stI I1 e 4 (I1 e1 4) →
 (∀ I5 : IH, I5 = stI I3 e 5 (I3 e1 5) →
 (∀ I7 : IH, I7 = stI I5 e 8 (I5 e1 8) →
 (∀ I9 : IH, I9 = stA I7 (g + 1) (va_cpy (I7 (g1 + 1)) (I7 (g + 1)) 0 0 6) →
 (∀ I11 : IH, I11 = stA I9 (g + 4) (va_cpy (I9 (g1 + 4)) (I9 (g + 4)) 0 0 6) →
 (∀ I13 : IH, I13 = stA I11 (g + 6) (va_cpy (I11 (g1 + 6)) (I11 (g + 6)) 0 0 6) →
 Q none I13)))))))) : Mt E (d + 2) mX1_moveTo [.ref (eb E + e), .ref (eb E + e1)] I Q := by
  refine Mt_of [(0, .ref (eb E + e)), (1, .ref (eb E + e1))] (by decide +kernel) (by simp [lg_sl, Value.category, mX1_moveTo]) rfl ?_
  refine J_aload_n 0 aX1_moveTo_0 rfl ?_
  refine J_aload_n 1 aX1_moveTo_1 rfl ?_
  refine J_getI aX1_moveTo_2 flX1_15 (shEv hE1) rfl ?_
  refine J_putI aX1_moveTo_5 fpX1_15 (shEv hE) rfl (fun I1 e2 => ?_)
  replace h := h I1 e2
  refine J_aload_n 0 aX1_moveTo_8 rfl ?_
  refine J_aload_n 1 aX1_moveTo_9 rfl ?_
  refine J_getI aX1_moveTo_10 flX1_18 (shEv hE1) rfl ?_
  refine J_putI aX1_moveTo_13 fpX1_18 (shEv hE) rfl (fun I3 e4 => ?_)
  replace h := h I3 e4
  refine J_aload_n 0 aX1_moveTo_16 rfl ?_
  refine J_aload_n 1 aX1_moveTo_17 rfl ?_
  refine J_getI aX1_moveTo_18 flX1_21 (shEv hE1) rfl ?_
  refine J_putI aX1_moveTo_21 fpX1_21 (shEv hE) rfl (fun I5 e6 => ?_)
  replace h := h I5 e6
  refine J_aload_n 0 aX1_moveTo_24 rfl ?_
  refine J_aload_n 1 aX1_moveTo_25 rfl ?_
  refine J_getI aX1_moveTo_26 flX1_30 (shEv hE1) rfl ?_
  refine J_putI aX1_moveTo_29 fpX1_30 (shEv hE) rfl (fun I7 e8 => ?_)
  replace h := h I7 e8
  refine J_aload_n 1 aX1_moveTo_32 rfl ?_
  refine J_getR aX1_moveTo_33 flX1_43 (shEv hE1) rfl ?_
  refine J_iconst (nI 0) aX1_moveTo_36 (by decide +kernel) ?_
  refine J_aload_n 0 aX1_moveTo_37 rfl ?_
  refine J_getR aX1_moveTo_38 flX1_43 (shEv hE) rfl ?_
  refine J_iconst (nI 0) aX1_moveTo_41 (by decide +kernel) ?_
  refine J_bipush (nI 6) aX1_moveTo_42 (by decide +kernel) ?_
  refine J_copy 0 0 6 aX1_moveTo_44 lkX1_78 cp_nat cp_stat cp_ini (shEv1 hE1) (shEv1 hE) rfl rfl rfl (by decide) (by decide) (by decide) (by decide) (by omega) (Nat.le_of_ble_eq_true rfl) (fun I9 e10 => ?_)
  replace h := h I9 e10
  refine J_aload_n 1 aX1_moveTo_47 rfl ?_
  refine J_getR aX1_moveTo_48 flX1_52 (shEv hE1) rfl ?_
  refine J_iconst (nI 0) aX1_moveTo_51 (by decide +kernel) ?_
  refine J_aload_n 0 aX1_moveTo_52 rfl ?_
  refine J_getR aX1_moveTo_53 flX1_52 (shEv hE) rfl ?_
  refine J_iconst (nI 0) aX1_moveTo_56 (by decide +kernel) ?_
  refine J_bipush (nI 6) aX1_moveTo_57 (by decide +kernel) ?_
  refine J_copy 0 0 6 aX1_moveTo_59 lkX1_78 cp_nat cp_stat cp_ini (shEv4 hE1) (shEv4 hE) rfl rfl rfl (by decide) (by decide) (by decide) (by decide) (by omega) (Nat.le_of_ble_eq_true rfl) (fun I11 e12 => ?_)
  replace h := h I11 e12
  refine J_aload_n 1 aX1_moveTo_62 rfl ?_
  refine J_getR aX1_moveTo_63 flX1_58 (shEv hE1) rfl ?_
  refine J_iconst (nI 0) aX1_moveTo_66 (by decide +kernel) ?_
  refine J_aload_n 0 aX1_moveTo_67 rfl ?_
  refine J_getR aX1_moveTo_68 flX1_58 (shEv hE) rfl ?_
  refine J_iconst (nI 0) aX1_moveTo_71 (by decide +kernel) ?_
  refine J_bipush (nI 6) aX1_moveTo_72 (by decide +kernel) ?_
  refine J_copy 0 0 6 aX1_moveTo_74 lkX1_78 cp_nat cp_stat cp_ini (shEv6 hE1) (shEv6 hE) rfl rfl rfl (by decide) (by decide) (by decide) (by decide) (by omega) (Nat.le_of_ble_eq_true rfl) (fun I13 e14 => ?_)
  replace h := h I13 e14
  exact J_vret aX1_moveTo_77 rfl h
theorem aX1_beginAgain_0 : decode mX1_beginAgain.2.1 0 = .ok (.aload_n 0, 1) ∧ 0 + 1 = 1 := ⟨by decide +kernel, rfl⟩
theorem aX1_beginAgain_1 : decode mX1_beginAgain.2.1 1 = .ok (.iconst 0, 1) ∧ 1 + 1 = 2 := ⟨by decide +kernel, rfl⟩
theorem aX1_beginAgain_2 : decode mX1_beginAgain.2.1 2 = .ok (.putfield 15, 3) ∧ 2 + 3 = 5 := ⟨by decide +kernel, rfl⟩
theorem aX1_beginAgain_5 : decode mX1_beginAgain.2.1 5 = .ok (.aload_n 0, 1) ∧ 5 + 1 = 6 := ⟨by decide +kernel, rfl⟩
theorem aX1_beginAgain_6 : decode mX1_beginAgain.2.1 6 = .ok (.iconst 0, 1) ∧ 6 + 1 = 7 := ⟨by decide +kernel, rfl⟩
theorem aX1_beginAgain_7 : decode mX1_beginAgain.2.1 7 = .ok (.putfield 24, 3) ∧ 7 + 3 = 10 := ⟨by decide +kernel, rfl⟩
theorem aX1_beginAgain_10 : decode mX1_beginAgain.2.1 10 = .ok (.aload_n 0, 1) ∧ 10 + 1 = 11 := ⟨by decide +kernel, rfl⟩
theorem aX1_beginAgain_11 : decode mX1_beginAgain.2.1 11 = .ok (.iconst 0, 1) ∧ 11 + 1 = 12 := ⟨by decide +kernel, rfl⟩
theorem aX1_beginAgain_12 : decode mX1_beginAgain.2.1 12 = .ok (.putfield 18, 3) ∧ 12 + 3 = 15 := ⟨by decide +kernel, rfl⟩
theorem aX1_beginAgain_15 : decode mX1_beginAgain.2.1 15 = .ok (.aload_n 0, 1) ∧ 15 + 1 = 16 := ⟨by decide +kernel, rfl⟩
theorem aX1_beginAgain_16 : decode mX1_beginAgain.2.1 16 = .ok (.bipush 60, 2) ∧ 16 + 2 = 18 := ⟨by decide +kernel, rfl⟩
theorem aX1_beginAgain_18 : decode mX1_beginAgain.2.1 18 = .ok (.putfield 21, 3) ∧ 18 + 3 = 21 := ⟨by decide +kernel, rfl⟩
theorem aX1_beginAgain_21 : decode mX1_beginAgain.2.1 21 = .ok (.aload_n 0, 1) ∧ 21 + 1 = 22 := ⟨by decide +kernel, rfl⟩
theorem aX1_beginAgain_22 : decode mX1_beginAgain.2.1 22 = .ok (.iconst 0, 1) ∧ 22 + 1 = 23 := ⟨by decide +kernel, rfl⟩
theorem aX1_beginAgain_23 : decode mX1_beginAgain.2.1 23 = .ok (.putfield 30, 3) ∧ 23 + 3 = 26 := ⟨by decide +kernel, rfl⟩
theorem aX1_beginAgain_26 : decode mX1_beginAgain.2.1 26 = .ok (.aload_n 0, 1) ∧ 26 + 1 = 27 := ⟨by decide +kernel, rfl⟩
theorem aX1_beginAgain_27 : decode mX1_beginAgain.2.1 27 = .ok (.getfield 58, 3) ∧ 27 + 3 = 30 := ⟨by decide +kernel, rfl⟩
theorem aX1_beginAgain_30 : decode mX1_beginAgain.2.1 30 = .ok (.iconst 0, 1) ∧ 30 + 1 = 31 := ⟨by decide +kernel, rfl⟩
theorem aX1_beginAgain_31 : decode mX1_beginAgain.2.1 31 = .ok (.invokestatic 72, 3) ∧ 31 + 3 = 34 := ⟨by decide +kernel, rfl⟩
theorem aX1_beginAgain_34 : decode mX1_beginAgain.2.1 34 = .ok (.return_, 1) := by decide +kernel
theorem S_X1_beginAgain {E : EE} {d : Nat} {I : IH} {Q : QT} {e g r : Nat} (hE : isEv e g r) (h :
(∀ I1 : IH, I1 = stI I e 3 (nI 0) →
 (∀ I3 : IH, I3 = stI I1 e 6 (nI 0) →
 (∀ I5 : IH, I5 = stI I3 e 4 (nI 0) →
 (∀ I7 : IH, I7 = stI I5 e 5 (nI 60) →
 (∀ I9 : IH, I9 = stI I7 e 8 (nI 0) →
 (Mt E d mJ7_fill_53178 [.ref (eb E + (g + 6)), .int (nI 0)] I9 (fun rv I11 => rv = none ∧
 Q none I11)))))))) : Mt E (d + 1) mX1_beginAgain [.ref (eb E + e)] I Q := by
  refine Mt_of [(0, .ref (eb E + e))] (by decide +kernel) (by simp [lg_sl, Value.category, mX1_beginAgain]) rfl ?_
  refine J_aload_n 0 aX1_beginAgain_0 rfl ?_
  refine J_iconst (nI 0) aX1_beginAgain_1 (by decide +kernel) ?_
  refine J_putI aX1_beginAgain_2 fpX1_15 (shEv hE) rfl (fun I1 e2 => ?_)
  replace h := h I1 e2
  refine J_aload_n 0 aX1_beginAgain_5 rfl ?_
  refine J_iconst (nI 0) aX1_beginAgain_6 (by decide +kernel) ?_
  refine J_putI aX1_beginAgain_7 fpX1_24 (shEv hE) rfl (fun I3 e4 => ?_)
  replace h := h I3 e4
  refine J_aload_n 0 aX1_beginAgain_10 rfl ?_
  refine J_iconst (nI 0) aX1_beginAgain_11 (by decide +kernel) ?_
  refine J_putI aX1_beginAgain_12 fpX1_18 (shEv hE) rfl (fun I5 e6 => ?_)
  replace h := h I5 e6
  refine J_aload_n 0 aX1_beginAgain_15 rfl ?_
  refine J_bipush (nI 60) aX1_beginAgain_16 (by decide +kernel) ?_
  refine J_putI aX1_beginAgain_18 fpX1_21 (shEv hE) rfl (fun I7 e8 => ?_)
  replace h := h I7 e8
  refine J_aload_n 0 aX1_beginAgain_21 rfl ?_
  refine J_iconst (nI 0) aX1_beginAgain_22 (by decide +kernel) ?_
  refine J_putI aX1_beginAgain_23 fpX1_30 (shEv hE) rfl (fun I9 e10 => ?_)
  replace h := h I9 e10
  refine J_aload_n 0 aX1_beginAgain_26 rfl ?_
  refine J_getR aX1_beginAgain_27 flX1_58 (shEv hE) rfl ?_
  refine J_iconst (nI 0) aX1_beginAgain_30 (by decide +kernel) ?_
  refine J_callS [.ref (eb E + (g + 6)), .int (nI 0)] [] aX1_beginAgain_31 lkX1_72 okJ7_fill_53178 rfl rfl (Nat.le_of_ble_eq_true rfl) (Nat.le_refl _) (Mt_mono h (fun rv I11 h => ?_))
  obtain ⟨rfl, h⟩ := h
  refine J_r0 ?_
  exact J_vret aX1_beginAgain_34 rfl h
theorem aX1_add_0 : decode mX1_add.2.1 0 = .ok (.aload_n 0, 1) ∧ 0 + 1 = 1 := ⟨by decide +kernel, rfl⟩
theorem aX1_add_1 : decode mX1_add.2.1 1 = .ok (.getfield 27, 3) ∧ 1 + 3 = 4 := ⟨by decide +kernel, rfl⟩
theorem aX1_add_4 : decode mX1_add.2.1 4 = .ok (.istore 4, 2) ∧ 4 + 2 = 6 := ⟨by decide +kernel, rfl⟩
theorem aX1_add_6 : decode mX1_add.2.1 6 = .ok (.aload_n 0, 1) ∧ 6 + 1 = 7 := ⟨by decide +kernel, rfl⟩
theorem aX1_add_7 : decode mX1_add.2.1 7 = .ok (.getfield 49, 3) ∧ 7 + 3 = 10 := ⟨by decide +kernel, rfl⟩
theorem aX1_add_10 : decode mX1_add.2.1 10 = .ok (.iload 4, 2) ∧ 10 + 2 = 12 := ⟨by decide +kernel, rfl⟩
theorem aX1_add_12 : decode mX1_add.2.1 12 = .ok (.iload_n 1, 1) ∧ 12 + 1 = 13 := ⟨by decide +kernel, rfl⟩
theorem aX1_add_13 : decode mX1_add.2.1 13 = .ok (.iastore, 1) ∧ 13 + 1 = 14 := ⟨by decide +kernel, rfl⟩
theorem aX1_add_14 : decode mX1_add.2.1 14 = .ok (.aload_n 0, 1) ∧ 14 + 1 = 15 := ⟨by decide +kernel, rfl⟩
theorem aX1_add_15 : decode mX1_add.2.1 15 = .ok (.getfield 52, 3) ∧ 15 + 3 = 18 := ⟨by decide +kernel, rfl⟩
theorem aX1_add_18 : decode mX1_add.2.1 18 = .ok (.iload 4, 2) ∧ 18 + 2 = 20 := ⟨by decide +kernel, rfl⟩
theorem aX1_add_20 : decode mX1_add.2.1 20 = .ok (.iload_n 2, 1) ∧ 20 + 1 = 21 := ⟨by decide +kernel, rfl⟩
theorem aX1_add_21 : decode mX1_add.2.1 21 = .ok (.iastore, 1) ∧ 21 + 1 = 22 := ⟨by decide +kernel, rfl⟩
theorem aX1_add_22 : decode mX1_add.2.1 22 = .ok (.aload_n 0, 1) ∧ 22 + 1 = 23 := ⟨by decide +kernel, rfl⟩
theorem aX1_add_23 : decode mX1_add.2.1 23 = .ok (.getfield 55, 3) ∧ 23 + 3 = 26 := ⟨by decide +kernel, rfl⟩
theorem aX1_add_26 : decode mX1_add.2.1 26 = .ok (.iload 4, 2) ∧ 26 + 2 = 28 := ⟨by decide +kernel, rfl⟩
theorem aX1_add_28 : decode mX1_add.2.1 28 = .ok (.iload_n 3, 1) ∧ 28 + 1 = 29 := ⟨by decide +kernel, rfl⟩
theorem aX1_add_29 : decode mX1_add.2.1 29 = .ok (.iastore, 1) ∧ 29 + 1 = 30 := ⟨by decide +kernel, rfl⟩
theorem aX1_add_30 : decode mX1_add.2.1 30 = .ok (.aload_n 0, 1) ∧ 30 + 1 = 31 := ⟨by decide +kernel, rfl⟩
theorem aX1_add_31 : decode mX1_add.2.1 31 = .ok (.getfield 58, 3) ∧ 31 + 3 = 34 := ⟨by decide +kernel, rfl⟩
theorem aX1_add_34 : decode mX1_add.2.1 34 = .ok (.iload 4, 2) ∧ 34 + 2 = 36 := ⟨by decide +kernel, rfl⟩
theorem aX1_add_36 : decode mX1_add.2.1 36 = .ok (.iconst 0, 1) ∧ 36 + 1 = 37 := ⟨by decide +kernel, rfl⟩
theorem aX1_add_37 : decode mX1_add.2.1 37 = .ok (.iastore, 1) ∧ 37 + 1 = 38 := ⟨by decide +kernel, rfl⟩
theorem aX1_add_38 : decode mX1_add.2.1 38 = .ok (.aload_n 0, 1) ∧ 38 + 1 = 39 := ⟨by decide +kernel, rfl⟩
theorem aX1_add_39 : decode mX1_add.2.1 39 = .ok (.dup, 1) ∧ 39 + 1 = 40 := ⟨by decide +kernel, rfl⟩
theorem aX1_add_40 : decode mX1_add.2.1 40 = .ok (.getfield 30, 3) ∧ 40 + 3 = 43 := ⟨by decide +kernel, rfl⟩
theorem aX1_add_43 : decode mX1_add.2.1 43 = .ok (.iconst 1, 1) ∧ 43 + 1 = 44 := ⟨by decide +kernel, rfl⟩
theorem aX1_add_44 : decode mX1_add.2.1 44 = .ok (.iload 4, 2) ∧ 44 + 2 = 46 := ⟨by decide +kernel, rfl⟩
theorem aX1_add_46 : decode mX1_add.2.1 46 = .ok (.ishl, 1) ∧ 46 + 1 = 47 := ⟨by decide +kernel, rfl⟩
theorem aX1_add_47 : decode mX1_add.2.1 47 = .ok (.iconst (-1), 1) ∧ 47 + 1 = 48 := ⟨by decide +kernel, rfl⟩
theorem aX1_add_48 : decode mX1_add.2.1 48 = .ok (.ixor, 1) ∧ 48 + 1 = 49 := ⟨by decide +kernel, rfl⟩
theorem aX1_add_49 : decode mX1_add.2.1 49 = .ok (.iand, 1) ∧ 49 + 1 = 50 := ⟨by decide +kernel, rfl⟩
theorem aX1_add_50 : decode mX1_add.2.1 50 = .ok (.putfield 30, 3) ∧ 50 + 3 = 53 := ⟨by decide +kernel, rfl⟩
theorem aX1_add_53 : decode mX1_add.2.1 53 = .ok (.aload_n 0, 1) ∧ 53 + 1 = 54 := ⟨by decide +kernel, rfl⟩
theorem aX1_add_54 : decode mX1_add.2.1 54 = .ok (.dup, 1) ∧ 54 + 1 = 55 := ⟨by decide +kernel, rfl⟩
theorem aX1_add_55 : decode mX1_add.2.1 55 = .ok (.getfield 27, 3) ∧ 55 + 3 = 58 := ⟨by decide +kernel, rfl⟩
theorem aX1_add_58 : decode mX1_add.2.1 58 = .ok (.iconst 1, 1) ∧ 58 + 1 = 59 := ⟨by decide +kernel, rfl⟩
theorem aX1_add_59 : decode mX1_add.2.1 59 = .ok (.iadd, 1) ∧ 59 + 1 = 60 := ⟨by decide +kernel, rfl⟩
theorem aX1_add_60 : decode mX1_add.2.1 60 = .ok (.putfield 27, 3) ∧ 60 + 3 = 63 := ⟨by decide +kernel, rfl⟩
theorem aX1_add_63 : decode mX1_add.2.1 63 = .ok (.iload 4, 2) ∧ 63 + 2 = 65 := ⟨by decide +kernel, rfl⟩
theorem aX1_add_65 : decode mX1_add.2.1 65 = .ok (.ireturn, 1) := by decide +kernel
theorem S_X1_add {E : EE} {d : Nat} {I : IH} {Q : QT} {e g r : Nat} (hE : isEv e g r) (x1 : Int32) (x2 : Int32) (x3 : Int32) (h :
(∃ j3 : Nat, (I e 7) = nI j3 ∧ j3 < 6 ∧ (∀ I1 : IH, I1 = stI I (g + 3) j3 x1 →
 (∃ j8 : Nat, (I e 7) = nI j8 ∧ j8 < 6 ∧ (∀ I6 : IH, I6 = stI I1 (g + 4) j8 x2 →
 (∃ j13 : Nat, (I e 7) = nI j13 ∧ j13 < 6 ∧ (∀ I11 : IH, I11 = stI I6 (g + 5) j13 x3 →
 (∃ j18 : Nat, (I e 7) = nI j18 ∧ j18 < 6 ∧ (∀ I16 : IH, I16 = stI I11 (g + 6) j18 (nI 0) →
 (∀ I21 : IH, I21 = stI I16 e 8 ((I16 e 8) &&& (((nI 1) <<< ((I e 7) &&& 31)) ^^^ (-1))) →
 (∀ I23 : IH, I23 = stI I21 e 7 ((I21 e 7) + (nI 1)) →
 Q (some (.int (I e 7))) I23))))))))))) : Mt E d mX1_add [.ref (eb E + e), .int x1, .int x2, .int x3] I Q := by
  refine Mt_of [(0, .ref (eb E + e)), (1, .int x1), (2, .int x2), (3, .int x3)] (by decide +kernel) (by simp [lg_sl, Value.category, mX1_add]) rfl ?_
  refine J_aload_n 0 aX1_add_0 rfl ?_
  refine J_getI aX1_add_1 flX1_27 (shEv hE) rfl ?_
  refine J_istore [(4, .int (I e 7)), (0, .ref (eb E + e)), (1, .int x1), (2, .int x2), (3, .int x3)] aX1_add_4 (by decide) rfl ?_
  refine J_aload_n 1 aX1_add_6 rfl ?_
  refine J_getR aX1_add_7 flX1_49 (shEv hE) rfl ?_
  refine J_iload 0 aX1_add_10 rfl ?_
  refine J_iload_n 2 aX1_add_12 rfl ?_
  obtain ⟨j3, e4, b5, h⟩ := h
  refine J_iastore j3 aX1_add_13 (shEv3 hE) e4 b5 (by decide) (fun I1 e2 => ?_)
  replace h := h I1 e2
  refine J_aload_n 1 aX1_add_14 rfl ?_
  refine J_getR aX1_add_15 flX1_52 (shEv hE) rfl ?_
  refine J_iload 0 aX1_add_18 rfl ?_
  refine J_iload_n 3 aX1_add_20 rfl ?_
  obtain ⟨j8, e9, b10, h⟩ := h
  refine J_iastore j8 aX1_add_21 (shEv4 hE) e9 b10 (by decide) (fun I6 e7 => ?_)
  replace h := h I6 e7
  refine J_aload_n 1 aX1_add_22 rfl ?_
  refine J_getR aX1_add_23 flX1_55 (shEv hE) rfl ?_
  refine J_iload 0 aX1_add_26 rfl ?_
  refine J_iload_n 4 aX1_add_28 rfl ?_
  obtain ⟨j13, e14, b15, h⟩ := h
  refine J_iastore j13 aX1_add_29 (shEv5 hE) e14 b15 (by decide) (fun I11 e12 => ?_)
  replace h := h I11 e12
  refine J_aload_n 1 aX1_add_30 rfl ?_
  refine J_getR aX1_add_31 flX1_58 (shEv hE) rfl ?_
  refine J_iload 0 aX1_add_34 rfl ?_
  refine J_iconst (nI 0) aX1_add_36 (by decide +kernel) ?_
  obtain ⟨j18, e19, b20, h⟩ := h
  refine J_iastore j18 aX1_add_37 (shEv6 hE) e19 b20 (by decide) (fun I16 e17 => ?_)
  replace h := h I16 e17
  refine J_aload_n 1 aX1_add_38 rfl ?_
  refine J_dup aX1_add_39 rfl ?_
  refine J_getI aX1_add_40 flX1_30 (shEv hE) rfl ?_
  refine J_iconst (nI 1) aX1_add_43 (by decide +kernel) ?_
  refine J_iload 0 aX1_add_44 rfl ?_
  refine J_ishl aX1_add_46 ?_
  refine J_iconst (-1) aX1_add_47 (by decide +kernel) ?_
  refine J_ixor aX1_add_48 ?_
  refine J_iand aX1_add_49 ?_
  refine J_putI aX1_add_50 fpX1_30 (shEv hE) rfl (fun I21 e22 => ?_)
  replace h := h I21 e22
  refine J_aload_n 1 aX1_add_53 rfl ?_
  refine J_dup aX1_add_54 rfl ?_
  refine J_getI aX1_add_55 flX1_27 (shEv hE) rfl ?_
  refine J_iconst (nI 1) aX1_add_58 (by decide +kernel) ?_
  refine J_iadd aX1_add_59 ?_
  refine J_putI aX1_add_60 fpX1_27 (shEv hE) rfl (fun I23 e24 => ?_)
  replace h := h I23 e24
  refine J_iload 0 aX1_add_63 rfl ?_
  exact J_iret aX1_add_65 rfl h
theorem aX1_addReport_0 : decode mX1_addReport.2.1 0 = .ok (.aload_n 0, 1) ∧ 0 + 1 = 1 := ⟨by decide +kernel, rfl⟩
theorem aX1_addReport_1 : decode mX1_addReport.2.1 1 = .ok (.getfield 36, 3) ∧ 1 + 3 = 4 := ⟨by decide +kernel, rfl⟩
theorem aX1_addReport_4 : decode mX1_addReport.2.1 4 = .ok (.iconst 4, 1) ∧ 4 + 1 = 5 := ⟨by decide +kernel, rfl⟩
theorem aX1_addReport_5 : decode mX1_addReport.2.1 5 = .ok (.imul, 1) ∧ 5 + 1 = 6 := ⟨by decide +kernel, rfl⟩
theorem aX1_addReport_6 : decode mX1_addReport.2.1 6 = .ok (.istore 5, 2) ∧ 6 + 2 = 8 := ⟨by decide +kernel, rfl⟩
theorem aX1_addReport_8 : decode mX1_addReport.2.1 8 = .ok (.aload_n 0, 1) ∧ 8 + 1 = 9 := ⟨by decide +kernel, rfl⟩
theorem aX1_addReport_9 : decode mX1_addReport.2.1 9 = .ok (.getfield 61, 3) ∧ 9 + 3 = 12 := ⟨by decide +kernel, rfl⟩
theorem aX1_addReport_12 : decode mX1_addReport.2.1 12 = .ok (.iload 5, 2) ∧ 12 + 2 = 14 := ⟨by decide +kernel, rfl⟩
theorem aX1_addReport_14 : decode mX1_addReport.2.1 14 = .ok (.iload_n 1, 1) ∧ 14 + 1 = 15 := ⟨by decide +kernel, rfl⟩
theorem aX1_addReport_15 : decode mX1_addReport.2.1 15 = .ok (.iastore, 1) ∧ 15 + 1 = 16 := ⟨by decide +kernel, rfl⟩
theorem aX1_addReport_16 : decode mX1_addReport.2.1 16 = .ok (.aload_n 0, 1) ∧ 16 + 1 = 17 := ⟨by decide +kernel, rfl⟩
theorem aX1_addReport_17 : decode mX1_addReport.2.1 17 = .ok (.getfield 61, 3) ∧ 17 + 3 = 20 := ⟨by decide +kernel, rfl⟩
theorem aX1_addReport_20 : decode mX1_addReport.2.1 20 = .ok (.iload 5, 2) ∧ 20 + 2 = 22 := ⟨by decide +kernel, rfl⟩
theorem aX1_addReport_22 : decode mX1_addReport.2.1 22 = .ok (.iconst 1, 1) ∧ 22 + 1 = 23 := ⟨by decide +kernel, rfl⟩
theorem aX1_addReport_23 : decode mX1_addReport.2.1 23 = .ok (.iadd, 1) ∧ 23 + 1 = 24 := ⟨by decide +kernel, rfl⟩
theorem aX1_addReport_24 : decode mX1_addReport.2.1 24 = .ok (.iload_n 2, 1) ∧ 24 + 1 = 25 := ⟨by decide +kernel, rfl⟩
theorem aX1_addReport_25 : decode mX1_addReport.2.1 25 = .ok (.iastore, 1) ∧ 25 + 1 = 26 := ⟨by decide +kernel, rfl⟩
theorem aX1_addReport_26 : decode mX1_addReport.2.1 26 = .ok (.aload_n 0, 1) ∧ 26 + 1 = 27 := ⟨by decide +kernel, rfl⟩
theorem aX1_addReport_27 : decode mX1_addReport.2.1 27 = .ok (.getfield 61, 3) ∧ 27 + 3 = 30 := ⟨by decide +kernel, rfl⟩
theorem aX1_addReport_30 : decode mX1_addReport.2.1 30 = .ok (.iload 5, 2) ∧ 30 + 2 = 32 := ⟨by decide +kernel, rfl⟩
theorem aX1_addReport_32 : decode mX1_addReport.2.1 32 = .ok (.iconst 2, 1) ∧ 32 + 1 = 33 := ⟨by decide +kernel, rfl⟩
theorem aX1_addReport_33 : decode mX1_addReport.2.1 33 = .ok (.iadd, 1) ∧ 33 + 1 = 34 := ⟨by decide +kernel, rfl⟩
theorem aX1_addReport_34 : decode mX1_addReport.2.1 34 = .ok (.iload_n 3, 1) ∧ 34 + 1 = 35 := ⟨by decide +kernel, rfl⟩
theorem aX1_addReport_35 : decode mX1_addReport.2.1 35 = .ok (.iastore, 1) ∧ 35 + 1 = 36 := ⟨by decide +kernel, rfl⟩
theorem aX1_addReport_36 : decode mX1_addReport.2.1 36 = .ok (.aload_n 0, 1) ∧ 36 + 1 = 37 := ⟨by decide +kernel, rfl⟩
theorem aX1_addReport_37 : decode mX1_addReport.2.1 37 = .ok (.getfield 61, 3) ∧ 37 + 3 = 40 := ⟨by decide +kernel, rfl⟩
theorem aX1_addReport_40 : decode mX1_addReport.2.1 40 = .ok (.iload 5, 2) ∧ 40 + 2 = 42 := ⟨by decide +kernel, rfl⟩
theorem aX1_addReport_42 : decode mX1_addReport.2.1 42 = .ok (.iconst 3, 1) ∧ 42 + 1 = 43 := ⟨by decide +kernel, rfl⟩
theorem aX1_addReport_43 : decode mX1_addReport.2.1 43 = .ok (.iadd, 1) ∧ 43 + 1 = 44 := ⟨by decide +kernel, rfl⟩
theorem aX1_addReport_44 : decode mX1_addReport.2.1 44 = .ok (.iload 4, 2) ∧ 44 + 2 = 46 := ⟨by decide +kernel, rfl⟩
theorem aX1_addReport_46 : decode mX1_addReport.2.1 46 = .ok (.iastore, 1) ∧ 46 + 1 = 47 := ⟨by decide +kernel, rfl⟩
theorem aX1_addReport_47 : decode mX1_addReport.2.1 47 = .ok (.aload_n 0, 1) ∧ 47 + 1 = 48 := ⟨by decide +kernel, rfl⟩
theorem aX1_addReport_48 : decode mX1_addReport.2.1 48 = .ok (.dup, 1) ∧ 48 + 1 = 49 := ⟨by decide +kernel, rfl⟩
theorem aX1_addReport_49 : decode mX1_addReport.2.1 49 = .ok (.getfield 36, 3) ∧ 49 + 3 = 52 := ⟨by decide +kernel, rfl⟩
theorem aX1_addReport_52 : decode mX1_addReport.2.1 52 = .ok (.iconst 1, 1) ∧ 52 + 1 = 53 := ⟨by decide +kernel, rfl⟩
theorem aX1_addReport_53 : decode mX1_addReport.2.1 53 = .ok (.iadd, 1) ∧ 53 + 1 = 54 := ⟨by decide +kernel, rfl⟩
theorem aX1_addReport_54 : decode mX1_addReport.2.1 54 = .ok (.putfield 36, 3) ∧ 54 + 3 = 57 := ⟨by decide +kernel, rfl⟩
theorem aX1_addReport_57 : decode mX1_addReport.2.1 57 = .ok (.aload_n 0, 1) ∧ 57 + 1 = 58 := ⟨by decide +kernel, rfl⟩
theorem aX1_addReport_58 : decode mX1_addReport.2.1 58 = .ok (.getfield 36, 3) ∧ 58 + 3 = 61 := ⟨by decide +kernel, rfl⟩
theorem aX1_addReport_61 : decode mX1_addReport.2.1 61 = .ok (.iconst 1, 1) ∧ 61 + 1 = 62 := ⟨by decide +kernel, rfl⟩
theorem aX1_addReport_62 : decode mX1_addReport.2.1 62 = .ok (.isub, 1) ∧ 62 + 1 = 63 := ⟨by decide +kernel, rfl⟩
theorem aX1_addReport_63 : decode mX1_addReport.2.1 63 = .ok (.ireturn, 1) := by decide +kernel
theorem S_X1_addReport {E : EE} {d : Nat} {I : IH} {Q : QT} {e g r : Nat} (hE : isEv e g r) (x1 : Int32) (x2 : Int32) (x3 : Int32) (x4 : Int32) (h :
(∃ j3 : Nat, ((I e 10) * (nI 4)) = nI j3 ∧ j3 < 24 ∧ (∀ I1 : IH, I1 = stI I (g + 7) j3 x1 →
 (∃ j8 : Nat, (((I e 10) * (nI 4)) + (nI 1)) = nI j8 ∧ j8 < 24 ∧ (∀ I6 : IH, I6 = stI I1 (g + 7) j8 x2 →
 (∃ j13 : Nat, (((I e 10) * (nI 4)) + (nI 2)) = nI j13 ∧ j13 < 24 ∧ (∀ I11 : IH, I11 = stI I6 (g + 7) j13 x3 →
 (∃ j18 : Nat, (((I e 10) * (nI 4)) + (nI 3)) = nI j18 ∧ j18 < 24 ∧ (∀ I16 : IH, I16 = stI I11 (g + 7) j18 x4 →
 (∀ I21 : IH, I21 = stI I16 e 10 ((I16 e 10) + (nI 1)) →
 Q (some (.int ((I21 e 10) - (nI 1)))) I21)))))))))) : Mt E d mX1_addReport [.ref (eb E + e), .int x1, .int x2, .int x3, .int x4] I Q := by
  refine Mt_of [(0, .ref (eb E + e)), (1, .int x1), (2, .int x2), (3, .int x3), (4, .int x4)] (by decide +kernel) (by simp [lg_sl, Value.category, mX1_addReport]) rfl ?_
  refine J_aload_n 0 aX1_addReport_0 rfl ?_
  refine J_getI aX1_addReport_1 flX1_36 (shEv hE) rfl ?_
  refine J_iconst (nI 4) aX1_addReport_4 (by decide +kernel) ?_
  refine J_imul aX1_addReport_5 ?_
  refine J_istore [(5, .int ((I e 10) * (nI 4))), (0, .ref (eb E + e)), (1, .int x1), (2, .int x2), (3, .int x3), (4, .int x4)] aX1_addReport_6 (by decide) rfl ?_
  refine J_aload_n 1 aX1_addReport_8 rfl ?_
  refine J_getR aX1_addReport_9 flX1_61 (shEv hE) rfl ?_
  refine J_iload 0 aX1_addReport_12 rfl ?_
  refine J_iload_n 2 aX1_addReport_14 rfl ?_
  obtain ⟨j3, e4, b5, h⟩ := h
  refine J_iastore j3 aX1_addReport_15 (shEv7 hE) e4 b5 (by decide) (fun I1 e2 => ?_)
  replace h := h I1 e2
  refine J_aload_n 1 aX1_addReport_16 rfl ?_
  refine J_getR aX1_addReport_17 flX1_61 (shEv hE) rfl ?_
  refine J_iload 0 aX1_addReport_20 rfl ?_
  refine J_iconst (nI 1) aX1_addReport_22 (by decide +kernel) ?_
  refine J_iadd aX1_addReport_23 ?_
  refine J_iload_n 3 aX1_addReport_24 rfl ?_
  obtain ⟨j8, e9, b10, h⟩ := h
  refine J_iastore j8 aX1_addReport_25 (shEv7 hE) e9 b10 (by decide) (fun I6 e7 => ?_)
  replace h := h I6 e7
  refine J_aload_n 1 aX1_addReport_26 rfl ?_
  refine J_getR aX1_addReport_27 flX1_61 (shEv hE) rfl ?_
  refine J_iload 0 aX1_addReport_30 rfl ?_
  refine J_iconst (nI 2) aX1_addReport_32 (by decide +kernel) ?_
  refine J_iadd aX1_addReport_33 ?_
  refine J_iload_n 4 aX1_addReport_34 rfl ?_
  obtain ⟨j13, e14, b15, h⟩ := h
  refine J_iastore j13 aX1_addReport_35 (shEv7 hE) e14 b15 (by decide) (fun I11 e12 => ?_)
  replace h := h I11 e12
  refine J_aload_n 1 aX1_addReport_36 rfl ?_
  refine J_getR aX1_addReport_37 flX1_61 (shEv hE) rfl ?_
  refine J_iload 0 aX1_addReport_40 rfl ?_
  refine J_iconst (nI 3) aX1_addReport_42 (by decide +kernel) ?_
  refine J_iadd aX1_addReport_43 ?_
  refine J_iload 5 aX1_addReport_44 rfl ?_
  obtain ⟨j18, e19, b20, h⟩ := h
  refine J_iastore j18 aX1_addReport_46 (shEv7 hE) e19 b20 (by decide) (fun I16 e17 => ?_)
  replace h := h I16 e17
  refine J_aload_n 1 aX1_addReport_47 rfl ?_
  refine J_dup aX1_addReport_48 rfl ?_
  refine J_getI aX1_addReport_49 flX1_36 (shEv hE) rfl ?_
  refine J_iconst (nI 1) aX1_addReport_52 (by decide +kernel) ?_
  refine J_iadd aX1_addReport_53 ?_
  refine J_putI aX1_addReport_54 fpX1_36 (shEv hE) rfl (fun I21 e22 => ?_)
  replace h := h I21 e22
  refine J_aload_n 1 aX1_addReport_57 rfl ?_
  refine J_getI aX1_addReport_58 flX1_36 (shEv hE) rfl ?_
  refine J_iconst (nI 1) aX1_addReport_61 (by decide +kernel) ?_
  refine J_isub aX1_addReport_62 ?_
  exact J_iret aX1_addReport_63 rfl h
theorem aX1_isOver_0 : decode mX1_isOver.2.1 0 = .ok (.aload_n 0, 1) ∧ 0 + 1 = 1 := ⟨by decide +kernel, rfl⟩
theorem aX1_isOver_1 : decode mX1_isOver.2.1 1 = .ok (.getfield 15, 3) ∧ 1 + 3 = 4 := ⟨by decide +kernel, rfl⟩
theorem aX1_isOver_4 : decode mX1_isOver.2.1 4 = .ok (.aload_n 0, 1) ∧ 4 + 1 = 5 := ⟨by decide +kernel, rfl⟩
theorem aX1_isOver_5 : decode mX1_isOver.2.1 5 = .ok (.getfield 9, 3) ∧ 5 + 3 = 8 := ⟨by decide +kernel, rfl⟩
theorem aX1_isOver_8 : decode mX1_isOver.2.1 8 = .ok (.if_icmp .lt 7, 3) ∧ ((8 : Nat) : Int) + 7 = ((15 : Nat) : Int) ∧ 8 + 3 = 11 := ⟨by decide +kernel, by decide, rfl⟩
theorem aX1_isOver_11 : decode mX1_isOver.2.1 11 = .ok (.iconst 1, 1) ∧ 11 + 1 = 12 := ⟨by decide +kernel, rfl⟩
theorem aX1_isOver_12 : decode mX1_isOver.2.1 12 = .ok (.goto 4, 3) ∧ ((12 : Nat) : Int) + 4 = ((16 : Nat) : Int) := ⟨by decide +kernel, by decide⟩
theorem aX1_isOver_15 : decode mX1_isOver.2.1 15 = .ok (.iconst 0, 1) ∧ 15 + 1 = 16 := ⟨by decide +kernel, rfl⟩
theorem aX1_isOver_16 : decode mX1_isOver.2.1 16 = .ok (.ireturn, 1) := by decide +kernel
theorem S_X1_isOver {E : EE} {d : Nat} {I : IH} {Q : QT} {e g r : Nat} (hE : isEv e g r) (h :
(((I e 3) < (I e 2) → Q (some (.int (nI 0))) I) ∧
 (¬ (I e 3) < (I e 2) → Q (some (.int (nI 1))) I))) : Mt E d mX1_isOver [.ref (eb E + e)] I Q := by
  refine Mt_of [(0, .ref (eb E + e))] (by decide +kernel) (by simp [lg_sl, Value.category, mX1_isOver]) rfl ?_
  refine J_aload_n 0 aX1_isOver_0 rfl ?_
  refine J_getI aX1_isOver_1 flX1_15 (shEv hE) rfl ?_
  refine J_aload_n 0 aX1_isOver_4 rfl ?_
  refine J_getI aX1_isOver_5 flX1_9 (shEv hE) rfl ?_
  refine J_icmp_lt aX1_isOver_8 (fun q => ?_) (fun q => ?_)
  · replace h := h.1 q
    refine J_iconst (nI 0) aX1_isOver_15 (by decide +kernel) ?_
    exact J_zret aX1_isOver_16 rfl (by decide +kernel) h
  · replace h := h.2 q
    refine J_iconst (nI 1) aX1_isOver_11 (by decide +kernel) ?_
    refine J_goto aX1_isOver_12 ?_
    exact J_zret aX1_isOver_16 rfl (by decide +kernel) h
theorem aX1_isAct_0 : decode mX1_isAct.2.1 0 = .ok (.iload_n 1, 1) ∧ 0 + 1 = 1 := ⟨by decide +kernel, rfl⟩
theorem aX1_isAct_1 : decode mX1_isAct.2.1 1 = .ok (.ifCond .lt 15, 3) ∧ ((1 : Nat) : Int) + 15 = ((16 : Nat) : Int) ∧ 1 + 3 = 4 := ⟨by decide +kernel, by decide, rfl⟩
theorem aX1_isAct_4 : decode mX1_isAct.2.1 4 = .ok (.iload_n 1, 1) ∧ 4 + 1 = 5 := ⟨by decide +kernel, rfl⟩
theorem aX1_isAct_5 : decode mX1_isAct.2.1 5 = .ok (.aload_n 0, 1) ∧ 5 + 1 = 6 := ⟨by decide +kernel, rfl⟩
theorem aX1_isAct_6 : decode mX1_isAct.2.1 6 = .ok (.getfield 27, 3) ∧ 6 + 3 = 9 := ⟨by decide +kernel, rfl⟩
theorem aX1_isAct_9 : decode mX1_isAct.2.1 9 = .ok (.if_icmp .gt 7, 3) ∧ ((9 : Nat) : Int) + 7 = ((16 : Nat) : Int) ∧ 9 + 3 = 12 := ⟨by decide +kernel, by decide, rfl⟩
theorem aX1_isAct_12 : decode mX1_isAct.2.1 12 = .ok (.iconst 1, 1) ∧ 12 + 1 = 13 := ⟨by decide +kernel, rfl⟩
theorem aX1_isAct_13 : decode mX1_isAct.2.1 13 = .ok (.goto 4, 3) ∧ ((13 : Nat) : Int) + 4 = ((17 : Nat) : Int) := ⟨by decide +kernel, by decide⟩
theorem aX1_isAct_16 : decode mX1_isAct.2.1 16 = .ok (.iconst 0, 1) ∧ 16 + 1 = 17 := ⟨by decide +kernel, rfl⟩
theorem aX1_isAct_17 : decode mX1_isAct.2.1 17 = .ok (.ireturn, 1) := by decide +kernel
theorem S_X1_isAct {E : EE} {d : Nat} {I : IH} {Q : QT} {e g r : Nat} (hE : isEv e g r) (x1 : Int32) (h :
((x1 < 0 → Q (some (.int (nI 0))) I) ∧
 (¬ x1 < 0 → (((I e 7) < x1 → Q (some (.int (nI 0))) I) ∧
 (¬ (I e 7) < x1 → Q (some (.int (nI 1))) I))))) : Mt E d mX1_isAct [.ref (eb E + e), .int x1] I Q := by
  refine Mt_of [(0, .ref (eb E + e)), (1, .int x1)] (by decide +kernel) (by simp [lg_sl, Value.category, mX1_isAct]) rfl ?_
  refine J_iload_n 1 aX1_isAct_0 rfl ?_
  refine J_if_lt aX1_isAct_1 (fun q => ?_) (fun q => ?_)
  · replace h := h.1 q
    refine J_iconst (nI 0) aX1_isAct_16 (by decide +kernel) ?_
    exact J_zret aX1_isAct_17 rfl (by decide +kernel) h
  · replace h := h.2 q
    refine J_iload_n 1 aX1_isAct_4 rfl ?_
    refine J_aload_n 0 aX1_isAct_5 rfl ?_
    refine J_getI aX1_isAct_6 flX1_27 (shEv hE) rfl ?_
    refine J_icmp_gt aX1_isAct_9 (fun q => ?_) (fun q => ?_)
    · replace h := h.1 q
      refine J_iconst (nI 0) aX1_isAct_16 (by decide +kernel) ?_
      exact J_zret aX1_isAct_17 rfl (by decide +kernel) h
    · replace h := h.2 q
      refine J_iconst (nI 1) aX1_isAct_12 (by decide +kernel) ?_
      refine J_goto aX1_isAct_13 ?_
      exact J_zret aX1_isAct_17 rfl (by decide +kernel) h
theorem aX1_newsNow_0 : decode mX1_newsNow.2.1 0 = .ok (.aload_n 0, 1) ∧ 0 + 1 = 1 := ⟨by decide +kernel, rfl⟩
theorem aX1_newsNow_1 : decode mX1_newsNow.2.1 1 = .ok (.getfield 15, 3) ∧ 1 + 3 = 4 := ⟨by decide +kernel, rfl⟩
theorem aX1_newsNow_4 : decode mX1_newsNow.2.1 4 = .ok (.bipush 16, 2) ∧ 4 + 2 = 6 := ⟨by decide +kernel, rfl⟩
theorem aX1_newsNow_6 : decode mX1_newsNow.2.1 6 = .ok (.if_icmp .ge 15, 3) ∧ ((6 : Nat) : Int) + 15 = ((21 : Nat) : Int) ∧ 6 + 3 = 9 := ⟨by decide +kernel, by decide, rfl⟩
theorem aX1_newsNow_9 : decode mX1_newsNow.2.1 9 = .ok (.aload_n 0, 1) ∧ 9 + 1 = 10 := ⟨by decide +kernel, rfl⟩
theorem aX1_newsNow_10 : decode mX1_newsNow.2.1 10 = .ok (.getfield 39, 3) ∧ 10 + 3 = 13 := ⟨by decide +kernel, rfl⟩
theorem aX1_newsNow_13 : decode mX1_newsNow.2.1 13 = .ok (.aload_n 0, 1) ∧ 13 + 1 = 14 := ⟨by decide +kernel, rfl⟩
theorem aX1_newsNow_14 : decode mX1_newsNow.2.1 14 = .ok (.getfield 15, 3) ∧ 14 + 3 = 17 := ⟨by decide +kernel, rfl⟩
theorem aX1_newsNow_17 : decode mX1_newsNow.2.1 17 = .ok (.iaload, 1) ∧ 17 + 1 = 18 := ⟨by decide +kernel, rfl⟩
theorem aX1_newsNow_18 : decode mX1_newsNow.2.1 18 = .ok (.goto 4, 3) ∧ ((18 : Nat) : Int) + 4 = ((22 : Nat) : Int) := ⟨by decide +kernel, by decide⟩
theorem aX1_newsNow_21 : decode mX1_newsNow.2.1 21 = .ok (.iconst 0, 1) ∧ 21 + 1 = 22 := ⟨by decide +kernel, rfl⟩
theorem aX1_newsNow_22 : decode mX1_newsNow.2.1 22 = .ok (.ireturn, 1) := by decide +kernel
theorem S_X1_newsNow {E : EE} {d : Nat} {I : IH} {Q : QT} {e g r : Nat} (hE : isEv e g r) (h :
(((nI 16) ≤ (I e 3) → Q (some (.int (nI 0))) I) ∧
 (¬ (nI 16) ≤ (I e 3) → (∃ j1 : Nat, (I e 3) = nI j1 ∧ j1 < 16 ∧ Q (some (.int (I g j1))) I)))) : Mt E d mX1_newsNow [.ref (eb E + e)] I Q := by
  refine Mt_of [(0, .ref (eb E + e))] (by decide +kernel) (by simp [lg_sl, Value.category, mX1_newsNow]) rfl ?_
  refine J_aload_n 0 aX1_newsNow_0 rfl ?_
  refine J_getI aX1_newsNow_1 flX1_15 (shEv hE) rfl ?_
  refine J_bipush (nI 16) aX1_newsNow_4 (by decide +kernel) ?_
  refine J_icmp_ge aX1_newsNow_6 (fun q => ?_) (fun q => ?_)
  · replace h := h.1 q
    refine J_iconst (nI 0) aX1_newsNow_21 (by decide +kernel) ?_
    exact J_iret aX1_newsNow_22 rfl h
  · replace h := h.2 q
    refine J_aload_n 0 aX1_newsNow_9 rfl ?_
    refine J_getR aX1_newsNow_10 flX1_39 (shEv hE) rfl ?_
    refine J_aload_n 0 aX1_newsNow_13 rfl ?_
    refine J_getI aX1_newsNow_14 flX1_15 (shEv hE) rfl ?_
    obtain ⟨j1, e2, b3, h⟩ := h
    refine J_iaload j1 aX1_newsNow_17 (shEv0 hE) e2 b3 (by decide) ?_
    refine J_goto aX1_newsNow_18 ?_
    exact J_iret aX1_newsNow_22 rfl h
theorem aX1_thing_0 : decode mX1_thing.2.1 0 = .ok (.aload_n 0, 1) ∧ 0 + 1 = 1 := ⟨by decide +kernel, rfl⟩
theorem aX1_thing_1 : decode mX1_thing.2.1 1 = .ok (.getfield 64, 3) ∧ 1 + 3 = 4 := ⟨by decide +kernel, rfl⟩
theorem aX1_thing_4 : decode mX1_thing.2.1 4 = .ok (.aload_n 0, 1) ∧ 4 + 1 = 5 := ⟨by decide +kernel, rfl⟩
theorem aX1_thing_5 : decode mX1_thing.2.1 5 = .ok (.getfield 49, 3) ∧ 5 + 3 = 8 := ⟨by decide +kernel, rfl⟩
theorem aX1_thing_8 : decode mX1_thing.2.1 8 = .ok (.iload_n 1, 1) ∧ 8 + 1 = 9 := ⟨by decide +kernel, rfl⟩
theorem aX1_thing_9 : decode mX1_thing.2.1 9 = .ok (.iaload, 1) ∧ 9 + 1 = 10 := ⟨by decide +kernel, rfl⟩
theorem aX1_thing_10 : decode mX1_thing.2.1 10 = .ok (.aaload, 1) ∧ 10 + 1 = 11 := ⟨by decide +kernel, rfl⟩
theorem aX1_thing_11 : decode mX1_thing.2.1 11 = .ok (.areturn, 1) := by decide +kernel
theorem S_X1_thing {E : EE} {d : Nat} {I : IH} {Q : QT} {e g r : Nat} (hE : isEv e g r) (x1 : Int32) (h :
(∃ j1 : Nat, x1 = nI j1 ∧ j1 < 6 ∧ (∃ j4 : Nat, (I (g + 3) j1) = nI j4 ∧ j4 < 6 ∧ Q (some (.ref (eb E + (21 + j4)))) I))) : Mt E d mX1_thing [.ref (eb E + e), .int x1] I Q := by
  refine Mt_of [(0, .ref (eb E + e)), (1, .int x1)] (by decide +kernel) (by simp [lg_sl, Value.category, mX1_thing]) rfl ?_
  refine J_aload_n 0 aX1_thing_0 rfl ?_
  refine J_getR aX1_thing_1 flX1_64 (shEv hE) rfl ?_
  refine J_aload_n 0 aX1_thing_4 rfl ?_
  refine J_getR aX1_thing_5 flX1_49 (shEv hE) rfl ?_
  refine J_iload_n 1 aX1_thing_8 rfl ?_
  obtain ⟨j1, e2, b3, h⟩ := h
  refine J_iaload j1 aX1_thing_9 (shEv3 hE) e2 b3 (by decide) ?_
  obtain ⟨j4, e5, b6, h⟩ := h
  refine J_aaload j4 aX1_thing_10 sh20 (Or.inl rfl) e5 b6 (by decide) (kinds_at b6) ?_
  exact J_aret aX1_thing_11 rfl (Or.inl ⟨_, rfl⟩) h
theorem aX1_lights_0 : decode mX1_lights.2.1 0 = .ok (.aload_n 0, 1) ∧ 0 + 1 = 1 := ⟨by decide +kernel, rfl⟩
theorem aX1_lights_1 : decode mX1_lights.2.1 1 = .ok (.getfield 52, 3) ∧ 1 + 3 = 4 := ⟨by decide +kernel, rfl⟩
theorem aX1_lights_4 : decode mX1_lights.2.1 4 = .ok (.iload_n 1, 1) ∧ 4 + 1 = 5 := ⟨by decide +kernel, rfl⟩
theorem aX1_lights_5 : decode mX1_lights.2.1 5 = .ok (.iaload, 1) ∧ 5 + 1 = 6 := ⟨by decide +kernel, rfl⟩
theorem aX1_lights_6 : decode mX1_lights.2.1 6 = .ok (.invokestatic 88, 3) ∧ 6 + 3 = 9 := ⟨by decide +kernel, rfl⟩
theorem aX1_lights_9 : decode mX1_lights.2.1 9 = .ok (.aload_n 0, 1) ∧ 9 + 1 = 10 := ⟨by decide +kernel, rfl⟩
theorem aX1_lights_10 : decode mX1_lights.2.1 10 = .ok (.getfield 43, 3) ∧ 10 + 3 = 13 := ⟨by decide +kernel, rfl⟩
theorem aX1_lights_13 : decode mX1_lights.2.1 13 = .ok (.aload_n 0, 1) ∧ 13 + 1 = 14 := ⟨by decide +kernel, rfl⟩
theorem aX1_lights_14 : decode mX1_lights.2.1 14 = .ok (.getfield 55, 3) ∧ 14 + 3 = 17 := ⟨by decide +kernel, rfl⟩
theorem aX1_lights_17 : decode mX1_lights.2.1 17 = .ok (.iload_n 1, 1) ∧ 17 + 1 = 18 := ⟨by decide +kernel, rfl⟩
theorem aX1_lights_18 : decode mX1_lights.2.1 18 = .ok (.iaload, 1) ∧ 18 + 1 = 19 := ⟨by decide +kernel, rfl⟩
theorem aX1_lights_19 : decode mX1_lights.2.1 19 = .ok (.iaload, 1) ∧ 19 + 1 = 20 := ⟨by decide +kernel, rfl⟩
theorem aX1_lights_20 : decode mX1_lights.2.1 20 = .ok (.isub, 1) ∧ 20 + 1 = 21 := ⟨by decide +kernel, rfl⟩
theorem aX1_lights_21 : decode mX1_lights.2.1 21 = .ok (.aload_n 0, 1) ∧ 21 + 1 = 22 := ⟨by decide +kernel, rfl⟩
theorem aX1_lights_22 : decode mX1_lights.2.1 22 = .ok (.getfield 18, 3) ∧ 22 + 3 = 25 := ⟨by decide +kernel, rfl⟩
theorem aX1_lights_25 : decode mX1_lights.2.1 25 = .ok (.iconst 3, 1) ∧ 25 + 1 = 26 := ⟨by decide +kernel, rfl⟩
theorem aX1_lights_26 : decode mX1_lights.2.1 26 = .ok (.idiv, 1) ∧ 26 + 1 = 27 := ⟨by decide +kernel, rfl⟩
theorem aX1_lights_27 : decode mX1_lights.2.1 27 = .ok (.isub, 1) ∧ 27 + 1 = 28 := ⟨by decide +kernel, rfl⟩
theorem aX1_lights_28 : decode mX1_lights.2.1 28 = .ok (.iconst 0, 1) ∧ 28 + 1 = 29 := ⟨by decide +kernel, rfl⟩
theorem aX1_lights_29 : decode mX1_lights.2.1 29 = .ok (.invokestatic 94, 3) ∧ 29 + 3 = 32 := ⟨by decide +kernel, rfl⟩
theorem aX1_lights_32 : decode mX1_lights.2.1 32 = .ok (.ireturn, 1) := by decide +kernel
theorem S_X1_lights {E : EE} {d : Nat} {I : IH} {Q : QT} {e g r : Nat} (hE : isEv e g r) (x1 : Int32) (h :
(∃ j1 : Nat, x1 = nI j1 ∧ j1 < 6 ∧ (Mt E d mJ6_bitCount_0f7a4 [.int (I (g + 4) j1)] I (fun rv I4 => ∃ v5 : Int32, rv = some (.int v5) ∧
 (∃ j6 : Nat, x1 = nI j6 ∧ j6 < 6 ∧ (∃ j9 : Nat, (I4 (g + 5) j6) = nI j9 ∧ j9 < 6 ∧ Q (some (.int (if ((v5 - (I4 (g + 1) j9)) - ((I4 e 4) / (nI 3))) < (nI 0) then (nI 0) else ((v5 - (I4 (g + 1) j9)) - ((I4 e 4) / (nI 3)))))) I4)))))) : Mt E (d + 1) mX1_lights [.ref (eb E + e), .int x1] I Q := by
  refine Mt_of [(0, .ref (eb E + e)), (1, .int x1)] (by decide +kernel) (by simp [lg_sl, Value.category, mX1_lights]) rfl ?_
  refine J_aload_n 0 aX1_lights_0 rfl ?_
  refine J_getR aX1_lights_1 flX1_52 (shEv hE) rfl ?_
  refine J_iload_n 1 aX1_lights_4 rfl ?_
  obtain ⟨j1, e2, b3, h⟩ := h
  refine J_iaload j1 aX1_lights_5 (shEv4 hE) e2 b3 (by decide) ?_
  refine J_callS [.int (I (g + 4) j1)] [] aX1_lights_6 lkX1_88 okJ6_bitCount_0f7a4 rfl rfl (Nat.le_of_ble_eq_true rfl) (Nat.le_refl _) (Mt_mono h (fun rv I4 h => ?_))
  obtain ⟨v5, rfl, h⟩ := h
  refine J_r1 ?_
  refine J_aload_n 0 aX1_lights_9 rfl ?_
  refine J_getR aX1_lights_10 flX1_43 (shEv hE) rfl ?_
  refine J_aload_n 0 aX1_lights_13 rfl ?_
  refine J_getR aX1_lights_14 flX1_55 (shEv hE) rfl ?_
  refine J_iload_n 1 aX1_lights_17 rfl ?_
  obtain ⟨j6, e7, b8, h⟩ := h
  refine J_iaload j6 aX1_lights_18 (shEv5 hE) e7 b8 (by decide) ?_
  obtain ⟨j9, e10, b11, h⟩ := h
  refine J_iaload j9 aX1_lights_19 (shEv1 hE) e10 b11 (by decide) ?_
  refine J_isub aX1_lights_20 ?_
  refine J_aload_n 0 aX1_lights_21 rfl ?_
  refine J_getI aX1_lights_22 flX1_18 (shEv hE) rfl ?_
  refine J_iconst (nI 3) aX1_lights_25 (by decide +kernel) ?_
  refine J_idiv aX1_lights_26 (by decide +kernel) ?_
  refine J_isub aX1_lights_27 ?_
  refine J_iconst (nI 0) aX1_lights_28 (by decide +kernel) ?_
  refine J_max aX1_lights_29 lkX1_94 mth_smax mth_ini mth_cmax (by omega) (Nat.le_of_ble_eq_true rfl) ?_
  exact J_iret aX1_lights_32 rfl h
theorem aX1_isOpen_0 : decode mX1_isOpen.2.1 0 = .ok (.aload_n 0, 1) ∧ 0 + 1 = 1 := ⟨by decide +kernel, rfl⟩
theorem aX1_isOpen_1 : decode mX1_isOpen.2.1 1 = .ok (.getfield 58, 3) ∧ 1 + 3 = 4 := ⟨by decide +kernel, rfl⟩
theorem aX1_isOpen_4 : decode mX1_isOpen.2.1 4 = .ok (.iload_n 1, 1) ∧ 4 + 1 = 5 := ⟨by decide +kernel, rfl⟩
theorem aX1_isOpen_5 : decode mX1_isOpen.2.1 5 = .ok (.iaload, 1) ∧ 5 + 1 = 6 := ⟨by decide +kernel, rfl⟩
theorem aX1_isOpen_6 : decode mX1_isOpen.2.1 6 = .ok (.aload_n 0, 1) ∧ 6 + 1 = 7 := ⟨by decide +kernel, rfl⟩
theorem aX1_isOpen_7 : decode mX1_isOpen.2.1 7 = .ok (.getfield 46, 3) ∧ 7 + 3 = 10 := ⟨by decide +kernel, rfl⟩
theorem aX1_isOpen_10 : decode mX1_isOpen.2.1 10 = .ok (.aload_n 0, 1) ∧ 10 + 1 = 11 := ⟨by decide +kernel, rfl⟩
theorem aX1_isOpen_11 : decode mX1_isOpen.2.1 11 = .ok (.getfield 55, 3) ∧ 11 + 3 = 14 := ⟨by decide +kernel, rfl⟩
theorem aX1_isOpen_14 : decode mX1_isOpen.2.1 14 = .ok (.iload_n 1, 1) ∧ 14 + 1 = 15 := ⟨by decide +kernel, rfl⟩
theorem aX1_isOpen_15 : decode mX1_isOpen.2.1 15 = .ok (.iaload, 1) ∧ 15 + 1 = 16 := ⟨by decide +kernel, rfl⟩
theorem aX1_isOpen_16 : decode mX1_isOpen.2.1 16 = .ok (.iaload, 1) ∧ 16 + 1 = 17 := ⟨by decide +kernel, rfl⟩
theorem aX1_isOpen_17 : decode mX1_isOpen.2.1 17 = .ok (.if_icmp .ge 15, 3) ∧ ((17 : Nat) : Int) + 15 = ((32 : Nat) : Int) ∧ 17 + 3 = 20 := ⟨by decide +kernel, by decide, rfl⟩
theorem aX1_isOpen_20 : decode mX1_isOpen.2.1 20 = .ok (.aload_n 0, 1) ∧ 20 + 1 = 21 := ⟨by decide +kernel, rfl⟩
theorem aX1_isOpen_21 : decode mX1_isOpen.2.1 21 = .ok (.getfield 21, 3) ∧ 21 + 3 = 24 := ⟨by decide +kernel, rfl⟩
theorem aX1_isOpen_24 : decode mX1_isOpen.2.1 24 = .ok (.iload_n 2, 1) ∧ 24 + 1 = 25 := ⟨by decide +kernel, rfl⟩
theorem aX1_isOpen_25 : decode mX1_isOpen.2.1 25 = .ok (.if_icmp .lt 7, 3) ∧ ((25 : Nat) : Int) + 7 = ((32 : Nat) : Int) ∧ 25 + 3 = 28 := ⟨by decide +kernel, by decide, rfl⟩
theorem aX1_isOpen_28 : decode mX1_isOpen.2.1 28 = .ok (.iconst 1, 1) ∧ 28 + 1 = 29 := ⟨by decide +kernel, rfl⟩
theorem aX1_isOpen_29 : decode mX1_isOpen.2.1 29 = .ok (.goto 4, 3) ∧ ((29 : Nat) : Int) + 4 = ((33 : Nat) : Int) := ⟨by decide +kernel, by decide⟩
theorem aX1_isOpen_32 : decode mX1_isOpen.2.1 32 = .ok (.iconst 0, 1) ∧ 32 + 1 = 33 := ⟨by decide +kernel, rfl⟩
theorem aX1_isOpen_33 : decode mX1_isOpen.2.1 33 = .ok (.ireturn, 1) := by decide +kernel
theorem S_X1_isOpen {E : EE} {d : Nat} {I : IH} {Q : QT} {e g r : Nat} (hE : isEv e g r) (x1 : Int32) (x2 : Int32) (h :
(∃ j1 : Nat, x1 = nI j1 ∧ j1 < 6 ∧ (∃ j4 : Nat, x1 = nI j4 ∧ j4 < 6 ∧ (∃ j7 : Nat, (I (g + 5) j4) = nI j7 ∧ j7 < 6 ∧ (((I (g + 2) j7) ≤ (I (g + 6) j1) → Q (some (.int (nI 0))) I) ∧
 (¬ (I (g + 2) j7) ≤ (I (g + 6) j1) → (((I e 5) < x2 → Q (some (.int (nI 0))) I) ∧
 (¬ (I e 5) < x2 → Q (some (.int (nI 1))) I)))))))) : Mt E d mX1_isOpen [.ref (eb E + e), .int x1, .int x2] I Q := by
  refine Mt_of [(0, .ref (eb E + e)), (1, .int x1), (2, .int x2)] (by decide +kernel) (by simp [lg_sl, Value.category, mX1_isOpen]) rfl ?_
  refine J_aload_n 0 aX1_isOpen_0 rfl ?_
  refine J_getR aX1_isOpen_1 flX1_58 (shEv hE) rfl ?_
  refine J_iload_n 1 aX1_isOpen_4 rfl ?_
  obtain ⟨j1, e2, b3, h⟩ := h
  refine J_iaload j1 aX1_isOpen_5 (shEv6 hE) e2 b3 (by decide) ?_
  refine J_aload_n 0 aX1_isOpen_6 rfl ?_
  refine J_getR aX1_isOpen_7 flX1_46 (shEv hE) rfl ?_
  refine J_aload_n 0 aX1_isOpen_10 rfl ?_
  refine J_getR aX1_isOpen_11 flX1_55 (shEv hE) rfl ?_
  refine J_iload_n 1 aX1_isOpen_14 rfl ?_
  obtain ⟨j4, e5, b6, h⟩ := h
  refine J_iaload j4 aX1_isOpen_15 (shEv5 hE) e5 b6 (by decide) ?_
  obtain ⟨j7, e8, b9, h⟩ := h
  refine J_iaload j7 aX1_isOpen_16 (shEv2 hE) e8 b9 (by decide) ?_
  refine J_icmp_ge aX1_isOpen_17 (fun q => ?_) (fun q => ?_)
  · replace h := h.1 q
    refine J_iconst (nI 0) aX1_isOpen_32 (by decide +kernel) ?_
    exact J_zret aX1_isOpen_33 rfl (by decide +kernel) h
  · replace h := h.2 q
    refine J_aload_n 0 aX1_isOpen_20 rfl ?_
    refine J_getI aX1_isOpen_21 flX1_21 (shEv hE) rfl ?_
    refine J_iload_n 2 aX1_isOpen_24 rfl ?_
    refine J_icmp_lt aX1_isOpen_25 (fun q => ?_) (fun q => ?_)
    · replace h := h.1 q
      refine J_iconst (nI 0) aX1_isOpen_32 (by decide +kernel) ?_
      exact J_zret aX1_isOpen_33 rfl (by decide +kernel) h
    · replace h := h.2 q
      refine J_iconst (nI 1) aX1_isOpen_28 (by decide +kernel) ?_
      refine J_goto aX1_isOpen_29 ?_
      exact J_zret aX1_isOpen_33 rfl (by decide +kernel) h
theorem aX1_wouldShow_0 : decode mX1_wouldShow.2.1 0 = .ok (.aload_n 0, 1) ∧ 0 + 1 = 1 := ⟨by decide +kernel, rfl⟩
theorem aX1_wouldShow_1 : decode mX1_wouldShow.2.1 1 = .ok (.getfield 30, 3) ∧ 1 + 3 = 4 := ⟨by decide +kernel, rfl⟩
theorem aX1_wouldShow_4 : decode mX1_wouldShow.2.1 4 = .ok (.iload_n 1, 1) ∧ 4 + 1 = 5 := ⟨by decide +kernel, rfl⟩
theorem aX1_wouldShow_5 : decode mX1_wouldShow.2.1 5 = .ok (.ishr, 1) ∧ 5 + 1 = 6 := ⟨by decide +kernel, rfl⟩
theorem aX1_wouldShow_6 : decode mX1_wouldShow.2.1 6 = .ok (.iconst 1, 1) ∧ 6 + 1 = 7 := ⟨by decide +kernel, rfl⟩
theorem aX1_wouldShow_7 : decode mX1_wouldShow.2.1 7 = .ok (.iand, 1) ∧ 7 + 1 = 8 := ⟨by decide +kernel, rfl⟩
theorem aX1_wouldShow_8 : decode mX1_wouldShow.2.1 8 = .ok (.iconst 1, 1) ∧ 8 + 1 = 9 := ⟨by decide +kernel, rfl⟩
theorem aX1_wouldShow_9 : decode mX1_wouldShow.2.1 9 = .ok (.if_icmp .ne 5, 3) ∧ ((9 : Nat) : Int) + 5 = ((14 : Nat) : Int) ∧ 9 + 3 = 12 := ⟨by decide +kernel, by decide, rfl⟩
theorem aX1_wouldShow_12 : decode mX1_wouldShow.2.1 12 = .ok (.iconst 0, 1) ∧ 12 + 1 = 13 := ⟨by decide +kernel, rfl⟩
theorem aX1_wouldShow_13 : decode mX1_wouldShow.2.1 13 = .ok (.ireturn, 1) := by decide +kernel
theorem aX1_wouldShow_14 : decode mX1_wouldShow.2.1 14 = .ok (.aload_n 0, 1) ∧ 14 + 1 = 15 := ⟨by decide +kernel, rfl⟩
theorem aX1_wouldShow_15 : decode mX1_wouldShow.2.1 15 = .ok (.iload_n 1, 1) ∧ 15 + 1 = 16 := ⟨by decide +kernel, rfl⟩
theorem aX1_wouldShow_16 : decode mX1_wouldShow.2.1 16 = .ok (.invokevirtual 100, 3) ∧ 16 + 3 = 19 := ⟨by decide +kernel, rfl⟩
theorem aX1_wouldShow_19 : decode mX1_wouldShow.2.1 19 = .ok (.istore_n 2, 1) ∧ 19 + 1 = 20 := ⟨by decide +kernel, rfl⟩
theorem aX1_wouldShow_20 : decode mX1_wouldShow.2.1 20 = .ok (.iload_n 2, 1) ∧ 20 + 1 = 21 := ⟨by decide +kernel, rfl⟩
theorem aX1_wouldShow_21 : decode mX1_wouldShow.2.1 21 = .ok (.iconst 3, 1) ∧ 21 + 1 = 22 := ⟨by decide +kernel, rfl⟩
theorem aX1_wouldShow_22 : decode mX1_wouldShow.2.1 22 = .ok (.if_icmp .lt 25, 3) ∧ ((22 : Nat) : Int) + 25 = ((47 : Nat) : Int) ∧ 22 + 3 = 25 := ⟨by decide +kernel, by decide, rfl⟩
theorem aX1_wouldShow_25 : decode mX1_wouldShow.2.1 25 = .ok (.aload_n 0, 1) ∧ 25 + 1 = 26 := ⟨by decide +kernel, rfl⟩
theorem aX1_wouldShow_26 : decode mX1_wouldShow.2.1 26 = .ok (.iload_n 1, 1) ∧ 26 + 1 = 27 := ⟨by decide +kernel, rfl⟩
theorem aX1_wouldShow_27 : decode mX1_wouldShow.2.1 27 = .ok (.aload_n 0, 1) ∧ 27 + 1 = 28 := ⟨by decide +kernel, rfl⟩
theorem aX1_wouldShow_28 : decode mX1_wouldShow.2.1 28 = .ok (.iload_n 1, 1) ∧ 28 + 1 = 29 := ⟨by decide +kernel, rfl⟩
theorem aX1_wouldShow_29 : decode mX1_wouldShow.2.1 29 = .ok (.invokevirtual 103, 3) ∧ 29 + 3 = 32 := ⟨by decide +kernel, rfl⟩
theorem aX1_wouldShow_32 : decode mX1_wouldShow.2.1 32 = .ok (.iload_n 2, 1) ∧ 32 + 1 = 33 := ⟨by decide +kernel, rfl⟩
theorem aX1_wouldShow_33 : decode mX1_wouldShow.2.1 33 = .ok (.iload_n 1, 1) ∧ 33 + 1 = 34 := ⟨by decide +kernel, rfl⟩
theorem aX1_wouldShow_34 : decode mX1_wouldShow.2.1 34 = .ok (.invokevirtual 107, 3) ∧ 34 + 3 = 37 := ⟨by decide +kernel, rfl⟩
theorem aX1_wouldShow_37 : decode mX1_wouldShow.2.1 37 = .ok (.invokevirtual 112, 3) ∧ 37 + 3 = 40 := ⟨by decide +kernel, rfl⟩
theorem aX1_wouldShow_40 : decode mX1_wouldShow.2.1 40 = .ok (.ifCond .eq 7, 3) ∧ ((40 : Nat) : Int) + 7 = ((47 : Nat) : Int) ∧ 40 + 3 = 43 := ⟨by decide +kernel, by decide, rfl⟩
theorem aX1_wouldShow_43 : decode mX1_wouldShow.2.1 43 = .ok (.iconst 1, 1) ∧ 43 + 1 = 44 := ⟨by decide +kernel, rfl⟩
theorem aX1_wouldShow_44 : decode mX1_wouldShow.2.1 44 = .ok (.goto 4, 3) ∧ ((44 : Nat) : Int) + 4 = ((48 : Nat) : Int) := ⟨by decide +kernel, by decide⟩
theorem aX1_wouldShow_47 : decode mX1_wouldShow.2.1 47 = .ok (.iconst 0, 1) ∧ 47 + 1 = 48 := ⟨by decide +kernel, rfl⟩
theorem aX1_wouldShow_48 : decode mX1_wouldShow.2.1 48 = .ok (.ireturn, 1) := by decide +kernel
theorem S_X1_wouldShow {E : EE} {d : Nat} {I : IH} {Q : QT} {e g r : Nat} (hE : isEv e g r) (x1 : Int32) (h :
((¬ (((I e 8) >>> (x1 &&& 31)) &&& (nI 1)) = (nI 1) → (Mt E d mX1_lights [.ref (eb E + e), .int x1] I (fun rv I1 => ∃ v2 : Int32, rv = some (.int v2) ∧
 ((v2 < (nI 3) → Q (some (.int (nI 0))) I1) ∧
 (¬ v2 < (nI 3) → (Mt E d mX1_thing [.ref (eb E + e), .int x1] I1 (fun rv I3 => ∃ j4 : Nat, j4 < 6 ∧ rv = some (.ref (eb E + (21 + j4))) ∧
 (Mt E d (sel_price j4) [.ref (eb E + (21 + j4)), .int v2, .int x1] I3 (fun rv I6 => ∃ v7 : Int32, rv = some (.int v7) ∧
 (Mt E d mX1_isOpen [.ref (eb E + e), .int x1, .int v7] I6 (fun rv I8 => ∃ v9 : Int32, rv = some (.int v9) ∧
 ((v9 = 0 → Q (some (.int (nI 0))) I8) ∧
 (¬ v9 = 0 → Q (some (.int (nI 1))) I8))))))))))))) ∧
 ((((I e 8) >>> (x1 &&& 31)) &&& (nI 1)) = (nI 1) → Q (some (.int (nI 0))) I))) : Mt E (d + 1) mX1_wouldShow [.ref (eb E + e), .int x1] I Q := by
  refine Mt_of [(0, .ref (eb E + e)), (1, .int x1)] (by decide +kernel) (by simp [lg_sl, Value.category, mX1_wouldShow]) rfl ?_
  refine J_aload_n 0 aX1_wouldShow_0 rfl ?_
  refine J_getI aX1_wouldShow_1 flX1_30 (shEv hE) rfl ?_
  refine J_iload_n 1 aX1_wouldShow_4 rfl ?_
  refine J_ishr aX1_wouldShow_5 ?_
  refine J_iconst (nI 1) aX1_wouldShow_6 (by decide +kernel) ?_
  refine J_iand aX1_wouldShow_7 ?_
  refine J_iconst (nI 1) aX1_wouldShow_8 (by decide +kernel) ?_
  refine J_icmp_ne aX1_wouldShow_9 (fun q => ?_) (fun q => ?_)
  · replace h := h.1 q
    refine J_aload_n 0 aX1_wouldShow_14 rfl ?_
    refine J_iload_n 1 aX1_wouldShow_15 rfl ?_
    refine J_callV [.int x1] [] aX1_wouldShow_16 lkX1_100_X1 okX1_lights (shEv hE) rfl rfl rfl (Nat.le_of_ble_eq_true rfl) (Nat.le_refl _) (Mt_mono h (fun rv I1 h => ?_))
    obtain ⟨v2, rfl, h⟩ := h
    refine J_r1 ?_
    refine J_istore_n [(2, .int v2), (0, .ref (eb E + e)), (1, .int x1)] aX1_wouldShow_19 (by decide) rfl ?_
    refine J_iload_n 0 aX1_wouldShow_20 rfl ?_
    refine J_iconst (nI 3) aX1_wouldShow_21 (by decide +kernel) ?_
    refine J_icmp_lt aX1_wouldShow_22 (fun q => ?_) (fun q => ?_)
    · replace h := h.1 q
      refine J_iconst (nI 0) aX1_wouldShow_47 (by decide +kernel) ?_
      exact J_zret aX1_wouldShow_48 rfl (by decide +kernel) h
    · replace h := h.2 q
      refine J_aload_n 1 aX1_wouldShow_25 rfl ?_
      refine J_iload_n 2 aX1_wouldShow_26 rfl ?_
      refine J_aload_n 1 aX1_wouldShow_27 rfl ?_
      refine J_iload_n 2 aX1_wouldShow_28 rfl ?_
      refine J_callV [.int x1] [.int x1, .ref (eb E + e)] aX1_wouldShow_29 lkX1_103_X1 okX1_thing (shEv hE) rfl rfl rfl (Nat.le_of_ble_eq_true rfl) (Nat.le_refl _) (Mt_mono h (fun rv I3 h => ?_))
      obtain ⟨j4, b5, rfl, h⟩ := h
      refine J_r1 ?_
      refine J_iload_n 0 aX1_wouldShow_32 rfl ?_
      refine J_iload_n 2 aX1_wouldShow_33 rfl ?_
      refine dspX1_107 [.int v2, .int x1] [.int x1, .ref (eb E + e)] b5 aX1_wouldShow_34 rfl rfl rfl (Nat.le_of_ble_eq_true rfl) (Nat.le_refl _) (Mt_mono h (fun rv I6 h => ?_))
      obtain ⟨v7, rfl, h⟩ := h
      refine J_r1 ?_
      refine J_callV [.int x1, .int v7] [] aX1_wouldShow_37 lkX1_112_X1 okX1_isOpen (shEv hE) rfl rfl rfl (Nat.le_of_ble_eq_true rfl) (Nat.le_refl _) (Mt_mono h (fun rv I8 h => ?_))
      obtain ⟨v9, rfl, h⟩ := h
      refine J_r1 ?_
      refine J_if_eq aX1_wouldShow_40 (fun q => ?_) (fun q => ?_)
      · replace h := h.1 q
        refine J_iconst (nI 0) aX1_wouldShow_47 (by decide +kernel) ?_
        exact J_zret aX1_wouldShow_48 rfl (by decide +kernel) h
      · replace h := h.2 q
        refine J_iconst (nI 1) aX1_wouldShow_43 (by decide +kernel) ?_
        refine J_goto aX1_wouldShow_44 ?_
        exact J_zret aX1_wouldShow_48 rfl (by decide +kernel) h
  · replace h := h.2 q
    refine J_iconst (nI 0) aX1_wouldShow_12 (by decide +kernel) ?_
    exact J_zret aX1_wouldShow_13 rfl (by decide +kernel) h
theorem aX1_will_0 : decode mX1_will.2.1 0 = .ok (.aload_n 0, 1) ∧ 0 + 1 = 1 := ⟨by decide +kernel, rfl⟩
theorem aX1_will_1 : decode mX1_will.2.1 1 = .ok (.getfield 68, 3) ∧ 1 + 3 = 4 := ⟨by decide +kernel, rfl⟩
theorem aX1_will_4 : decode mX1_will.2.1 4 = .ok (.getfield 116, 3) ∧ 4 + 3 = 7 := ⟨by decide +kernel, rfl⟩
theorem aX1_will_7 : decode mX1_will.2.1 7 = .ok (.ifCond .ne 5, 3) ∧ ((7 : Nat) : Int) + 5 = ((12 : Nat) : Int) ∧ 7 + 3 = 10 := ⟨by decide +kernel, by decide, rfl⟩
theorem aX1_will_10 : decode mX1_will.2.1 10 = .ok (.iconst 0, 1) ∧ 10 + 1 = 11 := ⟨by decide +kernel, rfl⟩
theorem aX1_will_11 : decode mX1_will.2.1 11 = .ok (.ireturn, 1) := by decide +kernel
theorem aX1_will_12 : decode mX1_will.2.1 12 = .ok (.aload_n 0, 1) ∧ 12 + 1 = 13 := ⟨by decide +kernel, rfl⟩
theorem aX1_will_13 : decode mX1_will.2.1 13 = .ok (.getfield 68, 3) ∧ 13 + 3 = 16 := ⟨by decide +kernel, rfl⟩
theorem aX1_will_16 : decode mX1_will.2.1 16 = .ok (.getfield 121, 3) ∧ 16 + 3 = 19 := ⟨by decide +kernel, rfl⟩
theorem aX1_will_19 : decode mX1_will.2.1 19 = .ok (.astore_n 3, 1) ∧ 19 + 1 = 20 := ⟨by decide +kernel, rfl⟩
theorem aX1_will_20 : decode mX1_will.2.1 20 = .ok (.aload_n 3, 1) ∧ 20 + 1 = 21 := ⟨by decide +kernel, rfl⟩
theorem aX1_will_21 : decode mX1_will.2.1 21 = .ok (.iconst 0, 1) ∧ 21 + 1 = 22 := ⟨by decide +kernel, rfl⟩
theorem aX1_will_22 : decode mX1_will.2.1 22 = .ok (.aload_n 0, 1) ∧ 22 + 1 = 23 := ⟨by decide +kernel, rfl⟩
theorem aX1_will_23 : decode mX1_will.2.1 23 = .ok (.getfield 15, 3) ∧ 23 + 3 = 26 := ⟨by decide +kernel, rfl⟩
theorem aX1_will_26 : decode mX1_will.2.1 26 = .ok (.iastore, 1) ∧ 26 + 1 = 27 := ⟨by decide +kernel, rfl⟩
theorem aX1_will_27 : decode mX1_will.2.1 27 = .ok (.aload_n 3, 1) ∧ 27 + 1 = 28 := ⟨by decide +kernel, rfl⟩
theorem aX1_will_28 : decode mX1_will.2.1 28 = .ok (.iconst 1, 1) ∧ 28 + 1 = 29 := ⟨by decide +kernel, rfl⟩
theorem aX1_will_29 : decode mX1_will.2.1 29 = .ok (.iload_n 2, 1) ∧ 29 + 1 = 30 := ⟨by decide +kernel, rfl⟩
theorem aX1_will_30 : decode mX1_will.2.1 30 = .ok (.iastore, 1) ∧ 30 + 1 = 31 := ⟨by decide +kernel, rfl⟩
theorem aX1_will_31 : decode mX1_will.2.1 31 = .ok (.aload_n 3, 1) ∧ 31 + 1 = 32 := ⟨by decide +kernel, rfl⟩
theorem aX1_will_32 : decode mX1_will.2.1 32 = .ok (.iconst 2, 1) ∧ 32 + 1 = 33 := ⟨by decide +kernel, rfl⟩
theorem aX1_will_33 : decode mX1_will.2.1 33 = .ok (.aload_n 0, 1) ∧ 33 + 1 = 34 := ⟨by decide +kernel, rfl⟩
theorem aX1_will_34 : decode mX1_will.2.1 34 = .ok (.getfield 58, 3) ∧ 34 + 3 = 37 := ⟨by decide +kernel, rfl⟩
theorem aX1_will_37 : decode mX1_will.2.1 37 = .ok (.iload_n 1, 1) ∧ 37 + 1 = 38 := ⟨by decide +kernel, rfl⟩
theorem aX1_will_38 : decode mX1_will.2.1 38 = .ok (.iaload, 1) ∧ 38 + 1 = 39 := ⟨by decide +kernel, rfl⟩
theorem aX1_will_39 : decode mX1_will.2.1 39 = .ok (.iastore, 1) ∧ 39 + 1 = 40 := ⟨by decide +kernel, rfl⟩
theorem aX1_will_40 : decode mX1_will.2.1 40 = .ok (.aload_n 3, 1) ∧ 40 + 1 = 41 := ⟨by decide +kernel, rfl⟩
theorem aX1_will_41 : decode mX1_will.2.1 41 = .ok (.iconst 3, 1) ∧ 41 + 1 = 42 := ⟨by decide +kernel, rfl⟩
theorem aX1_will_42 : decode mX1_will.2.1 42 = .ok (.aload_n 0, 1) ∧ 42 + 1 = 43 := ⟨by decide +kernel, rfl⟩
theorem aX1_will_43 : decode mX1_will.2.1 43 = .ok (.getfield 18, 3) ∧ 43 + 3 = 46 := ⟨by decide +kernel, rfl⟩
theorem aX1_will_46 : decode mX1_will.2.1 46 = .ok (.iastore, 1) ∧ 46 + 1 = 47 := ⟨by decide +kernel, rfl⟩
theorem aX1_will_47 : decode mX1_will.2.1 47 = .ok (.aload_n 3, 1) ∧ 47 + 1 = 48 := ⟨by decide +kernel, rfl⟩
theorem aX1_will_48 : decode mX1_will.2.1 48 = .ok (.iconst 4, 1) ∧ 48 + 1 = 49 := ⟨by decide +kernel, rfl⟩
theorem aX1_will_49 : decode mX1_will.2.1 49 = .ok (.iload_n 1, 1) ∧ 49 + 1 = 50 := ⟨by decide +kernel, rfl⟩
theorem aX1_will_50 : decode mX1_will.2.1 50 = .ok (.iastore, 1) ∧ 50 + 1 = 51 := ⟨by decide +kernel, rfl⟩
theorem aX1_will_51 : decode mX1_will.2.1 51 = .ok (.aload_n 0, 1) ∧ 51 + 1 = 52 := ⟨by decide +kernel, rfl⟩
theorem aX1_will_52 : decode mX1_will.2.1 52 = .ok (.getfield 68, 3) ∧ 52 + 3 = 55 := ⟨by decide +kernel, rfl⟩
theorem aX1_will_55 : decode mX1_will.2.1 55 = .ok (.aload_n 0, 1) ∧ 55 + 1 = 56 := ⟨by decide +kernel, rfl⟩
theorem aX1_will_56 : decode mX1_will.2.1 56 = .ok (.getfield 49, 3) ∧ 56 + 3 = 59 := ⟨by decide +kernel, rfl⟩
theorem aX1_will_59 : decode mX1_will.2.1 59 = .ok (.iload_n 1, 1) ∧ 59 + 1 = 60 := ⟨by decide +kernel, rfl⟩
theorem aX1_will_60 : decode mX1_will.2.1 60 = .ok (.iaload, 1) ∧ 60 + 1 = 61 := ⟨by decide +kernel, rfl⟩
theorem aX1_will_61 : decode mX1_will.2.1 61 = .ok (.invokevirtual 124, 3) ∧ 61 + 3 = 64 := ⟨by decide +kernel, rfl⟩
theorem aX1_will_64 : decode mX1_will.2.1 64 = .ok (.ireturn, 1) := by decide +kernel
theorem S_X1_will {E : EE} {d : Nat} {I : IH} {Q : QT} {e g r : Nat} (hE : isEv e g r) (x1 : Int32) (x2 : Int32) (h :
((¬ (I r 0) = 0 → (∀ I1 : IH, I1 = stI I (r + 5) 0 (I e 3) →
 (∀ I3 : IH, I3 = stI I1 (r + 5) 1 x2 →
 (∃ j5 : Nat, x1 = nI j5 ∧ j5 < 6 ∧ (∀ I8 : IH, I8 = stI I3 (r + 5) 2 (I3 (g + 6) j5) →
 (∀ I10 : IH, I10 = stI I8 (r + 5) 3 (I8 e 4) →
 (∀ I12 : IH, I12 = stI I10 (r + 5) 4 x1 →
 (∃ j14 : Nat, x1 = nI j14 ∧ j14 < 6 ∧ (Mt E d mX6_tells [.ref (eb E + r), .int (I12 (g + 3) j14)] I12 (fun rv I17 => ∃ v18 : Int32, rv = some (.int v18) ∧
 Q (some (.int v18)) I17)))))))))) ∧
 ((I r 0) = 0 → Q (some (.int (nI 0))) I))) : Mt E (d + 1) mX1_will [.ref (eb E + e), .int x1, .int x2] I Q := by
  refine Mt_of [(0, .ref (eb E + e)), (1, .int x1), (2, .int x2)] (by decide +kernel) (by simp [lg_sl, Value.category, mX1_will]) rfl ?_
  refine J_aload_n 0 aX1_will_0 rfl ?_
  refine J_getR aX1_will_1 flX1_68 (shEv hE) rfl ?_
  refine J_getI aX1_will_4 flX1_116 (shRu (ev_ru hE)) rfl ?_
  refine J_if_ne aX1_will_7 (fun q => ?_) (fun q => ?_)
  · replace h := h.1 q
    refine J_aload_n 0 aX1_will_12 rfl ?_
    refine J_getR aX1_will_13 flX1_68 (shEv hE) rfl ?_
    refine J_getR aX1_will_16 flX1_121 (shRu (ev_ru hE)) rfl ?_
    refine J_astore_n [(3, .ref (eb E + (r + 5))), (0, .ref (eb E + e)), (1, .int x1), (2, .int x2)] aX1_will_19 (by decide) rfl ?_
    refine J_aload_n 0 aX1_will_20 rfl ?_
    refine J_iconst (nI 0) aX1_will_21 (by decide +kernel) ?_
    refine J_aload_n 1 aX1_will_22 rfl ?_
    refine J_getI aX1_will_23 flX1_15 (shEv hE) rfl ?_
    refine J_iastore 0 aX1_will_26 (shRu5 (ev_ru hE)) rfl (by decide) (by decide) (fun I1 e2 => ?_)
    replace h := h I1 e2
    refine J_aload_n 0 aX1_will_27 rfl ?_
    refine J_iconst (nI 1) aX1_will_28 (by decide +kernel) ?_
    refine J_iload_n 3 aX1_will_29 rfl ?_
    refine J_iastore 1 aX1_will_30 (shRu5 (ev_ru hE)) rfl (by decide) (by decide) (fun I3 e4 => ?_)
    replace h := h I3 e4
    refine J_aload_n 0 aX1_will_31 rfl ?_
    refine J_iconst (nI 2) aX1_will_32 (by decide +kernel) ?_
    refine J_aload_n 1 aX1_will_33 rfl ?_
    refine J_getR aX1_will_34 flX1_58 (shEv hE) rfl ?_
    refine J_iload_n 2 aX1_will_37 rfl ?_
    obtain ⟨j5, e6, b7, h⟩ := h
    refine J_iaload j5 aX1_will_38 (shEv6 hE) e6 b7 (by decide) ?_
    refine J_iastore 2 aX1_will_39 (shRu5 (ev_ru hE)) rfl (by decide) (by decide) (fun I8 e9 => ?_)
    replace h := h I8 e9
    refine J_aload_n 0 aX1_will_40 rfl ?_
    refine J_iconst (nI 3) aX1_will_41 (by decide +kernel) ?_
    refine J_aload_n 1 aX1_will_42 rfl ?_
    refine J_getI aX1_will_43 flX1_18 (shEv hE) rfl ?_
    refine J_iastore 3 aX1_will_46 (shRu5 (ev_ru hE)) rfl (by decide) (by decide) (fun I10 e11 => ?_)
    replace h := h I10 e11
    refine J_aload_n 0 aX1_will_47 rfl ?_
    refine J_iconst (nI 4) aX1_will_48 (by decide +kernel) ?_
    refine J_iload_n 2 aX1_will_49 rfl ?_
    refine J_iastore 4 aX1_will_50 (shRu5 (ev_ru hE)) rfl (by decide) (by decide) (fun I12 e13 => ?_)
    replace h := h I12 e13
    refine J_aload_n 1 aX1_will_51 rfl ?_
    refine J_getR aX1_will_52 flX1_68 (shEv hE) rfl ?_
    refine J_aload_n 1 aX1_will_55 rfl ?_
    refine J_getR aX1_will_56 flX1_49 (shEv hE) rfl ?_
    refine J_iload_n 2 aX1_will_59 rfl ?_
    obtain ⟨j14, e15, b16, h⟩ := h
    refine J_iaload j14 aX1_will_60 (shEv3 hE) e15 b16 (by decide) ?_
    refine J_callV [.int (I12 (g + 3) j14)] [] aX1_will_61 lkX1_124_X6 okX6_tells (shRu (ev_ru hE)) rfl rfl rfl (Nat.le_of_ble_eq_true rfl) (Nat.le_refl _) (Mt_mono h (fun rv I17 h => ?_))
    obtain ⟨v18, rfl, h⟩ := h
    refine J_r1 ?_
    exact J_iret aX1_will_64 rfl h
  · replace h := h.2 q
    refine J_iconst (nI 0) aX1_will_10 (by decide +kernel) ?_
    exact J_iret aX1_will_11 rfl h
theorem aX1_go_0 : decode mX1_go.2.1 0 = .ok (.aload_n 0, 1) ∧ 0 + 1 = 1 := ⟨by decide +kernel, rfl⟩
theorem aX1_go_1 : decode mX1_go.2.1 1 = .ok (.invokevirtual 127, 3) ∧ 1 + 3 = 4 := ⟨by decide +kernel, rfl⟩
theorem aX1_go_4 : decode mX1_go.2.1 4 = .ok (.iload_n 1, 1) ∧ 4 + 1 = 5 := ⟨by decide +kernel, rfl⟩
theorem aX1_go_5 : decode mX1_go.2.1 5 = .ok (.ifCond .ne 7, 3) ∧ ((5 : Nat) : Int) + 7 = ((12 : Nat) : Int) ∧ 5 + 3 = 8 := ⟨by decide +kernel, by decide, rfl⟩
theorem aX1_go_8 : decode mX1_go.2.1 8 = .ok (.iconst 0, 1) ∧ 8 + 1 = 9 := ⟨by decide +kernel, rfl⟩
theorem aX1_go_9 : decode mX1_go.2.1 9 = .ok (.goto 10, 3) ∧ ((9 : Nat) : Int) + 10 = ((19 : Nat) : Int) := ⟨by decide +kernel, by decide⟩
theorem aX1_go_12 : decode mX1_go.2.1 12 = .ok (.aload_n 0, 1) ∧ 12 + 1 = 13 := ⟨by decide +kernel, rfl⟩
theorem aX1_go_13 : decode mX1_go.2.1 13 = .ok (.iload_n 1, 1) ∧ 13 + 1 = 14 := ⟨by decide +kernel, rfl⟩
theorem aX1_go_14 : decode mX1_go.2.1 14 = .ok (.iconst 1, 1) ∧ 14 + 1 = 15 := ⟨by decide +kernel, rfl⟩
theorem aX1_go_15 : decode mX1_go.2.1 15 = .ok (.isub, 1) ∧ 15 + 1 = 16 := ⟨by decide +kernel, rfl⟩
theorem aX1_go_16 : decode mX1_go.2.1 16 = .ok (.invokevirtual 130, 3) ∧ 16 + 3 = 19 := ⟨by decide +kernel, rfl⟩
theorem aX1_go_19 : decode mX1_go.2.1 19 = .ok (.istore_n 2, 1) ∧ 19 + 1 = 20 := ⟨by decide +kernel, rfl⟩
theorem aX1_go_20 : decode mX1_go.2.1 20 = .ok (.aload_n 0, 1) ∧ 20 + 1 = 21 := ⟨by decide +kernel, rfl⟩
theorem aX1_go_21 : decode mX1_go.2.1 21 = .ok (.iload_n 2, 1) ∧ 21 + 1 = 22 := ⟨by decide +kernel, rfl⟩
theorem aX1_go_22 : decode mX1_go.2.1 22 = .ok (.invokevirtual 133, 3) ∧ 22 + 3 = 25 := ⟨by decide +kernel, rfl⟩
theorem aX1_go_25 : decode mX1_go.2.1 25 = .ok (.iload_n 2, 1) ∧ 25 + 1 = 26 := ⟨by decide +kernel, rfl⟩
theorem aX1_go_26 : decode mX1_go.2.1 26 = .ok (.ireturn, 1) := by decide +kernel
theorem S_X1_go {E : EE} {d : Nat} {I : IH} {Q : QT} {e g r : Nat} (hE : isEv e g r) (x1 : Int32) (h :
(Mt E d mX1_bringNews [.ref (eb E + e)] I (fun rv I1 => rv = none ∧
 ((¬ x1 = 0 → (Mt E d mX1_doBy [.ref (eb E + e), .int (x1 - (nI 1))] I1 (fun rv I2 => ∃ v3 : Int32, rv = some (.int v3) ∧
 J E (d + 1) mX1_go 19 [(0, .ref (eb E + e))] [.int v3] I2 Q))) ∧
 (x1 = 0 → J E (d + 1) mX1_go 19 [(0, .ref (eb E + e))] [.int (nI 0)] I1 Q))))) : Mt E (d + 1) mX1_go [.ref (eb E + e), .int x1] I Q := by
  refine Mt_of [(0, .ref (eb E + e)), (1, .int x1)] (by decide +kernel) (by simp [lg_sl, Value.category, mX1_go]) rfl ?_
  refine J_aload_n 0 aX1_go_0 rfl ?_
  refine J_callV [] [] aX1_go_1 lkX1_127_X1 okX1_bringNews (shEv hE) rfl rfl rfl (Nat.le_of_ble_eq_true rfl) (Nat.le_refl _) (Mt_mono h (fun rv I1 h => ?_))
  obtain ⟨rfl, h⟩ := h
  refine J_r0 ?_
  refine J_iload_n 1 aX1_go_4 rfl ?_
  refine J_if_ne aX1_go_5 (fun q => ?_) (fun q => ?_)
  · replace h := h.1 q
    refine J_aload_n 0 aX1_go_12 rfl ?_
    refine J_iload_n 1 aX1_go_13 rfl ?_
    refine J_iconst (nI 1) aX1_go_14 (by decide +kernel) ?_
    refine J_isub aX1_go_15 ?_
    refine J_callV [.int (x1 - (nI 1))] [] aX1_go_16 lkX1_130_X1 okX1_doBy (shEv hE) rfl rfl rfl (Nat.le_of_ble_eq_true rfl) (Nat.le_refl _) (Mt_mono h (fun rv I2 h => ?_))
    obtain ⟨v3, rfl, h⟩ := h
    refine J_r1 ?_
    refine J_pick [0] rfl ?_
    exact h
  · replace h := h.2 q
    refine J_iconst (nI 0) aX1_go_8 (by decide +kernel) ?_
    refine J_goto aX1_go_9 ?_
    refine J_pick [0] rfl ?_
    exact h
theorem S_X1_go_19 {E : EE} {d : Nat} {I : IH} {Q : QT} {e g r : Nat} (hE : isEv e g r) (t0 : Int32) (h :
(Mt E d mX1_goOn [.ref (eb E + e), .int t0] I (fun rv I1 => rv = none ∧
 Q (some (.int t0)) I1))) : J E (d + 1) mX1_go 19 [(0, .ref (eb E + e))] [.int t0] I Q := by
  refine J_istore_n [(2, .int t0), (0, .ref (eb E + e))] aX1_go_19 (by decide) rfl ?_
  refine J_aload_n 1 aX1_go_20 rfl ?_
  refine J_iload_n 0 aX1_go_21 rfl ?_
  refine J_callV [.int t0] [] aX1_go_22 lkX1_133_X1 okX1_goOn (shEv hE) rfl rfl rfl (Nat.le_of_ble_eq_true rfl) (Nat.le_refl _) (Mt_mono h (fun rv I1 h => ?_))
  obtain ⟨rfl, h⟩ := h
  refine J_r0 ?_
  refine J_iload_n 0 aX1_go_25 rfl ?_
  exact J_iret aX1_go_26 rfl h
theorem aX1_goRest_0 : decode mX1_goRest.2.1 0 = .ok (.aload_n 0, 1) ∧ 0 + 1 = 1 := ⟨by decide +kernel, rfl⟩
theorem aX1_goRest_1 : decode mX1_goRest.2.1 1 = .ok (.invokevirtual 127, 3) ∧ 1 + 3 = 4 := ⟨by decide +kernel, rfl⟩
theorem aX1_goRest_4 : decode mX1_goRest.2.1 4 = .ok (.iconst 0, 1) ∧ 4 + 1 = 5 := ⟨by decide +kernel, rfl⟩
theorem aX1_goRest_5 : decode mX1_goRest.2.1 5 = .ok (.istore_n 1, 1) ∧ 5 + 1 = 6 := ⟨by decide +kernel, rfl⟩
theorem aX1_goRest_6 : decode mX1_goRest.2.1 6 = .ok (.iconst 0, 1) ∧ 6 + 1 = 7 := ⟨by decide +kernel, rfl⟩
theorem aX1_goRest_7 : decode mX1_goRest.2.1 7 = .ok (.istore_n 2, 1) ∧ 7 + 1 = 8 := ⟨by decide +kernel, rfl⟩
theorem aX1_goRest_8 : decode mX1_goRest.2.1 8 = .ok (.iload_n 2, 1) ∧ 8 + 1 = 9 := ⟨by decide +kernel, rfl⟩
theorem aX1_goRest_9 : decode mX1_goRest.2.1 9 = .ok (.aload_n 0, 1) ∧ 9 + 1 = 10 := ⟨by decide +kernel, rfl⟩
theorem aX1_goRest_10 : decode mX1_goRest.2.1 10 = .ok (.getfield 27, 3) ∧ 10 + 3 = 13 := ⟨by decide +kernel, rfl⟩
theorem aX1_goRest_13 : decode mX1_goRest.2.1 13 = .ok (.if_icmp .ge 26, 3) ∧ ((13 : Nat) : Int) + 26 = ((39 : Nat) : Int) ∧ 13 + 3 = 16 := ⟨by decide +kernel, by decide, rfl⟩
theorem aX1_goRest_16 : decode mX1_goRest.2.1 16 = .ok (.aload_n 0, 1) ∧ 16 + 1 = 17 := ⟨by decide +kernel, rfl⟩
theorem aX1_goRest_17 : decode mX1_goRest.2.1 17 = .ok (.iload_n 2, 1) ∧ 17 + 1 = 18 := ⟨by decide +kernel, rfl⟩
theorem aX1_goRest_18 : decode mX1_goRest.2.1 18 = .ok (.invokevirtual 137, 3) ∧ 18 + 3 = 21 := ⟨by decide +kernel, rfl⟩
theorem aX1_goRest_21 : decode mX1_goRest.2.1 21 = .ok (.ifCond .eq 12, 3) ∧ ((21 : Nat) : Int) + 12 = ((33 : Nat) : Int) ∧ 21 + 3 = 24 := ⟨by decide +kernel, by decide, rfl⟩
theorem aX1_goRest_24 : decode mX1_goRest.2.1 24 = .ok (.aload_n 0, 1) ∧ 24 + 1 = 25 := ⟨by decide +kernel, rfl⟩
theorem aX1_goRest_25 : decode mX1_goRest.2.1 25 = .ok (.iload_n 2, 1) ∧ 25 + 1 = 26 := ⟨by decide +kernel, rfl⟩
theorem aX1_goRest_26 : decode mX1_goRest.2.1 26 = .ok (.invokevirtual 130, 3) ∧ 26 + 3 = 29 := ⟨by decide +kernel, rfl⟩
theorem aX1_goRest_29 : decode mX1_goRest.2.1 29 = .ok (.istore_n 1, 1) ∧ 29 + 1 = 30 := ⟨by decide +kernel, rfl⟩
theorem aX1_goRest_30 : decode mX1_goRest.2.1 30 = .ok (.goto 9, 3) ∧ ((30 : Nat) : Int) + 9 = ((39 : Nat) : Int) := ⟨by decide +kernel, by decide⟩
theorem aX1_goRest_33 : decode mX1_goRest.2.1 33 = .ok (.iinc 2 1, 3) ∧ 33 + 3 = 36 := ⟨by decide +kernel, rfl⟩
theorem aX1_goRest_36 : decode mX1_goRest.2.1 36 = .ok (.goto (-28), 3) ∧ ((36 : Nat) : Int) + (-28) = ((8 : Nat) : Int) := ⟨by decide +kernel, by decide⟩
theorem aX1_goRest_39 : decode mX1_goRest.2.1 39 = .ok (.aload_n 0, 1) ∧ 39 + 1 = 40 := ⟨by decide +kernel, rfl⟩
theorem aX1_goRest_40 : decode mX1_goRest.2.1 40 = .ok (.iload_n 1, 1) ∧ 40 + 1 = 41 := ⟨by decide +kernel, rfl⟩
theorem aX1_goRest_41 : decode mX1_goRest.2.1 41 = .ok (.invokevirtual 133, 3) ∧ 41 + 3 = 44 := ⟨by decide +kernel, rfl⟩
theorem aX1_goRest_44 : decode mX1_goRest.2.1 44 = .ok (.iload_n 1, 1) ∧ 44 + 1 = 45 := ⟨by decide +kernel, rfl⟩
theorem aX1_goRest_45 : decode mX1_goRest.2.1 45 = .ok (.ireturn, 1) := by decide +kernel
theorem S_X1_goRest {E : EE} {d : Nat} {I : IH} {Q : QT} {e g r : Nat} (hE : isEv e g r) (h :
(Mt E d mX1_bringNews [.ref (eb E + e)] I (fun rv I1 => rv = none ∧
 J E (d + 1) mX1_goRest 8 [(0, .ref (eb E + e)), (1, .int (nI 0)), (2, .int (nI 0))] [] I1 Q))) : Mt E (d + 1) mX1_goRest [.ref (eb E + e)] I Q := by
  refine Mt_of [(0, .ref (eb E + e))] (by decide +kernel) (by simp [lg_sl, Value.category, mX1_goRest]) rfl ?_
  refine J_aload_n 0 aX1_goRest_0 rfl ?_
  refine J_callV [] [] aX1_goRest_1 lkX1_127_X1 okX1_bringNews (shEv hE) rfl rfl rfl (Nat.le_of_ble_eq_true rfl) (Nat.le_refl _) (Mt_mono h (fun rv I1 h => ?_))
  obtain ⟨rfl, h⟩ := h
  refine J_r0 ?_
  refine J_iconst (nI 0) aX1_goRest_4 (by decide +kernel) ?_
  refine J_istore_n [(1, .int (nI 0)), (0, .ref (eb E + e))] aX1_goRest_5 (by decide) rfl ?_
  refine J_iconst (nI 0) aX1_goRest_6 (by decide +kernel) ?_
  refine J_istore_n [(2, .int (nI 0)), (1, .int (nI 0)), (0, .ref (eb E + e))] aX1_goRest_7 (by decide) rfl ?_
  refine J_pick [2, 1, 0] rfl ?_
  exact h
theorem S_X1_goRest_8 {E : EE} {d : Nat} {I : IH} {Q : QT} {e g r : Nat} (hE : isEv e g r) (x1 : Int32) (x2 : Int32) (h :
(((I e 7) ≤ x2 → J E (d + 1) mX1_goRest 39 [(0, .ref (eb E + e)), (1, .int x1)] [] I Q) ∧
 (¬ (I e 7) ≤ x2 → (Mt E d mX1_wouldShow [.ref (eb E + e), .int x2] I (fun rv I1 => ∃ v2 : Int32, rv = some (.int v2) ∧
 ((v2 = 0 → J E (d + 1) mX1_goRest 8 [(0, .ref (eb E + e)), (1, .int x1), (2, .int (x2 + nI 1))] [] I1 Q) ∧
 (¬ v2 = 0 → (Mt E d mX1_doBy [.ref (eb E + e), .int x2] I1 (fun rv I3 => ∃ v4 : Int32, rv = some (.int v4) ∧
 J E (d + 1) mX1_goRest 39 [(0, .ref (eb E + e)), (1, .int v4)] [] I3 Q))))))))) : J E (d + 1) mX1_goRest 8 [(0, .ref (eb E + e)), (1, .int x1), (2, .int x2)] [] I Q := by
  refine J_iload_n 2 aX1_goRest_8 rfl ?_
  refine J_aload_n 0 aX1_goRest_9 rfl ?_
  refine J_getI aX1_goRest_10 flX1_27 (shEv hE) rfl ?_
  refine J_icmp_ge aX1_goRest_13 (fun q => ?_) (fun q => ?_)
  · replace h := h.1 q
    refine J_pick [0, 1] rfl ?_
    exact h
  · replace h := h.2 q
    refine J_aload_n 0 aX1_goRest_16 rfl ?_
    refine J_iload_n 2 aX1_goRest_17 rfl ?_
    refine J_callV [.int x2] [] aX1_goRest_18 lkX1_137_X1 okX1_wouldShow (shEv hE) rfl rfl rfl (Nat.le_of_ble_eq_true rfl) (Nat.le_refl _) (Mt_mono h (fun rv I1 h => ?_))
    obtain ⟨v2, rfl, h⟩ := h
    refine J_r1 ?_
    refine J_if_eq aX1_goRest_21 (fun q => ?_) (fun q => ?_)
    · replace h := h.1 q
      refine J_iinc (x2 + nI 1) [(2, .int (x2 + nI 1)), (0, .ref (eb E + e)), (1, .int x1)] 2 aX1_goRest_33 rfl (by first | rfl | (congr 1; decide +kernel)) (by decide) rfl ?_
      refine J_goto aX1_goRest_36 ?_
      refine J_pick [1, 2, 0] rfl ?_
      exact h
    · replace h := h.2 q
      refine J_aload_n 0 aX1_goRest_24 rfl ?_
      refine J_iload_n 2 aX1_goRest_25 rfl ?_
      refine J_callV [.int x2] [] aX1_goRest_26 lkX1_130_X1 okX1_doBy (shEv hE) rfl rfl rfl (Nat.le_of_ble_eq_true rfl) (Nat.le_refl _) (Mt_mono h (fun rv I3 h => ?_))
      obtain ⟨v4, rfl, h⟩ := h
      refine J_r1 ?_
      refine J_istore_n [(1, .int v4), (0, .ref (eb E + e)), (2, .int x2)] aX1_goRest_29 (by decide) rfl ?_
      refine J_goto aX1_goRest_30 ?_
      refine J_pick [1, 0] rfl ?_
      exact h
theorem S_X1_goRest_39 {E : EE} {d : Nat} {I : IH} {Q : QT} {e g r : Nat} (hE : isEv e g r) (x1 : Int32) (h :
(Mt E d mX1_goOn [.ref (eb E + e), .int x1] I (fun rv I1 => rv = none ∧
 Q (some (.int x1)) I1))) : J E (d + 1) mX1_goRest 39 [(0, .ref (eb E + e)), (1, .int x1)] [] I Q := by
  refine J_aload_n 0 aX1_goRest_39 rfl ?_
  refine J_iload_n 1 aX1_goRest_40 rfl ?_
  refine J_callV [.int x1] [] aX1_goRest_41 lkX1_133_X1 okX1_goOn (shEv hE) rfl rfl rfl (Nat.le_of_ble_eq_true rfl) (Nat.le_refl _) (Mt_mono h (fun rv I1 h => ?_))
  obtain ⟨rfl, h⟩ := h
  refine J_r0 ?_
  refine J_iload_n 1 aX1_goRest_44 rfl ?_
  exact J_iret aX1_goRest_45 rfl h
theorem aX1_goRestFor_0 : decode mX1_goRestFor.2.1 0 = .ok (.iconst 0, 1) ∧ 0 + 1 = 1 := ⟨by decide +kernel, rfl⟩
theorem aX1_goRestFor_1 : decode mX1_goRestFor.2.1 1 = .ok (.istore_n 2, 1) ∧ 1 + 1 = 2 := ⟨by decide +kernel, rfl⟩
theorem aX1_goRestFor_2 : decode mX1_goRestFor.2.1 2 = .ok (.iconst 0, 1) ∧ 2 + 1 = 3 := ⟨by decide +kernel, rfl⟩
theorem aX1_goRestFor_3 : decode mX1_goRestFor.2.1 3 = .ok (.istore_n 3, 1) ∧ 3 + 1 = 4 := ⟨by decide +kernel, rfl⟩
theorem aX1_goRestFor_4 : decode mX1_goRestFor.2.1 4 = .ok (.iload_n 3, 1) ∧ 4 + 1 = 5 := ⟨by decide +kernel, rfl⟩
theorem aX1_goRestFor_5 : decode mX1_goRestFor.2.1 5 = .ok (.iload_n 1, 1) ∧ 5 + 1 = 6 := ⟨by decide +kernel, rfl⟩
theorem aX1_goRestFor_6 : decode mX1_goRestFor.2.1 6 = .ok (.if_icmp .ge 23, 3) ∧ ((6 : Nat) : Int) + 23 = ((29 : Nat) : Int) ∧ 6 + 3 = 9 := ⟨by decide +kernel, by decide, rfl⟩
theorem aX1_goRestFor_9 : decode mX1_goRestFor.2.1 9 = .ok (.aload_n 0, 1) ∧ 9 + 1 = 10 := ⟨by decide +kernel, rfl⟩
theorem aX1_goRestFor_10 : decode mX1_goRestFor.2.1 10 = .ok (.invokevirtual 141, 3) ∧ 10 + 3 = 13 := ⟨by decide +kernel, rfl⟩
theorem aX1_goRestFor_13 : decode mX1_goRestFor.2.1 13 = .ok (.ifCond .ne 16, 3) ∧ ((13 : Nat) : Int) + 16 = ((29 : Nat) : Int) ∧ 13 + 3 = 16 := ⟨by decide +kernel, by decide, rfl⟩
theorem aX1_goRestFor_16 : decode mX1_goRestFor.2.1 16 = .ok (.iload_n 2, 1) ∧ 16 + 1 = 17 := ⟨by decide +kernel, rfl⟩
theorem aX1_goRestFor_17 : decode mX1_goRestFor.2.1 17 = .ok (.aload_n 0, 1) ∧ 17 + 1 = 18 := ⟨by decide +kernel, rfl⟩
theorem aX1_goRestFor_18 : decode mX1_goRestFor.2.1 18 = .ok (.invokevirtual 145, 3) ∧ 18 + 3 = 21 := ⟨by decide +kernel, rfl⟩
theorem aX1_goRestFor_21 : decode mX1_goRestFor.2.1 21 = .ok (.iadd, 1) ∧ 21 + 1 = 22 := ⟨by decide +kernel, rfl⟩
theorem aX1_goRestFor_22 : decode mX1_goRestFor.2.1 22 = .ok (.istore_n 2, 1) ∧ 22 + 1 = 23 := ⟨by decide +kernel, rfl⟩
theorem aX1_goRestFor_23 : decode mX1_goRestFor.2.1 23 = .ok (.iinc 3 1, 3) ∧ 23 + 3 = 26 := ⟨by decide +kernel, rfl⟩
theorem aX1_goRestFor_26 : decode mX1_goRestFor.2.1 26 = .ok (.goto (-22), 3) ∧ ((26 : Nat) : Int) + (-22) = ((4 : Nat) : Int) := ⟨by decide +kernel, by decide⟩
theorem aX1_goRestFor_29 : decode mX1_goRestFor.2.1 29 = .ok (.iload_n 2, 1) ∧ 29 + 1 = 30 := ⟨by decide +kernel, rfl⟩
theorem aX1_goRestFor_30 : decode mX1_goRestFor.2.1 30 = .ok (.ireturn, 1) := by decide +kernel
theorem S_X1_goRestFor {E : EE} {d : Nat} {I : IH} {Q : QT} {e g r : Nat} (hE : isEv e g r) (x1 : Int32) (h :
J E (d + 1) mX1_goRestFor 4 [(0, .ref (eb E + e)), (1, .int x1), (2, .int (nI 0)), (3, .int (nI 0))] [] I Q) : Mt E (d + 1) mX1_goRestFor [.ref (eb E + e), .int x1] I Q := by
  refine Mt_of [(0, .ref (eb E + e)), (1, .int x1)] (by decide +kernel) (by simp [lg_sl, Value.category, mX1_goRestFor]) rfl ?_
  refine J_iconst (nI 0) aX1_goRestFor_0 (by decide +kernel) ?_
  refine J_istore_n [(2, .int (nI 0)), (0, .ref (eb E + e)), (1, .int x1)] aX1_goRestFor_1 (by decide) rfl ?_
  refine J_iconst (nI 0) aX1_goRestFor_2 (by decide +kernel) ?_
  refine J_istore_n [(3, .int (nI 0)), (2, .int (nI 0)), (0, .ref (eb E + e)), (1, .int x1)] aX1_goRestFor_3 (by decide) rfl ?_
  refine J_pick [2, 3, 1, 0] rfl ?_
  exact h
theorem S_X1_goRestFor_4 {E : EE} {d : Nat} {I : IH} {Q : QT} {e g r : Nat} (hE : isEv e g r) (x1 : Int32) (x2 : Int32) (x3 : Int32) (h :
((x1 ≤ x3 → Q (some (.int x2)) I) ∧
 (¬ x1 ≤ x3 → (Mt E d mX1_isOver [.ref (eb E + e)] I (fun rv I1 => ∃ v2 : Int32, rv = some (.int v2) ∧
 ((¬ v2 = 0 → Q (some (.int x2)) I1) ∧
 (v2 = 0 → (Mt E d mX1_goRest [.ref (eb E + e)] I1 (fun rv I3 => ∃ v4 : Int32, rv = some (.int v4) ∧
 J E (d + 1) mX1_goRestFor 4 [(0, .ref (eb E + e)), (1, .int x1), (2, .int (x2 + v4)), (3, .int (x3 + nI 1))] [] I3 Q))))))))) : J E (d + 1) mX1_goRestFor 4 [(0, .ref (eb E + e)), (1, .int x1), (2, .int x2), (3, .int x3)] [] I Q := by
  refine J_iload_n 3 aX1_goRestFor_4 rfl ?_
  refine J_iload_n 1 aX1_goRestFor_5 rfl ?_
  refine J_icmp_ge aX1_goRestFor_6 (fun q => ?_) (fun q => ?_)
  · replace h := h.1 q
    refine J_iload_n 2 aX1_goRestFor_29 rfl ?_
    exact J_iret aX1_goRestFor_30 rfl h
  · replace h := h.2 q
    refine J_aload_n 0 aX1_goRestFor_9 rfl ?_
    refine J_callV [] [] aX1_goRestFor_10 lkX1_141_X1 okX1_isOver (shEv hE) rfl rfl rfl (Nat.le_of_ble_eq_true rfl) (Nat.le_refl _) (Mt_mono h (fun rv I1 h => ?_))
    obtain ⟨v2, rfl, h⟩ := h
    refine J_r1 ?_
    refine J_if_ne aX1_goRestFor_13 (fun q => ?_) (fun q => ?_)
    · replace h := h.1 q
      refine J_iload_n 2 aX1_goRestFor_29 rfl ?_
      exact J_iret aX1_goRestFor_30 rfl h
    · replace h := h.2 q
      refine J_iload_n 2 aX1_goRestFor_16 rfl ?_
      refine J_aload_n 0 aX1_goRestFor_17 rfl ?_
      refine J_callV [] [.int x2] aX1_goRestFor_18 lkX1_145_X1 okX1_goRest (shEv hE) rfl rfl rfl (Nat.le_of_ble_eq_true rfl) (Nat.le_refl _) (Mt_mono h (fun rv I3 h => ?_))
      obtain ⟨v4, rfl, h⟩ := h
      refine J_r1 ?_
      refine J_iadd aX1_goRestFor_21 ?_
      refine J_istore_n [(2, .int (x2 + v4)), (0, .ref (eb E + e)), (1, .int x1), (3, .int x3)] aX1_goRestFor_22 (by decide) rfl ?_
      refine J_iinc (x3 + nI 1) [(3, .int (x3 + nI 1)), (2, .int (x2 + v4)), (0, .ref (eb E + e)), (1, .int x1)] 3 aX1_goRestFor_23 rfl (by first | rfl | (congr 1; decide +kernel)) (by decide) rfl ?_
      refine J_goto aX1_goRestFor_26 ?_
      refine J_pick [2, 3, 1, 0] rfl ?_
      exact h
theorem aX1_goLot_0 : decode mX1_goLot.2.1 0 = .ok (.aload_n 0, 1) ∧ 0 + 1 = 1 := ⟨by decide +kernel, rfl⟩
theorem aX1_goLot_1 : decode mX1_goLot.2.1 1 = .ok (.aload_n 0, 1) ∧ 1 + 1 = 2 := ⟨by decide +kernel, rfl⟩
theorem aX1_goLot_2 : decode mX1_goLot.2.1 2 = .ok (.getfield 33, 3) ∧ 2 + 3 = 5 := ⟨by decide +kernel, rfl⟩
theorem aX1_goLot_5 : decode mX1_goLot.2.1 5 = .ok (.ldc 149, 2) ∧ 5 + 2 = 7 := ⟨by decide +kernel, rfl⟩
theorem aX1_goLot_7 : decode mX1_goLot.2.1 7 = .ok (.imul, 1) ∧ 7 + 1 = 8 := ⟨by decide +kernel, rfl⟩
theorem aX1_goLot_8 : decode mX1_goLot.2.1 8 = .ok (.sipush 12345, 3) ∧ 8 + 3 = 11 := ⟨by decide +kernel, rfl⟩
theorem aX1_goLot_11 : decode mX1_goLot.2.1 11 = .ok (.iadd, 1) ∧ 11 + 1 = 12 := ⟨by decide +kernel, rfl⟩
theorem aX1_goLot_12 : decode mX1_goLot.2.1 12 = .ok (.putfield 33, 3) ∧ 12 + 3 = 15 := ⟨by decide +kernel, rfl⟩
theorem aX1_goLot_15 : decode mX1_goLot.2.1 15 = .ok (.aload_n 0, 1) ∧ 15 + 1 = 16 := ⟨by decide +kernel, rfl⟩
theorem aX1_goLot_16 : decode mX1_goLot.2.1 16 = .ok (.aload_n 0, 1) ∧ 16 + 1 = 17 := ⟨by decide +kernel, rfl⟩
theorem aX1_goLot_17 : decode mX1_goLot.2.1 17 = .ok (.getfield 33, 3) ∧ 17 + 3 = 20 := ⟨by decide +kernel, rfl⟩
theorem aX1_goLot_20 : decode mX1_goLot.2.1 20 = .ok (.bipush 16, 2) ∧ 20 + 2 = 22 := ⟨by decide +kernel, rfl⟩
theorem aX1_goLot_22 : decode mX1_goLot.2.1 22 = .ok (.iushr, 1) ∧ 22 + 1 = 23 := ⟨by decide +kernel, rfl⟩
theorem aX1_goLot_23 : decode mX1_goLot.2.1 23 = .ok (.aload_n 0, 1) ∧ 23 + 1 = 24 := ⟨by decide +kernel, rfl⟩
theorem aX1_goLot_24 : decode mX1_goLot.2.1 24 = .ok (.getfield 27, 3) ∧ 24 + 3 = 27 := ⟨by decide +kernel, rfl⟩
theorem aX1_goLot_27 : decode mX1_goLot.2.1 27 = .ok (.iconst 1, 1) ∧ 27 + 1 = 28 := ⟨by decide +kernel, rfl⟩
theorem aX1_goLot_28 : decode mX1_goLot.2.1 28 = .ok (.iadd, 1) ∧ 28 + 1 = 29 := ⟨by decide +kernel, rfl⟩
theorem aX1_goLot_29 : decode mX1_goLot.2.1 29 = .ok (.irem, 1) ∧ 29 + 1 = 30 := ⟨by decide +kernel, rfl⟩
theorem aX1_goLot_30 : decode mX1_goLot.2.1 30 = .ok (.invokevirtual 150, 3) ∧ 30 + 3 = 33 := ⟨by decide +kernel, rfl⟩
theorem aX1_goLot_33 : decode mX1_goLot.2.1 33 = .ok (.ireturn, 1) := by decide +kernel
theorem S_X1_goLot {E : EE} {d : Nat} {I : IH} {Q : QT} {e g r : Nat} (hE : isEv e g r) (h :
(∀ I1 : IH, I1 = stI I e 9 (((I e 9) * (nI 1103515245)) + (nI 12345)) →
 (¬ ((I1 e 7) + (nI 1)) = 0 ∧ (Mt E d mX1_go [.ref (eb E + e), .int ((ushr (I1 e 9) (nI 16)) - (ushr (I1 e 9) (nI 16)) / ((I1 e 7) + (nI 1)) * ((I1 e 7) + (nI 1)))] I1 (fun rv I4 => ∃ v5 : Int32, rv = some (.int v5) ∧
 Q (some (.int v5)) I4))))) : Mt E (d + 1) mX1_goLot [.ref (eb E + e)] I Q := by
  refine Mt_of [(0, .ref (eb E + e))] (by decide +kernel) (by simp [lg_sl, Value.category, mX1_goLot]) rfl ?_
  refine J_aload_n 0 aX1_goLot_0 rfl ?_
  refine J_aload_n 0 aX1_goLot_1 rfl ?_
  refine J_getI aX1_goLot_2 flX1_33 (shEv hE) rfl ?_
  refine J_ldc (nI 1103515245) aX1_goLot_5 (gx4 159 rfl rfl) ?_
  refine J_imul aX1_goLot_7 ?_
  refine J_sipush (nI 12345) aX1_goLot_8 (by decide +kernel) ?_
  refine J_iadd aX1_goLot_11 ?_
  refine J_putI aX1_goLot_12 fpX1_33 (shEv hE) rfl (fun I1 e2 => ?_)
  replace h := h I1 e2
  refine J_aload_n 0 aX1_goLot_15 rfl ?_
  refine J_aload_n 0 aX1_goLot_16 rfl ?_
  refine J_getI aX1_goLot_17 flX1_33 (shEv hE) rfl ?_
  refine J_bipush (nI 16) aX1_goLot_20 (by decide +kernel) ?_
  refine J_iushr aX1_goLot_22 ?_
  refine J_aload_n 0 aX1_goLot_23 rfl ?_
  refine J_getI aX1_goLot_24 flX1_27 (shEv hE) rfl ?_
  refine J_iconst (nI 1) aX1_goLot_27 (by decide +kernel) ?_
  refine J_iadd aX1_goLot_28 ?_
  obtain ⟨n3, h⟩ := h
  refine J_irem aX1_goLot_29 n3 ?_
  refine J_callV [.int ((ushr (I1 e 9) (nI 16)) - (ushr (I1 e 9) (nI 16)) / ((I1 e 7) + (nI 1)) * ((I1 e 7) + (nI 1)))] [] aX1_goLot_30 lkX1_150_X1 okX1_go (shEv hE) rfl rfl rfl (Nat.le_of_ble_eq_true rfl) (Nat.le_refl _) (Mt_mono h (fun rv I4 h => ?_))
  obtain ⟨v5, rfl, h⟩ := h
  refine J_r1 ?_
  exact J_iret aX1_goLot_33 rfl h
theorem aX1_bringNews_0 : decode mX1_bringNews.2.1 0 = .ok (.aload_n 0, 1) ∧ 0 + 1 = 1 := ⟨by decide +kernel, rfl⟩
theorem aX1_bringNews_1 : decode mX1_bringNews.2.1 1 = .ok (.invokevirtual 153, 3) ∧ 1 + 3 = 4 := ⟨by decide +kernel, rfl⟩
theorem aX1_bringNews_4 : decode mX1_bringNews.2.1 4 = .ok (.iconst 4, 1) ∧ 4 + 1 = 5 := ⟨by decide +kernel, rfl⟩
theorem aX1_bringNews_5 : decode mX1_bringNews.2.1 5 = .ok (.idiv, 1) ∧ 5 + 1 = 6 := ⟨by decide +kernel, rfl⟩
theorem aX1_bringNews_6 : decode mX1_bringNews.2.1 6 = .ok (.istore_n 1, 1) ∧ 6 + 1 = 7 := ⟨by decide +kernel, rfl⟩
theorem aX1_bringNews_7 : decode mX1_bringNews.2.1 7 = .ok (.aload_n 0, 1) ∧ 7 + 1 = 8 := ⟨by decide +kernel, rfl⟩
theorem aX1_bringNews_8 : decode mX1_bringNews.2.1 8 = .ok (.invokevirtual 153, 3) ∧ 8 + 3 = 11 := ⟨by decide +kernel, rfl⟩
theorem aX1_bringNews_11 : decode mX1_bringNews.2.1 11 = .ok (.iconst 4, 1) ∧ 11 + 1 = 12 := ⟨by decide +kernel, rfl⟩
theorem aX1_bringNews_12 : decode mX1_bringNews.2.1 12 = .ok (.irem, 1) ∧ 12 + 1 = 13 := ⟨by decide +kernel, rfl⟩
theorem aX1_bringNews_13 : decode mX1_bringNews.2.1 13 = .ok (.tableswitch 100 0 2 #[27, 45, 62], 27) := by decide +kernel
theorem aX1_bringNews_40 : decode mX1_bringNews.2.1 40 = .ok (.aload_n 0, 1) ∧ 40 + 1 = 41 := ⟨by decide +kernel, rfl⟩
theorem aX1_bringNews_41 : decode mX1_bringNews.2.1 41 = .ok (.aload_n 0, 1) ∧ 41 + 1 = 42 := ⟨by decide +kernel, rfl⟩
theorem aX1_bringNews_42 : decode mX1_bringNews.2.1 42 = .ok (.getfield 18, 3) ∧ 42 + 3 = 45 := ⟨by decide +kernel, rfl⟩
theorem aX1_bringNews_45 : decode mX1_bringNews.2.1 45 = .ok (.iload_n 1, 1) ∧ 45 + 1 = 46 := ⟨by decide +kernel, rfl⟩
theorem aX1_bringNews_46 : decode mX1_bringNews.2.1 46 = .ok (.iadd, 1) ∧ 46 + 1 = 47 := ⟨by decide +kernel, rfl⟩
theorem aX1_bringNews_47 : decode mX1_bringNews.2.1 47 = .ok (.bipush 9, 2) ∧ 47 + 2 = 49 := ⟨by decide +kernel, rfl⟩
theorem aX1_bringNews_49 : decode mX1_bringNews.2.1 49 = .ok (.invokestatic 156, 3) ∧ 49 + 3 = 52 := ⟨by decide +kernel, rfl⟩
theorem aX1_bringNews_52 : decode mX1_bringNews.2.1 52 = .ok (.putfield 18, 3) ∧ 52 + 3 = 55 := ⟨by decide +kernel, rfl⟩
theorem aX1_bringNews_55 : decode mX1_bringNews.2.1 55 = .ok (.goto 58, 3) ∧ ((55 : Nat) : Int) + 58 = ((113 : Nat) : Int) := ⟨by decide +kernel, by decide⟩
theorem aX1_bringNews_58 : decode mX1_bringNews.2.1 58 = .ok (.aload_n 0, 1) ∧ 58 + 1 = 59 := ⟨by decide +kernel, rfl⟩
theorem aX1_bringNews_59 : decode mX1_bringNews.2.1 59 = .ok (.aload_n 0, 1) ∧ 59 + 1 = 60 := ⟨by decide +kernel, rfl⟩
theorem aX1_bringNews_60 : decode mX1_bringNews.2.1 60 = .ok (.getfield 18, 3) ∧ 60 + 3 = 63 := ⟨by decide +kernel, rfl⟩
theorem aX1_bringNews_63 : decode mX1_bringNews.2.1 63 = .ok (.iload_n 1, 1) ∧ 63 + 1 = 64 := ⟨by decide +kernel, rfl⟩
theorem aX1_bringNews_64 : decode mX1_bringNews.2.1 64 = .ok (.isub, 1) ∧ 64 + 1 = 65 := ⟨by decide +kernel, rfl⟩
theorem aX1_bringNews_65 : decode mX1_bringNews.2.1 65 = .ok (.iconst 0, 1) ∧ 65 + 1 = 66 := ⟨by decide +kernel, rfl⟩
theorem aX1_bringNews_66 : decode mX1_bringNews.2.1 66 = .ok (.invokestatic 94, 3) ∧ 66 + 3 = 69 := ⟨by decide +kernel, rfl⟩
theorem aX1_bringNews_69 : decode mX1_bringNews.2.1 69 = .ok (.putfield 18, 3) ∧ 69 + 3 = 72 := ⟨by decide +kernel, rfl⟩
theorem aX1_bringNews_72 : decode mX1_bringNews.2.1 72 = .ok (.goto 41, 3) ∧ ((72 : Nat) : Int) + 41 = ((113 : Nat) : Int) := ⟨by decide +kernel, by decide⟩
theorem aX1_bringNews_75 : decode mX1_bringNews.2.1 75 = .ok (.aload_n 0, 1) ∧ 75 + 1 = 76 := ⟨by decide +kernel, rfl⟩
theorem aX1_bringNews_76 : decode mX1_bringNews.2.1 76 = .ok (.aload_n 0, 1) ∧ 76 + 1 = 77 := ⟨by decide +kernel, rfl⟩
theorem aX1_bringNews_77 : decode mX1_bringNews.2.1 77 = .ok (.getfield 18, 3) ∧ 77 + 3 = 80 := ⟨by decide +kernel, rfl⟩
theorem aX1_bringNews_80 : decode mX1_bringNews.2.1 80 = .ok (.iconst 5, 1) ∧ 80 + 1 = 81 := ⟨by decide +kernel, rfl⟩
theorem aX1_bringNews_81 : decode mX1_bringNews.2.1 81 = .ok (.if_icmp .ge 16, 3) ∧ ((81 : Nat) : Int) + 16 = ((97 : Nat) : Int) ∧ 81 + 3 = 84 := ⟨by decide +kernel, by decide, rfl⟩
theorem aX1_bringNews_84 : decode mX1_bringNews.2.1 84 = .ok (.aload_n 0, 1) ∧ 84 + 1 = 85 := ⟨by decide +kernel, rfl⟩
theorem aX1_bringNews_85 : decode mX1_bringNews.2.1 85 = .ok (.getfield 18, 3) ∧ 85 + 3 = 88 := ⟨by decide +kernel, rfl⟩
theorem aX1_bringNews_88 : decode mX1_bringNews.2.1 88 = .ok (.iload_n 1, 1) ∧ 88 + 1 = 89 := ⟨by decide +kernel, rfl⟩
theorem aX1_bringNews_89 : decode mX1_bringNews.2.1 89 = .ok (.iadd, 1) ∧ 89 + 1 = 90 := ⟨by decide +kernel, rfl⟩
theorem aX1_bringNews_90 : decode mX1_bringNews.2.1 90 = .ok (.iconst 5, 1) ∧ 90 + 1 = 91 := ⟨by decide +kernel, rfl⟩
theorem aX1_bringNews_91 : decode mX1_bringNews.2.1 91 = .ok (.invokestatic 156, 3) ∧ 91 + 3 = 94 := ⟨by decide +kernel, rfl⟩
theorem aX1_bringNews_94 : decode mX1_bringNews.2.1 94 = .ok (.goto 13, 3) ∧ ((94 : Nat) : Int) + 13 = ((107 : Nat) : Int) := ⟨by decide +kernel, by decide⟩
theorem aX1_bringNews_97 : decode mX1_bringNews.2.1 97 = .ok (.aload_n 0, 1) ∧ 97 + 1 = 98 := ⟨by decide +kernel, rfl⟩
theorem aX1_bringNews_98 : decode mX1_bringNews.2.1 98 = .ok (.getfield 18, 3) ∧ 98 + 3 = 101 := ⟨by decide +kernel, rfl⟩
theorem aX1_bringNews_101 : decode mX1_bringNews.2.1 101 = .ok (.iload_n 1, 1) ∧ 101 + 1 = 102 := ⟨by decide +kernel, rfl⟩
theorem aX1_bringNews_102 : decode mX1_bringNews.2.1 102 = .ok (.isub, 1) ∧ 102 + 1 = 103 := ⟨by decide +kernel, rfl⟩
theorem aX1_bringNews_103 : decode mX1_bringNews.2.1 103 = .ok (.iconst 5, 1) ∧ 103 + 1 = 104 := ⟨by decide +kernel, rfl⟩
theorem aX1_bringNews_104 : decode mX1_bringNews.2.1 104 = .ok (.invokestatic 94, 3) ∧ 104 + 3 = 107 := ⟨by decide +kernel, rfl⟩
theorem aX1_bringNews_107 : decode mX1_bringNews.2.1 107 = .ok (.putfield 18, 3) ∧ 107 + 3 = 110 := ⟨by decide +kernel, rfl⟩
theorem aX1_bringNews_110 : decode mX1_bringNews.2.1 110 = .ok (.goto 3, 3) ∧ ((110 : Nat) : Int) + 3 = ((113 : Nat) : Int) := ⟨by decide +kernel, by decide⟩
theorem aX1_bringNews_113 : decode mX1_bringNews.2.1 113 = .ok (.return_, 1) := by decide +kernel
theorem S_X1_bringNews {E : EE} {d : Nat} {I : IH} {Q : QT} {e g r : Nat} (hE : isEv e g r) (h :
(Mt E d mX1_newsNow [.ref (eb E + e)] I (fun rv I1 => ∃ v2 : Int32, rv = some (.int v2) ∧
 (Mt E d mX1_newsNow [.ref (eb E + e)] I1 (fun rv I3 => ∃ v4 : Int32, rv = some (.int v4) ∧
 (((v4 - v4 / (nI 4) * (nI 4)) = (nI 0) → (∀ I5 : IH, I5 = stI I3 e 4 (if (nI 9) < ((I3 e 4) + (v2 / (nI 4))) then (nI 9) else ((I3 e 4) + (v2 / (nI 4)))) →
 Q none I5)) ∧
 (((v4 - v4 / (nI 4) * (nI 4)) = (nI 1) → (∀ I7 : IH, I7 = stI I3 e 4 (if ((I3 e 4) - (v2 / (nI 4))) < (nI 0) then (nI 0) else ((I3 e 4) - (v2 / (nI 4)))) →
 Q none I7)) ∧
 (((v4 - v4 / (nI 4) * (nI 4)) = (nI 2) → (((nI 5) ≤ (I3 e 4) → (∀ I9 : IH, I9 = stI I3 e 4 (if ((I3 e 4) - (v2 / (nI 4))) < (nI 5) then (nI 5) else ((I3 e 4) - (v2 / (nI 4)))) →
 Q none I9)) ∧
 (¬ (nI 5) ≤ (I3 e 4) → (∀ I11 : IH, I11 = stI I3 e 4 (if (nI 5) < ((I3 e 4) + (v2 / (nI 4))) then (nI 5) else ((I3 e 4) + (v2 / (nI 4)))) →
 Q none I11)))) ∧
 (¬ (v4 - v4 / (nI 4) * (nI 4)) = (nI 0) ∧ ¬ (v4 - v4 / (nI 4) * (nI 4)) = (nI 1) ∧ ¬ (v4 - v4 / (nI 4) * (nI 4)) = (nI 2) → Q none I3))))))))) : Mt E (d + 1) mX1_bringNews [.ref (eb E + e)] I Q := by
  refine Mt_of [(0, .ref (eb E + e))] (by decide +kernel) (by simp [lg_sl, Value.category, mX1_bringNews]) rfl ?_
  refine J_aload_n 0 aX1_bringNews_0 rfl ?_
  refine J_callV [] [] aX1_bringNews_1 lkX1_153_X1 okX1_newsNow (shEv hE) rfl rfl rfl (Nat.le_of_ble_eq_true rfl) (Nat.le_refl _) (Mt_mono h (fun rv I1 h => ?_))
  obtain ⟨v2, rfl, h⟩ := h
  refine J_r1 ?_
  refine J_iconst (nI 4) aX1_bringNews_4 (by decide +kernel) ?_
  refine J_idiv aX1_bringNews_5 (by decide +kernel) ?_
  refine J_istore_n [(1, .int (v2 / (nI 4))), (0, .ref (eb E + e))] aX1_bringNews_6 (by decide) rfl ?_
  refine J_aload_n 1 aX1_bringNews_7 rfl ?_
  refine J_callV [] [] aX1_bringNews_8 lkX1_153_X1 okX1_newsNow (shEv hE) rfl rfl rfl (Nat.le_of_ble_eq_true rfl) (Nat.le_refl _) (Mt_mono h (fun rv I3 h => ?_))
  obtain ⟨v4, rfl, h⟩ := h
  refine J_r1 ?_
  refine J_iconst (nI 4) aX1_bringNews_11 (by decide +kernel) ?_
  refine J_irem aX1_bringNews_12 (by decide +kernel) ?_
  by_cases q0 : (v4 - v4 / (nI 4) * (nI 4)) = (nI 0)
  · replace h := h.1 q0
    refine J_tswIn (nI 0) aX1_bringNews_13 (off := 27) (tgt := 40) (by decide +kernel) q0 ?_
    refine J_aload_n 1 aX1_bringNews_40 rfl ?_
    refine J_aload_n 1 aX1_bringNews_41 rfl ?_
    refine J_getI aX1_bringNews_42 flX1_18 (shEv hE) rfl ?_
    refine J_iload_n 0 aX1_bringNews_45 rfl ?_
    refine J_iadd aX1_bringNews_46 ?_
    refine J_bipush (nI 9) aX1_bringNews_47 (by decide +kernel) ?_
    refine J_min aX1_bringNews_49 lkX1_156 mth_smin mth_ini mth_cmin (by omega) (Nat.le_of_ble_eq_true rfl) ?_
    refine J_putI aX1_bringNews_52 fpX1_18 (shEv hE) rfl (fun I5 e6 => ?_)
    replace h := h I5 e6
    refine J_goto aX1_bringNews_55 ?_
    exact J_vret aX1_bringNews_113 rfl h
  replace h := h.2
  by_cases q1 : (v4 - v4 / (nI 4) * (nI 4)) = (nI 1)
  · replace h := h.1 q1
    refine J_tswIn (nI 1) aX1_bringNews_13 (off := 45) (tgt := 58) (by decide +kernel) q1 ?_
    refine J_aload_n 1 aX1_bringNews_58 rfl ?_
    refine J_aload_n 1 aX1_bringNews_59 rfl ?_
    refine J_getI aX1_bringNews_60 flX1_18 (shEv hE) rfl ?_
    refine J_iload_n 0 aX1_bringNews_63 rfl ?_
    refine J_isub aX1_bringNews_64 ?_
    refine J_iconst (nI 0) aX1_bringNews_65 (by decide +kernel) ?_
    refine J_max aX1_bringNews_66 lkX1_94 mth_smax mth_ini mth_cmax (by omega) (Nat.le_of_ble_eq_true rfl) ?_
    refine J_putI aX1_bringNews_69 fpX1_18 (shEv hE) rfl (fun I7 e8 => ?_)
    replace h := h I7 e8
    refine J_goto aX1_bringNews_72 ?_
    exact J_vret aX1_bringNews_113 rfl h
  replace h := h.2
  by_cases q2 : (v4 - v4 / (nI 4) * (nI 4)) = (nI 2)
  · replace h := h.1 q2
    refine J_tswIn (nI 2) aX1_bringNews_13 (off := 62) (tgt := 75) (by decide +kernel) q2 ?_
    refine J_aload_n 1 aX1_bringNews_75 rfl ?_
    refine J_aload_n 1 aX1_bringNews_76 rfl ?_
    refine J_getI aX1_bringNews_77 flX1_18 (shEv hE) rfl ?_
    refine J_iconst (nI 5) aX1_bringNews_80 (by decide +kernel) ?_
    refine J_icmp_ge aX1_bringNews_81 (fun q => ?_) (fun q => ?_)
    · replace h := h.1 q
      refine J_aload_n 1 aX1_bringNews_97 rfl ?_
      refine J_getI aX1_bringNews_98 flX1_18 (shEv hE) rfl ?_
      refine J_iload_n 0 aX1_bringNews_101 rfl ?_
      refine J_isub aX1_bringNews_102 ?_
      refine J_iconst (nI 5) aX1_bringNews_103 (by decide +kernel) ?_
      refine J_max aX1_bringNews_104 lkX1_94 mth_smax mth_ini mth_cmax (by omega) (Nat.le_of_ble_eq_true rfl) ?_
      refine J_putI aX1_bringNews_107 fpX1_18 (shEv hE) rfl (fun I9 e10 => ?_)
      replace h := h I9 e10
      refine J_goto aX1_bringNews_110 ?_
      exact J_vret aX1_bringNews_113 rfl h
    · replace h := h.2 q
      refine J_aload_n 1 aX1_bringNews_84 rfl ?_
      refine J_getI aX1_bringNews_85 flX1_18 (shEv hE) rfl ?_
      refine J_iload_n 0 aX1_bringNews_88 rfl ?_
      refine J_iadd aX1_bringNews_89 ?_
      refine J_iconst (nI 5) aX1_bringNews_90 (by decide +kernel) ?_
      refine J_min aX1_bringNews_91 lkX1_156 mth_smin mth_ini mth_cmin (by omega) (Nat.le_of_ble_eq_true rfl) ?_
      refine J_goto aX1_bringNews_94 ?_
      refine J_putI aX1_bringNews_107 fpX1_18 (shEv hE) rfl (fun I11 e12 => ?_)
      replace h := h I11 e12
      refine J_goto aX1_bringNews_110 ?_
      exact J_vret aX1_bringNews_113 rfl h
  replace h := h.2
  replace h := h ⟨q0, q1, q2⟩
  refine J_tswOut aX1_bringNews_13 (tgt := 113) (by decide) (tsw_out (fun k h1 h2 hk => by
    have hh : k = 0 ∨ k = 1 ∨ k = 2 := by omega
    rcases hh with rfl | rfl | rfl
    · exact q0 (Int32.toInt_inj.mp (hk.trans (by decide +kernel)))
    · exact q1 (Int32.toInt_inj.mp (hk.trans (by decide +kernel)))
    · exact q2 (Int32.toInt_inj.mp (hk.trans (by decide +kernel)))
    )) ?_
  exact J_vret aX1_bringNews_113 rfl h
theorem aX1_doBy_0 : decode mX1_doBy.2.1 0 = .ok (.iload_n 1, 1) ∧ 0 + 1 = 1 := ⟨by decide +kernel, rfl⟩
theorem aX1_doBy_1 : decode mX1_doBy.2.1 1 = .ok (.ifCond .lt 11, 3) ∧ ((1 : Nat) : Int) + 11 = ((12 : Nat) : Int) ∧ 1 + 3 = 4 := ⟨by decide +kernel, by decide, rfl⟩
theorem aX1_doBy_4 : decode mX1_doBy.2.1 4 = .ok (.iload_n 1, 1) ∧ 4 + 1 = 5 := ⟨by decide +kernel, rfl⟩
theorem aX1_doBy_5 : decode mX1_doBy.2.1 5 = .ok (.aload_n 0, 1) ∧ 5 + 1 = 6 := ⟨by decide +kernel, rfl⟩
theorem aX1_doBy_6 : decode mX1_doBy.2.1 6 = .ok (.getfield 27, 3) ∧ 6 + 3 = 9 := ⟨by decide +kernel, rfl⟩
theorem aX1_doBy_9 : decode mX1_doBy.2.1 9 = .ok (.if_icmp .lt 5, 3) ∧ ((9 : Nat) : Int) + 5 = ((14 : Nat) : Int) ∧ 9 + 3 = 12 := ⟨by decide +kernel, by decide, rfl⟩
theorem aX1_doBy_12 : decode mX1_doBy.2.1 12 = .ok (.iconst 0, 1) ∧ 12 + 1 = 13 := ⟨by decide +kernel, rfl⟩
theorem aX1_doBy_13 : decode mX1_doBy.2.1 13 = .ok (.ireturn, 1) := by decide +kernel
theorem aX1_doBy_14 : decode mX1_doBy.2.1 14 = .ok (.aload_n 0, 1) ∧ 14 + 1 = 15 := ⟨by decide +kernel, rfl⟩
theorem aX1_doBy_15 : decode mX1_doBy.2.1 15 = .ok (.iload_n 1, 1) ∧ 15 + 1 = 16 := ⟨by decide +kernel, rfl⟩
theorem aX1_doBy_16 : decode mX1_doBy.2.1 16 = .ok (.invokevirtual 100, 3) ∧ 16 + 3 = 19 := ⟨by decide +kernel, rfl⟩
theorem aX1_doBy_19 : decode mX1_doBy.2.1 19 = .ok (.istore_n 2, 1) ∧ 19 + 1 = 20 := ⟨by decide +kernel, rfl⟩
theorem aX1_doBy_20 : decode mX1_doBy.2.1 20 = .ok (.aload_n 0, 1) ∧ 20 + 1 = 21 := ⟨by decide +kernel, rfl⟩
theorem aX1_doBy_21 : decode mX1_doBy.2.1 21 = .ok (.iload_n 1, 1) ∧ 21 + 1 = 22 := ⟨by decide +kernel, rfl⟩
theorem aX1_doBy_22 : decode mX1_doBy.2.1 22 = .ok (.invokevirtual 103, 3) ∧ 22 + 3 = 25 := ⟨by decide +kernel, rfl⟩
theorem aX1_doBy_25 : decode mX1_doBy.2.1 25 = .ok (.iload_n 2, 1) ∧ 25 + 1 = 26 := ⟨by decide +kernel, rfl⟩
theorem aX1_doBy_26 : decode mX1_doBy.2.1 26 = .ok (.iload_n 1, 1) ∧ 26 + 1 = 27 := ⟨by decide +kernel, rfl⟩
theorem aX1_doBy_27 : decode mX1_doBy.2.1 27 = .ok (.invokevirtual 107, 3) ∧ 27 + 3 = 30 := ⟨by decide +kernel, rfl⟩
theorem aX1_doBy_30 : decode mX1_doBy.2.1 30 = .ok (.istore_n 3, 1) ∧ 30 + 1 = 31 := ⟨by decide +kernel, rfl⟩
theorem aX1_doBy_31 : decode mX1_doBy.2.1 31 = .ok (.aload_n 0, 1) ∧ 31 + 1 = 32 := ⟨by decide +kernel, rfl⟩
theorem aX1_doBy_32 : decode mX1_doBy.2.1 32 = .ok (.iload_n 1, 1) ∧ 32 + 1 = 33 := ⟨by decide +kernel, rfl⟩
theorem aX1_doBy_33 : decode mX1_doBy.2.1 33 = .ok (.iload_n 2, 1) ∧ 33 + 1 = 34 := ⟨by decide +kernel, rfl⟩
theorem aX1_doBy_34 : decode mX1_doBy.2.1 34 = .ok (.invokevirtual 159, 3) ∧ 34 + 3 = 37 := ⟨by decide +kernel, rfl⟩
theorem aX1_doBy_37 : decode mX1_doBy.2.1 37 = .ok (.istore 4, 2) ∧ 37 + 2 = 39 := ⟨by decide +kernel, rfl⟩
theorem aX1_doBy_39 : decode mX1_doBy.2.1 39 = .ok (.iload 4, 2) ∧ 39 + 2 = 41 := ⟨by decide +kernel, rfl⟩
theorem aX1_doBy_41 : decode mX1_doBy.2.1 41 = .ok (.iconst 2, 1) ∧ 41 + 1 = 42 := ⟨by decide +kernel, rfl⟩
theorem aX1_doBy_42 : decode mX1_doBy.2.1 42 = .ok (.if_icmp .ne 32, 3) ∧ ((42 : Nat) : Int) + 32 = ((74 : Nat) : Int) ∧ 42 + 3 = 45 := ⟨by decide +kernel, by decide, rfl⟩
theorem aX1_doBy_45 : decode mX1_doBy.2.1 45 = .ok (.aload_n 0, 1) ∧ 45 + 1 = 46 := ⟨by decide +kernel, rfl⟩
theorem aX1_doBy_46 : decode mX1_doBy.2.1 46 = .ok (.getfield 43, 3) ∧ 46 + 3 = 49 := ⟨by decide +kernel, rfl⟩
theorem aX1_doBy_49 : decode mX1_doBy.2.1 49 = .ok (.aload_n 0, 1) ∧ 49 + 1 = 50 := ⟨by decide +kernel, rfl⟩
theorem aX1_doBy_50 : decode mX1_doBy.2.1 50 = .ok (.getfield 55, 3) ∧ 50 + 3 = 53 := ⟨by decide +kernel, rfl⟩
theorem aX1_doBy_53 : decode mX1_doBy.2.1 53 = .ok (.iload_n 1, 1) ∧ 53 + 1 = 54 := ⟨by decide +kernel, rfl⟩
theorem aX1_doBy_54 : decode mX1_doBy.2.1 54 = .ok (.iaload, 1) ∧ 54 + 1 = 55 := ⟨by decide +kernel, rfl⟩
theorem aX1_doBy_55 : decode mX1_doBy.2.1 55 = .ok (.aload_n 0, 1) ∧ 55 + 1 = 56 := ⟨by decide +kernel, rfl⟩
theorem aX1_doBy_56 : decode mX1_doBy.2.1 56 = .ok (.getfield 43, 3) ∧ 56 + 3 = 59 := ⟨by decide +kernel, rfl⟩
theorem aX1_doBy_59 : decode mX1_doBy.2.1 59 = .ok (.aload_n 0, 1) ∧ 59 + 1 = 60 := ⟨by decide +kernel, rfl⟩
theorem aX1_doBy_60 : decode mX1_doBy.2.1 60 = .ok (.getfield 55, 3) ∧ 60 + 3 = 63 := ⟨by decide +kernel, rfl⟩
theorem aX1_doBy_63 : decode mX1_doBy.2.1 63 = .ok (.iload_n 1, 1) ∧ 63 + 1 = 64 := ⟨by decide +kernel, rfl⟩
theorem aX1_doBy_64 : decode mX1_doBy.2.1 64 = .ok (.iaload, 1) ∧ 64 + 1 = 65 := ⟨by decide +kernel, rfl⟩
theorem aX1_doBy_65 : decode mX1_doBy.2.1 65 = .ok (.iaload, 1) ∧ 65 + 1 = 66 := ⟨by decide +kernel, rfl⟩
theorem aX1_doBy_66 : decode mX1_doBy.2.1 66 = .ok (.iconst 1, 1) ∧ 66 + 1 = 67 := ⟨by decide +kernel, rfl⟩
theorem aX1_doBy_67 : decode mX1_doBy.2.1 67 = .ok (.iadd, 1) ∧ 67 + 1 = 68 := ⟨by decide +kernel, rfl⟩
theorem aX1_doBy_68 : decode mX1_doBy.2.1 68 = .ok (.bipush 9, 2) ∧ 68 + 2 = 70 := ⟨by decide +kernel, rfl⟩
theorem aX1_doBy_70 : decode mX1_doBy.2.1 70 = .ok (.invokestatic 156, 3) ∧ 70 + 3 = 73 := ⟨by decide +kernel, rfl⟩
theorem aX1_doBy_73 : decode mX1_doBy.2.1 73 = .ok (.iastore, 1) ∧ 73 + 1 = 74 := ⟨by decide +kernel, rfl⟩
theorem aX1_doBy_74 : decode mX1_doBy.2.1 74 = .ok (.iload 4, 2) ∧ 74 + 2 = 76 := ⟨by decide +kernel, rfl⟩
theorem aX1_doBy_76 : decode mX1_doBy.2.1 76 = .ok (.ifCond .ne 12, 3) ∧ ((76 : Nat) : Int) + 12 = ((88 : Nat) : Int) ∧ 76 + 3 = 79 := ⟨by decide +kernel, by decide, rfl⟩
theorem aX1_doBy_79 : decode mX1_doBy.2.1 79 = .ok (.aload_n 0, 1) ∧ 79 + 1 = 80 := ⟨by decide +kernel, rfl⟩
theorem aX1_doBy_80 : decode mX1_doBy.2.1 80 = .ok (.iload_n 1, 1) ∧ 80 + 1 = 81 := ⟨by decide +kernel, rfl⟩
theorem aX1_doBy_81 : decode mX1_doBy.2.1 81 = .ok (.iload_n 3, 1) ∧ 81 + 1 = 82 := ⟨by decide +kernel, rfl⟩
theorem aX1_doBy_82 : decode mX1_doBy.2.1 82 = .ok (.invokevirtual 112, 3) ∧ 82 + 3 = 85 := ⟨by decide +kernel, rfl⟩
theorem aX1_doBy_85 : decode mX1_doBy.2.1 85 = .ok (.ifCond .ne 5, 3) ∧ ((85 : Nat) : Int) + 5 = ((90 : Nat) : Int) ∧ 85 + 3 = 88 := ⟨by decide +kernel, by decide, rfl⟩
theorem aX1_doBy_88 : decode mX1_doBy.2.1 88 = .ok (.iconst 0, 1) ∧ 88 + 1 = 89 := ⟨by decide +kernel, rfl⟩
theorem aX1_doBy_89 : decode mX1_doBy.2.1 89 = .ok (.ireturn, 1) := by decide +kernel
theorem aX1_doBy_90 : decode mX1_doBy.2.1 90 = .ok (.aload_n 0, 1) ∧ 90 + 1 = 91 := ⟨by decide +kernel, rfl⟩
theorem aX1_doBy_91 : decode mX1_doBy.2.1 91 = .ok (.dup, 1) ∧ 91 + 1 = 92 := ⟨by decide +kernel, rfl⟩
theorem aX1_doBy_92 : decode mX1_doBy.2.1 92 = .ok (.getfield 21, 3) ∧ 92 + 3 = 95 := ⟨by decide +kernel, rfl⟩
theorem aX1_doBy_95 : decode mX1_doBy.2.1 95 = .ok (.iload_n 3, 1) ∧ 95 + 1 = 96 := ⟨by decide +kernel, rfl⟩
theorem aX1_doBy_96 : decode mX1_doBy.2.1 96 = .ok (.isub, 1) ∧ 96 + 1 = 97 := ⟨by decide +kernel, rfl⟩
theorem aX1_doBy_97 : decode mX1_doBy.2.1 97 = .ok (.putfield 21, 3) ∧ 97 + 3 = 100 := ⟨by decide +kernel, rfl⟩
theorem aX1_doBy_100 : decode mX1_doBy.2.1 100 = .ok (.aload_n 0, 1) ∧ 100 + 1 = 101 := ⟨by decide +kernel, rfl⟩
theorem aX1_doBy_101 : decode mX1_doBy.2.1 101 = .ok (.getfield 58, 3) ∧ 101 + 3 = 104 := ⟨by decide +kernel, rfl⟩
theorem aX1_doBy_104 : decode mX1_doBy.2.1 104 = .ok (.iload_n 1, 1) ∧ 104 + 1 = 105 := ⟨by decide +kernel, rfl⟩
theorem aX1_doBy_105 : decode mX1_doBy.2.1 105 = .ok (.dup2, 1) ∧ 105 + 1 = 106 := ⟨by decide +kernel, rfl⟩
theorem aX1_doBy_106 : decode mX1_doBy.2.1 106 = .ok (.iaload, 1) ∧ 106 + 1 = 107 := ⟨by decide +kernel, rfl⟩
theorem aX1_doBy_107 : decode mX1_doBy.2.1 107 = .ok (.iconst 1, 1) ∧ 107 + 1 = 108 := ⟨by decide +kernel, rfl⟩
theorem aX1_doBy_108 : decode mX1_doBy.2.1 108 = .ok (.iadd, 1) ∧ 108 + 1 = 109 := ⟨by decide +kernel, rfl⟩
theorem aX1_doBy_109 : decode mX1_doBy.2.1 109 = .ok (.iastore, 1) ∧ 109 + 1 = 110 := ⟨by decide +kernel, rfl⟩
theorem aX1_doBy_110 : decode mX1_doBy.2.1 110 = .ok (.aload_n 0, 1) ∧ 110 + 1 = 111 := ⟨by decide +kernel, rfl⟩
theorem aX1_doBy_111 : decode mX1_doBy.2.1 111 = .ok (.getfield 52, 3) ∧ 111 + 3 = 114 := ⟨by decide +kernel, rfl⟩
theorem aX1_doBy_114 : decode mX1_doBy.2.1 114 = .ok (.iload_n 1, 1) ∧ 114 + 1 = 115 := ⟨by decide +kernel, rfl⟩
theorem aX1_doBy_115 : decode mX1_doBy.2.1 115 = .ok (.dup2, 1) ∧ 115 + 1 = 116 := ⟨by decide +kernel, rfl⟩
theorem aX1_doBy_116 : decode mX1_doBy.2.1 116 = .ok (.iaload, 1) ∧ 116 + 1 = 117 := ⟨by decide +kernel, rfl⟩
theorem aX1_doBy_117 : decode mX1_doBy.2.1 117 = .ok (.aload_n 0, 1) ∧ 117 + 1 = 118 := ⟨by decide +kernel, rfl⟩
theorem aX1_doBy_118 : decode mX1_doBy.2.1 118 = .ok (.getfield 52, 3) ∧ 118 + 3 = 121 := ⟨by decide +kernel, rfl⟩
theorem aX1_doBy_121 : decode mX1_doBy.2.1 121 = .ok (.iload_n 1, 1) ∧ 121 + 1 = 122 := ⟨by decide +kernel, rfl⟩
theorem aX1_doBy_122 : decode mX1_doBy.2.1 122 = .ok (.iaload, 1) ∧ 122 + 1 = 123 := ⟨by decide +kernel, rfl⟩
theorem aX1_doBy_123 : decode mX1_doBy.2.1 123 = .ok (.iconst 1, 1) ∧ 123 + 1 = 124 := ⟨by decide +kernel, rfl⟩
theorem aX1_doBy_124 : decode mX1_doBy.2.1 124 = .ok (.isub, 1) ∧ 124 + 1 = 125 := ⟨by decide +kernel, rfl⟩
theorem aX1_doBy_125 : decode mX1_doBy.2.1 125 = .ok (.iand, 1) ∧ 125 + 1 = 126 := ⟨by decide +kernel, rfl⟩
theorem aX1_doBy_126 : decode mX1_doBy.2.1 126 = .ok (.iastore, 1) ∧ 126 + 1 = 127 := ⟨by decide +kernel, rfl⟩
theorem aX1_doBy_127 : decode mX1_doBy.2.1 127 = .ok (.iload_n 2, 1) ∧ 127 + 1 = 128 := ⟨by decide +kernel, rfl⟩
theorem aX1_doBy_128 : decode mX1_doBy.2.1 128 = .ok (.iconst 3, 1) ∧ 128 + 1 = 129 := ⟨by decide +kernel, rfl⟩
theorem aX1_doBy_129 : decode mX1_doBy.2.1 129 = .ok (.if_icmp .lt 15, 3) ∧ ((129 : Nat) : Int) + 15 = ((144 : Nat) : Int) ∧ 129 + 3 = 132 := ⟨by decide +kernel, by decide, rfl⟩
theorem aX1_doBy_132 : decode mX1_doBy.2.1 132 = .ok (.aload_n 0, 1) ∧ 132 + 1 = 133 := ⟨by decide +kernel, rfl⟩
theorem aX1_doBy_133 : decode mX1_doBy.2.1 133 = .ok (.getfield 30, 3) ∧ 133 + 3 = 136 := ⟨by decide +kernel, rfl⟩
theorem aX1_doBy_136 : decode mX1_doBy.2.1 136 = .ok (.iload_n 1, 1) ∧ 136 + 1 = 137 := ⟨by decide +kernel, rfl⟩
theorem aX1_doBy_137 : decode mX1_doBy.2.1 137 = .ok (.ishr, 1) ∧ 137 + 1 = 138 := ⟨by decide +kernel, rfl⟩
theorem aX1_doBy_138 : decode mX1_doBy.2.1 138 = .ok (.iconst 1, 1) ∧ 138 + 1 = 139 := ⟨by decide +kernel, rfl⟩
theorem aX1_doBy_139 : decode mX1_doBy.2.1 139 = .ok (.iand, 1) ∧ 139 + 1 = 140 := ⟨by decide +kernel, rfl⟩
theorem aX1_doBy_140 : decode mX1_doBy.2.1 140 = .ok (.iconst 1, 1) ∧ 140 + 1 = 141 := ⟨by decide +kernel, rfl⟩
theorem aX1_doBy_141 : decode mX1_doBy.2.1 141 = .ok (.if_icmp .ne 5, 3) ∧ ((141 : Nat) : Int) + 5 = ((146 : Nat) : Int) ∧ 141 + 3 = 144 := ⟨by decide +kernel, by decide, rfl⟩
theorem aX1_doBy_144 : decode mX1_doBy.2.1 144 = .ok (.iload_n 2, 1) ∧ 144 + 1 = 145 := ⟨by decide +kernel, rfl⟩
theorem aX1_doBy_145 : decode mX1_doBy.2.1 145 = .ok (.ireturn, 1) := by decide +kernel
theorem aX1_doBy_146 : decode mX1_doBy.2.1 146 = .ok (.aload_n 0, 1) ∧ 146 + 1 = 147 := ⟨by decide +kernel, rfl⟩
theorem aX1_doBy_147 : decode mX1_doBy.2.1 147 = .ok (.dup, 1) ∧ 147 + 1 = 148 := ⟨by decide +kernel, rfl⟩
theorem aX1_doBy_148 : decode mX1_doBy.2.1 148 = .ok (.getfield 30, 3) ∧ 148 + 3 = 151 := ⟨by decide +kernel, rfl⟩
theorem aX1_doBy_151 : decode mX1_doBy.2.1 151 = .ok (.iconst 1, 1) ∧ 151 + 1 = 152 := ⟨by decide +kernel, rfl⟩
theorem aX1_doBy_152 : decode mX1_doBy.2.1 152 = .ok (.iload_n 1, 1) ∧ 152 + 1 = 153 := ⟨by decide +kernel, rfl⟩
theorem aX1_doBy_153 : decode mX1_doBy.2.1 153 = .ok (.ishl, 1) ∧ 153 + 1 = 154 := ⟨by decide +kernel, rfl⟩
theorem aX1_doBy_154 : decode mX1_doBy.2.1 154 = .ok (.ior, 1) ∧ 154 + 1 = 155 := ⟨by decide +kernel, rfl⟩
theorem aX1_doBy_155 : decode mX1_doBy.2.1 155 = .ok (.putfield 30, 3) ∧ 155 + 3 = 158 := ⟨by decide +kernel, rfl⟩
theorem aX1_doBy_158 : decode mX1_doBy.2.1 158 = .ok (.iload_n 2, 1) ∧ 158 + 1 = 159 := ⟨by decide +kernel, rfl⟩
theorem aX1_doBy_159 : decode mX1_doBy.2.1 159 = .ok (.iconst 5, 1) ∧ 159 + 1 = 160 := ⟨by decide +kernel, rfl⟩
theorem aX1_doBy_160 : decode mX1_doBy.2.1 160 = .ok (.iadd, 1) ∧ 160 + 1 = 161 := ⟨by decide +kernel, rfl⟩
theorem aX1_doBy_161 : decode mX1_doBy.2.1 161 = .ok (.ireturn, 1) := by decide +kernel
theorem S_X1_doBy {E : EE} {d : Nat} {I : IH} {Q : QT} {e g r : Nat} (hE : isEv e g r) (x1 : Int32) (h :
((x1 < 0 → Q (some (.int (nI 0))) I) ∧
 (¬ x1 < 0 → ((x1 < (I e 7) → (Mt E d mX1_lights [.ref (eb E + e), .int x1] I (fun rv I1 => ∃ v2 : Int32, rv = some (.int v2) ∧
 (Mt E d mX1_thing [.ref (eb E + e), .int x1] I1 (fun rv I3 => ∃ j4 : Nat, j4 < 6 ∧ rv = some (.ref (eb E + (21 + j4))) ∧
 (Mt E d (sel_price j4) [.ref (eb E + (21 + j4)), .int v2, .int x1] I3 (fun rv I6 => ∃ v7 : Int32, rv = some (.int v7) ∧
 (Mt E d mX1_will [.ref (eb E + e), .int x1, .int v2] I6 (fun rv I8 => ∃ v9 : Int32, rv = some (.int v9) ∧
 ((¬ v9 = (nI 2) → J E (d + 1) mX1_doBy 74 [(0, .ref (eb E + e)), (1, .int x1), (2, .int v2), (3, .int v7), (4, .int v9)] [] I8 Q) ∧
 (v9 = (nI 2) → (∃ j10 : Nat, x1 = nI j10 ∧ j10 < 6 ∧ (∃ j13 : Nat, x1 = nI j13 ∧ j13 < 6 ∧ (∃ j16 : Nat, (I8 (g + 5) j13) = nI j16 ∧ j16 < 6 ∧ (∃ j21 : Nat, (I8 (g + 5) j10) = nI j21 ∧ j21 < 6 ∧ (∀ I19 : IH, I19 = stI I8 (g + 1) j21 (if (nI 9) < ((I8 (g + 1) j16) + (nI 1)) then (nI 9) else ((I8 (g + 1) j16) + (nI 1))) →
 J E (d + 1) mX1_doBy 74 [(0, .ref (eb E + e)), (1, .int x1), (2, .int v2), (3, .int v7), (4, .int v9)] [] I19 Q)))))))))))))))) ∧
 (¬ x1 < (I e 7) → Q (some (.int (nI 0))) I))))) : Mt E (d + 1) mX1_doBy [.ref (eb E + e), .int x1] I Q := by
  refine Mt_of [(0, .ref (eb E + e)), (1, .int x1)] (by decide +kernel) (by simp [lg_sl, Value.category, mX1_doBy]) rfl ?_
  refine J_iload_n 1 aX1_doBy_0 rfl ?_
  refine J_if_lt aX1_doBy_1 (fun q => ?_) (fun q => ?_)
  · replace h := h.1 q
    refine J_iconst (nI 0) aX1_doBy_12 (by decide +kernel) ?_
    exact J_iret aX1_doBy_13 rfl h
  · replace h := h.2 q
    refine J_iload_n 1 aX1_doBy_4 rfl ?_
    refine J_aload_n 0 aX1_doBy_5 rfl ?_
    refine J_getI aX1_doBy_6 flX1_27 (shEv hE) rfl ?_
    refine J_icmp_lt aX1_doBy_9 (fun q => ?_) (fun q => ?_)
    · replace h := h.1 q
      refine J_aload_n 0 aX1_doBy_14 rfl ?_
      refine J_iload_n 1 aX1_doBy_15 rfl ?_
      refine J_callV [.int x1] [] aX1_doBy_16 lkX1_100_X1 okX1_lights (shEv hE) rfl rfl rfl (Nat.le_of_ble_eq_true rfl) (Nat.le_refl _) (Mt_mono h (fun rv I1 h => ?_))
      obtain ⟨v2, rfl, h⟩ := h
      refine J_r1 ?_
      refine J_istore_n [(2, .int v2), (0, .ref (eb E + e)), (1, .int x1)] aX1_doBy_19 (by decide) rfl ?_
      refine J_aload_n 1 aX1_doBy_20 rfl ?_
      refine J_iload_n 2 aX1_doBy_21 rfl ?_
      refine J_callV [.int x1] [] aX1_doBy_22 lkX1_103_X1 okX1_thing (shEv hE) rfl rfl rfl (Nat.le_of_ble_eq_true rfl) (Nat.le_refl _) (Mt_mono h (fun rv I3 h => ?_))
      obtain ⟨j4, b5, rfl, h⟩ := h
      refine J_r1 ?_
      refine J_iload_n 0 aX1_doBy_25 rfl ?_
      refine J_iload_n 2 aX1_doBy_26 rfl ?_
      refine dspX1_107 [.int v2, .int x1] [] b5 aX1_doBy_27 rfl rfl rfl (Nat.le_of_ble_eq_true rfl) (Nat.le_refl _) (Mt_mono h (fun rv I6 h => ?_))
      obtain ⟨v7, rfl, h⟩ := h
      refine J_r1 ?_
      refine J_istore_n [(3, .int v7), (2, .int v2), (0, .ref (eb E + e)), (1, .int x1)] aX1_doBy_30 (by decide) rfl ?_
      refine J_aload_n 2 aX1_doBy_31 rfl ?_
      refine J_iload_n 3 aX1_doBy_32 rfl ?_
      refine J_iload_n 1 aX1_doBy_33 rfl ?_
      refine J_callV [.int x1, .int v2] [] aX1_doBy_34 lkX1_159_X1 okX1_will (shEv hE) rfl rfl rfl (Nat.le_of_ble_eq_true rfl) (Nat.le_refl _) (Mt_mono h (fun rv I8 h => ?_))
      obtain ⟨v9, rfl, h⟩ := h
      refine J_r1 ?_
      refine J_istore [(4, .int v9), (3, .int v7), (2, .int v2), (0, .ref (eb E + e)), (1, .int x1)] aX1_doBy_37 (by decide) rfl ?_
      refine J_iload 0 aX1_doBy_39 rfl ?_
      refine J_iconst (nI 2) aX1_doBy_41 (by decide +kernel) ?_
      refine J_icmp_ne aX1_doBy_42 (fun q => ?_) (fun q => ?_)
      · replace h := h.1 q
        refine J_pick [3, 4, 2, 1, 0] rfl ?_
        exact h
      · replace h := h.2 q
        refine J_aload_n 3 aX1_doBy_45 rfl ?_
        refine J_getR aX1_doBy_46 flX1_43 (shEv hE) rfl ?_
        refine J_aload_n 3 aX1_doBy_49 rfl ?_
        refine J_getR aX1_doBy_50 flX1_55 (shEv hE) rfl ?_
        refine J_iload_n 4 aX1_doBy_53 rfl ?_
        obtain ⟨j10, e11, b12, h⟩ := h
        refine J_iaload j10 aX1_doBy_54 (shEv5 hE) e11 b12 (by decide) ?_
        refine J_aload_n 3 aX1_doBy_55 rfl ?_
        refine J_getR aX1_doBy_56 flX1_43 (shEv hE) rfl ?_
        refine J_aload_n 3 aX1_doBy_59 rfl ?_
        refine J_getR aX1_doBy_60 flX1_55 (shEv hE) rfl ?_
        refine J_iload_n 4 aX1_doBy_63 rfl ?_
        obtain ⟨j13, e14, b15, h⟩ := h
        refine J_iaload j13 aX1_doBy_64 (shEv5 hE) e14 b15 (by decide) ?_
        obtain ⟨j16, e17, b18, h⟩ := h
        refine J_iaload j16 aX1_doBy_65 (shEv1 hE) e17 b18 (by decide) ?_
        refine J_iconst (nI 1) aX1_doBy_66 (by decide +kernel) ?_
        refine J_iadd aX1_doBy_67 ?_
        refine J_bipush (nI 9) aX1_doBy_68 (by decide +kernel) ?_
        refine J_min aX1_doBy_70 lkX1_156 mth_smin mth_ini mth_cmin (by omega) (Nat.le_of_ble_eq_true rfl) ?_
        obtain ⟨j21, e22, b23, h⟩ := h
        refine J_iastore j21 aX1_doBy_73 (shEv1 hE) e22 b23 (by decide) (fun I19 e20 => ?_)
        replace h := h I19 e20
        refine J_pick [3, 4, 2, 1, 0] rfl ?_
        exact h
    · replace h := h.2 q
      refine J_iconst (nI 0) aX1_doBy_12 (by decide +kernel) ?_
      exact J_iret aX1_doBy_13 rfl h
theorem S_X1_doBy_74 {E : EE} {d : Nat} {I : IH} {Q : QT} {e g r : Nat} (hE : isEv e g r) (x1 : Int32) (x2 : Int32) (x3 : Int32) (x4 : Int32) (h :
((¬ x4 = 0 → Q (some (.int (nI 0))) I) ∧
 (x4 = 0 → (Mt E d mX1_isOpen [.ref (eb E + e), .int x1, .int x3] I (fun rv I1 => ∃ v2 : Int32, rv = some (.int v2) ∧
 ((¬ v2 = 0 → (∀ I3 : IH, I3 = stI I1 e 5 ((I1 e 5) - x3) →
 (∃ j5 : Nat, x1 = nI j5 ∧ j5 < 6 ∧ (∃ j10 : Nat, x1 = nI j10 ∧ j10 < 6 ∧ (∀ I8 : IH, I8 = stI I3 (g + 6) j10 ((I3 (g + 6) j5) + (nI 1)) →
 (∃ j13 : Nat, x1 = nI j13 ∧ j13 < 6 ∧ (∃ j16 : Nat, x1 = nI j16 ∧ j16 < 6 ∧ (∃ j21 : Nat, x1 = nI j21 ∧ j21 < 6 ∧ (∀ I19 : IH, I19 = stI I8 (g + 4) j21 ((I8 (g + 4) j13) &&& ((I8 (g + 4) j16) - (nI 1))) →
 ((x2 < (nI 3) → Q (some (.int x2)) I19) ∧
 (¬ x2 < (nI 3) → ((¬ (((I19 e 8) >>> (x1 &&& 31)) &&& (nI 1)) = (nI 1) → (∀ I24 : IH, I24 = stI I19 e 8 ((I19 e 8) ||| ((nI 1) <<< (x1 &&& 31))) →
 Q (some (.int (x2 + (nI 5)))) I24)) ∧
 ((((I19 e 8) >>> (x1 &&& 31)) &&& (nI 1)) = (nI 1) → Q (some (.int x2)) I19))))))))))))) ∧
 (v2 = 0 → Q (some (.int (nI 0))) I1))))))) : J E (d + 1) mX1_doBy 74 [(0, .ref (eb E + e)), (1, .int x1), (2, .int x2), (3, .int x3), (4, .int x4)] [] I Q := by
  refine J_iload 4 aX1_doBy_74 rfl ?_
  refine J_if_ne aX1_doBy_76 (fun q => ?_) (fun q => ?_)
  · replace h := h.1 q
    refine J_iconst (nI 0) aX1_doBy_88 (by decide +kernel) ?_
    exact J_iret aX1_doBy_89 rfl h
  · replace h := h.2 q
    refine J_aload_n 0 aX1_doBy_79 rfl ?_
    refine J_iload_n 1 aX1_doBy_80 rfl ?_
    refine J_iload_n 3 aX1_doBy_81 rfl ?_
    refine J_callV [.int x1, .int x3] [] aX1_doBy_82 lkX1_112_X1 okX1_isOpen (shEv hE) rfl rfl rfl (Nat.le_of_ble_eq_true rfl) (Nat.le_refl _) (Mt_mono h (fun rv I1 h => ?_))
    obtain ⟨v2, rfl, h⟩ := h
    refine J_r1 ?_
    refine J_if_ne aX1_doBy_85 (fun q => ?_) (fun q => ?_)
    · replace h := h.1 q
      refine J_aload_n 0 aX1_doBy_90 rfl ?_
      refine J_dup aX1_doBy_91 rfl ?_
      refine J_getI aX1_doBy_92 flX1_21 (shEv hE) rfl ?_
      refine J_iload_n 3 aX1_doBy_95 rfl ?_
      refine J_isub aX1_doBy_96 ?_
      refine J_putI aX1_doBy_97 fpX1_21 (shEv hE) rfl (fun I3 e4 => ?_)
      replace h := h I3 e4
      refine J_aload_n 0 aX1_doBy_100 rfl ?_
      refine J_getR aX1_doBy_101 flX1_58 (shEv hE) rfl ?_
      refine J_iload_n 1 aX1_doBy_104 rfl ?_
      refine J_dup2 aX1_doBy_105 rfl rfl ?_
      obtain ⟨j5, e6, b7, h⟩ := h
      refine J_iaload j5 aX1_doBy_106 (shEv6 hE) e6 b7 (by decide) ?_
      refine J_iconst (nI 1) aX1_doBy_107 (by decide +kernel) ?_
      refine J_iadd aX1_doBy_108 ?_
      obtain ⟨j10, e11, b12, h⟩ := h
      refine J_iastore j10 aX1_doBy_109 (shEv6 hE) e11 b12 (by decide) (fun I8 e9 => ?_)
      replace h := h I8 e9
      refine J_aload_n 0 aX1_doBy_110 rfl ?_
      refine J_getR aX1_doBy_111 flX1_52 (shEv hE) rfl ?_
      refine J_iload_n 1 aX1_doBy_114 rfl ?_
      refine J_dup2 aX1_doBy_115 rfl rfl ?_
      obtain ⟨j13, e14, b15, h⟩ := h
      refine J_iaload j13 aX1_doBy_116 (shEv4 hE) e14 b15 (by decide) ?_
      refine J_aload_n 0 aX1_doBy_117 rfl ?_
      refine J_getR aX1_doBy_118 flX1_52 (shEv hE) rfl ?_
      refine J_iload_n 1 aX1_doBy_121 rfl ?_
      obtain ⟨j16, e17, b18, h⟩ := h
      refine J_iaload j16 aX1_doBy_122 (shEv4 hE) e17 b18 (by decide) ?_
      refine J_iconst (nI 1) aX1_doBy_123 (by decide +kernel) ?_
      refine J_isub aX1_doBy_124 ?_
      refine J_iand aX1_doBy_125 ?_
      obtain ⟨j21, e22, b23, h⟩ := h
      refine J_iastore j21 aX1_doBy_126 (shEv4 hE) e22 b23 (by decide) (fun I19 e20 => ?_)
      replace h := h I19 e20
      refine J_iload_n 2 aX1_doBy_127 rfl ?_
      refine J_iconst (nI 3) aX1_doBy_128 (by decide +kernel) ?_
      refine J_icmp_lt aX1_doBy_129 (fun q => ?_) (fun q => ?_)
      · replace h := h.1 q
        refine J_iload_n 2 aX1_doBy_144 rfl ?_
        exact J_iret aX1_doBy_145 rfl h
      · replace h := h.2 q
        refine J_aload_n 0 aX1_doBy_132 rfl ?_
        refine J_getI aX1_doBy_133 flX1_30 (shEv hE) rfl ?_
        refine J_iload_n 1 aX1_doBy_136 rfl ?_
        refine J_ishr aX1_doBy_137 ?_
        refine J_iconst (nI 1) aX1_doBy_138 (by decide +kernel) ?_
        refine J_iand aX1_doBy_139 ?_
        refine J_iconst (nI 1) aX1_doBy_140 (by decide +kernel) ?_
        refine J_icmp_ne aX1_doBy_141 (fun q => ?_) (fun q => ?_)
        · replace h := h.1 q
          refine J_aload_n 0 aX1_doBy_146 rfl ?_
          refine J_dup aX1_doBy_147 rfl ?_
          refine J_getI aX1_doBy_148 flX1_30 (shEv hE) rfl ?_
          refine J_iconst (nI 1) aX1_doBy_151 (by decide +kernel) ?_
          refine J_iload_n 1 aX1_doBy_152 rfl ?_
          refine J_ishl aX1_doBy_153 ?_
          refine J_ior aX1_doBy_154 ?_
          refine J_putI aX1_doBy_155 fpX1_30 (shEv hE) rfl (fun I24 e25 => ?_)
          replace h := h I24 e25
          refine J_iload_n 2 aX1_doBy_158 rfl ?_
          refine J_iconst (nI 5) aX1_doBy_159 (by decide +kernel) ?_
          refine J_iadd aX1_doBy_160 ?_
          exact J_iret aX1_doBy_161 rfl h
        · replace h := h.2 q
          refine J_iload_n 2 aX1_doBy_144 rfl ?_
          exact J_iret aX1_doBy_145 rfl h
    · replace h := h.2 q
      refine J_iconst (nI 0) aX1_doBy_88 (by decide +kernel) ?_
      exact J_iret aX1_doBy_89 rfl h
theorem aX1_goOn_0 : decode mX1_goOn.2.1 0 = .ok (.iconst 0, 1) ∧ 0 + 1 = 1 := ⟨by decide +kernel, rfl⟩
theorem aX1_goOn_1 : decode mX1_goOn.2.1 1 = .ok (.istore_n 2, 1) ∧ 1 + 1 = 2 := ⟨by decide +kernel, rfl⟩
theorem aX1_goOn_2 : decode mX1_goOn.2.1 2 = .ok (.iload_n 2, 1) ∧ 2 + 1 = 3 := ⟨by decide +kernel, rfl⟩
theorem aX1_goOn_3 : decode mX1_goOn.2.1 3 = .ok (.aload_n 0, 1) ∧ 3 + 1 = 4 := ⟨by decide +kernel, rfl⟩
theorem aX1_goOn_4 : decode mX1_goOn.2.1 4 = .ok (.getfield 27, 3) ∧ 4 + 3 = 7 := ⟨by decide +kernel, rfl⟩
theorem aX1_goOn_7 : decode mX1_goOn.2.1 7 = .ok (.if_icmp .ge 33, 3) ∧ ((7 : Nat) : Int) + 33 = ((40 : Nat) : Int) ∧ 7 + 3 = 10 := ⟨by decide +kernel, by decide, rfl⟩
theorem aX1_goOn_10 : decode mX1_goOn.2.1 10 = .ok (.aload_n 0, 1) ∧ 10 + 1 = 11 := ⟨by decide +kernel, rfl⟩
theorem aX1_goOn_11 : decode mX1_goOn.2.1 11 = .ok (.getfield 52, 3) ∧ 11 + 3 = 14 := ⟨by decide +kernel, rfl⟩
theorem aX1_goOn_14 : decode mX1_goOn.2.1 14 = .ok (.iload_n 2, 1) ∧ 14 + 1 = 15 := ⟨by decide +kernel, rfl⟩
theorem aX1_goOn_15 : decode mX1_goOn.2.1 15 = .ok (.aload_n 0, 1) ∧ 15 + 1 = 16 := ⟨by decide +kernel, rfl⟩
theorem aX1_goOn_16 : decode mX1_goOn.2.1 16 = .ok (.iload_n 2, 1) ∧ 16 + 1 = 17 := ⟨by decide +kernel, rfl⟩
theorem aX1_goOn_17 : decode mX1_goOn.2.1 17 = .ok (.invokevirtual 103, 3) ∧ 17 + 3 = 20 := ⟨by decide +kernel, rfl⟩
theorem aX1_goOn_20 : decode mX1_goOn.2.1 20 = .ok (.aload_n 0, 1) ∧ 20 + 1 = 21 := ⟨by decide +kernel, rfl⟩
theorem aX1_goOn_21 : decode mX1_goOn.2.1 21 = .ok (.getfield 52, 3) ∧ 21 + 3 = 24 := ⟨by decide +kernel, rfl⟩
theorem aX1_goOn_24 : decode mX1_goOn.2.1 24 = .ok (.iload_n 2, 1) ∧ 24 + 1 = 25 := ⟨by decide +kernel, rfl⟩
theorem aX1_goOn_25 : decode mX1_goOn.2.1 25 = .ok (.iaload, 1) ∧ 25 + 1 = 26 := ⟨by decide +kernel, rfl⟩
theorem aX1_goOn_26 : decode mX1_goOn.2.1 26 = .ok (.aload_n 0, 1) ∧ 26 + 1 = 27 := ⟨by decide +kernel, rfl⟩
theorem aX1_goOn_27 : decode mX1_goOn.2.1 27 = .ok (.getfield 15, 3) ∧ 27 + 3 = 30 := ⟨by decide +kernel, rfl⟩
theorem aX1_goOn_30 : decode mX1_goOn.2.1 30 = .ok (.invokevirtual 162, 3) ∧ 30 + 3 = 33 := ⟨by decide +kernel, rfl⟩
theorem aX1_goOn_33 : decode mX1_goOn.2.1 33 = .ok (.iastore, 1) ∧ 33 + 1 = 34 := ⟨by decide +kernel, rfl⟩
theorem aX1_goOn_34 : decode mX1_goOn.2.1 34 = .ok (.iinc 2 1, 3) ∧ 34 + 3 = 37 := ⟨by decide +kernel, rfl⟩
theorem aX1_goOn_37 : decode mX1_goOn.2.1 37 = .ok (.goto (-35), 3) ∧ ((37 : Nat) : Int) + (-35) = ((2 : Nat) : Int) := ⟨by decide +kernel, by decide⟩
theorem aX1_goOn_40 : decode mX1_goOn.2.1 40 = .ok (.aload_n 0, 1) ∧ 40 + 1 = 41 := ⟨by decide +kernel, rfl⟩
theorem aX1_goOn_41 : decode mX1_goOn.2.1 41 = .ok (.dup, 1) ∧ 41 + 1 = 42 := ⟨by decide +kernel, rfl⟩
theorem aX1_goOn_42 : decode mX1_goOn.2.1 42 = .ok (.getfield 15, 3) ∧ 42 + 3 = 45 := ⟨by decide +kernel, rfl⟩
theorem aX1_goOn_45 : decode mX1_goOn.2.1 45 = .ok (.iconst 1, 1) ∧ 45 + 1 = 46 := ⟨by decide +kernel, rfl⟩
theorem aX1_goOn_46 : decode mX1_goOn.2.1 46 = .ok (.iadd, 1) ∧ 46 + 1 = 47 := ⟨by decide +kernel, rfl⟩
theorem aX1_goOn_47 : decode mX1_goOn.2.1 47 = .ok (.putfield 15, 3) ∧ 47 + 3 = 50 := ⟨by decide +kernel, rfl⟩
theorem aX1_goOn_50 : decode mX1_goOn.2.1 50 = .ok (.aload_n 0, 1) ∧ 50 + 1 = 51 := ⟨by decide +kernel, rfl⟩
theorem aX1_goOn_51 : decode mX1_goOn.2.1 51 = .ok (.dup, 1) ∧ 51 + 1 = 52 := ⟨by decide +kernel, rfl⟩
theorem aX1_goOn_52 : decode mX1_goOn.2.1 52 = .ok (.getfield 24, 3) ∧ 52 + 3 = 55 := ⟨by decide +kernel, rfl⟩
theorem aX1_goOn_55 : decode mX1_goOn.2.1 55 = .ok (.iload_n 1, 1) ∧ 55 + 1 = 56 := ⟨by decide +kernel, rfl⟩
theorem aX1_goOn_56 : decode mX1_goOn.2.1 56 = .ok (.iadd, 1) ∧ 56 + 1 = 57 := ⟨by decide +kernel, rfl⟩
theorem aX1_goOn_57 : decode mX1_goOn.2.1 57 = .ok (.putfield 24, 3) ∧ 57 + 3 = 60 := ⟨by decide +kernel, rfl⟩
theorem aX1_goOn_60 : decode mX1_goOn.2.1 60 = .ok (.return_, 1) := by decide +kernel
theorem S_X1_goOn {E : EE} {d : Nat} {I : IH} {Q : QT} {e g r : Nat} (hE : isEv e g r) (x1 : Int32) (h :
J E (d + 1) mX1_goOn 2 [(0, .ref (eb E + e)), (1, .int x1), (2, .int (nI 0))] [] I Q) : Mt E (d + 1) mX1_goOn [.ref (eb E + e), .int x1] I Q := by
  refine Mt_of [(0, .ref (eb E + e)), (1, .int x1)] (by decide +kernel) (by simp [lg_sl, Value.category, mX1_goOn]) rfl ?_
  refine J_iconst (nI 0) aX1_goOn_0 (by decide +kernel) ?_
  refine J_istore_n [(2, .int (nI 0)), (0, .ref (eb E + e)), (1, .int x1)] aX1_goOn_1 (by decide) rfl ?_
  refine J_pick [1, 2, 0] rfl ?_
  exact h
theorem S_X1_goOn_2 {E : EE} {d : Nat} {I : IH} {Q : QT} {e g r : Nat} (hE : isEv e g r) (x1 : Int32) (x2 : Int32) (h :
(((I e 7) ≤ x2 → (∀ I1 : IH, I1 = stI I e 3 ((I e 3) + (nI 1)) →
 (∀ I3 : IH, I3 = stI I1 e 6 ((I1 e 6) + x1) →
 Q none I3))) ∧
 (¬ (I e 7) ≤ x2 → (Mt E d mX1_thing [.ref (eb E + e), .int x2] I (fun rv I5 => ∃ j6 : Nat, j6 < 6 ∧ rv = some (.ref (eb E + (21 + j6))) ∧
 (∃ j8 : Nat, x2 = nI j8 ∧ j8 < 6 ∧ (Mt E d (sel_next j6) [.ref (eb E + (21 + j6)), .int (I5 (g + 4) j8), .int (I5 e 3)] I5 (fun rv I11 => ∃ v12 : Int32, rv = some (.int v12) ∧
 (∃ j15 : Nat, x2 = nI j15 ∧ j15 < 6 ∧ (∀ I13 : IH, I13 = stI I11 (g + 4) j15 v12 →
 J E (d + 1) mX1_goOn 2 [(0, .ref (eb E + e)), (1, .int x1), (2, .int (x2 + nI 1))] [] I13 Q)))))))))) : J E (d + 1) mX1_goOn 2 [(0, .ref (eb E + e)), (1, .int x1), (2, .int x2)] [] I Q := by
  refine J_iload_n 2 aX1_goOn_2 rfl ?_
  refine J_aload_n 0 aX1_goOn_3 rfl ?_
  refine J_getI aX1_goOn_4 flX1_27 (shEv hE) rfl ?_
  refine J_icmp_ge aX1_goOn_7 (fun q => ?_) (fun q => ?_)
  · replace h := h.1 q
    refine J_aload_n 0 aX1_goOn_40 rfl ?_
    refine J_dup aX1_goOn_41 rfl ?_
    refine J_getI aX1_goOn_42 flX1_15 (shEv hE) rfl ?_
    refine J_iconst (nI 1) aX1_goOn_45 (by decide +kernel) ?_
    refine J_iadd aX1_goOn_46 ?_
    refine J_putI aX1_goOn_47 fpX1_15 (shEv hE) rfl (fun I1 e2 => ?_)
    replace h := h I1 e2
    refine J_aload_n 0 aX1_goOn_50 rfl ?_
    refine J_dup aX1_goOn_51 rfl ?_
    refine J_getI aX1_goOn_52 flX1_24 (shEv hE) rfl ?_
    refine J_iload_n 1 aX1_goOn_55 rfl ?_
    refine J_iadd aX1_goOn_56 ?_
    refine J_putI aX1_goOn_57 fpX1_24 (shEv hE) rfl (fun I3 e4 => ?_)
    replace h := h I3 e4
    exact J_vret aX1_goOn_60 rfl h
  · replace h := h.2 q
    refine J_aload_n 0 aX1_goOn_10 rfl ?_
    refine J_getR aX1_goOn_11 flX1_52 (shEv hE) rfl ?_
    refine J_iload_n 2 aX1_goOn_14 rfl ?_
    refine J_aload_n 0 aX1_goOn_15 rfl ?_
    refine J_iload_n 2 aX1_goOn_16 rfl ?_
    refine J_callV [.int x2] [.int x2, .ref (eb E + (g + 4))] aX1_goOn_17 lkX1_103_X1 okX1_thing (shEv hE) rfl rfl rfl (Nat.le_of_ble_eq_true rfl) (Nat.le_refl _) (Mt_mono h (fun rv I5 h => ?_))
    obtain ⟨j6, b7, rfl, h⟩ := h
    refine J_r1 ?_
    refine J_aload_n 0 aX1_goOn_20 rfl ?_
    refine J_getR aX1_goOn_21 flX1_52 (shEv hE) rfl ?_
    refine J_iload_n 2 aX1_goOn_24 rfl ?_
    obtain ⟨j8, e9, b10, h⟩ := h
    refine J_iaload j8 aX1_goOn_25 (shEv4 hE) e9 b10 (by decide) ?_
    refine J_aload_n 0 aX1_goOn_26 rfl ?_
    refine J_getI aX1_goOn_27 flX1_15 (shEv hE) rfl ?_
    refine dspX1_162 [.int (I5 (g + 4) j8), .int (I5 e 3)] [.int x2, .ref (eb E + (g + 4))] b7 aX1_goOn_30 rfl rfl rfl (Nat.le_of_ble_eq_true rfl) (Nat.le_refl _) (Mt_mono h (fun rv I11 h => ?_))
    obtain ⟨v12, rfl, h⟩ := h
    refine J_r1 ?_
    obtain ⟨j15, e16, b17, h⟩ := h
    refine J_iastore j15 aX1_goOn_33 (shEv4 hE) e16 b17 (by decide) (fun I13 e14 => ?_)
    replace h := h I13 e14
    refine J_iinc (x2 + nI 1) [(2, .int (x2 + nI 1)), (0, .ref (eb E + e)), (1, .int x1)] 2 aX1_goOn_34 rfl (by first | rfl | (congr 1; decide +kernel)) (by decide) rfl ?_
    refine J_goto aX1_goOn_37 ?_
    refine J_pick [1, 2, 0] rfl ?_
    exact h
theorem aX1_lastReported_0 : decode mX1_lastReported.2.1 0 = .ok (.iconst (-1), 1) ∧ 0 + 1 = 1 := ⟨by decide +kernel, rfl⟩
theorem aX1_lastReported_1 : decode mX1_lastReported.2.1 1 = .ok (.istore_n 1, 1) ∧ 1 + 1 = 2 := ⟨by decide +kernel, rfl⟩
theorem aX1_lastReported_2 : decode mX1_lastReported.2.1 2 = .ok (.iconst 0, 1) ∧ 2 + 1 = 3 := ⟨by decide +kernel, rfl⟩
theorem aX1_lastReported_3 : decode mX1_lastReported.2.1 3 = .ok (.istore_n 2, 1) ∧ 3 + 1 = 4 := ⟨by decide +kernel, rfl⟩
theorem aX1_lastReported_4 : decode mX1_lastReported.2.1 4 = .ok (.iload_n 2, 1) ∧ 4 + 1 = 5 := ⟨by decide +kernel, rfl⟩
theorem aX1_lastReported_5 : decode mX1_lastReported.2.1 5 = .ok (.aload_n 0, 1) ∧ 5 + 1 = 6 := ⟨by decide +kernel, rfl⟩
theorem aX1_lastReported_6 : decode mX1_lastReported.2.1 6 = .ok (.getfield 36, 3) ∧ 6 + 3 = 9 := ⟨by decide +kernel, rfl⟩
theorem aX1_lastReported_9 : decode mX1_lastReported.2.1 9 = .ok (.if_icmp .ge 22, 3) ∧ ((9 : Nat) : Int) + 22 = ((31 : Nat) : Int) ∧ 9 + 3 = 12 := ⟨by decide +kernel, by decide, rfl⟩
theorem aX1_lastReported_12 : decode mX1_lastReported.2.1 12 = .ok (.iload_n 1, 1) ∧ 12 + 1 = 13 := ⟨by decide +kernel, rfl⟩
theorem aX1_lastReported_13 : decode mX1_lastReported.2.1 13 = .ok (.aload_n 0, 1) ∧ 13 + 1 = 14 := ⟨by decide +kernel, rfl⟩
theorem aX1_lastReported_14 : decode mX1_lastReported.2.1 14 = .ok (.getfield 61, 3) ∧ 14 + 3 = 17 := ⟨by decide +kernel, rfl⟩
theorem aX1_lastReported_17 : decode mX1_lastReported.2.1 17 = .ok (.iload_n 2, 1) ∧ 17 + 1 = 18 := ⟨by decide +kernel, rfl⟩
theorem aX1_lastReported_18 : decode mX1_lastReported.2.1 18 = .ok (.iconst 4, 1) ∧ 18 + 1 = 19 := ⟨by decide +kernel, rfl⟩
theorem aX1_lastReported_19 : decode mX1_lastReported.2.1 19 = .ok (.imul, 1) ∧ 19 + 1 = 20 := ⟨by decide +kernel, rfl⟩
theorem aX1_lastReported_20 : decode mX1_lastReported.2.1 20 = .ok (.iaload, 1) ∧ 20 + 1 = 21 := ⟨by decide +kernel, rfl⟩
theorem aX1_lastReported_21 : decode mX1_lastReported.2.1 21 = .ok (.invokestatic 94, 3) ∧ 21 + 3 = 24 := ⟨by decide +kernel, rfl⟩
theorem aX1_lastReported_24 : decode mX1_lastReported.2.1 24 = .ok (.istore_n 1, 1) ∧ 24 + 1 = 25 := ⟨by decide +kernel, rfl⟩
theorem aX1_lastReported_25 : decode mX1_lastReported.2.1 25 = .ok (.iinc 2 1, 3) ∧ 25 + 3 = 28 := ⟨by decide +kernel, rfl⟩
theorem aX1_lastReported_28 : decode mX1_lastReported.2.1 28 = .ok (.goto (-24), 3) ∧ ((28 : Nat) : Int) + (-24) = ((4 : Nat) : Int) := ⟨by decide +kernel, by decide⟩
theorem aX1_lastReported_31 : decode mX1_lastReported.2.1 31 = .ok (.iload_n 1, 1) ∧ 31 + 1 = 32 := ⟨by decide +kernel, rfl⟩
theorem aX1_lastReported_32 : decode mX1_lastReported.2.1 32 = .ok (.ireturn, 1) := by decide +kernel
theorem S_X1_lastReported {E : EE} {d : Nat} {I : IH} {Q : QT} {e g r : Nat} (hE : isEv e g r) (h :
J E (d + 1) mX1_lastReported 4 [(0, .ref (eb E + e)), (1, .int (-1)), (2, .int (nI 0))] [] I Q) : Mt E (d + 1) mX1_lastReported [.ref (eb E + e)] I Q := by
  refine Mt_of [(0, .ref (eb E + e))] (by decide +kernel) (by simp [lg_sl, Value.category, mX1_lastReported]) rfl ?_
  refine J_iconst (-1) aX1_lastReported_0 (by decide +kernel) ?_
  refine J_istore_n [(1, .int (-1)), (0, .ref (eb E + e))] aX1_lastReported_1 (by decide) rfl ?_
  refine J_iconst (nI 0) aX1_lastReported_2 (by decide +kernel) ?_
  refine J_istore_n [(2, .int (nI 0)), (1, .int (-1)), (0, .ref (eb E + e))] aX1_lastReported_3 (by decide) rfl ?_
  refine J_pick [2, 1, 0] rfl ?_
  exact h
theorem S_X1_lastReported_4 {E : EE} {d : Nat} {I : IH} {Q : QT} {e g r : Nat} (hE : isEv e g r) (x1 : Int32) (x2 : Int32) (h :
(((I e 10) ≤ x2 → Q (some (.int x1)) I) ∧
 (¬ (I e 10) ≤ x2 → (∃ j1 : Nat, (x2 * (nI 4)) = nI j1 ∧ j1 < 24 ∧ J E (d + 1) mX1_lastReported 4 [(0, .ref (eb E + e)), (1, .int (if x1 < (I (g + 7) j1) then (I (g + 7) j1) else x1)), (2, .int (x2 + nI 1))] [] I Q)))) : J E (d + 1) mX1_lastReported 4 [(0, .ref (eb E + e)), (1, .int x1), (2, .int x2)] [] I Q := by
  refine J_iload_n 2 aX1_lastReported_4 rfl ?_
  refine J_aload_n 0 aX1_lastReported_5 rfl ?_
  refine J_getI aX1_lastReported_6 flX1_36 (shEv hE) rfl ?_
  refine J_icmp_ge aX1_lastReported_9 (fun q => ?_) (fun q => ?_)
  · replace h := h.1 q
    refine J_iload_n 1 aX1_lastReported_31 rfl ?_
    exact J_iret aX1_lastReported_32 rfl h
  · replace h := h.2 q
    refine J_iload_n 1 aX1_lastReported_12 rfl ?_
    refine J_aload_n 0 aX1_lastReported_13 rfl ?_
    refine J_getR aX1_lastReported_14 flX1_61 (shEv hE) rfl ?_
    refine J_iload_n 2 aX1_lastReported_17 rfl ?_
    refine J_iconst (nI 4) aX1_lastReported_18 (by decide +kernel) ?_
    refine J_imul aX1_lastReported_19 ?_
    obtain ⟨j1, e2, b3, h⟩ := h
    refine J_iaload j1 aX1_lastReported_20 (shEv7 hE) e2 b3 (by decide) ?_
    refine J_max aX1_lastReported_21 lkX1_94 mth_smax mth_ini mth_cmax (by omega) (Nat.le_of_ble_eq_true rfl) ?_
    refine J_istore_n [(1, .int (if x1 < (I (g + 7) j1) then (I (g + 7) j1) else x1)), (0, .ref (eb E + e)), (2, .int x2)] aX1_lastReported_24 (by decide) rfl ?_
    refine J_iinc (x2 + nI 1) [(2, .int (x2 + nI 1)), (1, .int (if x1 < (I (g + 7) j1) then (I (g + 7) j1) else x1)), (0, .ref (eb E + e))] 2 aX1_lastReported_25 rfl (by first | rfl | (congr 1; decide +kernel)) (by decide) rfl ?_
    refine J_goto aX1_lastReported_28 ?_
    refine J_pick [2, 1, 0] rfl ?_
    exact h
theorem aX1_wrongReports_0 : decode mX1_wrongReports.2.1 0 = .ok (.aload_n 0, 1) ∧ 0 + 1 = 1 := ⟨by decide +kernel, rfl⟩
theorem aX1_wrongReports_1 : decode mX1_wrongReports.2.1 1 = .ok (.getfield 64, 3) ∧ 1 + 3 = 4 := ⟨by decide +kernel, rfl⟩
theorem aX1_wrongReports_4 : decode mX1_wrongReports.2.1 4 = .ok (.iload_n 1, 1) ∧ 4 + 1 = 5 := ⟨by decide +kernel, rfl⟩
theorem aX1_wrongReports_5 : decode mX1_wrongReports.2.1 5 = .ok (.aaload, 1) ∧ 5 + 1 = 6 := ⟨by decide +kernel, rfl⟩
theorem aX1_wrongReports_6 : decode mX1_wrongReports.2.1 6 = .ok (.astore 4, 2) ∧ 6 + 2 = 8 := ⟨by decide +kernel, rfl⟩
theorem aX1_wrongReports_8 : decode mX1_wrongReports.2.1 8 = .ok (.iload_n 2, 1) ∧ 8 + 1 = 9 := ⟨by decide +kernel, rfl⟩
theorem aX1_wrongReports_9 : decode mX1_wrongReports.2.1 9 = .ok (.istore 5, 2) ∧ 9 + 2 = 11 := ⟨by decide +kernel, rfl⟩
theorem aX1_wrongReports_11 : decode mX1_wrongReports.2.1 11 = .ok (.iconst 0, 1) ∧ 11 + 1 = 12 := ⟨by decide +kernel, rfl⟩
theorem aX1_wrongReports_12 : decode mX1_wrongReports.2.1 12 = .ok (.istore 6, 2) ∧ 12 + 2 = 14 := ⟨by decide +kernel, rfl⟩
theorem aX1_wrongReports_14 : decode mX1_wrongReports.2.1 14 = .ok (.iconst 0, 1) ∧ 14 + 1 = 15 := ⟨by decide +kernel, rfl⟩
theorem aX1_wrongReports_15 : decode mX1_wrongReports.2.1 15 = .ok (.istore 7, 2) ∧ 15 + 2 = 17 := ⟨by decide +kernel, rfl⟩
theorem aX1_wrongReports_17 : decode mX1_wrongReports.2.1 17 = .ok (.iload 7, 2) ∧ 17 + 2 = 19 := ⟨by decide +kernel, rfl⟩
theorem aX1_wrongReports_19 : decode mX1_wrongReports.2.1 19 = .ok (.iload_n 3, 1) ∧ 19 + 1 = 20 := ⟨by decide +kernel, rfl⟩
theorem aX1_wrongReports_20 : decode mX1_wrongReports.2.1 20 = .ok (.if_icmp .gt 82, 3) ∧ ((20 : Nat) : Int) + 82 = ((102 : Nat) : Int) ∧ 20 + 3 = 23 := ⟨by decide +kernel, by decide, rfl⟩
theorem aX1_wrongReports_23 : decode mX1_wrongReports.2.1 23 = .ok (.iload 6, 2) ∧ 23 + 2 = 25 := ⟨by decide +kernel, rfl⟩
theorem aX1_wrongReports_25 : decode mX1_wrongReports.2.1 25 = .ok (.iload 6, 2) ∧ 25 + 2 = 27 := ⟨by decide +kernel, rfl⟩
theorem aX1_wrongReports_27 : decode mX1_wrongReports.2.1 27 = .ok (.iconst 1, 1) ∧ 27 + 1 = 28 := ⟨by decide +kernel, rfl⟩
theorem aX1_wrongReports_28 : decode mX1_wrongReports.2.1 28 = .ok (.isub, 1) ∧ 28 + 1 = 29 := ⟨by decide +kernel, rfl⟩
theorem aX1_wrongReports_29 : decode mX1_wrongReports.2.1 29 = .ok (.iand, 1) ∧ 29 + 1 = 30 := ⟨by decide +kernel, rfl⟩
theorem aX1_wrongReports_30 : decode mX1_wrongReports.2.1 30 = .ok (.ifCond .ne 72, 3) ∧ ((30 : Nat) : Int) + 72 = ((102 : Nat) : Int) ∧ 30 + 3 = 33 := ⟨by decide +kernel, by decide, rfl⟩
theorem aX1_wrongReports_33 : decode mX1_wrongReports.2.1 33 = .ok (.iconst 0, 1) ∧ 33 + 1 = 34 := ⟨by decide +kernel, rfl⟩
theorem aX1_wrongReports_34 : decode mX1_wrongReports.2.1 34 = .ok (.istore 8, 2) ∧ 34 + 2 = 36 := ⟨by decide +kernel, rfl⟩
theorem aX1_wrongReports_36 : decode mX1_wrongReports.2.1 36 = .ok (.iload 8, 2) ∧ 36 + 2 = 38 := ⟨by decide +kernel, rfl⟩
theorem aX1_wrongReports_38 : decode mX1_wrongReports.2.1 38 = .ok (.aload_n 0, 1) ∧ 38 + 1 = 39 := ⟨by decide +kernel, rfl⟩
theorem aX1_wrongReports_39 : decode mX1_wrongReports.2.1 39 = .ok (.getfield 36, 3) ∧ 39 + 3 = 42 := ⟨by decide +kernel, rfl⟩
theorem aX1_wrongReports_42 : decode mX1_wrongReports.2.1 42 = .ok (.if_icmp .ge 43, 3) ∧ ((42 : Nat) : Int) + 43 = ((85 : Nat) : Int) ∧ 42 + 3 = 45 := ⟨by decide +kernel, by decide, rfl⟩
theorem aX1_wrongReports_45 : decode mX1_wrongReports.2.1 45 = .ok (.aload_n 0, 1) ∧ 45 + 1 = 46 := ⟨by decide +kernel, rfl⟩
theorem aX1_wrongReports_46 : decode mX1_wrongReports.2.1 46 = .ok (.getfield 61, 3) ∧ 46 + 3 = 49 := ⟨by decide +kernel, rfl⟩
theorem aX1_wrongReports_49 : decode mX1_wrongReports.2.1 49 = .ok (.iload 8, 2) ∧ 49 + 2 = 51 := ⟨by decide +kernel, rfl⟩
theorem aX1_wrongReports_51 : decode mX1_wrongReports.2.1 51 = .ok (.iconst 4, 1) ∧ 51 + 1 = 52 := ⟨by decide +kernel, rfl⟩
theorem aX1_wrongReports_52 : decode mX1_wrongReports.2.1 52 = .ok (.imul, 1) ∧ 52 + 1 = 53 := ⟨by decide +kernel, rfl⟩
theorem aX1_wrongReports_53 : decode mX1_wrongReports.2.1 53 = .ok (.iaload, 1) ∧ 53 + 1 = 54 := ⟨by decide +kernel, rfl⟩
theorem aX1_wrongReports_54 : decode mX1_wrongReports.2.1 54 = .ok (.iload 7, 2) ∧ 54 + 2 = 56 := ⟨by decide +kernel, rfl⟩
theorem aX1_wrongReports_56 : decode mX1_wrongReports.2.1 56 = .ok (.if_icmp .ne 23, 3) ∧ ((56 : Nat) : Int) + 23 = ((79 : Nat) : Int) ∧ 56 + 3 = 59 := ⟨by decide +kernel, by decide, rfl⟩
theorem aX1_wrongReports_59 : decode mX1_wrongReports.2.1 59 = .ok (.aload_n 0, 1) ∧ 59 + 1 = 60 := ⟨by decide +kernel, rfl⟩
theorem aX1_wrongReports_60 : decode mX1_wrongReports.2.1 60 = .ok (.iload 8, 2) ∧ 60 + 2 = 62 := ⟨by decide +kernel, rfl⟩
theorem aX1_wrongReports_62 : decode mX1_wrongReports.2.1 62 = .ok (.iload 5, 2) ∧ 62 + 2 = 64 := ⟨by decide +kernel, rfl⟩
theorem aX1_wrongReports_64 : decode mX1_wrongReports.2.1 64 = .ok (.invokevirtual 165, 3) ∧ 64 + 3 = 67 := ⟨by decide +kernel, rfl⟩
theorem aX1_wrongReports_67 : decode mX1_wrongReports.2.1 67 = .ok (.ifCond .ne 12, 3) ∧ ((67 : Nat) : Int) + 12 = ((79 : Nat) : Int) ∧ 67 + 3 = 70 := ⟨by decide +kernel, by decide, rfl⟩
theorem aX1_wrongReports_70 : decode mX1_wrongReports.2.1 70 = .ok (.iload 6, 2) ∧ 70 + 2 = 72 := ⟨by decide +kernel, rfl⟩
theorem aX1_wrongReports_72 : decode mX1_wrongReports.2.1 72 = .ok (.iconst 1, 1) ∧ 72 + 1 = 73 := ⟨by decide +kernel, rfl⟩
theorem aX1_wrongReports_73 : decode mX1_wrongReports.2.1 73 = .ok (.iload 8, 2) ∧ 73 + 2 = 75 := ⟨by decide +kernel, rfl⟩
theorem aX1_wrongReports_75 : decode mX1_wrongReports.2.1 75 = .ok (.ishl, 1) ∧ 75 + 1 = 76 := ⟨by decide +kernel, rfl⟩
theorem aX1_wrongReports_76 : decode mX1_wrongReports.2.1 76 = .ok (.ior, 1) ∧ 76 + 1 = 77 := ⟨by decide +kernel, rfl⟩
theorem aX1_wrongReports_77 : decode mX1_wrongReports.2.1 77 = .ok (.istore 6, 2) ∧ 77 + 2 = 79 := ⟨by decide +kernel, rfl⟩
theorem aX1_wrongReports_79 : decode mX1_wrongReports.2.1 79 = .ok (.iinc 8 1, 3) ∧ 79 + 3 = 82 := ⟨by decide +kernel, rfl⟩
theorem aX1_wrongReports_82 : decode mX1_wrongReports.2.1 82 = .ok (.goto (-46), 3) ∧ ((82 : Nat) : Int) + (-46) = ((36 : Nat) : Int) := ⟨by decide +kernel, by decide⟩
theorem aX1_wrongReports_85 : decode mX1_wrongReports.2.1 85 = .ok (.aload 4, 2) ∧ 85 + 2 = 87 := ⟨by decide +kernel, rfl⟩
theorem aX1_wrongReports_87 : decode mX1_wrongReports.2.1 87 = .ok (.iload 5, 2) ∧ 87 + 2 = 89 := ⟨by decide +kernel, rfl⟩
theorem aX1_wrongReports_89 : decode mX1_wrongReports.2.1 89 = .ok (.iload 7, 2) ∧ 89 + 2 = 91 := ⟨by decide +kernel, rfl⟩
theorem aX1_wrongReports_91 : decode mX1_wrongReports.2.1 91 = .ok (.invokevirtual 162, 3) ∧ 91 + 3 = 94 := ⟨by decide +kernel, rfl⟩
theorem aX1_wrongReports_94 : decode mX1_wrongReports.2.1 94 = .ok (.istore 5, 2) ∧ 94 + 2 = 96 := ⟨by decide +kernel, rfl⟩
theorem aX1_wrongReports_96 : decode mX1_wrongReports.2.1 96 = .ok (.iinc 7 1, 3) ∧ 96 + 3 = 99 := ⟨by decide +kernel, rfl⟩
theorem aX1_wrongReports_99 : decode mX1_wrongReports.2.1 99 = .ok (.goto (-82), 3) ∧ ((99 : Nat) : Int) + (-82) = ((17 : Nat) : Int) := ⟨by decide +kernel, by decide⟩
theorem aX1_wrongReports_102 : decode mX1_wrongReports.2.1 102 = .ok (.iload 6, 2) ∧ 102 + 2 = 104 := ⟨by decide +kernel, rfl⟩
theorem aX1_wrongReports_104 : decode mX1_wrongReports.2.1 104 = .ok (.ireturn, 1) := by decide +kernel
theorem S_X1_wrongReports {E : EE} {d : Nat} {I : IH} {Q : QT} {e g r : Nat} (hE : isEv e g r) (x1 : Int32) (x2 : Int32) (x3 : Int32) (h :
(∃ j1 : Nat, x1 = nI j1 ∧ j1 < 6 ∧ J E (d + 1) mX1_wrongReports 17 [(0, .ref (eb E + e)), (3, .int x3), (4, .ref (eb E + (21 + j1))), (5, .int x2), (6, .int (nI 0)), (7, .int (nI 0))] [] I Q)) : Mt E (d + 1) mX1_wrongReports [.ref (eb E + e), .int x1, .int x2, .int x3] I Q := by
  refine Mt_of [(0, .ref (eb E + e)), (1, .int x1), (2, .int x2), (3, .int x3)] (by decide +kernel) (by simp [lg_sl, Value.category, mX1_wrongReports]) rfl ?_
  refine J_aload_n 0 aX1_wrongReports_0 rfl ?_
  refine J_getR aX1_wrongReports_1 flX1_64 (shEv hE) rfl ?_
  refine J_iload_n 1 aX1_wrongReports_4 rfl ?_
  obtain ⟨j1, e2, b3, h⟩ := h
  refine J_aaload j1 aX1_wrongReports_5 sh20 (Or.inl rfl) e2 b3 (by decide) (kinds_at b3) ?_
  refine J_astore [(4, .ref (eb E + (21 + j1))), (0, .ref (eb E + e)), (1, .int x1), (2, .int x2), (3, .int x3)] aX1_wrongReports_6 (by decide) rfl ?_
  refine J_iload_n 3 aX1_wrongReports_8 rfl ?_
  refine J_istore [(5, .int x2), (4, .ref (eb E + (21 + j1))), (0, .ref (eb E + e)), (1, .int x1), (2, .int x2), (3, .int x3)] aX1_wrongReports_9 (by decide) rfl ?_
  refine J_iconst (nI 0) aX1_wrongReports_11 (by decide +kernel) ?_
  refine J_istore [(6, .int (nI 0)), (5, .int x2), (4, .ref (eb E + (21 + j1))), (0, .ref (eb E + e)), (1, .int x1), (2, .int x2), (3, .int x3)] aX1_wrongReports_12 (by decide) rfl ?_
  refine J_iconst (nI 0) aX1_wrongReports_14 (by decide +kernel) ?_
  refine J_istore [(7, .int (nI 0)), (6, .int (nI 0)), (5, .int x2), (4, .ref (eb E + (21 + j1))), (0, .ref (eb E + e)), (1, .int x1), (2, .int x2), (3, .int x3)] aX1_wrongReports_15 (by decide) rfl ?_
  refine J_pick [4, 7, 3, 2, 1, 0] rfl ?_
  exact h
theorem S_X1_wrongReports_17 {E : EE} {d : Nat} {I : IH} {Q : QT} {e g r : Nat} (hE : isEv e g r) (x3 : Int32) {j4 : Nat} (hj4 : j4 < 6) (x5 : Int32) (x6 : Int32) (x7 : Int32) (h :
((x3 < x7 → Q (some (.int x6)) I) ∧
 (¬ x3 < x7 → ((¬ (x6 &&& (x6 - (nI 1))) = 0 → Q (some (.int x6)) I) ∧
 ((x6 &&& (x6 - (nI 1))) = 0 → J E (d + 1) mX1_wrongReports 36 [(0, .ref (eb E + e)), (3, .int x3), (4, .ref (eb E + (21 + j4))), (5, .int x5), (6, .int x6), (7, .int x7), (8, .int (nI 0))] [] I Q))))) : J E (d + 1) mX1_wrongReports 17 [(0, .ref (eb E + e)), (3, .int x3), (4, .ref (eb E + (21 + j4))), (5, .int x5), (6, .int x6), (7, .int x7)] [] I Q := by
  refine J_iload 5 aX1_wrongReports_17 rfl ?_
  refine J_iload_n 1 aX1_wrongReports_19 rfl ?_
  refine J_icmp_gt aX1_wrongReports_20 (fun q => ?_) (fun q => ?_)
  · replace h := h.1 q
    refine J_iload 4 aX1_wrongReports_102 rfl ?_
    exact J_iret aX1_wrongReports_104 rfl h
  · replace h := h.2 q
    refine J_iload 4 aX1_wrongReports_23 rfl ?_
    refine J_iload 4 aX1_wrongReports_25 rfl ?_
    refine J_iconst (nI 1) aX1_wrongReports_27 (by decide +kernel) ?_
    refine J_isub aX1_wrongReports_28 ?_
    refine J_iand aX1_wrongReports_29 ?_
    refine J_if_ne aX1_wrongReports_30 (fun q => ?_) (fun q => ?_)
    · replace h := h.1 q
      refine J_iload 4 aX1_wrongReports_102 rfl ?_
      exact J_iret aX1_wrongReports_104 rfl h
    · replace h := h.2 q
      refine J_iconst (nI 0) aX1_wrongReports_33 (by decide +kernel) ?_
      refine J_istore [(8, .int (nI 0)), (0, .ref (eb E + e)), (3, .int x3), (4, .ref (eb E + (21 + j4))), (5, .int x5), (6, .int x6), (7, .int x7)] aX1_wrongReports_34 (by decide) rfl ?_
      refine J_pick [1, 2, 3, 4, 5, 6, 0] rfl ?_
      exact h
theorem S_X1_wrongReports_36 {E : EE} {d : Nat} {I : IH} {Q : QT} {e g r : Nat} (hE : isEv e g r) (x3 : Int32) {j4 : Nat} (hj4 : j4 < 6) (x5 : Int32) (x6 : Int32) (x7 : Int32) (x8 : Int32) (h :
(((I e 10) ≤ x8 → (Mt E d (sel_next j4) [.ref (eb E + (21 + j4)), .int x5, .int x7] I (fun rv I1 => ∃ v2 : Int32, rv = some (.int v2) ∧
 J E (d + 1) mX1_wrongReports 17 [(0, .ref (eb E + e)), (3, .int x3), (4, .ref (eb E + (21 + j4))), (5, .int v2), (6, .int x6), (7, .int (x7 + nI 1))] [] I1 Q))) ∧
 (¬ (I e 10) ≤ x8 → (∃ j3 : Nat, (x8 * (nI 4)) = nI j3 ∧ j3 < 24 ∧ ((¬ (I (g + 7) j3) = x7 → J E (d + 1) mX1_wrongReports 36 [(0, .ref (eb E + e)), (3, .int x3), (4, .ref (eb E + (21 + j4))), (5, .int x5), (6, .int x6), (7, .int x7), (8, .int (x8 + nI 1))] [] I Q) ∧
 ((I (g + 7) j3) = x7 → (Mt E d mX1_isSo [.ref (eb E + e), .int x8, .int x5] I (fun rv I6 => ∃ v7 : Int32, rv = some (.int v7) ∧
 ((¬ v7 = 0 → J E (d + 1) mX1_wrongReports 36 [(0, .ref (eb E + e)), (3, .int x3), (4, .ref (eb E + (21 + j4))), (5, .int x5), (6, .int x6), (7, .int x7), (8, .int (x8 + nI 1))] [] I6 Q) ∧
 (v7 = 0 → J E (d + 1) mX1_wrongReports 36 [(0, .ref (eb E + e)), (3, .int x3), (4, .ref (eb E + (21 + j4))), (5, .int x5), (6, .int (x6 ||| ((nI 1) <<< (x8 &&& 31)))), (7, .int x7), (8, .int (x8 + nI 1))] [] I6 Q)))))))))) : J E (d + 1) mX1_wrongReports 36 [(0, .ref (eb E + e)), (3, .int x3), (4, .ref (eb E + (21 + j4))), (5, .int x5), (6, .int x6), (7, .int x7), (8, .int x8)] [] I Q := by
  refine J_iload 6 aX1_wrongReports_36 rfl ?_
  refine J_aload_n 0 aX1_wrongReports_38 rfl ?_
  refine J_getI aX1_wrongReports_39 flX1_36 (shEv hE) rfl ?_
  refine J_icmp_ge aX1_wrongReports_42 (fun q => ?_) (fun q => ?_)
  · replace h := h.1 q
    refine J_aload 2 aX1_wrongReports_85 rfl ?_
    refine J_iload 3 aX1_wrongReports_87 rfl ?_
    refine J_iload 5 aX1_wrongReports_89 rfl ?_
    refine dspX1_162 [.int x5, .int x7] [] hj4 aX1_wrongReports_91 rfl rfl rfl (Nat.le_of_ble_eq_true rfl) (Nat.le_refl _) (Mt_mono h (fun rv I1 h => ?_))
    obtain ⟨v2, rfl, h⟩ := h
    refine J_r1 ?_
    refine J_istore [(5, .int v2), (0, .ref (eb E + e)), (3, .int x3), (4, .ref (eb E + (21 + j4))), (6, .int x6), (7, .int x7), (8, .int x8)] aX1_wrongReports_94 (by decide) rfl ?_
    refine J_iinc (x7 + nI 1) [(7, .int (x7 + nI 1)), (5, .int v2), (0, .ref (eb E + e)), (3, .int x3), (4, .ref (eb E + (21 + j4))), (6, .int x6), (8, .int x8)] 5 aX1_wrongReports_96 rfl (by first | rfl | (congr 1; decide +kernel)) (by decide) rfl ?_
    refine J_goto aX1_wrongReports_99 ?_
    refine J_pick [2, 3, 4, 1, 5, 0] rfl ?_
    exact h
  · replace h := h.2 q
    refine J_aload_n 0 aX1_wrongReports_45 rfl ?_
    refine J_getR aX1_wrongReports_46 flX1_61 (shEv hE) rfl ?_
    refine J_iload 6 aX1_wrongReports_49 rfl ?_
    refine J_iconst (nI 4) aX1_wrongReports_51 (by decide +kernel) ?_
    refine J_imul aX1_wrongReports_52 ?_
    obtain ⟨j3, e4, b5, h⟩ := h
    refine J_iaload j3 aX1_wrongReports_53 (shEv7 hE) e4 b5 (by decide) ?_
    refine J_iload 5 aX1_wrongReports_54 rfl ?_
    refine J_icmp_ne aX1_wrongReports_56 (fun q => ?_) (fun q => ?_)
    · replace h := h.1 q
      refine J_iinc (x8 + nI 1) [(8, .int (x8 + nI 1)), (0, .ref (eb E + e)), (3, .int x3), (4, .ref (eb E + (21 + j4))), (5, .int x5), (6, .int x6), (7, .int x7)] 6 aX1_wrongReports_79 rfl (by first | rfl | (congr 1; decide +kernel)) (by decide) rfl ?_
      refine J_goto aX1_wrongReports_82 ?_
      refine J_pick [1, 2, 3, 4, 5, 6, 0] rfl ?_
      exact h
    · replace h := h.2 q
      refine J_aload_n 0 aX1_wrongReports_59 rfl ?_
      refine J_iload 6 aX1_wrongReports_60 rfl ?_
      refine J_iload 3 aX1_wrongReports_62 rfl ?_
      refine J_callV [.int x8, .int x5] [] aX1_wrongReports_64 lkX1_165_X1 okX1_isSo (shEv hE) rfl rfl rfl (Nat.le_of_ble_eq_true rfl) (Nat.le_refl _) (Mt_mono h (fun rv I6 h => ?_))
      obtain ⟨v7, rfl, h⟩ := h
      refine J_r1 ?_
      refine J_if_ne aX1_wrongReports_67 (fun q => ?_) (fun q => ?_)
      · replace h := h.1 q
        refine J_iinc (x8 + nI 1) [(8, .int (x8 + nI 1)), (0, .ref (eb E + e)), (3, .int x3), (4, .ref (eb E + (21 + j4))), (5, .int x5), (6, .int x6), (7, .int x7)] 6 aX1_wrongReports_79 rfl (by first | rfl | (congr 1; decide +kernel)) (by decide) rfl ?_
        refine J_goto aX1_wrongReports_82 ?_
        refine J_pick [1, 2, 3, 4, 5, 6, 0] rfl ?_
        exact h
      · replace h := h.2 q
        refine J_iload 4 aX1_wrongReports_70 rfl ?_
        refine J_iconst (nI 1) aX1_wrongReports_72 (by decide +kernel) ?_
        refine J_iload 6 aX1_wrongReports_73 rfl ?_
        refine J_ishl aX1_wrongReports_75 ?_
        refine J_ior aX1_wrongReports_76 ?_
        refine J_istore [(6, .int (x6 ||| ((nI 1) <<< (x8 &&& 31)))), (0, .ref (eb E + e)), (3, .int x3), (4, .ref (eb E + (21 + j4))), (5, .int x5), (7, .int x7), (8, .int x8)] aX1_wrongReports_77 (by decide) rfl ?_
        refine J_iinc (x8 + nI 1) [(8, .int (x8 + nI 1)), (6, .int (x6 ||| ((nI 1) <<< (x8 &&& 31)))), (0, .ref (eb E + e)), (3, .int x3), (4, .ref (eb E + (21 + j4))), (5, .int x5), (7, .int x7)] 6 aX1_wrongReports_79 rfl (by first | rfl | (congr 1; decide +kernel)) (by decide) rfl ?_
        refine J_goto aX1_wrongReports_82 ?_
        refine J_pick [2, 3, 4, 5, 1, 6, 0] rfl ?_
        exact h
