theorem aX12_readsName_0 : decode mX12_readsName.2.1 0 = .ok (.aload_n 0, 1) ∧ 0 + 1 = 1 := ⟨by decide +kernel, rfl⟩
theorem aX12_readsName_1 : decode mX12_readsName.2.1 1 = .ok (.aload_n 0, 1) ∧ 1 + 1 = 2 := ⟨by decide +kernel, rfl⟩
theorem aX12_readsName_2 : decode mX12_readsName.2.1 2 = .ok (.getfield 124, 3) ∧ 2 + 3 = 5 := ⟨by decide +kernel, rfl⟩
theorem aX12_readsName_5 : decode mX12_readsName.2.1 5 = .ok (.invokevirtual 130, 3) ∧ 5 + 3 = 8 := ⟨by decide +kernel, rfl⟩
theorem aX12_readsName_8 : decode mX12_readsName.2.1 8 = .ok (.bipush 97, 2) ∧ 8 + 2 = 10 := ⟨by decide +kernel, rfl⟩
theorem aX12_readsName_10 : decode mX12_readsName.2.1 10 = .ok (.bipush 122, 2) ∧ 10 + 2 = 12 := ⟨by decide +kernel, rfl⟩
theorem aX12_readsName_12 : decode mX12_readsName.2.1 12 = .ok (.invokestatic 68, 3) ∧ 12 + 3 = 15 := ⟨by decide +kernel, rfl⟩
theorem aX12_readsName_15 : decode mX12_readsName.2.1 15 = .ok (.ifCond .eq 16, 3) ∧ ((15 : Nat) : Int) + 16 = ((31 : Nat) : Int) ∧ 15 + 3 = 18 := ⟨by decide +kernel, by decide, rfl⟩
theorem aX12_readsName_18 : decode mX12_readsName.2.1 18 = .ok (.aload_n 0, 1) ∧ 18 + 1 = 19 := ⟨by decide +kernel, rfl⟩
theorem aX12_readsName_19 : decode mX12_readsName.2.1 19 = .ok (.dup, 1) ∧ 19 + 1 = 20 := ⟨by decide +kernel, rfl⟩
theorem aX12_readsName_20 : decode mX12_readsName.2.1 20 = .ok (.getfield 124, 3) ∧ 20 + 3 = 23 := ⟨by decide +kernel, rfl⟩
theorem aX12_readsName_23 : decode mX12_readsName.2.1 23 = .ok (.iconst 1, 1) ∧ 23 + 1 = 24 := ⟨by decide +kernel, rfl⟩
theorem aX12_readsName_24 : decode mX12_readsName.2.1 24 = .ok (.iadd, 1) ∧ 24 + 1 = 25 := ⟨by decide +kernel, rfl⟩
theorem aX12_readsName_25 : decode mX12_readsName.2.1 25 = .ok (.putfield 124, 3) ∧ 25 + 3 = 28 := ⟨by decide +kernel, rfl⟩
theorem aX12_readsName_28 : decode mX12_readsName.2.1 28 = .ok (.goto (-28), 3) ∧ ((28 : Nat) : Int) + (-28) = ((0 : Nat) : Int) := ⟨by decide +kernel, by decide⟩
theorem aX12_readsName_31 : decode mX12_readsName.2.1 31 = .ok (.aload_n 0, 1) ∧ 31 + 1 = 32 := ⟨by decide +kernel, rfl⟩
theorem aX12_readsName_32 : decode mX12_readsName.2.1 32 = .ok (.bipush 101, 2) ∧ 32 + 2 = 34 := ⟨by decide +kernel, rfl⟩
theorem aX12_readsName_34 : decode mX12_readsName.2.1 34 = .ok (.putfield 133, 3) ∧ 34 + 3 = 37 := ⟨by decide +kernel, rfl⟩
theorem aX12_readsName_37 : decode mX12_readsName.2.1 37 = .ok (.iconst 0, 1) ∧ 37 + 1 = 38 := ⟨by decide +kernel, rfl⟩
theorem aX12_readsName_38 : decode mX12_readsName.2.1 38 = .ok (.istore_n 1, 1) ∧ 38 + 1 = 39 := ⟨by decide +kernel, rfl⟩
theorem aX12_readsName_39 : decode mX12_readsName.2.1 39 = .ok (.iload_n 1, 1) ∧ 39 + 1 = 40 := ⟨by decide +kernel, rfl⟩
theorem aX12_readsName_40 : decode mX12_readsName.2.1 40 = .ok (.bipush 18, 2) ∧ 40 + 2 = 42 := ⟨by decide +kernel, rfl⟩
theorem aX12_readsName_42 : decode mX12_readsName.2.1 42 = .ok (.if_icmp .ge 29, 3) ∧ ((42 : Nat) : Int) + 29 = ((71 : Nat) : Int) ∧ 42 + 3 = 45 := ⟨by decide +kernel, by decide, rfl⟩
theorem aX12_readsName_45 : decode mX12_readsName.2.1 45 = .ok (.aload_n 0, 1) ∧ 45 + 1 = 46 := ⟨by decide +kernel, rfl⟩
theorem aX12_readsName_46 : decode mX12_readsName.2.1 46 = .ok (.aload_n 0, 1) ∧ 46 + 1 = 47 := ⟨by decide +kernel, rfl⟩
theorem aX12_readsName_47 : decode mX12_readsName.2.1 47 = .ok (.iload_n 1, 1) ∧ 47 + 1 = 48 := ⟨by decide +kernel, rfl⟩
theorem aX12_readsName_48 : decode mX12_readsName.2.1 48 = .ok (.invokevirtual 136, 3) ∧ 48 + 3 = 51 := ⟨by decide +kernel, rfl⟩
theorem aX12_readsName_51 : decode mX12_readsName.2.1 51 = .ok (.ifCond .eq 7, 3) ∧ ((51 : Nat) : Int) + 7 = ((58 : Nat) : Int) ∧ 51 + 3 = 54 := ⟨by decide +kernel, by decide, rfl⟩
theorem aX12_readsName_54 : decode mX12_readsName.2.1 54 = .ok (.iload_n 1, 1) ∧ 54 + 1 = 55 := ⟨by decide +kernel, rfl⟩
theorem aX12_readsName_55 : decode mX12_readsName.2.1 55 = .ok (.goto 7, 3) ∧ ((55 : Nat) : Int) + 7 = ((62 : Nat) : Int) := ⟨by decide +kernel, by decide⟩
theorem aX12_readsName_58 : decode mX12_readsName.2.1 58 = .ok (.aload_n 0, 1) ∧ 58 + 1 = 59 := ⟨by decide +kernel, rfl⟩
theorem aX12_readsName_59 : decode mX12_readsName.2.1 59 = .ok (.getfield 133, 3) ∧ 59 + 3 = 62 := ⟨by decide +kernel, rfl⟩
theorem aX12_readsName_62 : decode mX12_readsName.2.1 62 = .ok (.putfield 133, 3) ∧ 62 + 3 = 65 := ⟨by decide +kernel, rfl⟩
theorem aX12_readsName_65 : decode mX12_readsName.2.1 65 = .ok (.iinc 1 1, 3) ∧ 65 + 3 = 68 := ⟨by decide +kernel, rfl⟩
theorem aX12_readsName_68 : decode mX12_readsName.2.1 68 = .ok (.goto (-29), 3) ∧ ((68 : Nat) : Int) + (-29) = ((39 : Nat) : Int) := ⟨by decide +kernel, by decide⟩
theorem aX12_readsName_71 : decode mX12_readsName.2.1 71 = .ok (.return_, 1) := by decide +kernel
theorem S_X12_readsName {E : EE} {d : Nat} {I : IH} {Q : QT}  (h :
(Mt E d mX12_byteAt [.ref (eb E + 115), .int (I 115 8)] I (fun rv I1 => ∃ v2 : Int32, rv = some (.int v2) ∧
 (Mt E d mX12_in1 [.int v2, .int (nI 97), .int (nI 122)] I1 (fun rv I3 => ∃ v4 : Int32, rv = some (.int v4) ∧
 ((v4 = 0 → (∀ I5 : IH, I5 = stI I3 115 10 (nI 101) →
 J E (d + 1) mX12_readsName 39 [(0, .ref (eb E + 115)), (1, .int (nI 0))] [] I5 Q)) ∧
 (¬ v4 = 0 → (∀ I7 : IH, I7 = stI I3 115 8 ((I3 115 8) + (nI 1)) →
 J E (d + 1) mX12_readsName 0 [(0, .ref (eb E + 115))] [] I7 Q)))))))) : Mt E (d + 1) mX12_readsName [.ref (eb E + 115)] I Q := by
  refine Mt_of [(0, .ref (eb E + 115))] (by decide +kernel) (by simp [lg_sl, Value.category, mX12_readsName]) rfl ?_
  refine J_aload_n 0 aX12_readsName_0 rfl ?_
  refine J_aload_n 0 aX12_readsName_1 rfl ?_
  refine J_getI aX12_readsName_2 flX12_124 sh115 rfl ?_
  refine J_callV [.int (I 115 8)] [] aX12_readsName_5 lkX12_130_X12 okX12_byteAt sh115 rfl rfl rfl (Nat.le_of_ble_eq_true rfl) (Nat.le_refl _) (Mt_mono h (fun rv I1 h => ?_))
  obtain ⟨v2, rfl, h⟩ := h
  refine J_r1 ?_
  refine J_bipush (nI 97) aX12_readsName_8 (by decide +kernel) ?_
  refine J_bipush (nI 122) aX12_readsName_10 (by decide +kernel) ?_
  refine J_callS [.int v2, .int (nI 97), .int (nI 122)] [] aX12_readsName_12 lkX12_68 okX12_in1 rfl rfl (Nat.le_of_ble_eq_true rfl) (Nat.le_refl _) (Mt_mono h (fun rv I3 h => ?_))
  obtain ⟨v4, rfl, h⟩ := h
  refine J_r1 ?_
  refine J_if_eq aX12_readsName_15 (fun q => ?_) (fun q => ?_)
  · replace h := h.1 q
    refine J_aload_n 0 aX12_readsName_31 rfl ?_
    refine J_bipush (nI 101) aX12_readsName_32 (by decide +kernel) ?_
    refine J_putI aX12_readsName_34 fpX12_133 sh115 rfl (fun I5 e6 => ?_)
    replace h := h I5 e6
    refine J_iconst (nI 0) aX12_readsName_37 (by decide +kernel) ?_
    refine J_istore_n [(1, .int (nI 0)), (0, .ref (eb E + 115))] aX12_readsName_38 (by decide) rfl ?_
    refine J_pick [1, 0] rfl ?_
    exact h
  · replace h := h.2 q
    refine J_aload_n 0 aX12_readsName_18 rfl ?_
    refine J_dup aX12_readsName_19 rfl ?_
    refine J_getI aX12_readsName_20 flX12_124 sh115 rfl ?_
    refine J_iconst (nI 1) aX12_readsName_23 (by decide +kernel) ?_
    refine J_iadd aX12_readsName_24 ?_
    refine J_putI aX12_readsName_25 fpX12_124 sh115 rfl (fun I7 e8 => ?_)
    replace h := h I7 e8
    refine J_goto aX12_readsName_28 ?_
    refine J_pick [0] rfl ?_
    exact h
theorem S_X12_readsName_39 {E : EE} {d : Nat} {I : IH} {Q : QT} (x1 : Int32) (h :
(((nI 18) ≤ x1 → Q none I) ∧
 (¬ (nI 18) ≤ x1 → (Mt E d mX12_isNameOf [.ref (eb E + 115), .int x1] I (fun rv I1 => ∃ v2 : Int32, rv = some (.int v2) ∧
 ((v2 = 0 → (∀ I3 : IH, I3 = stI I1 115 10 (I1 115 10) →
 J E (d + 1) mX12_readsName 39 [(0, .ref (eb E + 115)), (1, .int (x1 + nI 1))] [] I3 Q)) ∧
 (¬ v2 = 0 → (∀ I5 : IH, I5 = stI I1 115 10 x1 →
 J E (d + 1) mX12_readsName 39 [(0, .ref (eb E + 115)), (1, .int (x1 + nI 1))] [] I5 Q)))))))) : J E (d + 1) mX12_readsName 39 [(0, .ref (eb E + 115)), (1, .int x1)] [] I Q := by
  refine J_iload_n 1 aX12_readsName_39 rfl ?_
  refine J_bipush (nI 18) aX12_readsName_40 (by decide +kernel) ?_
  refine J_icmp_ge aX12_readsName_42 (fun q => ?_) (fun q => ?_)
  · replace h := h.1 q
    exact J_vret aX12_readsName_71 rfl h
  · replace h := h.2 q
    refine J_aload_n 0 aX12_readsName_45 rfl ?_
    refine J_aload_n 0 aX12_readsName_46 rfl ?_
    refine J_iload_n 1 aX12_readsName_47 rfl ?_
    refine J_callV [.int x1] [.ref (eb E + 115)] aX12_readsName_48 lkX12_136_X12 okX12_isNameOf sh115 rfl rfl rfl (Nat.le_of_ble_eq_true rfl) (Nat.le_refl _) (Mt_mono h (fun rv I1 h => ?_))
    obtain ⟨v2, rfl, h⟩ := h
    refine J_r1 ?_
    refine J_if_eq aX12_readsName_51 (fun q => ?_) (fun q => ?_)
    · replace h := h.1 q
      refine J_aload_n 0 aX12_readsName_58 rfl ?_
      refine J_getI aX12_readsName_59 flX12_133 sh115 rfl ?_
      refine J_putI aX12_readsName_62 fpX12_133 sh115 rfl (fun I3 e4 => ?_)
      replace h := h I3 e4
      refine J_iinc (x1 + nI 1) [(1, .int (x1 + nI 1)), (0, .ref (eb E + 115))] 1 aX12_readsName_65 rfl (by first | rfl | (congr 1; decide +kernel)) (by decide) rfl ?_
      refine J_goto aX12_readsName_68 ?_
      refine J_pick [1, 0] rfl ?_
      exact h
    · replace h := h.2 q
      refine J_iload_n 1 aX12_readsName_54 rfl ?_
      refine J_goto aX12_readsName_55 ?_
      refine J_putI aX12_readsName_62 fpX12_133 sh115 rfl (fun I5 e6 => ?_)
      replace h := h I5 e6
      refine J_iinc (x1 + nI 1) [(1, .int (x1 + nI 1)), (0, .ref (eb E + 115))] 1 aX12_readsName_65 rfl (by first | rfl | (congr 1; decide +kernel)) (by decide) rfl ?_
      refine J_goto aX12_readsName_68 ?_
      refine J_pick [1, 0] rfl ?_
      exact h
theorem S_X12_readsName_0 {E : EE} {d : Nat} {I : IH} {Q : QT}  (h :
(Mt E d mX12_byteAt [.ref (eb E + 115), .int (I 115 8)] I (fun rv I1 => ∃ v2 : Int32, rv = some (.int v2) ∧
 (Mt E d mX12_in1 [.int v2, .int (nI 97), .int (nI 122)] I1 (fun rv I3 => ∃ v4 : Int32, rv = some (.int v4) ∧
 ((v4 = 0 → (∀ I5 : IH, I5 = stI I3 115 10 (nI 101) →
 J E (d + 1) mX12_readsName 39 [(0, .ref (eb E + 115)), (1, .int (nI 0))] [] I5 Q)) ∧
 (¬ v4 = 0 → (∀ I7 : IH, I7 = stI I3 115 8 ((I3 115 8) + (nI 1)) →
 J E (d + 1) mX12_readsName 0 [(0, .ref (eb E + 115))] [] I7 Q)))))))) : J E (d + 1) mX12_readsName 0 [(0, .ref (eb E + 115))] [] I Q := by
  refine J_aload_n 0 aX12_readsName_0 rfl ?_
  refine J_aload_n 0 aX12_readsName_1 rfl ?_
  refine J_getI aX12_readsName_2 flX12_124 sh115 rfl ?_
  refine J_callV [.int (I 115 8)] [] aX12_readsName_5 lkX12_130_X12 okX12_byteAt sh115 rfl rfl rfl (Nat.le_of_ble_eq_true rfl) (Nat.le_refl _) (Mt_mono h (fun rv I1 h => ?_))
  obtain ⟨v2, rfl, h⟩ := h
  refine J_r1 ?_
  refine J_bipush (nI 97) aX12_readsName_8 (by decide +kernel) ?_
  refine J_bipush (nI 122) aX12_readsName_10 (by decide +kernel) ?_
  refine J_callS [.int v2, .int (nI 97), .int (nI 122)] [] aX12_readsName_12 lkX12_68 okX12_in1 rfl rfl (Nat.le_of_ble_eq_true rfl) (Nat.le_refl _) (Mt_mono h (fun rv I3 h => ?_))
  obtain ⟨v4, rfl, h⟩ := h
  refine J_r1 ?_
  refine J_if_eq aX12_readsName_15 (fun q => ?_) (fun q => ?_)
  · replace h := h.1 q
    refine J_aload_n 0 aX12_readsName_31 rfl ?_
    refine J_bipush (nI 101) aX12_readsName_32 (by decide +kernel) ?_
    refine J_putI aX12_readsName_34 fpX12_133 sh115 rfl (fun I5 e6 => ?_)
    replace h := h I5 e6
    refine J_iconst (nI 0) aX12_readsName_37 (by decide +kernel) ?_
    refine J_istore_n [(1, .int (nI 0)), (0, .ref (eb E + 115))] aX12_readsName_38 (by decide) rfl ?_
    refine J_pick [1, 0] rfl ?_
    exact h
  · replace h := h.2 q
    refine J_aload_n 0 aX12_readsName_18 rfl ?_
    refine J_dup aX12_readsName_19 rfl ?_
    refine J_getI aX12_readsName_20 flX12_124 sh115 rfl ?_
    refine J_iconst (nI 1) aX12_readsName_23 (by decide +kernel) ?_
    refine J_iadd aX12_readsName_24 ?_
    refine J_putI aX12_readsName_25 fpX12_124 sh115 rfl (fun I7 e8 => ?_)
    replace h := h I7 e8
    refine J_goto aX12_readsName_28 ?_
    refine J_pick [0] rfl ?_
    exact h
theorem aX12_readsNumber_0 : decode mX12_readsNumber.2.1 0 = .ok (.aload_n 0, 1) ∧ 0 + 1 = 1 := ⟨by decide +kernel, rfl⟩
theorem aX12_readsNumber_1 : decode mX12_readsNumber.2.1 1 = .ok (.iconst 0, 1) ∧ 1 + 1 = 2 := ⟨by decide +kernel, rfl⟩
theorem aX12_readsNumber_2 : decode mX12_readsNumber.2.1 2 = .ok (.putfield 139, 3) ∧ 2 + 3 = 5 := ⟨by decide +kernel, rfl⟩
theorem aX12_readsNumber_5 : decode mX12_readsNumber.2.1 5 = .ok (.aload_n 0, 1) ∧ 5 + 1 = 6 := ⟨by decide +kernel, rfl⟩
theorem aX12_readsNumber_6 : decode mX12_readsNumber.2.1 6 = .ok (.aload_n 0, 1) ∧ 6 + 1 = 7 := ⟨by decide +kernel, rfl⟩
theorem aX12_readsNumber_7 : decode mX12_readsNumber.2.1 7 = .ok (.getfield 124, 3) ∧ 7 + 3 = 10 := ⟨by decide +kernel, rfl⟩
theorem aX12_readsNumber_10 : decode mX12_readsNumber.2.1 10 = .ok (.invokevirtual 130, 3) ∧ 10 + 3 = 13 := ⟨by decide +kernel, rfl⟩
theorem aX12_readsNumber_13 : decode mX12_readsNumber.2.1 13 = .ok (.bipush 48, 2) ∧ 13 + 2 = 15 := ⟨by decide +kernel, rfl⟩
theorem aX12_readsNumber_15 : decode mX12_readsNumber.2.1 15 = .ok (.bipush 57, 2) ∧ 15 + 2 = 17 := ⟨by decide +kernel, rfl⟩
theorem aX12_readsNumber_17 : decode mX12_readsNumber.2.1 17 = .ok (.invokestatic 68, 3) ∧ 17 + 3 = 20 := ⟨by decide +kernel, rfl⟩
theorem aX12_readsNumber_20 : decode mX12_readsNumber.2.1 20 = .ok (.ifCond .eq 59, 3) ∧ ((20 : Nat) : Int) + 59 = ((79 : Nat) : Int) ∧ 20 + 3 = 23 := ⟨by decide +kernel, by decide, rfl⟩
theorem aX12_readsNumber_23 : decode mX12_readsNumber.2.1 23 = .ok (.aload_n 0, 1) ∧ 23 + 1 = 24 := ⟨by decide +kernel, rfl⟩
theorem aX12_readsNumber_24 : decode mX12_readsNumber.2.1 24 = .ok (.aload_n 0, 1) ∧ 24 + 1 = 25 := ⟨by decide +kernel, rfl⟩
theorem aX12_readsNumber_25 : decode mX12_readsNumber.2.1 25 = .ok (.getfield 124, 3) ∧ 25 + 3 = 28 := ⟨by decide +kernel, rfl⟩
theorem aX12_readsNumber_28 : decode mX12_readsNumber.2.1 28 = .ok (.aload_n 0, 1) ∧ 28 + 1 = 29 := ⟨by decide +kernel, rfl⟩
theorem aX12_readsNumber_29 : decode mX12_readsNumber.2.1 29 = .ok (.getfield 127, 3) ∧ 29 + 3 = 32 := ⟨by decide +kernel, rfl⟩
theorem aX12_readsNumber_32 : decode mX12_readsNumber.2.1 32 = .ok (.isub, 1) ∧ 32 + 1 = 33 := ⟨by decide +kernel, rfl⟩
theorem aX12_readsNumber_33 : decode mX12_readsNumber.2.1 33 = .ok (.iconst 4, 1) ∧ 33 + 1 = 34 := ⟨by decide +kernel, rfl⟩
theorem aX12_readsNumber_34 : decode mX12_readsNumber.2.1 34 = .ok (.if_icmp .ge 25, 3) ∧ ((34 : Nat) : Int) + 25 = ((59 : Nat) : Int) ∧ 34 + 3 = 37 := ⟨by decide +kernel, by decide, rfl⟩
theorem aX12_readsNumber_37 : decode mX12_readsNumber.2.1 37 = .ok (.bipush 10, 2) ∧ 37 + 2 = 39 := ⟨by decide +kernel, rfl⟩
theorem aX12_readsNumber_39 : decode mX12_readsNumber.2.1 39 = .ok (.aload_n 0, 1) ∧ 39 + 1 = 40 := ⟨by decide +kernel, rfl⟩
theorem aX12_readsNumber_40 : decode mX12_readsNumber.2.1 40 = .ok (.getfield 139, 3) ∧ 40 + 3 = 43 := ⟨by decide +kernel, rfl⟩
theorem aX12_readsNumber_43 : decode mX12_readsNumber.2.1 43 = .ok (.imul, 1) ∧ 43 + 1 = 44 := ⟨by decide +kernel, rfl⟩
theorem aX12_readsNumber_44 : decode mX12_readsNumber.2.1 44 = .ok (.aload_n 0, 1) ∧ 44 + 1 = 45 := ⟨by decide +kernel, rfl⟩
theorem aX12_readsNumber_45 : decode mX12_readsNumber.2.1 45 = .ok (.aload_n 0, 1) ∧ 45 + 1 = 46 := ⟨by decide +kernel, rfl⟩
theorem aX12_readsNumber_46 : decode mX12_readsNumber.2.1 46 = .ok (.getfield 124, 3) ∧ 46 + 3 = 49 := ⟨by decide +kernel, rfl⟩
theorem aX12_readsNumber_49 : decode mX12_readsNumber.2.1 49 = .ok (.invokevirtual 130, 3) ∧ 49 + 3 = 52 := ⟨by decide +kernel, rfl⟩
theorem aX12_readsNumber_52 : decode mX12_readsNumber.2.1 52 = .ok (.iadd, 1) ∧ 52 + 1 = 53 := ⟨by decide +kernel, rfl⟩
theorem aX12_readsNumber_53 : decode mX12_readsNumber.2.1 53 = .ok (.bipush 48, 2) ∧ 53 + 2 = 55 := ⟨by decide +kernel, rfl⟩
theorem aX12_readsNumber_55 : decode mX12_readsNumber.2.1 55 = .ok (.isub, 1) ∧ 55 + 1 = 56 := ⟨by decide +kernel, rfl⟩
theorem aX12_readsNumber_56 : decode mX12_readsNumber.2.1 56 = .ok (.goto 7, 3) ∧ ((56 : Nat) : Int) + 7 = ((63 : Nat) : Int) := ⟨by decide +kernel, by decide⟩
theorem aX12_readsNumber_59 : decode mX12_readsNumber.2.1 59 = .ok (.aload_n 0, 1) ∧ 59 + 1 = 60 := ⟨by decide +kernel, rfl⟩
theorem aX12_readsNumber_60 : decode mX12_readsNumber.2.1 60 = .ok (.getfield 139, 3) ∧ 60 + 3 = 63 := ⟨by decide +kernel, rfl⟩
theorem aX12_readsNumber_63 : decode mX12_readsNumber.2.1 63 = .ok (.putfield 139, 3) ∧ 63 + 3 = 66 := ⟨by decide +kernel, rfl⟩
theorem aX12_readsNumber_66 : decode mX12_readsNumber.2.1 66 = .ok (.aload_n 0, 1) ∧ 66 + 1 = 67 := ⟨by decide +kernel, rfl⟩
theorem aX12_readsNumber_67 : decode mX12_readsNumber.2.1 67 = .ok (.dup, 1) ∧ 67 + 1 = 68 := ⟨by decide +kernel, rfl⟩
theorem aX12_readsNumber_68 : decode mX12_readsNumber.2.1 68 = .ok (.getfield 124, 3) ∧ 68 + 3 = 71 := ⟨by decide +kernel, rfl⟩
theorem aX12_readsNumber_71 : decode mX12_readsNumber.2.1 71 = .ok (.iconst 1, 1) ∧ 71 + 1 = 72 := ⟨by decide +kernel, rfl⟩
theorem aX12_readsNumber_72 : decode mX12_readsNumber.2.1 72 = .ok (.iadd, 1) ∧ 72 + 1 = 73 := ⟨by decide +kernel, rfl⟩
theorem aX12_readsNumber_73 : decode mX12_readsNumber.2.1 73 = .ok (.putfield 124, 3) ∧ 73 + 3 = 76 := ⟨by decide +kernel, rfl⟩
theorem aX12_readsNumber_76 : decode mX12_readsNumber.2.1 76 = .ok (.goto (-71), 3) ∧ ((76 : Nat) : Int) + (-71) = ((5 : Nat) : Int) := ⟨by decide +kernel, by decide⟩
theorem aX12_readsNumber_79 : decode mX12_readsNumber.2.1 79 = .ok (.aload_n 0, 1) ∧ 79 + 1 = 80 := ⟨by decide +kernel, rfl⟩
theorem aX12_readsNumber_80 : decode mX12_readsNumber.2.1 80 = .ok (.aload_n 0, 1) ∧ 80 + 1 = 81 := ⟨by decide +kernel, rfl⟩
theorem aX12_readsNumber_81 : decode mX12_readsNumber.2.1 81 = .ok (.getfield 124, 3) ∧ 81 + 3 = 84 := ⟨by decide +kernel, rfl⟩
theorem aX12_readsNumber_84 : decode mX12_readsNumber.2.1 84 = .ok (.aload_n 0, 1) ∧ 84 + 1 = 85 := ⟨by decide +kernel, rfl⟩
theorem aX12_readsNumber_85 : decode mX12_readsNumber.2.1 85 = .ok (.getfield 127, 3) ∧ 85 + 3 = 88 := ⟨by decide +kernel, rfl⟩
theorem aX12_readsNumber_88 : decode mX12_readsNumber.2.1 88 = .ok (.isub, 1) ∧ 88 + 1 = 89 := ⟨by decide +kernel, rfl⟩
theorem aX12_readsNumber_89 : decode mX12_readsNumber.2.1 89 = .ok (.iconst 4, 1) ∧ 89 + 1 = 90 := ⟨by decide +kernel, rfl⟩
theorem aX12_readsNumber_90 : decode mX12_readsNumber.2.1 90 = .ok (.if_icmp .le 8, 3) ∧ ((90 : Nat) : Int) + 8 = ((98 : Nat) : Int) ∧ 90 + 3 = 93 := ⟨by decide +kernel, by decide, rfl⟩
theorem aX12_readsNumber_93 : decode mX12_readsNumber.2.1 93 = .ok (.bipush 101, 2) ∧ 93 + 2 = 95 := ⟨by decide +kernel, rfl⟩
theorem aX12_readsNumber_95 : decode mX12_readsNumber.2.1 95 = .ok (.goto 5, 3) ∧ ((95 : Nat) : Int) + 5 = ((100 : Nat) : Int) := ⟨by decide +kernel, by decide⟩
theorem aX12_readsNumber_98 : decode mX12_readsNumber.2.1 98 = .ok (.bipush 100, 2) ∧ 98 + 2 = 100 := ⟨by decide +kernel, rfl⟩
theorem aX12_readsNumber_100 : decode mX12_readsNumber.2.1 100 = .ok (.putfield 133, 3) ∧ 100 + 3 = 103 := ⟨by decide +kernel, rfl⟩
theorem aX12_readsNumber_103 : decode mX12_readsNumber.2.1 103 = .ok (.return_, 1) := by decide +kernel
theorem S_X12_readsNumber {E : EE} {d : Nat} {I : IH} {Q : QT}  (h :
(∀ I1 : IH, I1 = stI I 115 11 (nI 0) →
 J E (d + 1) mX12_readsNumber 5 [(0, .ref (eb E + 115))] [] I1 Q)) : Mt E (d + 1) mX12_readsNumber [.ref (eb E + 115)] I Q := by
  refine Mt_of [(0, .ref (eb E + 115))] (by decide +kernel) (by simp [lg_sl, Value.category, mX12_readsNumber]) rfl ?_
  refine J_aload_n 0 aX12_readsNumber_0 rfl ?_
  refine J_iconst (nI 0) aX12_readsNumber_1 (by decide +kernel) ?_
  refine J_putI aX12_readsNumber_2 fpX12_139 sh115 rfl (fun I1 e2 => ?_)
  replace h := h I1 e2
  refine J_pick [0] rfl ?_
  exact h
theorem S_X12_readsNumber_5 {E : EE} {d : Nat} {I : IH} {Q : QT}  (h :
(Mt E d mX12_byteAt [.ref (eb E + 115), .int (I 115 8)] I (fun rv I1 => ∃ v2 : Int32, rv = some (.int v2) ∧
 (Mt E d mX12_in1 [.int v2, .int (nI 48), .int (nI 57)] I1 (fun rv I3 => ∃ v4 : Int32, rv = some (.int v4) ∧
 ((v4 = 0 → ((((I3 115 8) - (I3 115 9)) ≤ (nI 4) → (∀ I5 : IH, I5 = stI I3 115 10 (nI 100) →
 Q none I5)) ∧
 (¬ ((I3 115 8) - (I3 115 9)) ≤ (nI 4) → (∀ I7 : IH, I7 = stI I3 115 10 (nI 101) →
 Q none I7)))) ∧
 (¬ v4 = 0 → (((nI 4) ≤ ((I3 115 8) - (I3 115 9)) → (∀ I9 : IH, I9 = stI I3 115 11 (I3 115 11) →
 (∀ I11 : IH, I11 = stI I9 115 8 ((I9 115 8) + (nI 1)) →
 J E (d + 1) mX12_readsNumber 5 [(0, .ref (eb E + 115))] [] I11 Q))) ∧
 (¬ (nI 4) ≤ ((I3 115 8) - (I3 115 9)) → (Mt E d mX12_byteAt [.ref (eb E + 115), .int (I3 115 8)] I3 (fun rv I13 => ∃ v14 : Int32, rv = some (.int v14) ∧
 (∀ I15 : IH, I15 = stI I13 115 11 ((((nI 10) * (I3 115 11)) + v14) - (nI 48)) →
 (∀ I17 : IH, I17 = stI I15 115 8 ((I15 115 8) + (nI 1)) →
 J E (d + 1) mX12_readsNumber 5 [(0, .ref (eb E + 115))] [] I17 Q))))))))))))) : J E (d + 1) mX12_readsNumber 5 [(0, .ref (eb E + 115))] [] I Q := by
  refine J_aload_n 0 aX12_readsNumber_5 rfl ?_
  refine J_aload_n 0 aX12_readsNumber_6 rfl ?_
  refine J_getI aX12_readsNumber_7 flX12_124 sh115 rfl ?_
  refine J_callV [.int (I 115 8)] [] aX12_readsNumber_10 lkX12_130_X12 okX12_byteAt sh115 rfl rfl rfl (Nat.le_of_ble_eq_true rfl) (Nat.le_refl _) (Mt_mono h (fun rv I1 h => ?_))
  obtain ⟨v2, rfl, h⟩ := h
  refine J_r1 ?_
  refine J_bipush (nI 48) aX12_readsNumber_13 (by decide +kernel) ?_
  refine J_bipush (nI 57) aX12_readsNumber_15 (by decide +kernel) ?_
  refine J_callS [.int v2, .int (nI 48), .int (nI 57)] [] aX12_readsNumber_17 lkX12_68 okX12_in1 rfl rfl (Nat.le_of_ble_eq_true rfl) (Nat.le_refl _) (Mt_mono h (fun rv I3 h => ?_))
  obtain ⟨v4, rfl, h⟩ := h
  refine J_r1 ?_
  refine J_if_eq aX12_readsNumber_20 (fun q => ?_) (fun q => ?_)
  · replace h := h.1 q
    refine J_aload_n 0 aX12_readsNumber_79 rfl ?_
    refine J_aload_n 0 aX12_readsNumber_80 rfl ?_
    refine J_getI aX12_readsNumber_81 flX12_124 sh115 rfl ?_
    refine J_aload_n 0 aX12_readsNumber_84 rfl ?_
    refine J_getI aX12_readsNumber_85 flX12_127 sh115 rfl ?_
    refine J_isub aX12_readsNumber_88 ?_
    refine J_iconst (nI 4) aX12_readsNumber_89 (by decide +kernel) ?_
    refine J_icmp_le aX12_readsNumber_90 (fun q => ?_) (fun q => ?_)
    · replace h := h.1 q
      refine J_bipush (nI 100) aX12_readsNumber_98 (by decide +kernel) ?_
      refine J_putI aX12_readsNumber_100 fpX12_133 sh115 rfl (fun I5 e6 => ?_)
      replace h := h I5 e6
      exact J_vret aX12_readsNumber_103 rfl h
    · replace h := h.2 q
      refine J_bipush (nI 101) aX12_readsNumber_93 (by decide +kernel) ?_
      refine J_goto aX12_readsNumber_95 ?_
      refine J_putI aX12_readsNumber_100 fpX12_133 sh115 rfl (fun I7 e8 => ?_)
      replace h := h I7 e8
      exact J_vret aX12_readsNumber_103 rfl h
  · replace h := h.2 q
    refine J_aload_n 0 aX12_readsNumber_23 rfl ?_
    refine J_aload_n 0 aX12_readsNumber_24 rfl ?_
    refine J_getI aX12_readsNumber_25 flX12_124 sh115 rfl ?_
    refine J_aload_n 0 aX12_readsNumber_28 rfl ?_
    refine J_getI aX12_readsNumber_29 flX12_127 sh115 rfl ?_
    refine J_isub aX12_readsNumber_32 ?_
    refine J_iconst (nI 4) aX12_readsNumber_33 (by decide +kernel) ?_
    refine J_icmp_ge aX12_readsNumber_34 (fun q => ?_) (fun q => ?_)
    · replace h := h.1 q
      refine J_aload_n 0 aX12_readsNumber_59 rfl ?_
      refine J_getI aX12_readsNumber_60 flX12_139 sh115 rfl ?_
      refine J_putI aX12_readsNumber_63 fpX12_139 sh115 rfl (fun I9 e10 => ?_)
      replace h := h I9 e10
      refine J_aload_n 0 aX12_readsNumber_66 rfl ?_
      refine J_dup aX12_readsNumber_67 rfl ?_
      refine J_getI aX12_readsNumber_68 flX12_124 sh115 rfl ?_
      refine J_iconst (nI 1) aX12_readsNumber_71 (by decide +kernel) ?_
      refine J_iadd aX12_readsNumber_72 ?_
      refine J_putI aX12_readsNumber_73 fpX12_124 sh115 rfl (fun I11 e12 => ?_)
      replace h := h I11 e12
      refine J_goto aX12_readsNumber_76 ?_
      refine J_pick [0] rfl ?_
      exact h
    · replace h := h.2 q
      refine J_bipush (nI 10) aX12_readsNumber_37 (by decide +kernel) ?_
      refine J_aload_n 0 aX12_readsNumber_39 rfl ?_
      refine J_getI aX12_readsNumber_40 flX12_139 sh115 rfl ?_
      refine J_imul aX12_readsNumber_43 ?_
      refine J_aload_n 0 aX12_readsNumber_44 rfl ?_
      refine J_aload_n 0 aX12_readsNumber_45 rfl ?_
      refine J_getI aX12_readsNumber_46 flX12_124 sh115 rfl ?_
      refine J_callV [.int (I3 115 8)] [.int ((nI 10) * (I3 115 11)), .ref (eb E + 115)] aX12_readsNumber_49 lkX12_130_X12 okX12_byteAt sh115 rfl rfl rfl (Nat.le_of_ble_eq_true rfl) (Nat.le_refl _) (Mt_mono h (fun rv I13 h => ?_))
      obtain ⟨v14, rfl, h⟩ := h
      refine J_r1 ?_
      refine J_iadd aX12_readsNumber_52 ?_
      refine J_bipush (nI 48) aX12_readsNumber_53 (by decide +kernel) ?_
      refine J_isub aX12_readsNumber_55 ?_
      refine J_goto aX12_readsNumber_56 ?_
      refine J_putI aX12_readsNumber_63 fpX12_139 sh115 rfl (fun I15 e16 => ?_)
      replace h := h I15 e16
      refine J_aload_n 0 aX12_readsNumber_66 rfl ?_
      refine J_dup aX12_readsNumber_67 rfl ?_
      refine J_getI aX12_readsNumber_68 flX12_124 sh115 rfl ?_
      refine J_iconst (nI 1) aX12_readsNumber_71 (by decide +kernel) ?_
      refine J_iadd aX12_readsNumber_72 ?_
      refine J_putI aX12_readsNumber_73 fpX12_124 sh115 rfl (fun I17 e18 => ?_)
      replace h := h I17 e18
      refine J_goto aX12_readsNumber_76 ?_
      refine J_pick [0] rfl ?_
      exact h
theorem aX12_next_0 : decode mX12_next.2.1 0 = .ok (.aload_n 0, 1) ∧ 0 + 1 = 1 := ⟨by decide +kernel, rfl⟩
theorem aX12_next_1 : decode mX12_next.2.1 1 = .ok (.aload_n 0, 1) ∧ 1 + 1 = 2 := ⟨by decide +kernel, rfl⟩
theorem aX12_next_2 : decode mX12_next.2.1 2 = .ok (.getfield 124, 3) ∧ 2 + 3 = 5 := ⟨by decide +kernel, rfl⟩
theorem aX12_next_5 : decode mX12_next.2.1 5 = .ok (.invokevirtual 130, 3) ∧ 5 + 3 = 8 := ⟨by decide +kernel, rfl⟩
theorem aX12_next_8 : decode mX12_next.2.1 8 = .ok (.bipush 32, 2) ∧ 8 + 2 = 10 := ⟨by decide +kernel, rfl⟩
theorem aX12_next_10 : decode mX12_next.2.1 10 = .ok (.if_icmp .ne 16, 3) ∧ ((10 : Nat) : Int) + 16 = ((26 : Nat) : Int) ∧ 10 + 3 = 13 := ⟨by decide +kernel, by decide, rfl⟩
theorem aX12_next_13 : decode mX12_next.2.1 13 = .ok (.aload_n 0, 1) ∧ 13 + 1 = 14 := ⟨by decide +kernel, rfl⟩
theorem aX12_next_14 : decode mX12_next.2.1 14 = .ok (.dup, 1) ∧ 14 + 1 = 15 := ⟨by decide +kernel, rfl⟩
theorem aX12_next_15 : decode mX12_next.2.1 15 = .ok (.getfield 124, 3) ∧ 15 + 3 = 18 := ⟨by decide +kernel, rfl⟩
theorem aX12_next_18 : decode mX12_next.2.1 18 = .ok (.iconst 1, 1) ∧ 18 + 1 = 19 := ⟨by decide +kernel, rfl⟩
theorem aX12_next_19 : decode mX12_next.2.1 19 = .ok (.iadd, 1) ∧ 19 + 1 = 20 := ⟨by decide +kernel, rfl⟩
theorem aX12_next_20 : decode mX12_next.2.1 20 = .ok (.putfield 124, 3) ∧ 20 + 3 = 23 := ⟨by decide +kernel, rfl⟩
theorem aX12_next_23 : decode mX12_next.2.1 23 = .ok (.goto (-23), 3) ∧ ((23 : Nat) : Int) + (-23) = ((0 : Nat) : Int) := ⟨by decide +kernel, by decide⟩
theorem aX12_next_26 : decode mX12_next.2.1 26 = .ok (.aload_n 0, 1) ∧ 26 + 1 = 27 := ⟨by decide +kernel, rfl⟩
theorem aX12_next_27 : decode mX12_next.2.1 27 = .ok (.aload_n 0, 1) ∧ 27 + 1 = 28 := ⟨by decide +kernel, rfl⟩
theorem aX12_next_28 : decode mX12_next.2.1 28 = .ok (.getfield 124, 3) ∧ 28 + 3 = 31 := ⟨by decide +kernel, rfl⟩
theorem aX12_next_31 : decode mX12_next.2.1 31 = .ok (.putfield 127, 3) ∧ 31 + 3 = 34 := ⟨by decide +kernel, rfl⟩
theorem aX12_next_34 : decode mX12_next.2.1 34 = .ok (.aload_n 0, 1) ∧ 34 + 1 = 35 := ⟨by decide +kernel, rfl⟩
theorem aX12_next_35 : decode mX12_next.2.1 35 = .ok (.aload_n 0, 1) ∧ 35 + 1 = 36 := ⟨by decide +kernel, rfl⟩
theorem aX12_next_36 : decode mX12_next.2.1 36 = .ok (.getfield 124, 3) ∧ 36 + 3 = 39 := ⟨by decide +kernel, rfl⟩
theorem aX12_next_39 : decode mX12_next.2.1 39 = .ok (.invokevirtual 130, 3) ∧ 39 + 3 = 42 := ⟨by decide +kernel, rfl⟩
theorem aX12_next_42 : decode mX12_next.2.1 42 = .ok (.istore_n 1, 1) ∧ 42 + 1 = 43 := ⟨by decide +kernel, rfl⟩
theorem aX12_next_43 : decode mX12_next.2.1 43 = .ok (.iload_n 1, 1) ∧ 43 + 1 = 44 := ⟨by decide +kernel, rfl⟩
theorem aX12_next_44 : decode mX12_next.2.1 44 = .ok (.ifCond .ge 11, 3) ∧ ((44 : Nat) : Int) + 11 = ((55 : Nat) : Int) ∧ 44 + 3 = 47 := ⟨by decide +kernel, by decide, rfl⟩
theorem aX12_next_47 : decode mX12_next.2.1 47 = .ok (.aload_n 0, 1) ∧ 47 + 1 = 48 := ⟨by decide +kernel, rfl⟩
theorem aX12_next_48 : decode mX12_next.2.1 48 = .ok (.iconst (-1), 1) ∧ 48 + 1 = 49 := ⟨by decide +kernel, rfl⟩
theorem aX12_next_49 : decode mX12_next.2.1 49 = .ok (.putfield 133, 3) ∧ 49 + 3 = 52 := ⟨by decide +kernel, rfl⟩
theorem aX12_next_52 : decode mX12_next.2.1 52 = .ok (.goto 58, 3) ∧ ((52 : Nat) : Int) + 58 = ((110 : Nat) : Int) := ⟨by decide +kernel, by decide⟩
theorem aX12_next_55 : decode mX12_next.2.1 55 = .ok (.iload_n 1, 1) ∧ 55 + 1 = 56 := ⟨by decide +kernel, rfl⟩
theorem aX12_next_56 : decode mX12_next.2.1 56 = .ok (.bipush 97, 2) ∧ 56 + 2 = 58 := ⟨by decide +kernel, rfl⟩
theorem aX12_next_58 : decode mX12_next.2.1 58 = .ok (.bipush 122, 2) ∧ 58 + 2 = 60 := ⟨by decide +kernel, rfl⟩
theorem aX12_next_60 : decode mX12_next.2.1 60 = .ok (.invokestatic 68, 3) ∧ 60 + 3 = 63 := ⟨by decide +kernel, rfl⟩
theorem aX12_next_63 : decode mX12_next.2.1 63 = .ok (.ifCond .eq 10, 3) ∧ ((63 : Nat) : Int) + 10 = ((73 : Nat) : Int) ∧ 63 + 3 = 66 := ⟨by decide +kernel, by decide, rfl⟩
theorem aX12_next_66 : decode mX12_next.2.1 66 = .ok (.aload_n 0, 1) ∧ 66 + 1 = 67 := ⟨by decide +kernel, rfl⟩
theorem aX12_next_67 : decode mX12_next.2.1 67 = .ok (.invokevirtual 142, 3) ∧ 67 + 3 = 70 := ⟨by decide +kernel, rfl⟩
theorem aX12_next_70 : decode mX12_next.2.1 70 = .ok (.goto 40, 3) ∧ ((70 : Nat) : Int) + 40 = ((110 : Nat) : Int) := ⟨by decide +kernel, by decide⟩
theorem aX12_next_73 : decode mX12_next.2.1 73 = .ok (.iload_n 1, 1) ∧ 73 + 1 = 74 := ⟨by decide +kernel, rfl⟩
theorem aX12_next_74 : decode mX12_next.2.1 74 = .ok (.bipush 48, 2) ∧ 74 + 2 = 76 := ⟨by decide +kernel, rfl⟩
theorem aX12_next_76 : decode mX12_next.2.1 76 = .ok (.bipush 57, 2) ∧ 76 + 2 = 78 := ⟨by decide +kernel, rfl⟩
theorem aX12_next_78 : decode mX12_next.2.1 78 = .ok (.invokestatic 68, 3) ∧ 78 + 3 = 81 := ⟨by decide +kernel, rfl⟩
theorem aX12_next_81 : decode mX12_next.2.1 81 = .ok (.ifCond .eq 10, 3) ∧ ((81 : Nat) : Int) + 10 = ((91 : Nat) : Int) ∧ 81 + 3 = 84 := ⟨by decide +kernel, by decide, rfl⟩
theorem aX12_next_84 : decode mX12_next.2.1 84 = .ok (.aload_n 0, 1) ∧ 84 + 1 = 85 := ⟨by decide +kernel, rfl⟩
theorem aX12_next_85 : decode mX12_next.2.1 85 = .ok (.invokevirtual 145, 3) ∧ 85 + 3 = 88 := ⟨by decide +kernel, rfl⟩
theorem aX12_next_88 : decode mX12_next.2.1 88 = .ok (.goto 22, 3) ∧ ((88 : Nat) : Int) + 22 = ((110 : Nat) : Int) := ⟨by decide +kernel, by decide⟩
theorem aX12_next_91 : decode mX12_next.2.1 91 = .ok (.aload_n 0, 1) ∧ 91 + 1 = 92 := ⟨by decide +kernel, rfl⟩
theorem aX12_next_92 : decode mX12_next.2.1 92 = .ok (.sipush 200, 3) ∧ 92 + 3 = 95 := ⟨by decide +kernel, rfl⟩
theorem aX12_next_95 : decode mX12_next.2.1 95 = .ok (.iload_n 1, 1) ∧ 95 + 1 = 96 := ⟨by decide +kernel, rfl⟩
theorem aX12_next_96 : decode mX12_next.2.1 96 = .ok (.iadd, 1) ∧ 96 + 1 = 97 := ⟨by decide +kernel, rfl⟩
theorem aX12_next_97 : decode mX12_next.2.1 97 = .ok (.putfield 133, 3) ∧ 97 + 3 = 100 := ⟨by decide +kernel, rfl⟩
theorem aX12_next_100 : decode mX12_next.2.1 100 = .ok (.aload_n 0, 1) ∧ 100 + 1 = 101 := ⟨by decide +kernel, rfl⟩
theorem aX12_next_101 : decode mX12_next.2.1 101 = .ok (.dup, 1) ∧ 101 + 1 = 102 := ⟨by decide +kernel, rfl⟩
theorem aX12_next_102 : decode mX12_next.2.1 102 = .ok (.getfield 124, 3) ∧ 102 + 3 = 105 := ⟨by decide +kernel, rfl⟩
theorem aX12_next_105 : decode mX12_next.2.1 105 = .ok (.iconst 1, 1) ∧ 105 + 1 = 106 := ⟨by decide +kernel, rfl⟩
theorem aX12_next_106 : decode mX12_next.2.1 106 = .ok (.iadd, 1) ∧ 106 + 1 = 107 := ⟨by decide +kernel, rfl⟩
theorem aX12_next_107 : decode mX12_next.2.1 107 = .ok (.putfield 124, 3) ∧ 107 + 3 = 110 := ⟨by decide +kernel, rfl⟩
theorem aX12_next_110 : decode mX12_next.2.1 110 = .ok (.return_, 1) := by decide +kernel
theorem S_X12_next {E : EE} {d : Nat} {I : IH} {Q : QT}  (h :
(Mt E d mX12_byteAt [.ref (eb E + 115), .int (I 115 8)] I (fun rv I1 => ∃ v2 : Int32, rv = some (.int v2) ∧
 ((¬ v2 = (nI 32) → (∀ I3 : IH, I3 = stI I1 115 9 (I1 115 8) →
 (Mt E d mX12_byteAt [.ref (eb E + 115), .int (I3 115 8)] I3 (fun rv I5 => ∃ v6 : Int32, rv = some (.int v6) ∧
 ((0 ≤ v6 → (Mt E d mX12_in1 [.int v6, .int (nI 97), .int (nI 122)] I5 (fun rv I7 => ∃ v8 : Int32, rv = some (.int v8) ∧
 ((v8 = 0 → (Mt E d mX12_in1 [.int v6, .int (nI 48), .int (nI 57)] I7 (fun rv I9 => ∃ v10 : Int32, rv = some (.int v10) ∧
 ((v10 = 0 → (∀ I11 : IH, I11 = stI I9 115 10 ((nI 200) + v6) →
 (∀ I13 : IH, I13 = stI I11 115 8 ((I11 115 8) + (nI 1)) →
 Q none I13))) ∧
 (¬ v10 = 0 → (Mt E d mX12_readsNumber [.ref (eb E + 115)] I9 (fun rv I15 => rv = none ∧
 Q none I15))))))) ∧
 (¬ v8 = 0 → (Mt E d mX12_readsName [.ref (eb E + 115)] I7 (fun rv I16 => rv = none ∧
 Q none I16))))))) ∧
 (¬ 0 ≤ v6 → (∀ I17 : IH, I17 = stI I5 115 10 (-1) →
 Q none I17))))))) ∧
 (v2 = (nI 32) → (∀ I19 : IH, I19 = stI I1 115 8 ((I1 115 8) + (nI 1)) →
 J E (d + 1) mX12_next 0 [(0, .ref (eb E + 115))] [] I19 Q)))))) : Mt E (d + 1) mX12_next [.ref (eb E + 115)] I Q := by
  refine Mt_of [(0, .ref (eb E + 115))] (by decide +kernel) (by simp [lg_sl, Value.category, mX12_next]) rfl ?_
  refine J_aload_n 0 aX12_next_0 rfl ?_
  refine J_aload_n 0 aX12_next_1 rfl ?_
  refine J_getI aX12_next_2 flX12_124 sh115 rfl ?_
  refine J_callV [.int (I 115 8)] [] aX12_next_5 lkX12_130_X12 okX12_byteAt sh115 rfl rfl rfl (Nat.le_of_ble_eq_true rfl) (Nat.le_refl _) (Mt_mono h (fun rv I1 h => ?_))
  obtain ⟨v2, rfl, h⟩ := h
  refine J_r1 ?_
  refine J_bipush (nI 32) aX12_next_8 (by decide +kernel) ?_
  refine J_icmp_ne aX12_next_10 (fun q => ?_) (fun q => ?_)
  · replace h := h.1 q
    refine J_aload_n 0 aX12_next_26 rfl ?_
    refine J_aload_n 0 aX12_next_27 rfl ?_
    refine J_getI aX12_next_28 flX12_124 sh115 rfl ?_
    refine J_putI aX12_next_31 fpX12_127 sh115 rfl (fun I3 e4 => ?_)
    replace h := h I3 e4
    refine J_aload_n 0 aX12_next_34 rfl ?_
    refine J_aload_n 0 aX12_next_35 rfl ?_
    refine J_getI aX12_next_36 flX12_124 sh115 rfl ?_
    refine J_callV [.int (I3 115 8)] [] aX12_next_39 lkX12_130_X12 okX12_byteAt sh115 rfl rfl rfl (Nat.le_of_ble_eq_true rfl) (Nat.le_refl _) (Mt_mono h (fun rv I5 h => ?_))
    obtain ⟨v6, rfl, h⟩ := h
    refine J_r1 ?_
    refine J_istore_n [(1, .int v6), (0, .ref (eb E + 115))] aX12_next_42 (by decide) rfl ?_
    refine J_iload_n 0 aX12_next_43 rfl ?_
    refine J_if_ge aX12_next_44 (fun q => ?_) (fun q => ?_)
    · replace h := h.1 q
      refine J_iload_n 0 aX12_next_55 rfl ?_
      refine J_bipush (nI 97) aX12_next_56 (by decide +kernel) ?_
      refine J_bipush (nI 122) aX12_next_58 (by decide +kernel) ?_
      refine J_callS [.int v6, .int (nI 97), .int (nI 122)] [] aX12_next_60 lkX12_68 okX12_in1 rfl rfl (Nat.le_of_ble_eq_true rfl) (Nat.le_refl _) (Mt_mono h (fun rv I7 h => ?_))
      obtain ⟨v8, rfl, h⟩ := h
      refine J_r1 ?_
      refine J_if_eq aX12_next_63 (fun q => ?_) (fun q => ?_)
      · replace h := h.1 q
        refine J_iload_n 0 aX12_next_73 rfl ?_
        refine J_bipush (nI 48) aX12_next_74 (by decide +kernel) ?_
        refine J_bipush (nI 57) aX12_next_76 (by decide +kernel) ?_
        refine J_callS [.int v6, .int (nI 48), .int (nI 57)] [] aX12_next_78 lkX12_68 okX12_in1 rfl rfl (Nat.le_of_ble_eq_true rfl) (Nat.le_refl _) (Mt_mono h (fun rv I9 h => ?_))
        obtain ⟨v10, rfl, h⟩ := h
        refine J_r1 ?_
        refine J_if_eq aX12_next_81 (fun q => ?_) (fun q => ?_)
        · replace h := h.1 q
          refine J_aload_n 1 aX12_next_91 rfl ?_
          refine J_sipush (nI 200) aX12_next_92 (by decide +kernel) ?_
          refine J_iload_n 0 aX12_next_95 rfl ?_
          refine J_iadd aX12_next_96 ?_
          refine J_putI aX12_next_97 fpX12_133 sh115 rfl (fun I11 e12 => ?_)
          replace h := h I11 e12
          refine J_aload_n 1 aX12_next_100 rfl ?_
          refine J_dup aX12_next_101 rfl ?_
          refine J_getI aX12_next_102 flX12_124 sh115 rfl ?_
          refine J_iconst (nI 1) aX12_next_105 (by decide +kernel) ?_
          refine J_iadd aX12_next_106 ?_
          refine J_putI aX12_next_107 fpX12_124 sh115 rfl (fun I13 e14 => ?_)
          replace h := h I13 e14
          exact J_vret aX12_next_110 rfl h
        · replace h := h.2 q
          refine J_aload_n 1 aX12_next_84 rfl ?_
          refine J_callV [] [] aX12_next_85 lkX12_145_X12 okX12_readsNumber sh115 rfl rfl rfl (Nat.le_of_ble_eq_true rfl) (Nat.le_refl _) (Mt_mono h (fun rv I15 h => ?_))
          obtain ⟨rfl, h⟩ := h
          refine J_r0 ?_
          refine J_goto aX12_next_88 ?_
          exact J_vret aX12_next_110 rfl h
      · replace h := h.2 q
        refine J_aload_n 1 aX12_next_66 rfl ?_
        refine J_callV [] [] aX12_next_67 lkX12_142_X12 okX12_readsName sh115 rfl rfl rfl (Nat.le_of_ble_eq_true rfl) (Nat.le_refl _) (Mt_mono h (fun rv I16 h => ?_))
        obtain ⟨rfl, h⟩ := h
        refine J_r0 ?_
        refine J_goto aX12_next_70 ?_
        exact J_vret aX12_next_110 rfl h
    · replace h := h.2 q
      refine J_aload_n 1 aX12_next_47 rfl ?_
      refine J_iconst (-1) aX12_next_48 (by decide +kernel) ?_
      refine J_putI aX12_next_49 fpX12_133 sh115 rfl (fun I17 e18 => ?_)
      replace h := h I17 e18
      refine J_goto aX12_next_52 ?_
      exact J_vret aX12_next_110 rfl h
  · replace h := h.2 q
    refine J_aload_n 0 aX12_next_13 rfl ?_
    refine J_dup aX12_next_14 rfl ?_
    refine J_getI aX12_next_15 flX12_124 sh115 rfl ?_
    refine J_iconst (nI 1) aX12_next_18 (by decide +kernel) ?_
    refine J_iadd aX12_next_19 ?_
    refine J_putI aX12_next_20 fpX12_124 sh115 rfl (fun I19 e20 => ?_)
    replace h := h I19 e20
    refine J_goto aX12_next_23 ?_
    refine J_pick [0] rfl ?_
    exact h
theorem S_X12_next_0 {E : EE} {d : Nat} {I : IH} {Q : QT}  (h :
(Mt E d mX12_byteAt [.ref (eb E + 115), .int (I 115 8)] I (fun rv I1 => ∃ v2 : Int32, rv = some (.int v2) ∧
 ((¬ v2 = (nI 32) → (∀ I3 : IH, I3 = stI I1 115 9 (I1 115 8) →
 (Mt E d mX12_byteAt [.ref (eb E + 115), .int (I3 115 8)] I3 (fun rv I5 => ∃ v6 : Int32, rv = some (.int v6) ∧
 ((0 ≤ v6 → (Mt E d mX12_in1 [.int v6, .int (nI 97), .int (nI 122)] I5 (fun rv I7 => ∃ v8 : Int32, rv = some (.int v8) ∧
 ((v8 = 0 → (Mt E d mX12_in1 [.int v6, .int (nI 48), .int (nI 57)] I7 (fun rv I9 => ∃ v10 : Int32, rv = some (.int v10) ∧
 ((v10 = 0 → (∀ I11 : IH, I11 = stI I9 115 10 ((nI 200) + v6) →
 (∀ I13 : IH, I13 = stI I11 115 8 ((I11 115 8) + (nI 1)) →
 Q none I13))) ∧
 (¬ v10 = 0 → (Mt E d mX12_readsNumber [.ref (eb E + 115)] I9 (fun rv I15 => rv = none ∧
 Q none I15))))))) ∧
 (¬ v8 = 0 → (Mt E d mX12_readsName [.ref (eb E + 115)] I7 (fun rv I16 => rv = none ∧
 Q none I16))))))) ∧
 (¬ 0 ≤ v6 → (∀ I17 : IH, I17 = stI I5 115 10 (-1) →
 Q none I17))))))) ∧
 (v2 = (nI 32) → (∀ I19 : IH, I19 = stI I1 115 8 ((I1 115 8) + (nI 1)) →
 J E (d + 1) mX12_next 0 [(0, .ref (eb E + 115))] [] I19 Q)))))) : J E (d + 1) mX12_next 0 [(0, .ref (eb E + 115))] [] I Q := by
  refine J_aload_n 0 aX12_next_0 rfl ?_
  refine J_aload_n 0 aX12_next_1 rfl ?_
  refine J_getI aX12_next_2 flX12_124 sh115 rfl ?_
  refine J_callV [.int (I 115 8)] [] aX12_next_5 lkX12_130_X12 okX12_byteAt sh115 rfl rfl rfl (Nat.le_of_ble_eq_true rfl) (Nat.le_refl _) (Mt_mono h (fun rv I1 h => ?_))
  obtain ⟨v2, rfl, h⟩ := h
  refine J_r1 ?_
  refine J_bipush (nI 32) aX12_next_8 (by decide +kernel) ?_
  refine J_icmp_ne aX12_next_10 (fun q => ?_) (fun q => ?_)
  · replace h := h.1 q
    refine J_aload_n 0 aX12_next_26 rfl ?_
    refine J_aload_n 0 aX12_next_27 rfl ?_
    refine J_getI aX12_next_28 flX12_124 sh115 rfl ?_
    refine J_putI aX12_next_31 fpX12_127 sh115 rfl (fun I3 e4 => ?_)
    replace h := h I3 e4
    refine J_aload_n 0 aX12_next_34 rfl ?_
    refine J_aload_n 0 aX12_next_35 rfl ?_
    refine J_getI aX12_next_36 flX12_124 sh115 rfl ?_
    refine J_callV [.int (I3 115 8)] [] aX12_next_39 lkX12_130_X12 okX12_byteAt sh115 rfl rfl rfl (Nat.le_of_ble_eq_true rfl) (Nat.le_refl _) (Mt_mono h (fun rv I5 h => ?_))
    obtain ⟨v6, rfl, h⟩ := h
    refine J_r1 ?_
    refine J_istore_n [(1, .int v6), (0, .ref (eb E + 115))] aX12_next_42 (by decide) rfl ?_
    refine J_iload_n 0 aX12_next_43 rfl ?_
    refine J_if_ge aX12_next_44 (fun q => ?_) (fun q => ?_)
    · replace h := h.1 q
      refine J_iload_n 0 aX12_next_55 rfl ?_
      refine J_bipush (nI 97) aX12_next_56 (by decide +kernel) ?_
      refine J_bipush (nI 122) aX12_next_58 (by decide +kernel) ?_
      refine J_callS [.int v6, .int (nI 97), .int (nI 122)] [] aX12_next_60 lkX12_68 okX12_in1 rfl rfl (Nat.le_of_ble_eq_true rfl) (Nat.le_refl _) (Mt_mono h (fun rv I7 h => ?_))
      obtain ⟨v8, rfl, h⟩ := h
      refine J_r1 ?_
      refine J_if_eq aX12_next_63 (fun q => ?_) (fun q => ?_)
      · replace h := h.1 q
        refine J_iload_n 0 aX12_next_73 rfl ?_
        refine J_bipush (nI 48) aX12_next_74 (by decide +kernel) ?_
        refine J_bipush (nI 57) aX12_next_76 (by decide +kernel) ?_
        refine J_callS [.int v6, .int (nI 48), .int (nI 57)] [] aX12_next_78 lkX12_68 okX12_in1 rfl rfl (Nat.le_of_ble_eq_true rfl) (Nat.le_refl _) (Mt_mono h (fun rv I9 h => ?_))
        obtain ⟨v10, rfl, h⟩ := h
        refine J_r1 ?_
        refine J_if_eq aX12_next_81 (fun q => ?_) (fun q => ?_)
        · replace h := h.1 q
          refine J_aload_n 1 aX12_next_91 rfl ?_
          refine J_sipush (nI 200) aX12_next_92 (by decide +kernel) ?_
          refine J_iload_n 0 aX12_next_95 rfl ?_
          refine J_iadd aX12_next_96 ?_
          refine J_putI aX12_next_97 fpX12_133 sh115 rfl (fun I11 e12 => ?_)
          replace h := h I11 e12
          refine J_aload_n 1 aX12_next_100 rfl ?_
          refine J_dup aX12_next_101 rfl ?_
          refine J_getI aX12_next_102 flX12_124 sh115 rfl ?_
          refine J_iconst (nI 1) aX12_next_105 (by decide +kernel) ?_
          refine J_iadd aX12_next_106 ?_
          refine J_putI aX12_next_107 fpX12_124 sh115 rfl (fun I13 e14 => ?_)
          replace h := h I13 e14
          exact J_vret aX12_next_110 rfl h
        · replace h := h.2 q
          refine J_aload_n 1 aX12_next_84 rfl ?_
          refine J_callV [] [] aX12_next_85 lkX12_145_X12 okX12_readsNumber sh115 rfl rfl rfl (Nat.le_of_ble_eq_true rfl) (Nat.le_refl _) (Mt_mono h (fun rv I15 h => ?_))
          obtain ⟨rfl, h⟩ := h
          refine J_r0 ?_
          refine J_goto aX12_next_88 ?_
          exact J_vret aX12_next_110 rfl h
      · replace h := h.2 q
        refine J_aload_n 1 aX12_next_66 rfl ?_
        refine J_callV [] [] aX12_next_67 lkX12_142_X12 okX12_readsName sh115 rfl rfl rfl (Nat.le_of_ble_eq_true rfl) (Nat.le_refl _) (Mt_mono h (fun rv I16 h => ?_))
        obtain ⟨rfl, h⟩ := h
        refine J_r0 ?_
        refine J_goto aX12_next_70 ?_
        exact J_vret aX12_next_110 rfl h
    · replace h := h.2 q
      refine J_aload_n 1 aX12_next_47 rfl ?_
      refine J_iconst (-1) aX12_next_48 (by decide +kernel) ?_
      refine J_putI aX12_next_49 fpX12_133 sh115 rfl (fun I17 e18 => ?_)
      replace h := h I17 e18
      refine J_goto aX12_next_52 ?_
      exact J_vret aX12_next_110 rfl h
  · replace h := h.2 q
    refine J_aload_n 0 aX12_next_13 rfl ?_
    refine J_dup aX12_next_14 rfl ?_
    refine J_getI aX12_next_15 flX12_124 sh115 rfl ?_
    refine J_iconst (nI 1) aX12_next_18 (by decide +kernel) ?_
    refine J_iadd aX12_next_19 ?_
    refine J_putI aX12_next_20 fpX12_124 sh115 rfl (fun I19 e20 => ?_)
    replace h := h I19 e20
    refine J_goto aX12_next_23 ?_
    refine J_pick [0] rfl ?_
    exact h
theorem aX12_takes_0 : decode mX12_takes.2.1 0 = .ok (.aload_n 0, 1) ∧ 0 + 1 = 1 := ⟨by decide +kernel, rfl⟩
theorem aX12_takes_1 : decode mX12_takes.2.1 1 = .ok (.getfield 133, 3) ∧ 1 + 3 = 4 := ⟨by decide +kernel, rfl⟩
theorem aX12_takes_4 : decode mX12_takes.2.1 4 = .ok (.iload_n 1, 1) ∧ 4 + 1 = 5 := ⟨by decide +kernel, rfl⟩
theorem aX12_takes_5 : decode mX12_takes.2.1 5 = .ok (.if_icmp .ne 7, 3) ∧ ((5 : Nat) : Int) + 7 = ((12 : Nat) : Int) ∧ 5 + 3 = 8 := ⟨by decide +kernel, by decide, rfl⟩
theorem aX12_takes_8 : decode mX12_takes.2.1 8 = .ok (.iconst 1, 1) ∧ 8 + 1 = 9 := ⟨by decide +kernel, rfl⟩
theorem aX12_takes_9 : decode mX12_takes.2.1 9 = .ok (.goto 4, 3) ∧ ((9 : Nat) : Int) + 4 = ((13 : Nat) : Int) := ⟨by decide +kernel, by decide⟩
theorem aX12_takes_12 : decode mX12_takes.2.1 12 = .ok (.iconst 0, 1) ∧ 12 + 1 = 13 := ⟨by decide +kernel, rfl⟩
theorem aX12_takes_13 : decode mX12_takes.2.1 13 = .ok (.istore_n 2, 1) ∧ 13 + 1 = 14 := ⟨by decide +kernel, rfl⟩
theorem aX12_takes_14 : decode mX12_takes.2.1 14 = .ok (.iload_n 2, 1) ∧ 14 + 1 = 15 := ⟨by decide +kernel, rfl⟩
theorem aX12_takes_15 : decode mX12_takes.2.1 15 = .ok (.ifCond .eq 7, 3) ∧ ((15 : Nat) : Int) + 7 = ((22 : Nat) : Int) ∧ 15 + 3 = 18 := ⟨by decide +kernel, by decide, rfl⟩
theorem aX12_takes_18 : decode mX12_takes.2.1 18 = .ok (.aload_n 0, 1) ∧ 18 + 1 = 19 := ⟨by decide +kernel, rfl⟩
theorem aX12_takes_19 : decode mX12_takes.2.1 19 = .ok (.invokevirtual 148, 3) ∧ 19 + 3 = 22 := ⟨by decide +kernel, rfl⟩
theorem aX12_takes_22 : decode mX12_takes.2.1 22 = .ok (.iload_n 2, 1) ∧ 22 + 1 = 23 := ⟨by decide +kernel, rfl⟩
theorem aX12_takes_23 : decode mX12_takes.2.1 23 = .ok (.ireturn, 1) := by decide +kernel
theorem S_X12_takes {E : EE} {d : Nat} {I : IH} {Q : QT} (x1 : Int32) (h :
((¬ (I 115 10) = x1 → J E (d + 1) mX12_takes 13 [(0, .ref (eb E + 115))] [.int (nI 0)] I Q) ∧
 ((I 115 10) = x1 → J E (d + 1) mX12_takes 13 [(0, .ref (eb E + 115))] [.int (nI 1)] I Q))) : Mt E (d + 1) mX12_takes [.ref (eb E + 115), .int x1] I Q := by
  refine Mt_of [(0, .ref (eb E + 115)), (1, .int x1)] (by decide +kernel) (by simp [lg_sl, Value.category, mX12_takes]) rfl ?_
  refine J_aload_n 0 aX12_takes_0 rfl ?_
  refine J_getI aX12_takes_1 flX12_133 sh115 rfl ?_
  refine J_iload_n 1 aX12_takes_4 rfl ?_
  refine J_icmp_ne aX12_takes_5 (fun q => ?_) (fun q => ?_)
  · replace h := h.1 q
    refine J_iconst (nI 0) aX12_takes_12 (by decide +kernel) ?_
    refine J_pick [0] rfl ?_
    exact h
  · replace h := h.2 q
    refine J_iconst (nI 1) aX12_takes_8 (by decide +kernel) ?_
    refine J_goto aX12_takes_9 ?_
    refine J_pick [0] rfl ?_
    exact h
theorem S_X12_takes_13 {E : EE} {d : Nat} {I : IH} {Q : QT} (t0 : Int32) (h :
((t0 = 0 → ((t0 = 0 ∨ t0 = 1) ∧ Q (some (.int t0)) I)) ∧
 (¬ t0 = 0 → (Mt E d mX12_next [.ref (eb E + 115)] I (fun rv I1 => rv = none ∧
 ((t0 = 0 ∨ t0 = 1) ∧ Q (some (.int t0)) I1)))))) : J E (d + 1) mX12_takes 13 [(0, .ref (eb E + 115))] [.int t0] I Q := by
  refine J_istore_n [(2, .int t0), (0, .ref (eb E + 115))] aX12_takes_13 (by decide) rfl ?_
  refine J_iload_n 0 aX12_takes_14 rfl ?_
  refine J_if_eq aX12_takes_15 (fun q => ?_) (fun q => ?_)
  · replace h := h.1 q
    refine J_iload_n 0 aX12_takes_22 rfl ?_
    exact J_zret aX12_takes_23 rfl (nar_bool h.1).1 h.2
  · replace h := h.2 q
    refine J_aload_n 1 aX12_takes_18 rfl ?_
    refine J_callV [] [] aX12_takes_19 lkX12_148_X12 okX12_next sh115 rfl rfl rfl (Nat.le_of_ble_eq_true rfl) (Nat.le_refl _) (Mt_mono h (fun rv I1 h => ?_))
    obtain ⟨rfl, h⟩ := h
    refine J_r0 ?_
    refine J_iload_n 0 aX12_takes_22 rfl ?_
    exact J_zret aX12_takes_23 rfl (nar_bool h.1).1 h.2
theorem aX12_lays_0 : decode mX12_lays.2.1 0 = .ok (.aload_n 0, 1) ∧ 0 + 1 = 1 := ⟨by decide +kernel, rfl⟩
theorem aX12_lays_1 : decode mX12_lays.2.1 1 = .ok (.getfield 29, 3) ∧ 1 + 3 = 4 := ⟨by decide +kernel, rfl⟩
theorem aX12_lays_4 : decode mX12_lays.2.1 4 = .ok (.aload_n 0, 1) ∧ 4 + 1 = 5 := ⟨by decide +kernel, rfl⟩
theorem aX12_lays_5 : decode mX12_lays.2.1 5 = .ok (.getfield 151, 3) ∧ 5 + 3 = 8 := ⟨by decide +kernel, rfl⟩
theorem aX12_lays_8 : decode mX12_lays.2.1 8 = .ok (.iload_n 1, 1) ∧ 8 + 1 = 9 := ⟨by decide +kernel, rfl⟩
theorem aX12_lays_9 : decode mX12_lays.2.1 9 = .ok (.iastore, 1) ∧ 9 + 1 = 10 := ⟨by decide +kernel, rfl⟩
theorem aX12_lays_10 : decode mX12_lays.2.1 10 = .ok (.aload_n 0, 1) ∧ 10 + 1 = 11 := ⟨by decide +kernel, rfl⟩
theorem aX12_lays_11 : decode mX12_lays.2.1 11 = .ok (.dup, 1) ∧ 11 + 1 = 12 := ⟨by decide +kernel, rfl⟩
theorem aX12_lays_12 : decode mX12_lays.2.1 12 = .ok (.getfield 151, 3) ∧ 12 + 3 = 15 := ⟨by decide +kernel, rfl⟩
theorem aX12_lays_15 : decode mX12_lays.2.1 15 = .ok (.iconst 1, 1) ∧ 15 + 1 = 16 := ⟨by decide +kernel, rfl⟩
theorem aX12_lays_16 : decode mX12_lays.2.1 16 = .ok (.iadd, 1) ∧ 16 + 1 = 17 := ⟨by decide +kernel, rfl⟩
theorem aX12_lays_17 : decode mX12_lays.2.1 17 = .ok (.putfield 151, 3) ∧ 17 + 3 = 20 := ⟨by decide +kernel, rfl⟩
theorem aX12_lays_20 : decode mX12_lays.2.1 20 = .ok (.return_, 1) := by decide +kernel
theorem S_X12_lays {E : EE} {d : Nat} {I : IH} {Q : QT} (x1 : Int32) (h :
(∃ j3 : Nat, (I 115 13) = nI j3 ∧ j3 < 200 ∧ (∀ I1 : IH, I1 = stI I 122 j3 x1 →
 (∀ I6 : IH, I6 = stI I1 115 13 ((I1 115 13) + (nI 1)) →
 Q none I6)))) : Mt E d mX12_lays [.ref (eb E + 115), .int x1] I Q := by
  refine Mt_of [(0, .ref (eb E + 115)), (1, .int x1)] (by decide +kernel) (by simp [lg_sl, Value.category, mX12_lays]) rfl ?_
  refine J_aload_n 0 aX12_lays_0 rfl ?_
  refine J_getR aX12_lays_1 flX12_29 sh115 rfl ?_
  refine J_aload_n 0 aX12_lays_4 rfl ?_
  refine J_getI aX12_lays_5 flX12_151 sh115 rfl ?_
  refine J_iload_n 1 aX12_lays_8 rfl ?_
  obtain ⟨j3, e4, b5, h⟩ := h
  refine J_iastore j3 aX12_lays_9 sh122 e4 b5 (by decide) (fun I1 e2 => ?_)
  replace h := h I1 e2
  refine J_aload_n 0 aX12_lays_10 rfl ?_
  refine J_dup aX12_lays_11 rfl ?_
  refine J_getI aX12_lays_12 flX12_151 sh115 rfl ?_
  refine J_iconst (nI 1) aX12_lays_15 (by decide +kernel) ?_
  refine J_iadd aX12_lays_16 ?_
  refine J_putI aX12_lays_17 fpX12_151 sh115 rfl (fun I6 e7 => ?_)
  replace h := h I6 e7
  exact J_vret aX12_lays_20 rfl h
theorem aX12_readsValue_0 : decode mX12_readsValue.2.1 0 = .ok (.aload_n 0, 1) ∧ 0 + 1 = 1 := ⟨by decide +kernel, rfl⟩
theorem aX12_readsValue_1 : decode mX12_readsValue.2.1 1 = .ok (.getfield 133, 3) ∧ 1 + 3 = 4 := ⟨by decide +kernel, rfl⟩
theorem aX12_readsValue_4 : decode mX12_readsValue.2.1 4 = .ok (.bipush 100, 2) ∧ 4 + 2 = 6 := ⟨by decide +kernel, rfl⟩
theorem aX12_readsValue_6 : decode mX12_readsValue.2.1 6 = .ok (.if_icmp .eq 17, 3) ∧ ((6 : Nat) : Int) + 17 = ((23 : Nat) : Int) ∧ 6 + 3 = 9 := ⟨by decide +kernel, by decide, rfl⟩
theorem aX12_readsValue_9 : decode mX12_readsValue.2.1 9 = .ok (.aload_n 0, 1) ∧ 9 + 1 = 10 := ⟨by decide +kernel, rfl⟩
theorem aX12_readsValue_10 : decode mX12_readsValue.2.1 10 = .ok (.getfield 133, 3) ∧ 10 + 3 = 13 := ⟨by decide +kernel, rfl⟩
theorem aX12_readsValue_13 : decode mX12_readsValue.2.1 13 = .ok (.bipush 13, 2) ∧ 13 + 2 = 15 := ⟨by decide +kernel, rfl⟩
theorem aX12_readsValue_15 : decode mX12_readsValue.2.1 15 = .ok (.bipush 17, 2) ∧ 15 + 2 = 17 := ⟨by decide +kernel, rfl⟩
theorem aX12_readsValue_17 : decode mX12_readsValue.2.1 17 = .ok (.invokestatic 68, 3) ∧ 17 + 3 = 20 := ⟨by decide +kernel, rfl⟩
theorem aX12_readsValue_20 : decode mX12_readsValue.2.1 20 = .ok (.ifCond .eq 7, 3) ∧ ((20 : Nat) : Int) + 7 = ((27 : Nat) : Int) ∧ 20 + 3 = 23 := ⟨by decide +kernel, by decide, rfl⟩
theorem aX12_readsValue_23 : decode mX12_readsValue.2.1 23 = .ok (.iconst 1, 1) ∧ 23 + 1 = 24 := ⟨by decide +kernel, rfl⟩
theorem aX12_readsValue_24 : decode mX12_readsValue.2.1 24 = .ok (.goto 4, 3) ∧ ((24 : Nat) : Int) + 4 = ((28 : Nat) : Int) := ⟨by decide +kernel, by decide⟩
theorem aX12_readsValue_27 : decode mX12_readsValue.2.1 27 = .ok (.iconst 0, 1) ∧ 27 + 1 = 28 := ⟨by decide +kernel, rfl⟩
theorem aX12_readsValue_28 : decode mX12_readsValue.2.1 28 = .ok (.istore_n 1, 1) ∧ 28 + 1 = 29 := ⟨by decide +kernel, rfl⟩
theorem aX12_readsValue_29 : decode mX12_readsValue.2.1 29 = .ok (.iload_n 1, 1) ∧ 29 + 1 = 30 := ⟨by decide +kernel, rfl⟩
theorem aX12_readsValue_30 : decode mX12_readsValue.2.1 30 = .ok (.ifCond .eq 38, 3) ∧ ((30 : Nat) : Int) + 38 = ((68 : Nat) : Int) ∧ 30 + 3 = 33 := ⟨by decide +kernel, by decide, rfl⟩
theorem aX12_readsValue_33 : decode mX12_readsValue.2.1 33 = .ok (.aload_n 0, 1) ∧ 33 + 1 = 34 := ⟨by decide +kernel, rfl⟩
theorem aX12_readsValue_34 : decode mX12_readsValue.2.1 34 = .ok (.aload_n 0, 1) ∧ 34 + 1 = 35 := ⟨by decide +kernel, rfl⟩
theorem aX12_readsValue_35 : decode mX12_readsValue.2.1 35 = .ok (.getfield 133, 3) ∧ 35 + 3 = 38 := ⟨by decide +kernel, rfl⟩
theorem aX12_readsValue_38 : decode mX12_readsValue.2.1 38 = .ok (.bipush 100, 2) ∧ 38 + 2 = 40 := ⟨by decide +kernel, rfl⟩
theorem aX12_readsValue_40 : decode mX12_readsValue.2.1 40 = .ok (.if_icmp .ne 10, 3) ∧ ((40 : Nat) : Int) + 10 = ((50 : Nat) : Int) ∧ 40 + 3 = 43 := ⟨by decide +kernel, by decide, rfl⟩
theorem aX12_readsValue_43 : decode mX12_readsValue.2.1 43 = .ok (.aload_n 0, 1) ∧ 43 + 1 = 44 := ⟨by decide +kernel, rfl⟩
theorem aX12_readsValue_44 : decode mX12_readsValue.2.1 44 = .ok (.getfield 139, 3) ∧ 44 + 3 = 47 := ⟨by decide +kernel, rfl⟩
theorem aX12_readsValue_47 : decode mX12_readsValue.2.1 47 = .ok (.goto 14, 3) ∧ ((47 : Nat) : Int) + 14 = ((61 : Nat) : Int) := ⟨by decide +kernel, by decide⟩
theorem aX12_readsValue_50 : decode mX12_readsValue.2.1 50 = .ok (.sipush 10000, 3) ∧ 50 + 3 = 53 := ⟨by decide +kernel, rfl⟩
theorem aX12_readsValue_53 : decode mX12_readsValue.2.1 53 = .ok (.aload_n 0, 1) ∧ 53 + 1 = 54 := ⟨by decide +kernel, rfl⟩
theorem aX12_readsValue_54 : decode mX12_readsValue.2.1 54 = .ok (.getfield 133, 3) ∧ 54 + 3 = 57 := ⟨by decide +kernel, rfl⟩
theorem aX12_readsValue_57 : decode mX12_readsValue.2.1 57 = .ok (.iadd, 1) ∧ 57 + 1 = 58 := ⟨by decide +kernel, rfl⟩
theorem aX12_readsValue_58 : decode mX12_readsValue.2.1 58 = .ok (.bipush 13, 2) ∧ 58 + 2 = 60 := ⟨by decide +kernel, rfl⟩
theorem aX12_readsValue_60 : decode mX12_readsValue.2.1 60 = .ok (.isub, 1) ∧ 60 + 1 = 61 := ⟨by decide +kernel, rfl⟩
theorem aX12_readsValue_61 : decode mX12_readsValue.2.1 61 = .ok (.invokevirtual 154, 3) ∧ 61 + 3 = 64 := ⟨by decide +kernel, rfl⟩
theorem aX12_readsValue_64 : decode mX12_readsValue.2.1 64 = .ok (.aload_n 0, 1) ∧ 64 + 1 = 65 := ⟨by decide +kernel, rfl⟩
theorem aX12_readsValue_65 : decode mX12_readsValue.2.1 65 = .ok (.invokevirtual 148, 3) ∧ 65 + 3 = 68 := ⟨by decide +kernel, rfl⟩
theorem aX12_readsValue_68 : decode mX12_readsValue.2.1 68 = .ok (.iload_n 1, 1) ∧ 68 + 1 = 69 := ⟨by decide +kernel, rfl⟩
theorem aX12_readsValue_69 : decode mX12_readsValue.2.1 69 = .ok (.ireturn, 1) := by decide +kernel
theorem S_X12_readsValue {E : EE} {d : Nat} {I : IH} {Q : QT}  (h :
(((I 115 10) = (nI 100) → J E (d + 1) mX12_readsValue 23 [(0, .ref (eb E + 115))] [] I Q) ∧
 (¬ (I 115 10) = (nI 100) → (Mt E d mX12_in1 [.int (I 115 10), .int (nI 13), .int (nI 17)] I (fun rv I1 => ∃ v2 : Int32, rv = some (.int v2) ∧
 ((v2 = 0 → J E (d + 1) mX12_readsValue 28 [(0, .ref (eb E + 115))] [.int (nI 0)] I1 Q) ∧
 (¬ v2 = 0 → J E (d + 1) mX12_readsValue 23 [(0, .ref (eb E + 115))] [] I1 Q))))))) : Mt E (d + 1) mX12_readsValue [.ref (eb E + 115)] I Q := by
  refine Mt_of [(0, .ref (eb E + 115))] (by decide +kernel) (by simp [lg_sl, Value.category, mX12_readsValue]) rfl ?_
  refine J_aload_n 0 aX12_readsValue_0 rfl ?_
  refine J_getI aX12_readsValue_1 flX12_133 sh115 rfl ?_
  refine J_bipush (nI 100) aX12_readsValue_4 (by decide +kernel) ?_
  refine J_icmp_eq aX12_readsValue_6 (fun q => ?_) (fun q => ?_)
  · replace h := h.1 q
    refine J_pick [0] rfl ?_
    exact h
  · replace h := h.2 q
    refine J_aload_n 0 aX12_readsValue_9 rfl ?_
    refine J_getI aX12_readsValue_10 flX12_133 sh115 rfl ?_
    refine J_bipush (nI 13) aX12_readsValue_13 (by decide +kernel) ?_
    refine J_bipush (nI 17) aX12_readsValue_15 (by decide +kernel) ?_
    refine J_callS [.int (I 115 10), .int (nI 13), .int (nI 17)] [] aX12_readsValue_17 lkX12_68 okX12_in1 rfl rfl (Nat.le_of_ble_eq_true rfl) (Nat.le_refl _) (Mt_mono h (fun rv I1 h => ?_))
    obtain ⟨v2, rfl, h⟩ := h
    refine J_r1 ?_
    refine J_if_eq aX12_readsValue_20 (fun q => ?_) (fun q => ?_)
    · replace h := h.1 q
      refine J_iconst (nI 0) aX12_readsValue_27 (by decide +kernel) ?_
      refine J_pick [0] rfl ?_
      exact h
    · replace h := h.2 q
      refine J_pick [0] rfl ?_
      exact h
theorem S_X12_readsValue_23 {E : EE} {d : Nat} {I : IH} {Q : QT}  (h :
J E (d + 1) mX12_readsValue 28 [(0, .ref (eb E + 115))] [.int (nI 1)] I Q) : J E (d + 1) mX12_readsValue 23 [(0, .ref (eb E + 115))] [] I Q := by
  refine J_iconst (nI 1) aX12_readsValue_23 (by decide +kernel) ?_
  refine J_goto aX12_readsValue_24 ?_
  refine J_pick [0] rfl ?_
  exact h
theorem S_X12_readsValue_28 {E : EE} {d : Nat} {I : IH} {Q : QT} (t0 : Int32) (h :
((t0 = 0 → ((t0 = 0 ∨ t0 = 1) ∧ Q (some (.int t0)) I)) ∧
 (¬ t0 = 0 → ((¬ (I 115 10) = (nI 100) → J E (d + 1) mX12_readsValue 61 [(0, .ref (eb E + 115)), (1, .int t0)] [.int (((nI 10000) + (I 115 10)) - (nI 13)), .ref (eb E + 115)] I Q) ∧
 ((I 115 10) = (nI 100) → J E (d + 1) mX12_readsValue 61 [(0, .ref (eb E + 115)), (1, .int t0)] [.int (I 115 11), .ref (eb E + 115)] I Q))))) : J E (d + 1) mX12_readsValue 28 [(0, .ref (eb E + 115))] [.int t0] I Q := by
  refine J_istore_n [(1, .int t0), (0, .ref (eb E + 115))] aX12_readsValue_28 (by decide) rfl ?_
  refine J_iload_n 0 aX12_readsValue_29 rfl ?_
  refine J_if_eq aX12_readsValue_30 (fun q => ?_) (fun q => ?_)
  · replace h := h.1 q
    refine J_iload_n 0 aX12_readsValue_68 rfl ?_
    exact J_zret aX12_readsValue_69 rfl (nar_bool h.1).1 h.2
  · replace h := h.2 q
    refine J_aload_n 1 aX12_readsValue_33 rfl ?_
    refine J_aload_n 1 aX12_readsValue_34 rfl ?_
    refine J_getI aX12_readsValue_35 flX12_133 sh115 rfl ?_
    refine J_bipush (nI 100) aX12_readsValue_38 (by decide +kernel) ?_
    refine J_icmp_ne aX12_readsValue_40 (fun q => ?_) (fun q => ?_)
    · replace h := h.1 q
      refine J_sipush (nI 10000) aX12_readsValue_50 (by decide +kernel) ?_
      refine J_aload_n 1 aX12_readsValue_53 rfl ?_
      refine J_getI aX12_readsValue_54 flX12_133 sh115 rfl ?_
      refine J_iadd aX12_readsValue_57 ?_
      refine J_bipush (nI 13) aX12_readsValue_58 (by decide +kernel) ?_
      refine J_isub aX12_readsValue_60 ?_
      refine J_pick [1, 0] rfl ?_
      exact h
    · replace h := h.2 q
      refine J_aload_n 1 aX12_readsValue_43 rfl ?_
      refine J_getI aX12_readsValue_44 flX12_139 sh115 rfl ?_
      refine J_goto aX12_readsValue_47 ?_
      refine J_pick [1, 0] rfl ?_
      exact h
theorem S_X12_readsValue_61 {E : EE} {d : Nat} {I : IH} {Q : QT} (x1 : Int32) (t0 : Int32) (h :
(Mt E d mX12_lays [.ref (eb E + 115), .int t0] I (fun rv I1 => rv = none ∧
 (Mt E d mX12_next [.ref (eb E + 115)] I1 (fun rv I2 => rv = none ∧
 ((x1 = 0 ∨ x1 = 1) ∧ Q (some (.int x1)) I2)))))) : J E (d + 1) mX12_readsValue 61 [(0, .ref (eb E + 115)), (1, .int x1)] [.int t0, .ref (eb E + 115)] I Q := by
  refine J_callV [.int t0] [] aX12_readsValue_61 lkX12_154_X12 okX12_lays sh115 rfl rfl rfl (Nat.le_of_ble_eq_true rfl) (Nat.le_refl _) (Mt_mono h (fun rv I1 h => ?_))
  obtain ⟨rfl, h⟩ := h
  refine J_r0 ?_
  refine J_aload_n 0 aX12_readsValue_64 rfl ?_
  refine J_callV [] [] aX12_readsValue_65 lkX12_148_X12 okX12_next sh115 rfl rfl rfl (Nat.le_of_ble_eq_true rfl) (Nat.le_refl _) (Mt_mono h (fun rv I2 h => ?_))
  obtain ⟨rfl, h⟩ := h
  refine J_r0 ?_
  refine J_iload_n 1 aX12_readsValue_68 rfl ?_
  exact J_zret aX12_readsValue_69 rfl (nar_bool h.1).1 h.2
theorem aX12_readsLike_0 : decode mX12_readsLike.2.1 0 = .ok (.aload_n 0, 1) ∧ 0 + 1 = 1 := ⟨by decide +kernel, rfl⟩
theorem aX12_readsLike_1 : decode mX12_readsLike.2.1 1 = .ok (.invokevirtual 158, 3) ∧ 1 + 3 = 4 := ⟨by decide +kernel, rfl⟩
theorem aX12_readsLike_4 : decode mX12_readsLike.2.1 4 = .ok (.ifCond .ne 5, 3) ∧ ((4 : Nat) : Int) + 5 = ((9 : Nat) : Int) ∧ 4 + 3 = 7 := ⟨by decide +kernel, by decide, rfl⟩
theorem aX12_readsLike_7 : decode mX12_readsLike.2.1 7 = .ok (.iconst 0, 1) ∧ 7 + 1 = 8 := ⟨by decide +kernel, rfl⟩
theorem aX12_readsLike_8 : decode mX12_readsLike.2.1 8 = .ok (.ireturn, 1) := by decide +kernel
theorem aX12_readsLike_9 : decode mX12_readsLike.2.1 9 = .ok (.aload_n 0, 1) ∧ 9 + 1 = 10 := ⟨by decide +kernel, rfl⟩
theorem aX12_readsLike_10 : decode mX12_readsLike.2.1 10 = .ok (.getfield 133, 3) ∧ 10 + 3 = 13 := ⟨by decide +kernel, rfl⟩
theorem aX12_readsLike_13 : decode mX12_readsLike.2.1 13 = .ok (.sipush 260, 3) ∧ 13 + 3 = 16 := ⟨by decide +kernel, rfl⟩
theorem aX12_readsLike_16 : decode mX12_readsLike.2.1 16 = .ok (.if_icmp .ne 9, 3) ∧ ((16 : Nat) : Int) + 9 = ((25 : Nat) : Int) ∧ 16 + 3 = 19 := ⟨by decide +kernel, by decide, rfl⟩
theorem aX12_readsLike_19 : decode mX12_readsLike.2.1 19 = .ok (.sipush 10010, 3) ∧ 19 + 3 = 22 := ⟨by decide +kernel, rfl⟩
theorem aX12_readsLike_22 : decode mX12_readsLike.2.1 22 = .ok (.goto 36, 3) ∧ ((22 : Nat) : Int) + 36 = ((58 : Nat) : Int) := ⟨by decide +kernel, by decide⟩
theorem aX12_readsLike_25 : decode mX12_readsLike.2.1 25 = .ok (.aload_n 0, 1) ∧ 25 + 1 = 26 := ⟨by decide +kernel, rfl⟩
theorem aX12_readsLike_26 : decode mX12_readsLike.2.1 26 = .ok (.getfield 133, 3) ∧ 26 + 3 = 29 := ⟨by decide +kernel, rfl⟩
theorem aX12_readsLike_29 : decode mX12_readsLike.2.1 29 = .ok (.sipush 261, 3) ∧ 29 + 3 = 32 := ⟨by decide +kernel, rfl⟩
theorem aX12_readsLike_32 : decode mX12_readsLike.2.1 32 = .ok (.if_icmp .ne 9, 3) ∧ ((32 : Nat) : Int) + 9 = ((41 : Nat) : Int) ∧ 32 + 3 = 35 := ⟨by decide +kernel, by decide, rfl⟩
theorem aX12_readsLike_35 : decode mX12_readsLike.2.1 35 = .ok (.sipush 10011, 3) ∧ 35 + 3 = 38 := ⟨by decide +kernel, rfl⟩
theorem aX12_readsLike_38 : decode mX12_readsLike.2.1 38 = .ok (.goto 20, 3) ∧ ((38 : Nat) : Int) + 20 = ((58 : Nat) : Int) := ⟨by decide +kernel, by decide⟩
theorem aX12_readsLike_41 : decode mX12_readsLike.2.1 41 = .ok (.aload_n 0, 1) ∧ 41 + 1 = 42 := ⟨by decide +kernel, rfl⟩
theorem aX12_readsLike_42 : decode mX12_readsLike.2.1 42 = .ok (.getfield 133, 3) ∧ 42 + 3 = 45 := ⟨by decide +kernel, rfl⟩
theorem aX12_readsLike_45 : decode mX12_readsLike.2.1 45 = .ok (.sipush 262, 3) ∧ 45 + 3 = 48 := ⟨by decide +kernel, rfl⟩
theorem aX12_readsLike_48 : decode mX12_readsLike.2.1 48 = .ok (.if_icmp .ne 9, 3) ∧ ((48 : Nat) : Int) + 9 = ((57 : Nat) : Int) ∧ 48 + 3 = 51 := ⟨by decide +kernel, by decide, rfl⟩
theorem aX12_readsLike_51 : decode mX12_readsLike.2.1 51 = .ok (.sipush 10012, 3) ∧ 51 + 3 = 54 := ⟨by decide +kernel, rfl⟩
theorem aX12_readsLike_54 : decode mX12_readsLike.2.1 54 = .ok (.goto 4, 3) ∧ ((54 : Nat) : Int) + 4 = ((58 : Nat) : Int) := ⟨by decide +kernel, by decide⟩
theorem aX12_readsLike_57 : decode mX12_readsLike.2.1 57 = .ok (.iconst 0, 1) ∧ 57 + 1 = 58 := ⟨by decide +kernel, rfl⟩
theorem aX12_readsLike_58 : decode mX12_readsLike.2.1 58 = .ok (.istore_n 1, 1) ∧ 58 + 1 = 59 := ⟨by decide +kernel, rfl⟩
theorem aX12_readsLike_59 : decode mX12_readsLike.2.1 59 = .ok (.iload_n 1, 1) ∧ 59 + 1 = 60 := ⟨by decide +kernel, rfl⟩
theorem aX12_readsLike_60 : decode mX12_readsLike.2.1 60 = .ok (.ifCond .ne 5, 3) ∧ ((60 : Nat) : Int) + 5 = ((65 : Nat) : Int) ∧ 60 + 3 = 63 := ⟨by decide +kernel, by decide, rfl⟩
theorem aX12_readsLike_63 : decode mX12_readsLike.2.1 63 = .ok (.iconst 0, 1) ∧ 63 + 1 = 64 := ⟨by decide +kernel, rfl⟩
theorem aX12_readsLike_64 : decode mX12_readsLike.2.1 64 = .ok (.ireturn, 1) := by decide +kernel
theorem aX12_readsLike_65 : decode mX12_readsLike.2.1 65 = .ok (.aload_n 0, 1) ∧ 65 + 1 = 66 := ⟨by decide +kernel, rfl⟩
theorem aX12_readsLike_66 : decode mX12_readsLike.2.1 66 = .ok (.invokevirtual 148, 3) ∧ 66 + 3 = 69 := ⟨by decide +kernel, rfl⟩
theorem aX12_readsLike_69 : decode mX12_readsLike.2.1 69 = .ok (.aload_n 0, 1) ∧ 69 + 1 = 70 := ⟨by decide +kernel, rfl⟩
theorem aX12_readsLike_70 : decode mX12_readsLike.2.1 70 = .ok (.invokevirtual 158, 3) ∧ 70 + 3 = 73 := ⟨by decide +kernel, rfl⟩
theorem aX12_readsLike_73 : decode mX12_readsLike.2.1 73 = .ok (.ifCond .ne 5, 3) ∧ ((73 : Nat) : Int) + 5 = ((78 : Nat) : Int) ∧ 73 + 3 = 76 := ⟨by decide +kernel, by decide, rfl⟩
theorem aX12_readsLike_76 : decode mX12_readsLike.2.1 76 = .ok (.iconst 0, 1) ∧ 76 + 1 = 77 := ⟨by decide +kernel, rfl⟩
theorem aX12_readsLike_77 : decode mX12_readsLike.2.1 77 = .ok (.ireturn, 1) := by decide +kernel
theorem aX12_readsLike_78 : decode mX12_readsLike.2.1 78 = .ok (.aload_n 0, 1) ∧ 78 + 1 = 79 := ⟨by decide +kernel, rfl⟩
theorem aX12_readsLike_79 : decode mX12_readsLike.2.1 79 = .ok (.iload_n 1, 1) ∧ 79 + 1 = 80 := ⟨by decide +kernel, rfl⟩
theorem aX12_readsLike_80 : decode mX12_readsLike.2.1 80 = .ok (.invokevirtual 154, 3) ∧ 80 + 3 = 83 := ⟨by decide +kernel, rfl⟩
theorem aX12_readsLike_83 : decode mX12_readsLike.2.1 83 = .ok (.iconst 1, 1) ∧ 83 + 1 = 84 := ⟨by decide +kernel, rfl⟩
theorem aX12_readsLike_84 : decode mX12_readsLike.2.1 84 = .ok (.ireturn, 1) := by decide +kernel
theorem S_X12_readsLike {E : EE} {d : Nat} {I : IH} {Q : QT}  (h :
(Mt E d mX12_readsValue [.ref (eb E + 115)] I (fun rv I1 => ∃ v2 : Int32, rv = some (.int v2) ∧
 ((¬ v2 = 0 → ((¬ (I1 115 10) = (nI 260) → ((¬ (I1 115 10) = (nI 261) → ((¬ (I1 115 10) = (nI 262) → J E (d + 1) mX12_readsLike 58 [(0, .ref (eb E + 115))] [.int (nI 0)] I1 Q) ∧
 ((I1 115 10) = (nI 262) → J E (d + 1) mX12_readsLike 58 [(0, .ref (eb E + 115))] [.int (nI 10012)] I1 Q))) ∧
 ((I1 115 10) = (nI 261) → J E (d + 1) mX12_readsLike 58 [(0, .ref (eb E + 115))] [.int (nI 10011)] I1 Q))) ∧
 ((I1 115 10) = (nI 260) → J E (d + 1) mX12_readsLike 58 [(0, .ref (eb E + 115))] [.int (nI 10010)] I1 Q))) ∧
 (v2 = 0 → Q (some (.int (nI 0))) I1))))) : Mt E (d + 1) mX12_readsLike [.ref (eb E + 115)] I Q := by
  refine Mt_of [(0, .ref (eb E + 115))] (by decide +kernel) (by simp [lg_sl, Value.category, mX12_readsLike]) rfl ?_
  refine J_aload_n 0 aX12_readsLike_0 rfl ?_
  refine J_callV [] [] aX12_readsLike_1 lkX12_158_X12 okX12_readsValue sh115 rfl rfl rfl (Nat.le_of_ble_eq_true rfl) (Nat.le_refl _) (Mt_mono h (fun rv I1 h => ?_))
  obtain ⟨v2, rfl, h⟩ := h
  refine J_r1 ?_
  refine J_if_ne aX12_readsLike_4 (fun q => ?_) (fun q => ?_)
  · replace h := h.1 q
    refine J_aload_n 0 aX12_readsLike_9 rfl ?_
    refine J_getI aX12_readsLike_10 flX12_133 sh115 rfl ?_
    refine J_sipush (nI 260) aX12_readsLike_13 (by decide +kernel) ?_
    refine J_icmp_ne aX12_readsLike_16 (fun q => ?_) (fun q => ?_)
    · replace h := h.1 q
      refine J_aload_n 0 aX12_readsLike_25 rfl ?_
      refine J_getI aX12_readsLike_26 flX12_133 sh115 rfl ?_
      refine J_sipush (nI 261) aX12_readsLike_29 (by decide +kernel) ?_
      refine J_icmp_ne aX12_readsLike_32 (fun q => ?_) (fun q => ?_)
      · replace h := h.1 q
        refine J_aload_n 0 aX12_readsLike_41 rfl ?_
        refine J_getI aX12_readsLike_42 flX12_133 sh115 rfl ?_
        refine J_sipush (nI 262) aX12_readsLike_45 (by decide +kernel) ?_
        refine J_icmp_ne aX12_readsLike_48 (fun q => ?_) (fun q => ?_)
        · replace h := h.1 q
          refine J_iconst (nI 0) aX12_readsLike_57 (by decide +kernel) ?_
          refine J_pick [0] rfl ?_
          exact h
        · replace h := h.2 q
          refine J_sipush (nI 10012) aX12_readsLike_51 (by decide +kernel) ?_
          refine J_goto aX12_readsLike_54 ?_
          refine J_pick [0] rfl ?_
          exact h
      · replace h := h.2 q
        refine J_sipush (nI 10011) aX12_readsLike_35 (by decide +kernel) ?_
        refine J_goto aX12_readsLike_38 ?_
        refine J_pick [0] rfl ?_
        exact h
    · replace h := h.2 q
      refine J_sipush (nI 10010) aX12_readsLike_19 (by decide +kernel) ?_
      refine J_goto aX12_readsLike_22 ?_
      refine J_pick [0] rfl ?_
      exact h
  · replace h := h.2 q
    refine J_iconst (nI 0) aX12_readsLike_7 (by decide +kernel) ?_
    exact J_zret aX12_readsLike_8 rfl (by decide +kernel) h
theorem S_X12_readsLike_58 {E : EE} {d : Nat} {I : IH} {Q : QT} (t0 : Int32) (h :
((¬ t0 = 0 → (Mt E d mX12_next [.ref (eb E + 115)] I (fun rv I1 => rv = none ∧
 (Mt E d mX12_readsValue [.ref (eb E + 115)] I1 (fun rv I2 => ∃ v3 : Int32, rv = some (.int v3) ∧
 ((¬ v3 = 0 → (Mt E d mX12_lays [.ref (eb E + 115), .int t0] I2 (fun rv I4 => rv = none ∧
 Q (some (.int (nI 1))) I4))) ∧
 (v3 = 0 → Q (some (.int (nI 0))) I2))))))) ∧
 (t0 = 0 → Q (some (.int (nI 0))) I))) : J E (d + 1) mX12_readsLike 58 [(0, .ref (eb E + 115))] [.int t0] I Q := by
  refine J_istore_n [(1, .int t0), (0, .ref (eb E + 115))] aX12_readsLike_58 (by decide) rfl ?_
  refine J_iload_n 0 aX12_readsLike_59 rfl ?_
  refine J_if_ne aX12_readsLike_60 (fun q => ?_) (fun q => ?_)
  · replace h := h.1 q
    refine J_aload_n 1 aX12_readsLike_65 rfl ?_
    refine J_callV [] [] aX12_readsLike_66 lkX12_148_X12 okX12_next sh115 rfl rfl rfl (Nat.le_of_ble_eq_true rfl) (Nat.le_refl _) (Mt_mono h (fun rv I1 h => ?_))
    obtain ⟨rfl, h⟩ := h
    refine J_r0 ?_
    refine J_aload_n 1 aX12_readsLike_69 rfl ?_
    refine J_callV [] [] aX12_readsLike_70 lkX12_158_X12 okX12_readsValue sh115 rfl rfl rfl (Nat.le_of_ble_eq_true rfl) (Nat.le_refl _) (Mt_mono h (fun rv I2 h => ?_))
    obtain ⟨v3, rfl, h⟩ := h
    refine J_r1 ?_
    refine J_if_ne aX12_readsLike_73 (fun q => ?_) (fun q => ?_)
    · replace h := h.1 q
      refine J_aload_n 1 aX12_readsLike_78 rfl ?_
      refine J_iload_n 0 aX12_readsLike_79 rfl ?_
      refine J_callV [.int t0] [] aX12_readsLike_80 lkX12_154_X12 okX12_lays sh115 rfl rfl rfl (Nat.le_of_ble_eq_true rfl) (Nat.le_refl _) (Mt_mono h (fun rv I4 h => ?_))
      obtain ⟨rfl, h⟩ := h
      refine J_r0 ?_
      refine J_iconst (nI 1) aX12_readsLike_83 (by decide +kernel) ?_
      exact J_zret aX12_readsLike_84 rfl (by decide +kernel) h
    · replace h := h.2 q
      refine J_iconst (nI 0) aX12_readsLike_76 (by decide +kernel) ?_
      exact J_zret aX12_readsLike_77 rfl (by decide +kernel) h
  · replace h := h.2 q
    refine J_iconst (nI 0) aX12_readsLike_63 (by decide +kernel) ?_
    exact J_zret aX12_readsLike_64 rfl (by decide +kernel) h
theorem aX12_readsWithin_0 : decode mX12_readsWithin.2.1 0 = .ok (.aload_n 0, 1) ∧ 0 + 1 = 1 := ⟨by decide +kernel, rfl⟩
theorem aX12_readsWithin_1 : decode mX12_readsWithin.2.1 1 = .ok (.getfield 162, 3) ∧ 1 + 3 = 4 := ⟨by decide +kernel, rfl⟩
theorem aX12_readsWithin_4 : decode mX12_readsWithin.2.1 4 = .ok (.iconst 3, 1) ∧ 4 + 1 = 5 := ⟨by decide +kernel, rfl⟩
theorem aX12_readsWithin_5 : decode mX12_readsWithin.2.1 5 = .ok (.if_icmp .ne 5, 3) ∧ ((5 : Nat) : Int) + 5 = ((10 : Nat) : Int) ∧ 5 + 3 = 8 := ⟨by decide +kernel, by decide, rfl⟩
theorem aX12_readsWithin_8 : decode mX12_readsWithin.2.1 8 = .ok (.iconst 0, 1) ∧ 8 + 1 = 9 := ⟨by decide +kernel, rfl⟩
theorem aX12_readsWithin_9 : decode mX12_readsWithin.2.1 9 = .ok (.ireturn, 1) := by decide +kernel
theorem aX12_readsWithin_10 : decode mX12_readsWithin.2.1 10 = .ok (.aload_n 0, 1) ∧ 10 + 1 = 11 := ⟨by decide +kernel, rfl⟩
theorem aX12_readsWithin_11 : decode mX12_readsWithin.2.1 11 = .ok (.dup, 1) ∧ 11 + 1 = 12 := ⟨by decide +kernel, rfl⟩
theorem aX12_readsWithin_12 : decode mX12_readsWithin.2.1 12 = .ok (.getfield 162, 3) ∧ 12 + 3 = 15 := ⟨by decide +kernel, rfl⟩
theorem aX12_readsWithin_15 : decode mX12_readsWithin.2.1 15 = .ok (.iconst 1, 1) ∧ 15 + 1 = 16 := ⟨by decide +kernel, rfl⟩
theorem aX12_readsWithin_16 : decode mX12_readsWithin.2.1 16 = .ok (.iadd, 1) ∧ 16 + 1 = 17 := ⟨by decide +kernel, rfl⟩
theorem aX12_readsWithin_17 : decode mX12_readsWithin.2.1 17 = .ok (.putfield 162, 3) ∧ 17 + 3 = 20 := ⟨by decide +kernel, rfl⟩
theorem aX12_readsWithin_20 : decode mX12_readsWithin.2.1 20 = .ok (.aload_n 0, 1) ∧ 20 + 1 = 21 := ⟨by decide +kernel, rfl⟩
theorem aX12_readsWithin_21 : decode mX12_readsWithin.2.1 21 = .ok (.invokevirtual 148, 3) ∧ 21 + 3 = 24 := ⟨by decide +kernel, rfl⟩
theorem aX12_readsWithin_24 : decode mX12_readsWithin.2.1 24 = .ok (.aload_n 0, 1) ∧ 24 + 1 = 25 := ⟨by decide +kernel, rfl⟩
theorem aX12_readsWithin_25 : decode mX12_readsWithin.2.1 25 = .ok (.invokevirtual 165, 3) ∧ 25 + 3 = 28 := ⟨by decide +kernel, rfl⟩
theorem aX12_readsWithin_28 : decode mX12_readsWithin.2.1 28 = .ok (.ifCond .eq 13, 3) ∧ ((28 : Nat) : Int) + 13 = ((41 : Nat) : Int) ∧ 28 + 3 = 31 := ⟨by decide +kernel, by decide, rfl⟩
theorem aX12_readsWithin_31 : decode mX12_readsWithin.2.1 31 = .ok (.aload_n 0, 1) ∧ 31 + 1 = 32 := ⟨by decide +kernel, rfl⟩
theorem aX12_readsWithin_32 : decode mX12_readsWithin.2.1 32 = .ok (.sipush 241, 3) ∧ 32 + 3 = 35 := ⟨by decide +kernel, rfl⟩
theorem aX12_readsWithin_35 : decode mX12_readsWithin.2.1 35 = .ok (.invokevirtual 168, 3) ∧ 35 + 3 = 38 := ⟨by decide +kernel, rfl⟩
theorem aX12_readsWithin_38 : decode mX12_readsWithin.2.1 38 = .ok (.ifCond .ne 5, 3) ∧ ((38 : Nat) : Int) + 5 = ((43 : Nat) : Int) ∧ 38 + 3 = 41 := ⟨by decide +kernel, by decide, rfl⟩
theorem aX12_readsWithin_41 : decode mX12_readsWithin.2.1 41 = .ok (.iconst 0, 1) ∧ 41 + 1 = 42 := ⟨by decide +kernel, rfl⟩
theorem aX12_readsWithin_42 : decode mX12_readsWithin.2.1 42 = .ok (.ireturn, 1) := by decide +kernel
theorem aX12_readsWithin_43 : decode mX12_readsWithin.2.1 43 = .ok (.aload_n 0, 1) ∧ 43 + 1 = 44 := ⟨by decide +kernel, rfl⟩
theorem aX12_readsWithin_44 : decode mX12_readsWithin.2.1 44 = .ok (.dup, 1) ∧ 44 + 1 = 45 := ⟨by decide +kernel, rfl⟩
theorem aX12_readsWithin_45 : decode mX12_readsWithin.2.1 45 = .ok (.getfield 162, 3) ∧ 45 + 3 = 48 := ⟨by decide +kernel, rfl⟩
theorem aX12_readsWithin_48 : decode mX12_readsWithin.2.1 48 = .ok (.iconst 1, 1) ∧ 48 + 1 = 49 := ⟨by decide +kernel, rfl⟩
theorem aX12_readsWithin_49 : decode mX12_readsWithin.2.1 49 = .ok (.isub, 1) ∧ 49 + 1 = 50 := ⟨by decide +kernel, rfl⟩
theorem aX12_readsWithin_50 : decode mX12_readsWithin.2.1 50 = .ok (.putfield 162, 3) ∧ 50 + 3 = 53 := ⟨by decide +kernel, rfl⟩
theorem aX12_readsWithin_53 : decode mX12_readsWithin.2.1 53 = .ok (.iconst 1, 1) ∧ 53 + 1 = 54 := ⟨by decide +kernel, rfl⟩
theorem aX12_readsWithin_54 : decode mX12_readsWithin.2.1 54 = .ok (.ireturn, 1) := by decide +kernel
theorem S_X12_readsWithin {E : EE} {d : Nat} {I : IH} {Q : QT}  (h :
((¬ (I 115 12) = (nI 3) → (∀ I1 : IH, I1 = stI I 115 12 ((I 115 12) + (nI 1)) →
 (Mt E d mX12_next [.ref (eb E + 115)] I1 (fun rv I3 => rv = none ∧
 (Mt E d mX12_readsCondition [.ref (eb E + 115)] I3 (fun rv I4 => ∃ v5 : Int32, rv = some (.int v5) ∧
 ((v5 = 0 → Q (some (.int (nI 0))) I4) ∧
 (¬ v5 = 0 → (Mt E d mX12_takes [.ref (eb E + 115), .int (nI 241)] I4 (fun rv I6 => ∃ v7 : Int32, rv = some (.int v7) ∧
 ((¬ v7 = 0 → (∀ I8 : IH, I8 = stI I6 115 12 ((I6 115 12) - (nI 1)) →
 Q (some (.int (nI 1))) I8)) ∧
 (v7 = 0 → Q (some (.int (nI 0))) I6)))))))))))) ∧
 ((I 115 12) = (nI 3) → Q (some (.int (nI 0))) I))) : Mt E (d + 1) mX12_readsWithin [.ref (eb E + 115)] I Q := by
  refine Mt_of [(0, .ref (eb E + 115))] (by decide +kernel) (by simp [lg_sl, Value.category, mX12_readsWithin]) rfl ?_
  refine J_aload_n 0 aX12_readsWithin_0 rfl ?_
  refine J_getI aX12_readsWithin_1 flX12_162 sh115 rfl ?_
  refine J_iconst (nI 3) aX12_readsWithin_4 (by decide +kernel) ?_
  refine J_icmp_ne aX12_readsWithin_5 (fun q => ?_) (fun q => ?_)
  · replace h := h.1 q
    refine J_aload_n 0 aX12_readsWithin_10 rfl ?_
    refine J_dup aX12_readsWithin_11 rfl ?_
    refine J_getI aX12_readsWithin_12 flX12_162 sh115 rfl ?_
    refine J_iconst (nI 1) aX12_readsWithin_15 (by decide +kernel) ?_
    refine J_iadd aX12_readsWithin_16 ?_
    refine J_putI aX12_readsWithin_17 fpX12_162 sh115 rfl (fun I1 e2 => ?_)
    replace h := h I1 e2
    refine J_aload_n 0 aX12_readsWithin_20 rfl ?_
    refine J_callV [] [] aX12_readsWithin_21 lkX12_148_X12 okX12_next sh115 rfl rfl rfl (Nat.le_of_ble_eq_true rfl) (Nat.le_refl _) (Mt_mono h (fun rv I3 h => ?_))
    obtain ⟨rfl, h⟩ := h
    refine J_r0 ?_
    refine J_aload_n 0 aX12_readsWithin_24 rfl ?_
    refine J_callV [] [] aX12_readsWithin_25 lkX12_165_X12 okX12_readsCondition sh115 rfl rfl rfl (Nat.le_of_ble_eq_true rfl) (Nat.le_refl _) (Mt_mono h (fun rv I4 h => ?_))
    obtain ⟨v5, rfl, h⟩ := h
    refine J_r1 ?_
    refine J_if_eq aX12_readsWithin_28 (fun q => ?_) (fun q => ?_)
    · replace h := h.1 q
      refine J_iconst (nI 0) aX12_readsWithin_41 (by decide +kernel) ?_
      exact J_zret aX12_readsWithin_42 rfl (by decide +kernel) h
    · replace h := h.2 q
      refine J_aload_n 0 aX12_readsWithin_31 rfl ?_
      refine J_sipush (nI 241) aX12_readsWithin_32 (by decide +kernel) ?_
      refine J_callV [.int (nI 241)] [] aX12_readsWithin_35 lkX12_168_X12 okX12_takes sh115 rfl rfl rfl (Nat.le_of_ble_eq_true rfl) (Nat.le_refl _) (Mt_mono h (fun rv I6 h => ?_))
      obtain ⟨v7, rfl, h⟩ := h
      refine J_r1 ?_
      refine J_if_ne aX12_readsWithin_38 (fun q => ?_) (fun q => ?_)
      · replace h := h.1 q
        refine J_aload_n 0 aX12_readsWithin_43 rfl ?_
        refine J_dup aX12_readsWithin_44 rfl ?_
        refine J_getI aX12_readsWithin_45 flX12_162 sh115 rfl ?_
        refine J_iconst (nI 1) aX12_readsWithin_48 (by decide +kernel) ?_
        refine J_isub aX12_readsWithin_49 ?_
        refine J_putI aX12_readsWithin_50 fpX12_162 sh115 rfl (fun I8 e9 => ?_)
        replace h := h I8 e9
        refine J_iconst (nI 1) aX12_readsWithin_53 (by decide +kernel) ?_
        exact J_zret aX12_readsWithin_54 rfl (by decide +kernel) h
      · replace h := h.2 q
        refine J_iconst (nI 0) aX12_readsWithin_41 (by decide +kernel) ?_
        exact J_zret aX12_readsWithin_42 rfl (by decide +kernel) h
  · replace h := h.2 q
    refine J_iconst (nI 0) aX12_readsWithin_8 (by decide +kernel) ?_
    exact J_zret aX12_readsWithin_9 rfl (by decide +kernel) h
theorem aX12_readsOne_0 : decode mX12_readsOne.2.1 0 = .ok (.iconst 0, 1) ∧ 0 + 1 = 1 := ⟨by decide +kernel, rfl⟩
theorem aX12_readsOne_1 : decode mX12_readsOne.2.1 1 = .ok (.istore_n 1, 1) ∧ 1 + 1 = 2 := ⟨by decide +kernel, rfl⟩
theorem aX12_readsOne_2 : decode mX12_readsOne.2.1 2 = .ok (.aload_n 0, 1) ∧ 2 + 1 = 3 := ⟨by decide +kernel, rfl⟩
theorem aX12_readsOne_3 : decode mX12_readsOne.2.1 3 = .ok (.bipush 10, 2) ∧ 3 + 2 = 5 := ⟨by decide +kernel, rfl⟩
theorem aX12_readsOne_5 : decode mX12_readsOne.2.1 5 = .ok (.invokevirtual 168, 3) ∧ 5 + 3 = 8 := ⟨by decide +kernel, rfl⟩
theorem aX12_readsOne_8 : decode mX12_readsOne.2.1 8 = .ok (.ifCond .eq 9, 3) ∧ ((8 : Nat) : Int) + 9 = ((17 : Nat) : Int) ∧ 8 + 3 = 11 := ⟨by decide +kernel, by decide, rfl⟩
theorem aX12_readsOne_11 : decode mX12_readsOne.2.1 11 = .ok (.iinc 1 1, 3) ∧ 11 + 3 = 14 := ⟨by decide +kernel, rfl⟩
theorem aX12_readsOne_14 : decode mX12_readsOne.2.1 14 = .ok (.goto (-12), 3) ∧ ((14 : Nat) : Int) + (-12) = ((2 : Nat) : Int) := ⟨by decide +kernel, by decide⟩
theorem aX12_readsOne_17 : decode mX12_readsOne.2.1 17 = .ok (.aload_n 0, 1) ∧ 17 + 1 = 18 := ⟨by decide +kernel, rfl⟩
theorem aX12_readsOne_18 : decode mX12_readsOne.2.1 18 = .ok (.getfield 133, 3) ∧ 18 + 3 = 21 := ⟨by decide +kernel, rfl⟩
theorem aX12_readsOne_21 : decode mX12_readsOne.2.1 21 = .ok (.sipush 240, 3) ∧ 21 + 3 = 24 := ⟨by decide +kernel, rfl⟩
theorem aX12_readsOne_24 : decode mX12_readsOne.2.1 24 = .ok (.if_icmp .ne 10, 3) ∧ ((24 : Nat) : Int) + 10 = ((34 : Nat) : Int) ∧ 24 + 3 = 27 := ⟨by decide +kernel, by decide, rfl⟩
theorem aX12_readsOne_27 : decode mX12_readsOne.2.1 27 = .ok (.aload_n 0, 1) ∧ 27 + 1 = 28 := ⟨by decide +kernel, rfl⟩
theorem aX12_readsOne_28 : decode mX12_readsOne.2.1 28 = .ok (.invokevirtual 171, 3) ∧ 28 + 3 = 31 := ⟨by decide +kernel, rfl⟩
theorem aX12_readsOne_31 : decode mX12_readsOne.2.1 31 = .ok (.goto 7, 3) ∧ ((31 : Nat) : Int) + 7 = ((38 : Nat) : Int) := ⟨by decide +kernel, by decide⟩
theorem aX12_readsOne_34 : decode mX12_readsOne.2.1 34 = .ok (.aload_n 0, 1) ∧ 34 + 1 = 35 := ⟨by decide +kernel, rfl⟩
theorem aX12_readsOne_35 : decode mX12_readsOne.2.1 35 = .ok (.invokevirtual 174, 3) ∧ 35 + 3 = 38 := ⟨by decide +kernel, rfl⟩
theorem aX12_readsOne_38 : decode mX12_readsOne.2.1 38 = .ok (.istore_n 2, 1) ∧ 38 + 1 = 39 := ⟨by decide +kernel, rfl⟩
theorem aX12_readsOne_39 : decode mX12_readsOne.2.1 39 = .ok (.iconst 0, 1) ∧ 39 + 1 = 40 := ⟨by decide +kernel, rfl⟩
theorem aX12_readsOne_40 : decode mX12_readsOne.2.1 40 = .ok (.istore_n 3, 1) ∧ 40 + 1 = 41 := ⟨by decide +kernel, rfl⟩
theorem aX12_readsOne_41 : decode mX12_readsOne.2.1 41 = .ok (.iload_n 3, 1) ∧ 41 + 1 = 42 := ⟨by decide +kernel, rfl⟩
theorem aX12_readsOne_42 : decode mX12_readsOne.2.1 42 = .ok (.iload_n 1, 1) ∧ 42 + 1 = 43 := ⟨by decide +kernel, rfl⟩
theorem aX12_readsOne_43 : decode mX12_readsOne.2.1 43 = .ok (.if_icmp .ge 20, 3) ∧ ((43 : Nat) : Int) + 20 = ((63 : Nat) : Int) ∧ 43 + 3 = 46 := ⟨by decide +kernel, by decide, rfl⟩
theorem aX12_readsOne_46 : decode mX12_readsOne.2.1 46 = .ok (.iload_n 2, 1) ∧ 46 + 1 = 47 := ⟨by decide +kernel, rfl⟩
theorem aX12_readsOne_47 : decode mX12_readsOne.2.1 47 = .ok (.ifCond .eq 16, 3) ∧ ((47 : Nat) : Int) + 16 = ((63 : Nat) : Int) ∧ 47 + 3 = 50 := ⟨by decide +kernel, by decide, rfl⟩
theorem aX12_readsOne_50 : decode mX12_readsOne.2.1 50 = .ok (.aload_n 0, 1) ∧ 50 + 1 = 51 := ⟨by decide +kernel, rfl⟩
theorem aX12_readsOne_51 : decode mX12_readsOne.2.1 51 = .ok (.sipush 10015, 3) ∧ 51 + 3 = 54 := ⟨by decide +kernel, rfl⟩
theorem aX12_readsOne_54 : decode mX12_readsOne.2.1 54 = .ok (.invokevirtual 154, 3) ∧ 54 + 3 = 57 := ⟨by decide +kernel, rfl⟩
theorem aX12_readsOne_57 : decode mX12_readsOne.2.1 57 = .ok (.iinc 3 1, 3) ∧ 57 + 3 = 60 := ⟨by decide +kernel, rfl⟩
theorem aX12_readsOne_60 : decode mX12_readsOne.2.1 60 = .ok (.goto (-19), 3) ∧ ((60 : Nat) : Int) + (-19) = ((41 : Nat) : Int) := ⟨by decide +kernel, by decide⟩
theorem aX12_readsOne_63 : decode mX12_readsOne.2.1 63 = .ok (.iload_n 2, 1) ∧ 63 + 1 = 64 := ⟨by decide +kernel, rfl⟩
theorem aX12_readsOne_64 : decode mX12_readsOne.2.1 64 = .ok (.ireturn, 1) := by decide +kernel
theorem S_X12_readsOne {E : EE} {d : Nat} {I : IH} {Q : QT}  (h :
J E (d + 1) mX12_readsOne 2 [(0, .ref (eb E + 115)), (1, .int (nI 0))] [] I Q) : Mt E (d + 1) mX12_readsOne [.ref (eb E + 115)] I Q := by
  refine Mt_of [(0, .ref (eb E + 115))] (by decide +kernel) (by simp [lg_sl, Value.category, mX12_readsOne]) rfl ?_
  refine J_iconst (nI 0) aX12_readsOne_0 (by decide +kernel) ?_
  refine J_istore_n [(1, .int (nI 0)), (0, .ref (eb E + 115))] aX12_readsOne_1 (by decide) rfl ?_
  refine J_pick [1, 0] rfl ?_
  exact h
theorem S_X12_readsOne_2 {E : EE} {d : Nat} {I : IH} {Q : QT} (x1 : Int32) (h :
(Mt E d mX12_takes [.ref (eb E + 115), .int (nI 10)] I (fun rv I1 => ∃ v2 : Int32, rv = some (.int v2) ∧
 ((v2 = 0 → ((¬ (I1 115 10) = (nI 240) → (Mt E d mX12_readsLike [.ref (eb E + 115)] I1 (fun rv I3 => ∃ v4 : Int32, rv = some (.int v4) ∧
 J E (d + 1) mX12_readsOne 41 [(0, .ref (eb E + 115)), (1, .int x1), (2, .int v4), (3, .int (nI 0))] [] I3 Q))) ∧
 ((I1 115 10) = (nI 240) → (Mt E d mX12_readsWithin [.ref (eb E + 115)] I1 (fun rv I5 => ∃ v6 : Int32, rv = some (.int v6) ∧
 J E (d + 1) mX12_readsOne 41 [(0, .ref (eb E + 115)), (1, .int x1), (2, .int v6), (3, .int (nI 0))] [] I5 Q))))) ∧
 (¬ v2 = 0 → J E (d + 1) mX12_readsOne 2 [(0, .ref (eb E + 115)), (1, .int (x1 + nI 1))] [] I1 Q))))) : J E (d + 1) mX12_readsOne 2 [(0, .ref (eb E + 115)), (1, .int x1)] [] I Q := by
  refine J_aload_n 0 aX12_readsOne_2 rfl ?_
  refine J_bipush (nI 10) aX12_readsOne_3 (by decide +kernel) ?_
  refine J_callV [.int (nI 10)] [] aX12_readsOne_5 lkX12_168_X12 okX12_takes sh115 rfl rfl rfl (Nat.le_of_ble_eq_true rfl) (Nat.le_refl _) (Mt_mono h (fun rv I1 h => ?_))
  obtain ⟨v2, rfl, h⟩ := h
  refine J_r1 ?_
  refine J_if_eq aX12_readsOne_8 (fun q => ?_) (fun q => ?_)
  · replace h := h.1 q
    refine J_aload_n 0 aX12_readsOne_17 rfl ?_
    refine J_getI aX12_readsOne_18 flX12_133 sh115 rfl ?_
    refine J_sipush (nI 240) aX12_readsOne_21 (by decide +kernel) ?_
    refine J_icmp_ne aX12_readsOne_24 (fun q => ?_) (fun q => ?_)
    · replace h := h.1 q
      refine J_aload_n 0 aX12_readsOne_34 rfl ?_
      refine J_callV [] [] aX12_readsOne_35 lkX12_174_X12 okX12_readsLike sh115 rfl rfl rfl (Nat.le_of_ble_eq_true rfl) (Nat.le_refl _) (Mt_mono h (fun rv I3 h => ?_))
      obtain ⟨v4, rfl, h⟩ := h
      refine J_r1 ?_
      refine J_istore_n [(2, .int v4), (0, .ref (eb E + 115)), (1, .int x1)] aX12_readsOne_38 (by decide) rfl ?_
      refine J_iconst (nI 0) aX12_readsOne_39 (by decide +kernel) ?_
      refine J_istore_n [(3, .int (nI 0)), (2, .int v4), (0, .ref (eb E + 115)), (1, .int x1)] aX12_readsOne_40 (by decide) rfl ?_
      refine J_pick [2, 3, 1, 0] rfl ?_
      exact h
    · replace h := h.2 q
      refine J_aload_n 0 aX12_readsOne_27 rfl ?_
      refine J_callV [] [] aX12_readsOne_28 lkX12_171_X12 okX12_readsWithin sh115 rfl rfl rfl (Nat.le_of_ble_eq_true rfl) (Nat.le_refl _) (Mt_mono h (fun rv I5 h => ?_))
      obtain ⟨v6, rfl, h⟩ := h
      refine J_r1 ?_
      refine J_goto aX12_readsOne_31 ?_
      refine J_istore_n [(2, .int v6), (0, .ref (eb E + 115)), (1, .int x1)] aX12_readsOne_38 (by decide) rfl ?_
      refine J_iconst (nI 0) aX12_readsOne_39 (by decide +kernel) ?_
      refine J_istore_n [(3, .int (nI 0)), (2, .int v6), (0, .ref (eb E + 115)), (1, .int x1)] aX12_readsOne_40 (by decide) rfl ?_
      refine J_pick [2, 3, 1, 0] rfl ?_
      exact h
  · replace h := h.2 q
    refine J_iinc (x1 + nI 1) [(1, .int (x1 + nI 1)), (0, .ref (eb E + 115))] 1 aX12_readsOne_11 rfl (by first | rfl | (congr 1; decide +kernel)) (by decide) rfl ?_
    refine J_goto aX12_readsOne_14 ?_
    refine J_pick [1, 0] rfl ?_
    exact h
theorem S_X12_readsOne_41 {E : EE} {d : Nat} {I : IH} {Q : QT} (x1 : Int32) (x2 : Int32) (x3 : Int32) (h :
((x1 ≤ x3 → ((x2 = 0 ∨ x2 = 1) ∧ Q (some (.int x2)) I)) ∧
 (¬ x1 ≤ x3 → ((x2 = 0 → ((x2 = 0 ∨ x2 = 1) ∧ Q (some (.int x2)) I)) ∧
 (¬ x2 = 0 → (Mt E d mX12_lays [.ref (eb E + 115), .int (nI 10015)] I (fun rv I1 => rv = none ∧
 J E (d + 1) mX12_readsOne 41 [(0, .ref (eb E + 115)), (1, .int x1), (2, .int x2), (3, .int (x3 + nI 1))] [] I1 Q))))))) : J E (d + 1) mX12_readsOne 41 [(0, .ref (eb E + 115)), (1, .int x1), (2, .int x2), (3, .int x3)] [] I Q := by
  refine J_iload_n 3 aX12_readsOne_41 rfl ?_
  refine J_iload_n 1 aX12_readsOne_42 rfl ?_
  refine J_icmp_ge aX12_readsOne_43 (fun q => ?_) (fun q => ?_)
  · replace h := h.1 q
    refine J_iload_n 2 aX12_readsOne_63 rfl ?_
    exact J_zret aX12_readsOne_64 rfl (nar_bool h.1).1 h.2
  · replace h := h.2 q
    refine J_iload_n 2 aX12_readsOne_46 rfl ?_
    refine J_if_eq aX12_readsOne_47 (fun q => ?_) (fun q => ?_)
    · replace h := h.1 q
      refine J_iload_n 2 aX12_readsOne_63 rfl ?_
      exact J_zret aX12_readsOne_64 rfl (nar_bool h.1).1 h.2
    · replace h := h.2 q
      refine J_aload_n 0 aX12_readsOne_50 rfl ?_
      refine J_sipush (nI 10015) aX12_readsOne_51 (by decide +kernel) ?_
      refine J_callV [.int (nI 10015)] [] aX12_readsOne_54 lkX12_154_X12 okX12_lays sh115 rfl rfl rfl (Nat.le_of_ble_eq_true rfl) (Nat.le_refl _) (Mt_mono h (fun rv I1 h => ?_))
      obtain ⟨rfl, h⟩ := h
      refine J_r0 ?_
      refine J_iinc (x3 + nI 1) [(3, .int (x3 + nI 1)), (0, .ref (eb E + 115)), (1, .int x1), (2, .int x2)] 3 aX12_readsOne_57 rfl (by first | rfl | (congr 1; decide +kernel)) (by decide) rfl ?_
      refine J_goto aX12_readsOne_60 ?_
      refine J_pick [1, 2, 3, 0] rfl ?_
      exact h
theorem aX12_readsAll_0 : decode mX12_readsAll.2.1 0 = .ok (.aload_n 0, 1) ∧ 0 + 1 = 1 := ⟨by decide +kernel, rfl⟩
theorem aX12_readsAll_1 : decode mX12_readsAll.2.1 1 = .ok (.invokevirtual 177, 3) ∧ 1 + 3 = 4 := ⟨by decide +kernel, rfl⟩
theorem aX12_readsAll_4 : decode mX12_readsAll.2.1 4 = .ok (.istore_n 1, 1) ∧ 4 + 1 = 5 := ⟨by decide +kernel, rfl⟩
theorem aX12_readsAll_5 : decode mX12_readsAll.2.1 5 = .ok (.iload_n 1, 1) ∧ 5 + 1 = 6 := ⟨by decide +kernel, rfl⟩
theorem aX12_readsAll_6 : decode mX12_readsAll.2.1 6 = .ok (.ifCond .eq 31, 3) ∧ ((6 : Nat) : Int) + 31 = ((37 : Nat) : Int) ∧ 6 + 3 = 9 := ⟨by decide +kernel, by decide, rfl⟩
theorem aX12_readsAll_9 : decode mX12_readsAll.2.1 9 = .ok (.aload_n 0, 1) ∧ 9 + 1 = 10 := ⟨by decide +kernel, rfl⟩
theorem aX12_readsAll_10 : decode mX12_readsAll.2.1 10 = .ok (.bipush 11, 2) ∧ 10 + 2 = 12 := ⟨by decide +kernel, rfl⟩
theorem aX12_readsAll_12 : decode mX12_readsAll.2.1 12 = .ok (.invokevirtual 168, 3) ∧ 12 + 3 = 15 := ⟨by decide +kernel, rfl⟩
theorem aX12_readsAll_15 : decode mX12_readsAll.2.1 15 = .ok (.ifCond .eq 22, 3) ∧ ((15 : Nat) : Int) + 22 = ((37 : Nat) : Int) ∧ 15 + 3 = 18 := ⟨by decide +kernel, by decide, rfl⟩
theorem aX12_readsAll_18 : decode mX12_readsAll.2.1 18 = .ok (.aload_n 0, 1) ∧ 18 + 1 = 19 := ⟨by decide +kernel, rfl⟩
theorem aX12_readsAll_19 : decode mX12_readsAll.2.1 19 = .ok (.invokevirtual 177, 3) ∧ 19 + 3 = 22 := ⟨by decide +kernel, rfl⟩
theorem aX12_readsAll_22 : decode mX12_readsAll.2.1 22 = .ok (.istore_n 1, 1) ∧ 22 + 1 = 23 := ⟨by decide +kernel, rfl⟩
theorem aX12_readsAll_23 : decode mX12_readsAll.2.1 23 = .ok (.iload_n 1, 1) ∧ 23 + 1 = 24 := ⟨by decide +kernel, rfl⟩
theorem aX12_readsAll_24 : decode mX12_readsAll.2.1 24 = .ok (.ifCond .eq (-19), 3) ∧ ((24 : Nat) : Int) + (-19) = ((5 : Nat) : Int) ∧ 24 + 3 = 27 := ⟨by decide +kernel, by decide, rfl⟩
theorem aX12_readsAll_27 : decode mX12_readsAll.2.1 27 = .ok (.aload_n 0, 1) ∧ 27 + 1 = 28 := ⟨by decide +kernel, rfl⟩
theorem aX12_readsAll_28 : decode mX12_readsAll.2.1 28 = .ok (.sipush 10013, 3) ∧ 28 + 3 = 31 := ⟨by decide +kernel, rfl⟩
theorem aX12_readsAll_31 : decode mX12_readsAll.2.1 31 = .ok (.invokevirtual 154, 3) ∧ 31 + 3 = 34 := ⟨by decide +kernel, rfl⟩
theorem aX12_readsAll_34 : decode mX12_readsAll.2.1 34 = .ok (.goto (-29), 3) ∧ ((34 : Nat) : Int) + (-29) = ((5 : Nat) : Int) := ⟨by decide +kernel, by decide⟩
theorem aX12_readsAll_37 : decode mX12_readsAll.2.1 37 = .ok (.iload_n 1, 1) ∧ 37 + 1 = 38 := ⟨by decide +kernel, rfl⟩
theorem aX12_readsAll_38 : decode mX12_readsAll.2.1 38 = .ok (.ireturn, 1) := by decide +kernel
theorem S_X12_readsAll {E : EE} {d : Nat} {I : IH} {Q : QT}  (h :
(Mt E d mX12_readsOne [.ref (eb E + 115)] I (fun rv I1 => ∃ v2 : Int32, rv = some (.int v2) ∧
 J E (d + 1) mX12_readsAll 5 [(0, .ref (eb E + 115)), (1, .int v2)] [] I1 Q))) : Mt E (d + 1) mX12_readsAll [.ref (eb E + 115)] I Q := by
  refine Mt_of [(0, .ref (eb E + 115))] (by decide +kernel) (by simp [lg_sl, Value.category, mX12_readsAll]) rfl ?_
  refine J_aload_n 0 aX12_readsAll_0 rfl ?_
  refine J_callV [] [] aX12_readsAll_1 lkX12_177_X12 okX12_readsOne sh115 rfl rfl rfl (Nat.le_of_ble_eq_true rfl) (Nat.le_refl _) (Mt_mono h (fun rv I1 h => ?_))
  obtain ⟨v2, rfl, h⟩ := h
  refine J_r1 ?_
  refine J_istore_n [(1, .int v2), (0, .ref (eb E + 115))] aX12_readsAll_4 (by decide) rfl ?_
  refine J_pick [1, 0] rfl ?_
  exact h
theorem S_X12_readsAll_5 {E : EE} {d : Nat} {I : IH} {Q : QT} (x1 : Int32) (h :
((x1 = 0 → ((x1 = 0 ∨ x1 = 1) ∧ Q (some (.int x1)) I)) ∧
 (¬ x1 = 0 → (Mt E d mX12_takes [.ref (eb E + 115), .int (nI 11)] I (fun rv I1 => ∃ v2 : Int32, rv = some (.int v2) ∧
 ((v2 = 0 → ((x1 = 0 ∨ x1 = 1) ∧ Q (some (.int x1)) I1)) ∧
 (¬ v2 = 0 → (Mt E d mX12_readsOne [.ref (eb E + 115)] I1 (fun rv I3 => ∃ v4 : Int32, rv = some (.int v4) ∧
 ((v4 = 0 → J E (d + 1) mX12_readsAll 5 [(0, .ref (eb E + 115)), (1, .int v4)] [] I3 Q) ∧
 (¬ v4 = 0 → (Mt E d mX12_lays [.ref (eb E + 115), .int (nI 10013)] I3 (fun rv I5 => rv = none ∧
 J E (d + 1) mX12_readsAll 5 [(0, .ref (eb E + 115)), (1, .int v4)] [] I5 Q))))))))))))) : J E (d + 1) mX12_readsAll 5 [(0, .ref (eb E + 115)), (1, .int x1)] [] I Q := by
  refine J_iload_n 1 aX12_readsAll_5 rfl ?_
  refine J_if_eq aX12_readsAll_6 (fun q => ?_) (fun q => ?_)
  · replace h := h.1 q
    refine J_iload_n 1 aX12_readsAll_37 rfl ?_
    exact J_zret aX12_readsAll_38 rfl (nar_bool h.1).1 h.2
  · replace h := h.2 q
    refine J_aload_n 0 aX12_readsAll_9 rfl ?_
    refine J_bipush (nI 11) aX12_readsAll_10 (by decide +kernel) ?_
    refine J_callV [.int (nI 11)] [] aX12_readsAll_12 lkX12_168_X12 okX12_takes sh115 rfl rfl rfl (Nat.le_of_ble_eq_true rfl) (Nat.le_refl _) (Mt_mono h (fun rv I1 h => ?_))
    obtain ⟨v2, rfl, h⟩ := h
    refine J_r1 ?_
    refine J_if_eq aX12_readsAll_15 (fun q => ?_) (fun q => ?_)
    · replace h := h.1 q
      refine J_iload_n 1 aX12_readsAll_37 rfl ?_
      exact J_zret aX12_readsAll_38 rfl (nar_bool h.1).1 h.2
    · replace h := h.2 q
      refine J_aload_n 0 aX12_readsAll_18 rfl ?_
      refine J_callV [] [] aX12_readsAll_19 lkX12_177_X12 okX12_readsOne sh115 rfl rfl rfl (Nat.le_of_ble_eq_true rfl) (Nat.le_refl _) (Mt_mono h (fun rv I3 h => ?_))
      obtain ⟨v4, rfl, h⟩ := h
      refine J_r1 ?_
      refine J_istore_n [(1, .int v4), (0, .ref (eb E + 115))] aX12_readsAll_22 (by decide) rfl ?_
      refine J_iload_n 0 aX12_readsAll_23 rfl ?_
      refine J_if_eq aX12_readsAll_24 (fun q => ?_) (fun q => ?_)
      · replace h := h.1 q
        refine J_pick [1, 0] rfl ?_
        exact h
      · replace h := h.2 q
        refine J_aload_n 1 aX12_readsAll_27 rfl ?_
        refine J_sipush (nI 10013) aX12_readsAll_28 (by decide +kernel) ?_
        refine J_callV [.int (nI 10013)] [] aX12_readsAll_31 lkX12_154_X12 okX12_lays sh115 rfl rfl rfl (Nat.le_of_ble_eq_true rfl) (Nat.le_refl _) (Mt_mono h (fun rv I5 h => ?_))
        obtain ⟨rfl, h⟩ := h
        refine J_r0 ?_
        refine J_goto aX12_readsAll_34 ?_
        refine J_pick [1, 0] rfl ?_
        exact h
theorem aX12_readsCondition_0 : decode mX12_readsCondition.2.1 0 = .ok (.aload_n 0, 1) ∧ 0 + 1 = 1 := ⟨by decide +kernel, rfl⟩
theorem aX12_readsCondition_1 : decode mX12_readsCondition.2.1 1 = .ok (.invokevirtual 180, 3) ∧ 1 + 3 = 4 := ⟨by decide +kernel, rfl⟩
theorem aX12_readsCondition_4 : decode mX12_readsCondition.2.1 4 = .ok (.istore_n 1, 1) ∧ 4 + 1 = 5 := ⟨by decide +kernel, rfl⟩
theorem aX12_readsCondition_5 : decode mX12_readsCondition.2.1 5 = .ok (.iload_n 1, 1) ∧ 5 + 1 = 6 := ⟨by decide +kernel, rfl⟩
theorem aX12_readsCondition_6 : decode mX12_readsCondition.2.1 6 = .ok (.ifCond .eq 31, 3) ∧ ((6 : Nat) : Int) + 31 = ((37 : Nat) : Int) ∧ 6 + 3 = 9 := ⟨by decide +kernel, by decide, rfl⟩
theorem aX12_readsCondition_9 : decode mX12_readsCondition.2.1 9 = .ok (.aload_n 0, 1) ∧ 9 + 1 = 10 := ⟨by decide +kernel, rfl⟩
theorem aX12_readsCondition_10 : decode mX12_readsCondition.2.1 10 = .ok (.bipush 12, 2) ∧ 10 + 2 = 12 := ⟨by decide +kernel, rfl⟩
theorem aX12_readsCondition_12 : decode mX12_readsCondition.2.1 12 = .ok (.invokevirtual 168, 3) ∧ 12 + 3 = 15 := ⟨by decide +kernel, rfl⟩
theorem aX12_readsCondition_15 : decode mX12_readsCondition.2.1 15 = .ok (.ifCond .eq 22, 3) ∧ ((15 : Nat) : Int) + 22 = ((37 : Nat) : Int) ∧ 15 + 3 = 18 := ⟨by decide +kernel, by decide, rfl⟩
theorem aX12_readsCondition_18 : decode mX12_readsCondition.2.1 18 = .ok (.aload_n 0, 1) ∧ 18 + 1 = 19 := ⟨by decide +kernel, rfl⟩
theorem aX12_readsCondition_19 : decode mX12_readsCondition.2.1 19 = .ok (.invokevirtual 180, 3) ∧ 19 + 3 = 22 := ⟨by decide +kernel, rfl⟩
theorem aX12_readsCondition_22 : decode mX12_readsCondition.2.1 22 = .ok (.istore_n 1, 1) ∧ 22 + 1 = 23 := ⟨by decide +kernel, rfl⟩
theorem aX12_readsCondition_23 : decode mX12_readsCondition.2.1 23 = .ok (.iload_n 1, 1) ∧ 23 + 1 = 24 := ⟨by decide +kernel, rfl⟩
theorem aX12_readsCondition_24 : decode mX12_readsCondition.2.1 24 = .ok (.ifCond .eq (-19), 3) ∧ ((24 : Nat) : Int) + (-19) = ((5 : Nat) : Int) ∧ 24 + 3 = 27 := ⟨by decide +kernel, by decide, rfl⟩
theorem aX12_readsCondition_27 : decode mX12_readsCondition.2.1 27 = .ok (.aload_n 0, 1) ∧ 27 + 1 = 28 := ⟨by decide +kernel, rfl⟩
theorem aX12_readsCondition_28 : decode mX12_readsCondition.2.1 28 = .ok (.sipush 10014, 3) ∧ 28 + 3 = 31 := ⟨by decide +kernel, rfl⟩
theorem aX12_readsCondition_31 : decode mX12_readsCondition.2.1 31 = .ok (.invokevirtual 154, 3) ∧ 31 + 3 = 34 := ⟨by decide +kernel, rfl⟩
theorem aX12_readsCondition_34 : decode mX12_readsCondition.2.1 34 = .ok (.goto (-29), 3) ∧ ((34 : Nat) : Int) + (-29) = ((5 : Nat) : Int) := ⟨by decide +kernel, by decide⟩
theorem aX12_readsCondition_37 : decode mX12_readsCondition.2.1 37 = .ok (.iload_n 1, 1) ∧ 37 + 1 = 38 := ⟨by decide +kernel, rfl⟩
theorem aX12_readsCondition_38 : decode mX12_readsCondition.2.1 38 = .ok (.ireturn, 1) := by decide +kernel
theorem S_X12_readsCondition {E : EE} {d : Nat} {I : IH} {Q : QT}  (h :
(Mt E d mX12_readsAll [.ref (eb E + 115)] I (fun rv I1 => ∃ v2 : Int32, rv = some (.int v2) ∧
 J E (d + 1) mX12_readsCondition 5 [(0, .ref (eb E + 115)), (1, .int v2)] [] I1 Q))) : Mt E (d + 1) mX12_readsCondition [.ref (eb E + 115)] I Q := by
  refine Mt_of [(0, .ref (eb E + 115))] (by decide +kernel) (by simp [lg_sl, Value.category, mX12_readsCondition]) rfl ?_
  refine J_aload_n 0 aX12_readsCondition_0 rfl ?_
  refine J_callV [] [] aX12_readsCondition_1 lkX12_180_X12 okX12_readsAll sh115 rfl rfl rfl (Nat.le_of_ble_eq_true rfl) (Nat.le_refl _) (Mt_mono h (fun rv I1 h => ?_))
  obtain ⟨v2, rfl, h⟩ := h
  refine J_r1 ?_
  refine J_istore_n [(1, .int v2), (0, .ref (eb E + 115))] aX12_readsCondition_4 (by decide) rfl ?_
  refine J_pick [1, 0] rfl ?_
  exact h
theorem S_X12_readsCondition_5 {E : EE} {d : Nat} {I : IH} {Q : QT} (x1 : Int32) (h :
((x1 = 0 → ((x1 = 0 ∨ x1 = 1) ∧ Q (some (.int x1)) I)) ∧
 (¬ x1 = 0 → (Mt E d mX12_takes [.ref (eb E + 115), .int (nI 12)] I (fun rv I1 => ∃ v2 : Int32, rv = some (.int v2) ∧
 ((v2 = 0 → ((x1 = 0 ∨ x1 = 1) ∧ Q (some (.int x1)) I1)) ∧
 (¬ v2 = 0 → (Mt E d mX12_readsAll [.ref (eb E + 115)] I1 (fun rv I3 => ∃ v4 : Int32, rv = some (.int v4) ∧
 ((v4 = 0 → J E (d + 1) mX12_readsCondition 5 [(0, .ref (eb E + 115)), (1, .int v4)] [] I3 Q) ∧
 (¬ v4 = 0 → (Mt E d mX12_lays [.ref (eb E + 115), .int (nI 10014)] I3 (fun rv I5 => rv = none ∧
 J E (d + 1) mX12_readsCondition 5 [(0, .ref (eb E + 115)), (1, .int v4)] [] I5 Q))))))))))))) : J E (d + 1) mX12_readsCondition 5 [(0, .ref (eb E + 115)), (1, .int x1)] [] I Q := by
  refine J_iload_n 1 aX12_readsCondition_5 rfl ?_
  refine J_if_eq aX12_readsCondition_6 (fun q => ?_) (fun q => ?_)
  · replace h := h.1 q
    refine J_iload_n 1 aX12_readsCondition_37 rfl ?_
    exact J_zret aX12_readsCondition_38 rfl (nar_bool h.1).1 h.2
  · replace h := h.2 q
    refine J_aload_n 0 aX12_readsCondition_9 rfl ?_
    refine J_bipush (nI 12) aX12_readsCondition_10 (by decide +kernel) ?_
    refine J_callV [.int (nI 12)] [] aX12_readsCondition_12 lkX12_168_X12 okX12_takes sh115 rfl rfl rfl (Nat.le_of_ble_eq_true rfl) (Nat.le_refl _) (Mt_mono h (fun rv I1 h => ?_))
    obtain ⟨v2, rfl, h⟩ := h
    refine J_r1 ?_
    refine J_if_eq aX12_readsCondition_15 (fun q => ?_) (fun q => ?_)
    · replace h := h.1 q
      refine J_iload_n 1 aX12_readsCondition_37 rfl ?_
      exact J_zret aX12_readsCondition_38 rfl (nar_bool h.1).1 h.2
    · replace h := h.2 q
      refine J_aload_n 0 aX12_readsCondition_18 rfl ?_
      refine J_callV [] [] aX12_readsCondition_19 lkX12_180_X12 okX12_readsAll sh115 rfl rfl rfl (Nat.le_of_ble_eq_true rfl) (Nat.le_refl _) (Mt_mono h (fun rv I3 h => ?_))
      obtain ⟨v4, rfl, h⟩ := h
      refine J_r1 ?_
      refine J_istore_n [(1, .int v4), (0, .ref (eb E + 115))] aX12_readsCondition_22 (by decide) rfl ?_
      refine J_iload_n 0 aX12_readsCondition_23 rfl ?_
      refine J_if_eq aX12_readsCondition_24 (fun q => ?_) (fun q => ?_)
      · replace h := h.1 q
        refine J_pick [1, 0] rfl ?_
        exact h
      · replace h := h.2 q
        refine J_aload_n 1 aX12_readsCondition_27 rfl ?_
        refine J_sipush (nI 10014) aX12_readsCondition_28 (by decide +kernel) ?_
        refine J_callV [.int (nI 10014)] [] aX12_readsCondition_31 lkX12_154_X12 okX12_lays sh115 rfl rfl rfl (Nat.le_of_ble_eq_true rfl) (Nat.le_refl _) (Mt_mono h (fun rv I5 h => ?_))
        obtain ⟨rfl, h⟩ := h
        refine J_r0 ?_
        refine J_goto aX12_readsCondition_34 ?_
        refine J_pick [1, 0] rfl ?_
        exact h
theorem aX12_readsRule_0 : decode mX12_readsRule.2.1 0 = .ok (.iload_n 1, 1) ∧ 0 + 1 = 1 := ⟨by decide +kernel, rfl⟩
theorem aX12_readsRule_1 : decode mX12_readsRule.2.1 1 = .ok (.bipush 8, 2) ∧ 1 + 2 = 3 := ⟨by decide +kernel, rfl⟩
theorem aX12_readsRule_3 : decode mX12_readsRule.2.1 3 = .ok (.if_icmp .eq 15, 3) ∧ ((3 : Nat) : Int) + 15 = ((18 : Nat) : Int) ∧ 3 + 3 = 6 := ⟨by decide +kernel, by decide, rfl⟩
theorem aX12_readsRule_6 : decode mX12_readsRule.2.1 6 = .ok (.aload_n 0, 1) ∧ 6 + 1 = 7 := ⟨by decide +kernel, rfl⟩
theorem aX12_readsRule_7 : decode mX12_readsRule.2.1 7 = .ok (.getfield 133, 3) ∧ 7 + 3 = 10 := ⟨by decide +kernel, rfl⟩
theorem aX12_readsRule_10 : decode mX12_readsRule.2.1 10 = .ok (.iconst 0, 1) ∧ 10 + 1 = 11 := ⟨by decide +kernel, rfl⟩
theorem aX12_readsRule_11 : decode mX12_readsRule.2.1 11 = .ok (.iconst 5, 1) ∧ 11 + 1 = 12 := ⟨by decide +kernel, rfl⟩
theorem aX12_readsRule_12 : decode mX12_readsRule.2.1 12 = .ok (.invokestatic 68, 3) ∧ 12 + 3 = 15 := ⟨by decide +kernel, rfl⟩
theorem aX12_readsRule_15 : decode mX12_readsRule.2.1 15 = .ok (.ifCond .ne 5, 3) ∧ ((15 : Nat) : Int) + 5 = ((20 : Nat) : Int) ∧ 15 + 3 = 18 := ⟨by decide +kernel, by decide, rfl⟩
theorem aX12_readsRule_18 : decode mX12_readsRule.2.1 18 = .ok (.iconst 0, 1) ∧ 18 + 1 = 19 := ⟨by decide +kernel, rfl⟩
theorem aX12_readsRule_19 : decode mX12_readsRule.2.1 19 = .ok (.ireturn, 1) := by decide +kernel
theorem aX12_readsRule_20 : decode mX12_readsRule.2.1 20 = .ok (.aload_n 0, 1) ∧ 20 + 1 = 21 := ⟨by decide +kernel, rfl⟩
theorem aX12_readsRule_21 : decode mX12_readsRule.2.1 21 = .ok (.getfield 32, 3) ∧ 21 + 3 = 24 := ⟨by decide +kernel, rfl⟩
theorem aX12_readsRule_24 : decode mX12_readsRule.2.1 24 = .ok (.iconst 3, 1) ∧ 24 + 1 = 25 := ⟨by decide +kernel, rfl⟩
theorem aX12_readsRule_25 : decode mX12_readsRule.2.1 25 = .ok (.iload_n 1, 1) ∧ 25 + 1 = 26 := ⟨by decide +kernel, rfl⟩
theorem aX12_readsRule_26 : decode mX12_readsRule.2.1 26 = .ok (.imul, 1) ∧ 26 + 1 = 27 := ⟨by decide +kernel, rfl⟩
theorem aX12_readsRule_27 : decode mX12_readsRule.2.1 27 = .ok (.aload_n 0, 1) ∧ 27 + 1 = 28 := ⟨by decide +kernel, rfl⟩
theorem aX12_readsRule_28 : decode mX12_readsRule.2.1 28 = .ok (.getfield 133, 3) ∧ 28 + 3 = 31 := ⟨by decide +kernel, rfl⟩
theorem aX12_readsRule_31 : decode mX12_readsRule.2.1 31 = .ok (.iastore, 1) ∧ 31 + 1 = 32 := ⟨by decide +kernel, rfl⟩
theorem aX12_readsRule_32 : decode mX12_readsRule.2.1 32 = .ok (.aload_n 0, 1) ∧ 32 + 1 = 33 := ⟨by decide +kernel, rfl⟩
theorem aX12_readsRule_33 : decode mX12_readsRule.2.1 33 = .ok (.invokevirtual 148, 3) ∧ 33 + 3 = 36 := ⟨by decide +kernel, rfl⟩
theorem aX12_readsRule_36 : decode mX12_readsRule.2.1 36 = .ok (.aload_n 0, 1) ∧ 36 + 1 = 37 := ⟨by decide +kernel, rfl⟩
theorem aX12_readsRule_37 : decode mX12_readsRule.2.1 37 = .ok (.iconst 0, 1) ∧ 37 + 1 = 38 := ⟨by decide +kernel, rfl⟩
theorem aX12_readsRule_38 : decode mX12_readsRule.2.1 38 = .ok (.putfield 162, 3) ∧ 38 + 3 = 41 := ⟨by decide +kernel, rfl⟩
theorem aX12_readsRule_41 : decode mX12_readsRule.2.1 41 = .ok (.aload_n 0, 1) ∧ 41 + 1 = 42 := ⟨by decide +kernel, rfl⟩
theorem aX12_readsRule_42 : decode mX12_readsRule.2.1 42 = .ok (.bipush 9, 2) ∧ 42 + 2 = 44 := ⟨by decide +kernel, rfl⟩
theorem aX12_readsRule_44 : decode mX12_readsRule.2.1 44 = .ok (.invokevirtual 168, 3) ∧ 44 + 3 = 47 := ⟨by decide +kernel, rfl⟩
theorem aX12_readsRule_47 : decode mX12_readsRule.2.1 47 = .ok (.ifCond .eq 12, 3) ∧ ((47 : Nat) : Int) + 12 = ((59 : Nat) : Int) ∧ 47 + 3 = 50 := ⟨by decide +kernel, by decide, rfl⟩
theorem aX12_readsRule_50 : decode mX12_readsRule.2.1 50 = .ok (.aload_n 0, 1) ∧ 50 + 1 = 51 := ⟨by decide +kernel, rfl⟩
theorem aX12_readsRule_51 : decode mX12_readsRule.2.1 51 = .ok (.invokevirtual 165, 3) ∧ 51 + 3 = 54 := ⟨by decide +kernel, rfl⟩
theorem aX12_readsRule_54 : decode mX12_readsRule.2.1 54 = .ok (.ifCond .ne 5, 3) ∧ ((54 : Nat) : Int) + 5 = ((59 : Nat) : Int) ∧ 54 + 3 = 57 := ⟨by decide +kernel, by decide, rfl⟩
theorem aX12_readsRule_57 : decode mX12_readsRule.2.1 57 = .ok (.iconst 0, 1) ∧ 57 + 1 = 58 := ⟨by decide +kernel, rfl⟩
theorem aX12_readsRule_58 : decode mX12_readsRule.2.1 58 = .ok (.ireturn, 1) := by decide +kernel
theorem aX12_readsRule_59 : decode mX12_readsRule.2.1 59 = .ok (.aload_n 0, 1) ∧ 59 + 1 = 60 := ⟨by decide +kernel, rfl⟩
theorem aX12_readsRule_60 : decode mX12_readsRule.2.1 60 = .ok (.getfield 133, 3) ∧ 60 + 3 = 63 := ⟨by decide +kernel, rfl⟩
theorem aX12_readsRule_63 : decode mX12_readsRule.2.1 63 = .ok (.bipush 6, 2) ∧ 63 + 2 = 65 := ⟨by decide +kernel, rfl⟩
theorem aX12_readsRule_65 : decode mX12_readsRule.2.1 65 = .ok (.bipush 8, 2) ∧ 65 + 2 = 67 := ⟨by decide +kernel, rfl⟩
theorem aX12_readsRule_67 : decode mX12_readsRule.2.1 67 = .ok (.invokestatic 68, 3) ∧ 67 + 3 = 70 := ⟨by decide +kernel, rfl⟩
theorem aX12_readsRule_70 : decode mX12_readsRule.2.1 70 = .ok (.ifCond .ne 5, 3) ∧ ((70 : Nat) : Int) + 5 = ((75 : Nat) : Int) ∧ 70 + 3 = 73 := ⟨by decide +kernel, by decide, rfl⟩
theorem aX12_readsRule_73 : decode mX12_readsRule.2.1 73 = .ok (.iconst 0, 1) ∧ 73 + 1 = 74 := ⟨by decide +kernel, rfl⟩
theorem aX12_readsRule_74 : decode mX12_readsRule.2.1 74 = .ok (.ireturn, 1) := by decide +kernel
theorem aX12_readsRule_75 : decode mX12_readsRule.2.1 75 = .ok (.aload_n 0, 1) ∧ 75 + 1 = 76 := ⟨by decide +kernel, rfl⟩
theorem aX12_readsRule_76 : decode mX12_readsRule.2.1 76 = .ok (.getfield 32, 3) ∧ 76 + 3 = 79 := ⟨by decide +kernel, rfl⟩
theorem aX12_readsRule_79 : decode mX12_readsRule.2.1 79 = .ok (.iconst 3, 1) ∧ 79 + 1 = 80 := ⟨by decide +kernel, rfl⟩
theorem aX12_readsRule_80 : decode mX12_readsRule.2.1 80 = .ok (.iload_n 1, 1) ∧ 80 + 1 = 81 := ⟨by decide +kernel, rfl⟩
theorem aX12_readsRule_81 : decode mX12_readsRule.2.1 81 = .ok (.imul, 1) ∧ 81 + 1 = 82 := ⟨by decide +kernel, rfl⟩
theorem aX12_readsRule_82 : decode mX12_readsRule.2.1 82 = .ok (.iconst 1, 1) ∧ 82 + 1 = 83 := ⟨by decide +kernel, rfl⟩
theorem aX12_readsRule_83 : decode mX12_readsRule.2.1 83 = .ok (.iadd, 1) ∧ 83 + 1 = 84 := ⟨by decide +kernel, rfl⟩
theorem aX12_readsRule_84 : decode mX12_readsRule.2.1 84 = .ok (.aload_n 0, 1) ∧ 84 + 1 = 85 := ⟨by decide +kernel, rfl⟩
theorem aX12_readsRule_85 : decode mX12_readsRule.2.1 85 = .ok (.getfield 133, 3) ∧ 85 + 3 = 88 := ⟨by decide +kernel, rfl⟩
theorem aX12_readsRule_88 : decode mX12_readsRule.2.1 88 = .ok (.bipush 6, 2) ∧ 88 + 2 = 90 := ⟨by decide +kernel, rfl⟩
theorem aX12_readsRule_90 : decode mX12_readsRule.2.1 90 = .ok (.isub, 1) ∧ 90 + 1 = 91 := ⟨by decide +kernel, rfl⟩
theorem aX12_readsRule_91 : decode mX12_readsRule.2.1 91 = .ok (.iastore, 1) ∧ 91 + 1 = 92 := ⟨by decide +kernel, rfl⟩
theorem aX12_readsRule_92 : decode mX12_readsRule.2.1 92 = .ok (.aload_n 0, 1) ∧ 92 + 1 = 93 := ⟨by decide +kernel, rfl⟩
theorem aX12_readsRule_93 : decode mX12_readsRule.2.1 93 = .ok (.getfield 32, 3) ∧ 93 + 3 = 96 := ⟨by decide +kernel, rfl⟩
theorem aX12_readsRule_96 : decode mX12_readsRule.2.1 96 = .ok (.iconst 3, 1) ∧ 96 + 1 = 97 := ⟨by decide +kernel, rfl⟩
theorem aX12_readsRule_97 : decode mX12_readsRule.2.1 97 = .ok (.iload_n 1, 1) ∧ 97 + 1 = 98 := ⟨by decide +kernel, rfl⟩
theorem aX12_readsRule_98 : decode mX12_readsRule.2.1 98 = .ok (.imul, 1) ∧ 98 + 1 = 99 := ⟨by decide +kernel, rfl⟩
theorem aX12_readsRule_99 : decode mX12_readsRule.2.1 99 = .ok (.iconst 2, 1) ∧ 99 + 1 = 100 := ⟨by decide +kernel, rfl⟩
theorem aX12_readsRule_100 : decode mX12_readsRule.2.1 100 = .ok (.iadd, 1) ∧ 100 + 1 = 101 := ⟨by decide +kernel, rfl⟩
theorem aX12_readsRule_101 : decode mX12_readsRule.2.1 101 = .ok (.aload_n 0, 1) ∧ 101 + 1 = 102 := ⟨by decide +kernel, rfl⟩
theorem aX12_readsRule_102 : decode mX12_readsRule.2.1 102 = .ok (.getfield 151, 3) ∧ 102 + 3 = 105 := ⟨by decide +kernel, rfl⟩
theorem aX12_readsRule_105 : decode mX12_readsRule.2.1 105 = .ok (.iastore, 1) ∧ 105 + 1 = 106 := ⟨by decide +kernel, rfl⟩
theorem aX12_readsRule_106 : decode mX12_readsRule.2.1 106 = .ok (.aload_n 0, 1) ∧ 106 + 1 = 107 := ⟨by decide +kernel, rfl⟩
theorem aX12_readsRule_107 : decode mX12_readsRule.2.1 107 = .ok (.invokevirtual 148, 3) ∧ 107 + 3 = 110 := ⟨by decide +kernel, rfl⟩
theorem aX12_readsRule_110 : decode mX12_readsRule.2.1 110 = .ok (.aload_n 0, 1) ∧ 110 + 1 = 111 := ⟨by decide +kernel, rfl⟩
theorem aX12_readsRule_111 : decode mX12_readsRule.2.1 111 = .ok (.sipush 259, 3) ∧ 111 + 3 = 114 := ⟨by decide +kernel, rfl⟩
theorem aX12_readsRule_114 : decode mX12_readsRule.2.1 114 = .ok (.invokevirtual 168, 3) ∧ 114 + 3 = 117 := ⟨by decide +kernel, rfl⟩
theorem aX12_readsRule_117 : decode mX12_readsRule.2.1 117 = .ok (.ireturn, 1) := by decide +kernel
theorem S_X12_readsRule {E : EE} {d : Nat} {I : IH} {Q : QT} (x1 : Int32) (h :
((x1 = (nI 8) → Q (some (.int (nI 0))) I) ∧
 (¬ x1 = (nI 8) → (Mt E d mX12_in1 [.int (I 115 10), .int (nI 0), .int (nI 5)] I (fun rv I1 => ∃ v2 : Int32, rv = some (.int v2) ∧
 ((¬ v2 = 0 → (∃ j5 : Nat, ((nI 3) * x1) = nI j5 ∧ j5 < 24 ∧ (∀ I3 : IH, I3 = stI I1 123 j5 (I1 115 10) →
 (Mt E d mX12_next [.ref (eb E + 115)] I3 (fun rv I8 => rv = none ∧
 (∀ I9 : IH, I9 = stI I8 115 12 (nI 0) →
 (Mt E d mX12_takes [.ref (eb E + 115), .int (nI 9)] I9 (fun rv I11 => ∃ v12 : Int32, rv = some (.int v12) ∧
 ((v12 = 0 → J E (d + 1) mX12_readsRule 59 [(0, .ref (eb E + 115)), (1, .int x1)] [] I11 Q) ∧
 (¬ v12 = 0 → (Mt E d mX12_readsCondition [.ref (eb E + 115)] I11 (fun rv I13 => ∃ v14 : Int32, rv = some (.int v14) ∧
 ((¬ v14 = 0 → J E (d + 1) mX12_readsRule 59 [(0, .ref (eb E + 115)), (1, .int x1)] [] I13 Q) ∧
 (v14 = 0 → Q (some (.int (nI 0))) I13)))))))))))))) ∧
 (v2 = 0 → Q (some (.int (nI 0))) I1))))))) : Mt E (d + 1) mX12_readsRule [.ref (eb E + 115), .int x1] I Q := by
  refine Mt_of [(0, .ref (eb E + 115)), (1, .int x1)] (by decide +kernel) (by simp [lg_sl, Value.category, mX12_readsRule]) rfl ?_
  refine J_iload_n 1 aX12_readsRule_0 rfl ?_
  refine J_bipush (nI 8) aX12_readsRule_1 (by decide +kernel) ?_
  refine J_icmp_eq aX12_readsRule_3 (fun q => ?_) (fun q => ?_)
  · replace h := h.1 q
    refine J_iconst (nI 0) aX12_readsRule_18 (by decide +kernel) ?_
    exact J_zret aX12_readsRule_19 rfl (by decide +kernel) h
  · replace h := h.2 q
    refine J_aload_n 0 aX12_readsRule_6 rfl ?_
    refine J_getI aX12_readsRule_7 flX12_133 sh115 rfl ?_
    refine J_iconst (nI 0) aX12_readsRule_10 (by decide +kernel) ?_
    refine J_iconst (nI 5) aX12_readsRule_11 (by decide +kernel) ?_
    refine J_callS [.int (I 115 10), .int (nI 0), .int (nI 5)] [] aX12_readsRule_12 lkX12_68 okX12_in1 rfl rfl (Nat.le_of_ble_eq_true rfl) (Nat.le_refl _) (Mt_mono h (fun rv I1 h => ?_))
    obtain ⟨v2, rfl, h⟩ := h
    refine J_r1 ?_
    refine J_if_ne aX12_readsRule_15 (fun q => ?_) (fun q => ?_)
    · replace h := h.1 q
      refine J_aload_n 0 aX12_readsRule_20 rfl ?_
      refine J_getR aX12_readsRule_21 flX12_32 sh115 rfl ?_
      refine J_iconst (nI 3) aX12_readsRule_24 (by decide +kernel) ?_
      refine J_iload_n 1 aX12_readsRule_25 rfl ?_
      refine J_imul aX12_readsRule_26 ?_
      refine J_aload_n 0 aX12_readsRule_27 rfl ?_
      refine J_getI aX12_readsRule_28 flX12_133 sh115 rfl ?_
      obtain ⟨j5, e6, b7, h⟩ := h
      refine J_iastore j5 aX12_readsRule_31 sh123 e6 b7 (by decide) (fun I3 e4 => ?_)
      replace h := h I3 e4
      refine J_aload_n 0 aX12_readsRule_32 rfl ?_
      refine J_callV [] [] aX12_readsRule_33 lkX12_148_X12 okX12_next sh115 rfl rfl rfl (Nat.le_of_ble_eq_true rfl) (Nat.le_refl _) (Mt_mono h (fun rv I8 h => ?_))
      obtain ⟨rfl, h⟩ := h
      refine J_r0 ?_
      refine J_aload_n 0 aX12_readsRule_36 rfl ?_
      refine J_iconst (nI 0) aX12_readsRule_37 (by decide +kernel) ?_
      refine J_putI aX12_readsRule_38 fpX12_162 sh115 rfl (fun I9 e10 => ?_)
      replace h := h I9 e10
      refine J_aload_n 0 aX12_readsRule_41 rfl ?_
      refine J_bipush (nI 9) aX12_readsRule_42 (by decide +kernel) ?_
      refine J_callV [.int (nI 9)] [] aX12_readsRule_44 lkX12_168_X12 okX12_takes sh115 rfl rfl rfl (Nat.le_of_ble_eq_true rfl) (Nat.le_refl _) (Mt_mono h (fun rv I11 h => ?_))
      obtain ⟨v12, rfl, h⟩ := h
      refine J_r1 ?_
      refine J_if_eq aX12_readsRule_47 (fun q => ?_) (fun q => ?_)
      · replace h := h.1 q
        refine J_pick [0, 1] rfl ?_
        exact h
      · replace h := h.2 q
        refine J_aload_n 0 aX12_readsRule_50 rfl ?_
        refine J_callV [] [] aX12_readsRule_51 lkX12_165_X12 okX12_readsCondition sh115 rfl rfl rfl (Nat.le_of_ble_eq_true rfl) (Nat.le_refl _) (Mt_mono h (fun rv I13 h => ?_))
        obtain ⟨v14, rfl, h⟩ := h
        refine J_r1 ?_
        refine J_if_ne aX12_readsRule_54 (fun q => ?_) (fun q => ?_)
        · replace h := h.1 q
          refine J_pick [0, 1] rfl ?_
          exact h
        · replace h := h.2 q
          refine J_iconst (nI 0) aX12_readsRule_57 (by decide +kernel) ?_
          exact J_zret aX12_readsRule_58 rfl (by decide +kernel) h
    · replace h := h.2 q
      refine J_iconst (nI 0) aX12_readsRule_18 (by decide +kernel) ?_
      exact J_zret aX12_readsRule_19 rfl (by decide +kernel) h
theorem S_X12_readsRule_59 {E : EE} {d : Nat} {I : IH} {Q : QT} (x1 : Int32) (h :
(Mt E d mX12_in1 [.int (I 115 10), .int (nI 6), .int (nI 8)] I (fun rv I1 => ∃ v2 : Int32, rv = some (.int v2) ∧
 ((¬ v2 = 0 → (∃ j5 : Nat, (((nI 3) * x1) + (nI 1)) = nI j5 ∧ j5 < 24 ∧ (∀ I3 : IH, I3 = stI I1 123 j5 ((I1 115 10) - (nI 6)) →
 (∃ j10 : Nat, (((nI 3) * x1) + (nI 2)) = nI j10 ∧ j10 < 24 ∧ (∀ I8 : IH, I8 = stI I3 123 j10 (I3 115 13) →
 (Mt E d mX12_next [.ref (eb E + 115)] I8 (fun rv I13 => rv = none ∧
 (Mt E d mX12_takes [.ref (eb E + 115), .int (nI 259)] I13 (fun rv I14 => ∃ v15 : Int32, rv = some (.int v15) ∧
 ((v15 = 0 ∨ v15 = 1) ∧ Q (some (.int v15)) I14)))))))))) ∧
 (v2 = 0 → Q (some (.int (nI 0))) I1))))) : J E (d + 1) mX12_readsRule 59 [(0, .ref (eb E + 115)), (1, .int x1)] [] I Q := by
  refine J_aload_n 0 aX12_readsRule_59 rfl ?_
  refine J_getI aX12_readsRule_60 flX12_133 sh115 rfl ?_
  refine J_bipush (nI 6) aX12_readsRule_63 (by decide +kernel) ?_
  refine J_bipush (nI 8) aX12_readsRule_65 (by decide +kernel) ?_
  refine J_callS [.int (I 115 10), .int (nI 6), .int (nI 8)] [] aX12_readsRule_67 lkX12_68 okX12_in1 rfl rfl (Nat.le_of_ble_eq_true rfl) (Nat.le_refl _) (Mt_mono h (fun rv I1 h => ?_))
  obtain ⟨v2, rfl, h⟩ := h
  refine J_r1 ?_
  refine J_if_ne aX12_readsRule_70 (fun q => ?_) (fun q => ?_)
  · replace h := h.1 q
    refine J_aload_n 0 aX12_readsRule_75 rfl ?_
    refine J_getR aX12_readsRule_76 flX12_32 sh115 rfl ?_
    refine J_iconst (nI 3) aX12_readsRule_79 (by decide +kernel) ?_
    refine J_iload_n 1 aX12_readsRule_80 rfl ?_
    refine J_imul aX12_readsRule_81 ?_
    refine J_iconst (nI 1) aX12_readsRule_82 (by decide +kernel) ?_
    refine J_iadd aX12_readsRule_83 ?_
    refine J_aload_n 0 aX12_readsRule_84 rfl ?_
    refine J_getI aX12_readsRule_85 flX12_133 sh115 rfl ?_
    refine J_bipush (nI 6) aX12_readsRule_88 (by decide +kernel) ?_
    refine J_isub aX12_readsRule_90 ?_
    obtain ⟨j5, e6, b7, h⟩ := h
    refine J_iastore j5 aX12_readsRule_91 sh123 e6 b7 (by decide) (fun I3 e4 => ?_)
    replace h := h I3 e4
    refine J_aload_n 0 aX12_readsRule_92 rfl ?_
    refine J_getR aX12_readsRule_93 flX12_32 sh115 rfl ?_
    refine J_iconst (nI 3) aX12_readsRule_96 (by decide +kernel) ?_
    refine J_iload_n 1 aX12_readsRule_97 rfl ?_
    refine J_imul aX12_readsRule_98 ?_
    refine J_iconst (nI 2) aX12_readsRule_99 (by decide +kernel) ?_
    refine J_iadd aX12_readsRule_100 ?_
    refine J_aload_n 0 aX12_readsRule_101 rfl ?_
    refine J_getI aX12_readsRule_102 flX12_151 sh115 rfl ?_
    obtain ⟨j10, e11, b12, h⟩ := h
    refine J_iastore j10 aX12_readsRule_105 sh123 e11 b12 (by decide) (fun I8 e9 => ?_)
    replace h := h I8 e9
    refine J_aload_n 0 aX12_readsRule_106 rfl ?_
    refine J_callV [] [] aX12_readsRule_107 lkX12_148_X12 okX12_next sh115 rfl rfl rfl (Nat.le_of_ble_eq_true rfl) (Nat.le_refl _) (Mt_mono h (fun rv I13 h => ?_))
    obtain ⟨rfl, h⟩ := h
    refine J_r0 ?_
    refine J_aload_n 0 aX12_readsRule_110 rfl ?_
    refine J_sipush (nI 259) aX12_readsRule_111 (by decide +kernel) ?_
    refine J_callV [.int (nI 259)] [] aX12_readsRule_114 lkX12_168_X12 okX12_takes sh115 rfl rfl rfl (Nat.le_of_ble_eq_true rfl) (Nat.le_refl _) (Mt_mono h (fun rv I14 h => ?_))
    obtain ⟨v15, rfl, h⟩ := h
    refine J_r1 ?_
    exact J_zret aX12_readsRule_117 rfl (nar_bool h.1).1 h.2
  · replace h := h.2 q
    refine J_iconst (nI 0) aX12_readsRule_73 (by decide +kernel) ?_
    exact J_zret aX12_readsRule_74 rfl (by decide +kernel) h
theorem aX12_feed_0 : decode mX12_feed.2.1 0 = .ok (.iload_n 3, 1) ∧ 0 + 1 = 1 := ⟨by decide +kernel, rfl⟩
theorem aX12_feed_1 : decode mX12_feed.2.1 1 = .ok (.iconst 1, 1) ∧ 1 + 1 = 2 := ⟨by decide +kernel, rfl⟩
theorem aX12_feed_2 : decode mX12_feed.2.1 2 = .ok (.bipush 8, 2) ∧ 2 + 2 = 4 := ⟨by decide +kernel, rfl⟩
theorem aX12_feed_4 : decode mX12_feed.2.1 4 = .ok (.invokestatic 68, 3) ∧ 4 + 3 = 7 := ⟨by decide +kernel, rfl⟩
theorem aX12_feed_7 : decode mX12_feed.2.1 7 = .ok (.ifCond .ne 5, 3) ∧ ((7 : Nat) : Int) + 5 = ((12 : Nat) : Int) ∧ 7 + 3 = 10 := ⟨by decide +kernel, by decide, rfl⟩
theorem aX12_feed_10 : decode mX12_feed.2.1 10 = .ok (.iconst (-1), 1) ∧ 10 + 1 = 11 := ⟨by decide +kernel, rfl⟩
theorem aX12_feed_11 : decode mX12_feed.2.1 11 = .ok (.ireturn, 1) := by decide +kernel
theorem aX12_feed_12 : decode mX12_feed.2.1 12 = .ok (.aload_n 0, 1) ∧ 12 + 1 = 13 := ⟨by decide +kernel, rfl⟩
theorem aX12_feed_13 : decode mX12_feed.2.1 13 = .ok (.getfield 120, 3) ∧ 13 + 3 = 16 := ⟨by decide +kernel, rfl⟩
theorem aX12_feed_16 : decode mX12_feed.2.1 16 = .ok (.iload_n 3, 1) ∧ 16 + 1 = 17 := ⟨by decide +kernel, rfl⟩
theorem aX12_feed_17 : decode mX12_feed.2.1 17 = .ok (.iadd, 1) ∧ 17 + 1 = 18 := ⟨by decide +kernel, rfl⟩
theorem aX12_feed_18 : decode mX12_feed.2.1 18 = .ok (.sipush 200, 3) ∧ 18 + 3 = 21 := ⟨by decide +kernel, rfl⟩
theorem aX12_feed_21 : decode mX12_feed.2.1 21 = .ok (.if_icmp .le 6, 3) ∧ ((21 : Nat) : Int) + 6 = ((27 : Nat) : Int) ∧ 21 + 3 = 24 := ⟨by decide +kernel, by decide, rfl⟩
theorem aX12_feed_24 : decode mX12_feed.2.1 24 = .ok (.bipush (-2), 2) ∧ 24 + 2 = 26 := ⟨by decide +kernel, rfl⟩
theorem aX12_feed_26 : decode mX12_feed.2.1 26 = .ok (.ireturn, 1) := by decide +kernel
theorem aX12_feed_27 : decode mX12_feed.2.1 27 = .ok (.iconst 0, 1) ∧ 27 + 1 = 28 := ⟨by decide +kernel, rfl⟩
theorem aX12_feed_28 : decode mX12_feed.2.1 28 = .ok (.istore 4, 2) ∧ 28 + 2 = 30 := ⟨by decide +kernel, rfl⟩
theorem aX12_feed_30 : decode mX12_feed.2.1 30 = .ok (.iload 4, 2) ∧ 30 + 2 = 32 := ⟨by decide +kernel, rfl⟩
theorem aX12_feed_32 : decode mX12_feed.2.1 32 = .ok (.iload_n 3, 1) ∧ 32 + 1 = 33 := ⟨by decide +kernel, rfl⟩
theorem aX12_feed_33 : decode mX12_feed.2.1 33 = .ok (.if_icmp .ge 40, 3) ∧ ((33 : Nat) : Int) + 40 = ((73 : Nat) : Int) ∧ 33 + 3 = 36 := ⟨by decide +kernel, by decide, rfl⟩
theorem aX12_feed_36 : decode mX12_feed.2.1 36 = .ok (.aload_n 0, 1) ∧ 36 + 1 = 37 := ⟨by decide +kernel, rfl⟩
theorem aX12_feed_37 : decode mX12_feed.2.1 37 = .ok (.getfield 22, 3) ∧ 37 + 3 = 40 := ⟨by decide +kernel, rfl⟩
theorem aX12_feed_40 : decode mX12_feed.2.1 40 = .ok (.aload_n 0, 1) ∧ 40 + 1 = 41 := ⟨by decide +kernel, rfl⟩
theorem aX12_feed_41 : decode mX12_feed.2.1 41 = .ok (.getfield 120, 3) ∧ 41 + 3 = 44 := ⟨by decide +kernel, rfl⟩
theorem aX12_feed_44 : decode mX12_feed.2.1 44 = .ok (.lload_n 1, 1) ∧ 44 + 1 = 45 := ⟨by decide +kernel, rfl⟩
theorem aX12_feed_45 : decode mX12_feed.2.1 45 = .ok (.bipush 8, 2) ∧ 45 + 2 = 47 := ⟨by decide +kernel, rfl⟩
theorem aX12_feed_47 : decode mX12_feed.2.1 47 = .ok (.iload 4, 2) ∧ 47 + 2 = 49 := ⟨by decide +kernel, rfl⟩
theorem aX12_feed_49 : decode mX12_feed.2.1 49 = .ok (.imul, 1) ∧ 49 + 1 = 50 := ⟨by decide +kernel, rfl⟩
theorem aX12_feed_50 : decode mX12_feed.2.1 50 = .ok (.lshr, 1) ∧ 50 + 1 = 51 := ⟨by decide +kernel, rfl⟩
theorem aX12_feed_51 : decode mX12_feed.2.1 51 = .ok (.ldc2_w 183, 3) ∧ 51 + 3 = 54 := ⟨by decide +kernel, rfl⟩
theorem aX12_feed_54 : decode mX12_feed.2.1 54 = .ok (.land, 1) ∧ 54 + 1 = 55 := ⟨by decide +kernel, rfl⟩
theorem aX12_feed_55 : decode mX12_feed.2.1 55 = .ok (.l2i, 1) ∧ 55 + 1 = 56 := ⟨by decide +kernel, rfl⟩
theorem aX12_feed_56 : decode mX12_feed.2.1 56 = .ok (.iastore, 1) ∧ 56 + 1 = 57 := ⟨by decide +kernel, rfl⟩
theorem aX12_feed_57 : decode mX12_feed.2.1 57 = .ok (.aload_n 0, 1) ∧ 57 + 1 = 58 := ⟨by decide +kernel, rfl⟩
theorem aX12_feed_58 : decode mX12_feed.2.1 58 = .ok (.dup, 1) ∧ 58 + 1 = 59 := ⟨by decide +kernel, rfl⟩
theorem aX12_feed_59 : decode mX12_feed.2.1 59 = .ok (.getfield 120, 3) ∧ 59 + 3 = 62 := ⟨by decide +kernel, rfl⟩
theorem aX12_feed_62 : decode mX12_feed.2.1 62 = .ok (.iconst 1, 1) ∧ 62 + 1 = 63 := ⟨by decide +kernel, rfl⟩
theorem aX12_feed_63 : decode mX12_feed.2.1 63 = .ok (.iadd, 1) ∧ 63 + 1 = 64 := ⟨by decide +kernel, rfl⟩
theorem aX12_feed_64 : decode mX12_feed.2.1 64 = .ok (.putfield 120, 3) ∧ 64 + 3 = 67 := ⟨by decide +kernel, rfl⟩
theorem aX12_feed_67 : decode mX12_feed.2.1 67 = .ok (.iinc 4 1, 3) ∧ 67 + 3 = 70 := ⟨by decide +kernel, rfl⟩
theorem aX12_feed_70 : decode mX12_feed.2.1 70 = .ok (.goto (-40), 3) ∧ ((70 : Nat) : Int) + (-40) = ((30 : Nat) : Int) := ⟨by decide +kernel, by decide⟩
theorem aX12_feed_73 : decode mX12_feed.2.1 73 = .ok (.aload_n 0, 1) ∧ 73 + 1 = 74 := ⟨by decide +kernel, rfl⟩
theorem aX12_feed_74 : decode mX12_feed.2.1 74 = .ok (.getfield 120, 3) ∧ 74 + 3 = 77 := ⟨by decide +kernel, rfl⟩
theorem aX12_feed_77 : decode mX12_feed.2.1 77 = .ok (.ireturn, 1) := by decide +kernel
theorem S_X12_feed {E : EE} {d : Nat} {I : IH} {Q : QT} (x1 : Int64) (x3 : Int32) (h :
(Mt E d mX12_in1 [.int x3, .int (nI 1), .int (nI 8)] I (fun rv I1 => ∃ v2 : Int32, rv = some (.int v2) ∧
 ((¬ v2 = 0 → ((((I1 115 6) + x3) ≤ (nI 200) → J E (d + 1) mX12_feed 30 [(0, .ref (eb E + 115)), (1, .long x1), (3, .int x3), (4, .int (nI 0))] [] I1 Q) ∧
 (¬ ((I1 115 6) + x3) ≤ (nI 200) → Q (some (.int (-2))) I1))) ∧
 (v2 = 0 → Q (some (.int (-1))) I1))))) : Mt E (d + 1) mX12_feed [.ref (eb E + 115), .long x1, .int x3] I Q := by
  refine Mt_of [(0, .ref (eb E + 115)), (1, .long x1), (3, .int x3)] (by decide +kernel) (by simp [lg_sl, Value.category, mX12_feed]) rfl ?_
  refine J_iload_n 2 aX12_feed_0 rfl ?_
  refine J_iconst (nI 1) aX12_feed_1 (by decide +kernel) ?_
  refine J_bipush (nI 8) aX12_feed_2 (by decide +kernel) ?_
  refine J_callS [.int x3, .int (nI 1), .int (nI 8)] [] aX12_feed_4 lkX12_68 okX12_in1 rfl rfl (Nat.le_of_ble_eq_true rfl) (Nat.le_refl _) (Mt_mono h (fun rv I1 h => ?_))
  obtain ⟨v2, rfl, h⟩ := h
  refine J_r1 ?_
  refine J_if_ne aX12_feed_7 (fun q => ?_) (fun q => ?_)
  · replace h := h.1 q
    refine J_aload_n 0 aX12_feed_12 rfl ?_
    refine J_getI aX12_feed_13 flX12_120 sh115 rfl ?_
    refine J_iload_n 2 aX12_feed_16 rfl ?_
    refine J_iadd aX12_feed_17 ?_
    refine J_sipush (nI 200) aX12_feed_18 (by decide +kernel) ?_
    refine J_icmp_le aX12_feed_21 (fun q => ?_) (fun q => ?_)
    · replace h := h.1 q
      refine J_iconst (nI 0) aX12_feed_27 (by decide +kernel) ?_
      refine J_istore [(4, .int (nI 0)), (0, .ref (eb E + 115)), (1, .long x1), (3, .int x3)] aX12_feed_28 (by decide) rfl ?_
      refine J_pick [1, 2, 3, 0] rfl ?_
      exact h
    · replace h := h.2 q
      refine J_bipush (-2) aX12_feed_24 (by decide +kernel) ?_
      exact J_iret aX12_feed_26 rfl h
  · replace h := h.2 q
    refine J_iconst (-1) aX12_feed_10 (by decide +kernel) ?_
    exact J_iret aX12_feed_11 rfl h
theorem S_X12_feed_30 {E : EE} {d : Nat} {I : IH} {Q : QT} (x1 : Int64) (x3 : Int32) (x4 : Int32) (h :
((x3 ≤ x4 → Q (some (.int (I 115 6))) I) ∧
 (¬ x3 ≤ x4 → (∃ j3 : Nat, (I 115 6) = nI j3 ∧ j3 < 200 ∧ (∀ I1 : IH, I1 = stI I 120 j3 (((x1 >>> (((nI 8) * x4).toInt64 &&& 63)) &&& (255)).toInt32) →
 (∀ I6 : IH, I6 = stI I1 115 6 ((I1 115 6) + (nI 1)) →
 J E (d + 1) mX12_feed 30 [(0, .ref (eb E + 115)), (1, .long x1), (3, .int x3), (4, .int (x4 + nI 1))] [] I6 Q)))))) : J E (d + 1) mX12_feed 30 [(0, .ref (eb E + 115)), (1, .long x1), (3, .int x3), (4, .int x4)] [] I Q := by
  refine J_iload 3 aX12_feed_30 rfl ?_
  refine J_iload_n 2 aX12_feed_32 rfl ?_
  refine J_icmp_ge aX12_feed_33 (fun q => ?_) (fun q => ?_)
  · replace h := h.1 q
    refine J_aload_n 0 aX12_feed_73 rfl ?_
    refine J_getI aX12_feed_74 flX12_120 sh115 rfl ?_
    exact J_iret aX12_feed_77 rfl h
  · replace h := h.2 q
    refine J_aload_n 0 aX12_feed_36 rfl ?_
    refine J_getR aX12_feed_37 flX12_22 sh115 rfl ?_
    refine J_aload_n 0 aX12_feed_40 rfl ?_
    refine J_getI aX12_feed_41 flX12_120 sh115 rfl ?_
    refine J_lload_n 1 aX12_feed_44 rfl ?_
    refine J_bipush (nI 8) aX12_feed_45 (by decide +kernel) ?_
    refine J_iload 3 aX12_feed_47 rfl ?_
    refine J_imul aX12_feed_49 ?_
    refine J_lshr aX12_feed_50 ?_
    refine J_ldc2 (255) aX12_feed_51 (gx6 13 rfl rfl) ?_
    refine J_land aX12_feed_54 ?_
    refine J_l2i aX12_feed_55 ?_
    obtain ⟨j3, e4, b5, h⟩ := h
    refine J_iastore j3 aX12_feed_56 sh120 e4 b5 (by decide) (fun I1 e2 => ?_)
    replace h := h I1 e2
    refine J_aload_n 0 aX12_feed_57 rfl ?_
    refine J_dup aX12_feed_58 rfl ?_
    refine J_getI aX12_feed_59 flX12_120 sh115 rfl ?_
    refine J_iconst (nI 1) aX12_feed_62 (by decide +kernel) ?_
    refine J_iadd aX12_feed_63 ?_
    refine J_putI aX12_feed_64 fpX12_120 sh115 rfl (fun I6 e7 => ?_)
    replace h := h I6 e7
    refine J_iinc (x4 + nI 1) [(4, .int (x4 + nI 1)), (0, .ref (eb E + 115)), (1, .long x1), (3, .int x3)] 3 aX12_feed_67 rfl (by first | rfl | (congr 1; decide +kernel)) (by decide) rfl ?_
    refine J_goto aX12_feed_70 ?_
    refine J_pick [1, 2, 3, 0] rfl ?_
    exact h
theorem aX12_rules_0 : decode mX12_rules.2.1 0 = .ok (.aload_n 0, 1) ∧ 0 + 1 = 1 := ⟨by decide +kernel, rfl⟩
theorem aX12_rules_1 : decode mX12_rules.2.1 1 = .ok (.iconst 0, 1) ∧ 1 + 1 = 2 := ⟨by decide +kernel, rfl⟩
theorem aX12_rules_2 : decode mX12_rules.2.1 2 = .ok (.putfield 124, 3) ∧ 2 + 3 = 5 := ⟨by decide +kernel, rfl⟩
theorem aX12_rules_5 : decode mX12_rules.2.1 5 = .ok (.aload_n 0, 1) ∧ 5 + 1 = 6 := ⟨by decide +kernel, rfl⟩
theorem aX12_rules_6 : decode mX12_rules.2.1 6 = .ok (.iconst 0, 1) ∧ 6 + 1 = 7 := ⟨by decide +kernel, rfl⟩
theorem aX12_rules_7 : decode mX12_rules.2.1 7 = .ok (.putfield 151, 3) ∧ 7 + 3 = 10 := ⟨by decide +kernel, rfl⟩
theorem aX12_rules_10 : decode mX12_rules.2.1 10 = .ok (.iconst 0, 1) ∧ 10 + 1 = 11 := ⟨by decide +kernel, rfl⟩
theorem aX12_rules_11 : decode mX12_rules.2.1 11 = .ok (.istore_n 1, 1) ∧ 11 + 1 = 12 := ⟨by decide +kernel, rfl⟩
theorem aX12_rules_12 : decode mX12_rules.2.1 12 = .ok (.aload_n 0, 1) ∧ 12 + 1 = 13 := ⟨by decide +kernel, rfl⟩
theorem aX12_rules_13 : decode mX12_rules.2.1 13 = .ok (.invokevirtual 148, 3) ∧ 13 + 3 = 16 := ⟨by decide +kernel, rfl⟩
theorem aX12_rules_16 : decode mX12_rules.2.1 16 = .ok (.iconst 1, 1) ∧ 16 + 1 = 17 := ⟨by decide +kernel, rfl⟩
theorem aX12_rules_17 : decode mX12_rules.2.1 17 = .ok (.istore_n 2, 1) ∧ 17 + 1 = 18 := ⟨by decide +kernel, rfl⟩
theorem aX12_rules_18 : decode mX12_rules.2.1 18 = .ok (.iload_n 2, 1) ∧ 18 + 1 = 19 := ⟨by decide +kernel, rfl⟩
theorem aX12_rules_19 : decode mX12_rules.2.1 19 = .ok (.ifCond .eq 23, 3) ∧ ((19 : Nat) : Int) + 23 = ((42 : Nat) : Int) ∧ 19 + 3 = 22 := ⟨by decide +kernel, by decide, rfl⟩
theorem aX12_rules_22 : decode mX12_rules.2.1 22 = .ok (.aload_n 0, 1) ∧ 22 + 1 = 23 := ⟨by decide +kernel, rfl⟩
theorem aX12_rules_23 : decode mX12_rules.2.1 23 = .ok (.getfield 133, 3) ∧ 23 + 3 = 26 := ⟨by decide +kernel, rfl⟩
theorem aX12_rules_26 : decode mX12_rules.2.1 26 = .ok (.iconst (-1), 1) ∧ 26 + 1 = 27 := ⟨by decide +kernel, rfl⟩
theorem aX12_rules_27 : decode mX12_rules.2.1 27 = .ok (.if_icmp .eq 15, 3) ∧ ((27 : Nat) : Int) + 15 = ((42 : Nat) : Int) ∧ 27 + 3 = 30 := ⟨by decide +kernel, by decide, rfl⟩
theorem aX12_rules_30 : decode mX12_rules.2.1 30 = .ok (.aload_n 0, 1) ∧ 30 + 1 = 31 := ⟨by decide +kernel, rfl⟩
theorem aX12_rules_31 : decode mX12_rules.2.1 31 = .ok (.iload_n 1, 1) ∧ 31 + 1 = 32 := ⟨by decide +kernel, rfl⟩
theorem aX12_rules_32 : decode mX12_rules.2.1 32 = .ok (.invokevirtual 185, 3) ∧ 32 + 3 = 35 := ⟨by decide +kernel, rfl⟩
theorem aX12_rules_35 : decode mX12_rules.2.1 35 = .ok (.istore_n 2, 1) ∧ 35 + 1 = 36 := ⟨by decide +kernel, rfl⟩
theorem aX12_rules_36 : decode mX12_rules.2.1 36 = .ok (.iinc 1 1, 3) ∧ 36 + 3 = 39 := ⟨by decide +kernel, rfl⟩
theorem aX12_rules_39 : decode mX12_rules.2.1 39 = .ok (.goto (-21), 3) ∧ ((39 : Nat) : Int) + (-21) = ((18 : Nat) : Int) := ⟨by decide +kernel, by decide⟩
theorem aX12_rules_42 : decode mX12_rules.2.1 42 = .ok (.aload_n 0, 1) ∧ 42 + 1 = 43 := ⟨by decide +kernel, rfl⟩
theorem aX12_rules_43 : decode mX12_rules.2.1 43 = .ok (.iconst 0, 1) ∧ 43 + 1 = 44 := ⟨by decide +kernel, rfl⟩
theorem aX12_rules_44 : decode mX12_rules.2.1 44 = .ok (.putfield 120, 3) ∧ 44 + 3 = 47 := ⟨by decide +kernel, rfl⟩
theorem aX12_rules_47 : decode mX12_rules.2.1 47 = .ok (.iload_n 2, 1) ∧ 47 + 1 = 48 := ⟨by decide +kernel, rfl⟩
theorem aX12_rules_48 : decode mX12_rules.2.1 48 = .ok (.ifCond .ne 11, 3) ∧ ((48 : Nat) : Int) + 11 = ((59 : Nat) : Int) ∧ 48 + 3 = 51 := ⟨by decide +kernel, by decide, rfl⟩
theorem aX12_rules_51 : decode mX12_rules.2.1 51 = .ok (.bipush (-100), 2) ∧ 51 + 2 = 53 := ⟨by decide +kernel, rfl⟩
theorem aX12_rules_53 : decode mX12_rules.2.1 53 = .ok (.aload_n 0, 1) ∧ 53 + 1 = 54 := ⟨by decide +kernel, rfl⟩
theorem aX12_rules_54 : decode mX12_rules.2.1 54 = .ok (.getfield 127, 3) ∧ 54 + 3 = 57 := ⟨by decide +kernel, rfl⟩
theorem aX12_rules_57 : decode mX12_rules.2.1 57 = .ok (.isub, 1) ∧ 57 + 1 = 58 := ⟨by decide +kernel, rfl⟩
theorem aX12_rules_58 : decode mX12_rules.2.1 58 = .ok (.ireturn, 1) := by decide +kernel
theorem aX12_rules_59 : decode mX12_rules.2.1 59 = .ok (.aload_n 0, 1) ∧ 59 + 1 = 60 := ⟨by decide +kernel, rfl⟩
theorem aX12_rules_60 : decode mX12_rules.2.1 60 = .ok (.getfield 9, 3) ∧ 60 + 3 = 63 := ⟨by decide +kernel, rfl⟩
theorem aX12_rules_63 : decode mX12_rules.2.1 63 = .ok (.bipush 7, 2) ∧ 63 + 2 = 65 := ⟨by decide +kernel, rfl⟩
theorem aX12_rules_65 : decode mX12_rules.2.1 65 = .ok (.iload_n 1, 1) ∧ 65 + 1 = 66 := ⟨by decide +kernel, rfl⟩
theorem aX12_rules_66 : decode mX12_rules.2.1 66 = .ok (.iastore, 1) ∧ 66 + 1 = 67 := ⟨by decide +kernel, rfl⟩
theorem aX12_rules_67 : decode mX12_rules.2.1 67 = .ok (.iconst 0, 1) ∧ 67 + 1 = 68 := ⟨by decide +kernel, rfl⟩
theorem aX12_rules_68 : decode mX12_rules.2.1 68 = .ok (.istore_n 3, 1) ∧ 68 + 1 = 69 := ⟨by decide +kernel, rfl⟩
theorem aX12_rules_69 : decode mX12_rules.2.1 69 = .ok (.iload_n 3, 1) ∧ 69 + 1 = 70 := ⟨by decide +kernel, rfl⟩
theorem aX12_rules_70 : decode mX12_rules.2.1 70 = .ok (.iconst 3, 1) ∧ 70 + 1 = 71 := ⟨by decide +kernel, rfl⟩
theorem aX12_rules_71 : decode mX12_rules.2.1 71 = .ok (.iload_n 1, 1) ∧ 71 + 1 = 72 := ⟨by decide +kernel, rfl⟩
theorem aX12_rules_72 : decode mX12_rules.2.1 72 = .ok (.imul, 1) ∧ 72 + 1 = 73 := ⟨by decide +kernel, rfl⟩
theorem aX12_rules_73 : decode mX12_rules.2.1 73 = .ok (.if_icmp .ge 24, 3) ∧ ((73 : Nat) : Int) + 24 = ((97 : Nat) : Int) ∧ 73 + 3 = 76 := ⟨by decide +kernel, by decide, rfl⟩
theorem aX12_rules_76 : decode mX12_rules.2.1 76 = .ok (.aload_n 0, 1) ∧ 76 + 1 = 77 := ⟨by decide +kernel, rfl⟩
theorem aX12_rules_77 : decode mX12_rules.2.1 77 = .ok (.getfield 9, 3) ∧ 77 + 3 = 80 := ⟨by decide +kernel, rfl⟩
theorem aX12_rules_80 : decode mX12_rules.2.1 80 = .ok (.bipush 98, 2) ∧ 80 + 2 = 82 := ⟨by decide +kernel, rfl⟩
theorem aX12_rules_82 : decode mX12_rules.2.1 82 = .ok (.iload_n 3, 1) ∧ 82 + 1 = 83 := ⟨by decide +kernel, rfl⟩
theorem aX12_rules_83 : decode mX12_rules.2.1 83 = .ok (.iadd, 1) ∧ 83 + 1 = 84 := ⟨by decide +kernel, rfl⟩
theorem aX12_rules_84 : decode mX12_rules.2.1 84 = .ok (.aload_n 0, 1) ∧ 84 + 1 = 85 := ⟨by decide +kernel, rfl⟩
theorem aX12_rules_85 : decode mX12_rules.2.1 85 = .ok (.getfield 32, 3) ∧ 85 + 3 = 88 := ⟨by decide +kernel, rfl⟩
theorem aX12_rules_88 : decode mX12_rules.2.1 88 = .ok (.iload_n 3, 1) ∧ 88 + 1 = 89 := ⟨by decide +kernel, rfl⟩
theorem aX12_rules_89 : decode mX12_rules.2.1 89 = .ok (.iaload, 1) ∧ 89 + 1 = 90 := ⟨by decide +kernel, rfl⟩
theorem aX12_rules_90 : decode mX12_rules.2.1 90 = .ok (.iastore, 1) ∧ 90 + 1 = 91 := ⟨by decide +kernel, rfl⟩
theorem aX12_rules_91 : decode mX12_rules.2.1 91 = .ok (.iinc 3 1, 3) ∧ 91 + 3 = 94 := ⟨by decide +kernel, rfl⟩
theorem aX12_rules_94 : decode mX12_rules.2.1 94 = .ok (.goto (-25), 3) ∧ ((94 : Nat) : Int) + (-25) = ((69 : Nat) : Int) := ⟨by decide +kernel, by decide⟩
theorem aX12_rules_97 : decode mX12_rules.2.1 97 = .ok (.iconst 0, 1) ∧ 97 + 1 = 98 := ⟨by decide +kernel, rfl⟩
theorem aX12_rules_98 : decode mX12_rules.2.1 98 = .ok (.istore_n 3, 1) ∧ 98 + 1 = 99 := ⟨by decide +kernel, rfl⟩
theorem aX12_rules_99 : decode mX12_rules.2.1 99 = .ok (.iload_n 3, 1) ∧ 99 + 1 = 100 := ⟨by decide +kernel, rfl⟩
theorem aX12_rules_100 : decode mX12_rules.2.1 100 = .ok (.aload_n 0, 1) ∧ 100 + 1 = 101 := ⟨by decide +kernel, rfl⟩
theorem aX12_rules_101 : decode mX12_rules.2.1 101 = .ok (.getfield 151, 3) ∧ 101 + 3 = 104 := ⟨by decide +kernel, rfl⟩
theorem aX12_rules_104 : decode mX12_rules.2.1 104 = .ok (.if_icmp .ge 24, 3) ∧ ((104 : Nat) : Int) + 24 = ((128 : Nat) : Int) ∧ 104 + 3 = 107 := ⟨by decide +kernel, by decide, rfl⟩
theorem aX12_rules_107 : decode mX12_rules.2.1 107 = .ok (.aload_n 0, 1) ∧ 107 + 1 = 108 := ⟨by decide +kernel, rfl⟩
theorem aX12_rules_108 : decode mX12_rules.2.1 108 = .ok (.getfield 9, 3) ∧ 108 + 3 = 111 := ⟨by decide +kernel, rfl⟩
theorem aX12_rules_111 : decode mX12_rules.2.1 111 = .ok (.bipush 122, 2) ∧ 111 + 2 = 113 := ⟨by decide +kernel, rfl⟩
theorem aX12_rules_113 : decode mX12_rules.2.1 113 = .ok (.iload_n 3, 1) ∧ 113 + 1 = 114 := ⟨by decide +kernel, rfl⟩
theorem aX12_rules_114 : decode mX12_rules.2.1 114 = .ok (.iadd, 1) ∧ 114 + 1 = 115 := ⟨by decide +kernel, rfl⟩
theorem aX12_rules_115 : decode mX12_rules.2.1 115 = .ok (.aload_n 0, 1) ∧ 115 + 1 = 116 := ⟨by decide +kernel, rfl⟩
theorem aX12_rules_116 : decode mX12_rules.2.1 116 = .ok (.getfield 29, 3) ∧ 116 + 3 = 119 := ⟨by decide +kernel, rfl⟩
theorem aX12_rules_119 : decode mX12_rules.2.1 119 = .ok (.iload_n 3, 1) ∧ 119 + 1 = 120 := ⟨by decide +kernel, rfl⟩
theorem aX12_rules_120 : decode mX12_rules.2.1 120 = .ok (.iaload, 1) ∧ 120 + 1 = 121 := ⟨by decide +kernel, rfl⟩
theorem aX12_rules_121 : decode mX12_rules.2.1 121 = .ok (.iastore, 1) ∧ 121 + 1 = 122 := ⟨by decide +kernel, rfl⟩
theorem aX12_rules_122 : decode mX12_rules.2.1 122 = .ok (.iinc 3 1, 3) ∧ 122 + 3 = 125 := ⟨by decide +kernel, rfl⟩
theorem aX12_rules_125 : decode mX12_rules.2.1 125 = .ok (.goto (-26), 3) ∧ ((125 : Nat) : Int) + (-26) = ((99 : Nat) : Int) := ⟨by decide +kernel, by decide⟩
theorem aX12_rules_128 : decode mX12_rules.2.1 128 = .ok (.iload_n 1, 1) ∧ 128 + 1 = 129 := ⟨by decide +kernel, rfl⟩
theorem aX12_rules_129 : decode mX12_rules.2.1 129 = .ok (.ireturn, 1) := by decide +kernel
theorem S_X12_rules {E : EE} {d : Nat} {I : IH} {Q : QT}  (h :
(∀ I1 : IH, I1 = stI I 115 8 (nI 0) →
 (∀ I3 : IH, I3 = stI I1 115 13 (nI 0) →
 (Mt E d mX12_next [.ref (eb E + 115)] I3 (fun rv I5 => rv = none ∧
 J E (d + 1) mX12_rules 18 [(0, .ref (eb E + 115)), (1, .int (nI 0)), (2, .int (nI 1))] [] I5 Q))))) : Mt E (d + 1) mX12_rules [.ref (eb E + 115)] I Q := by
  refine Mt_of [(0, .ref (eb E + 115))] (by decide +kernel) (by simp [lg_sl, Value.category, mX12_rules]) rfl ?_
  refine J_aload_n 0 aX12_rules_0 rfl ?_
  refine J_iconst (nI 0) aX12_rules_1 (by decide +kernel) ?_
  refine J_putI aX12_rules_2 fpX12_124 sh115 rfl (fun I1 e2 => ?_)
  replace h := h I1 e2
  refine J_aload_n 0 aX12_rules_5 rfl ?_
  refine J_iconst (nI 0) aX12_rules_6 (by decide +kernel) ?_
  refine J_putI aX12_rules_7 fpX12_151 sh115 rfl (fun I3 e4 => ?_)
  replace h := h I3 e4
  refine J_iconst (nI 0) aX12_rules_10 (by decide +kernel) ?_
  refine J_istore_n [(1, .int (nI 0)), (0, .ref (eb E + 115))] aX12_rules_11 (by decide) rfl ?_
  refine J_aload_n 1 aX12_rules_12 rfl ?_
  refine J_callV [] [] aX12_rules_13 lkX12_148_X12 okX12_next sh115 rfl rfl rfl (Nat.le_of_ble_eq_true rfl) (Nat.le_refl _) (Mt_mono h (fun rv I5 h => ?_))
  obtain ⟨rfl, h⟩ := h
  refine J_r0 ?_
  refine J_iconst (nI 1) aX12_rules_16 (by decide +kernel) ?_
  refine J_istore_n [(2, .int (nI 1)), (1, .int (nI 0)), (0, .ref (eb E + 115))] aX12_rules_17 (by decide) rfl ?_
  refine J_pick [2, 1, 0] rfl ?_
  exact h
theorem S_X12_rules_18 {E : EE} {d : Nat} {I : IH} {Q : QT} (x1 : Int32) (x2 : Int32) (h :
((x2 = 0 → J E (d + 1) mX12_rules 42 [(0, .ref (eb E + 115)), (1, .int x1), (2, .int x2)] [] I Q) ∧
 (¬ x2 = 0 → (((I 115 10) = (-1) → J E (d + 1) mX12_rules 42 [(0, .ref (eb E + 115)), (1, .int x1), (2, .int x2)] [] I Q) ∧
 (¬ (I 115 10) = (-1) → (Mt E d mX12_readsRule [.ref (eb E + 115), .int x1] I (fun rv I1 => ∃ v2 : Int32, rv = some (.int v2) ∧
 J E (d + 1) mX12_rules 18 [(0, .ref (eb E + 115)), (1, .int (x1 + nI 1)), (2, .int v2)] [] I1 Q))))))) : J E (d + 1) mX12_rules 18 [(0, .ref (eb E + 115)), (1, .int x1), (2, .int x2)] [] I Q := by
  refine J_iload_n 2 aX12_rules_18 rfl ?_
  refine J_if_eq aX12_rules_19 (fun q => ?_) (fun q => ?_)
  · replace h := h.1 q
    refine J_pick [0, 1, 2] rfl ?_
    exact h
  · replace h := h.2 q
    refine J_aload_n 0 aX12_rules_22 rfl ?_
    refine J_getI aX12_rules_23 flX12_133 sh115 rfl ?_
    refine J_iconst (-1) aX12_rules_26 (by decide +kernel) ?_
    refine J_icmp_eq aX12_rules_27 (fun q => ?_) (fun q => ?_)
    · replace h := h.1 q
      refine J_pick [0, 1, 2] rfl ?_
      exact h
    · replace h := h.2 q
      refine J_aload_n 0 aX12_rules_30 rfl ?_
      refine J_iload_n 1 aX12_rules_31 rfl ?_
      refine J_callV [.int x1] [] aX12_rules_32 lkX12_185_X12 okX12_readsRule sh115 rfl rfl rfl (Nat.le_of_ble_eq_true rfl) (Nat.le_refl _) (Mt_mono h (fun rv I1 h => ?_))
      obtain ⟨v2, rfl, h⟩ := h
      refine J_r1 ?_
      refine J_istore_n [(2, .int v2), (0, .ref (eb E + 115)), (1, .int x1)] aX12_rules_35 (by decide) rfl ?_
      refine J_iinc (x1 + nI 1) [(1, .int (x1 + nI 1)), (2, .int v2), (0, .ref (eb E + 115))] 2 aX12_rules_36 rfl (by first | rfl | (congr 1; decide +kernel)) (by decide) rfl ?_
      refine J_goto aX12_rules_39 ?_
      refine J_pick [2, 0, 1] rfl ?_
      exact h
theorem S_X12_rules_42 {E : EE} {d : Nat} {I : IH} {Q : QT} (x1 : Int32) (x2 : Int32) (h :
(∀ I1 : IH, I1 = stI I 115 6 (nI 0) →
 ((¬ x2 = 0 → (∀ I3 : IH, I3 = stI I1 116 7 x1 →
 J E (d + 1) mX12_rules 69 [(0, .ref (eb E + 115)), (1, .int x1), (3, .int (nI 0))] [] I3 Q)) ∧
 (x2 = 0 → Q (some (.int ((-100) - (I1 115 9)))) I1)))) : J E (d + 1) mX12_rules 42 [(0, .ref (eb E + 115)), (1, .int x1), (2, .int x2)] [] I Q := by
  refine J_aload_n 0 aX12_rules_42 rfl ?_
  refine J_iconst (nI 0) aX12_rules_43 (by decide +kernel) ?_
  refine J_putI aX12_rules_44 fpX12_120 sh115 rfl (fun I1 e2 => ?_)
  replace h := h I1 e2
  refine J_iload_n 2 aX12_rules_47 rfl ?_
  refine J_if_ne aX12_rules_48 (fun q => ?_) (fun q => ?_)
  · replace h := h.1 q
    refine J_aload_n 0 aX12_rules_59 rfl ?_
    refine J_getR aX12_rules_60 flX12_9 sh115 rfl ?_
    refine J_bipush (nI 7) aX12_rules_63 (by decide +kernel) ?_
    refine J_iload_n 1 aX12_rules_65 rfl ?_
    refine J_iastore 7 aX12_rules_66 sh116 rfl (by decide) (by decide) (fun I3 e4 => ?_)
    replace h := h I3 e4
    refine J_iconst (nI 0) aX12_rules_67 (by decide +kernel) ?_
    refine J_istore_n [(3, .int (nI 0)), (0, .ref (eb E + 115)), (1, .int x1), (2, .int x2)] aX12_rules_68 (by decide) rfl ?_
    refine J_pick [1, 2, 0] rfl ?_
    exact h
  · replace h := h.2 q
    refine J_bipush (-100) aX12_rules_51 (by decide +kernel) ?_
    refine J_aload_n 0 aX12_rules_53 rfl ?_
    refine J_getI aX12_rules_54 flX12_127 sh115 rfl ?_
    refine J_isub aX12_rules_57 ?_
    exact J_iret aX12_rules_58 rfl h
theorem S_X12_rules_69 {E : EE} {d : Nat} {I : IH} {Q : QT} (x1 : Int32) (x3 : Int32) (h :
((((nI 3) * x1) ≤ x3 → J E (d + 1) mX12_rules 99 [(0, .ref (eb E + 115)), (1, .int x1), (3, .int (nI 0))] [] I Q) ∧
 (¬ ((nI 3) * x1) ≤ x3 → (∃ j1 : Nat, x3 = nI j1 ∧ j1 < 24 ∧ (∃ j6 : Nat, ((nI 98) + x3) = nI j6 ∧ j6 < 322 ∧ (∀ I4 : IH, I4 = stI I 116 j6 (I 123 j1) →
 J E (d + 1) mX12_rules 69 [(0, .ref (eb E + 115)), (1, .int x1), (3, .int (x3 + nI 1))] [] I4 Q)))))) : J E (d + 1) mX12_rules 69 [(0, .ref (eb E + 115)), (1, .int x1), (3, .int x3)] [] I Q := by
  refine J_iload_n 2 aX12_rules_69 rfl ?_
  refine J_iconst (nI 3) aX12_rules_70 (by decide +kernel) ?_
  refine J_iload_n 1 aX12_rules_71 rfl ?_
  refine J_imul aX12_rules_72 ?_
  refine J_icmp_ge aX12_rules_73 (fun q => ?_) (fun q => ?_)
  · replace h := h.1 q
    refine J_iconst (nI 0) aX12_rules_97 (by decide +kernel) ?_
    refine J_istore_n [(3, .int (nI 0)), (0, .ref (eb E + 115)), (1, .int x1)] aX12_rules_98 (by decide) rfl ?_
    refine J_pick [1, 2, 0] rfl ?_
    exact h
  · replace h := h.2 q
    refine J_aload_n 0 aX12_rules_76 rfl ?_
    refine J_getR aX12_rules_77 flX12_9 sh115 rfl ?_
    refine J_bipush (nI 98) aX12_rules_80 (by decide +kernel) ?_
    refine J_iload_n 2 aX12_rules_82 rfl ?_
    refine J_iadd aX12_rules_83 ?_
    refine J_aload_n 0 aX12_rules_84 rfl ?_
    refine J_getR aX12_rules_85 flX12_32 sh115 rfl ?_
    refine J_iload_n 2 aX12_rules_88 rfl ?_
    obtain ⟨j1, e2, b3, h⟩ := h
    refine J_iaload j1 aX12_rules_89 sh123 e2 b3 (by decide) ?_
    obtain ⟨j6, e7, b8, h⟩ := h
    refine J_iastore j6 aX12_rules_90 sh116 e7 b8 (by decide) (fun I4 e5 => ?_)
    replace h := h I4 e5
    refine J_iinc (x3 + nI 1) [(3, .int (x3 + nI 1)), (0, .ref (eb E + 115)), (1, .int x1)] 2 aX12_rules_91 rfl (by first | rfl | (congr 1; decide +kernel)) (by decide) rfl ?_
    refine J_goto aX12_rules_94 ?_
    refine J_pick [1, 2, 0] rfl ?_
    exact h
theorem S_X12_rules_99 {E : EE} {d : Nat} {I : IH} {Q : QT} (x1 : Int32) (x3 : Int32) (h :
(((I 115 13) ≤ x3 → Q (some (.int x1)) I) ∧
 (¬ (I 115 13) ≤ x3 → (∃ j1 : Nat, x3 = nI j1 ∧ j1 < 200 ∧ (∃ j6 : Nat, ((nI 122) + x3) = nI j6 ∧ j6 < 322 ∧ (∀ I4 : IH, I4 = stI I 116 j6 (I 122 j1) →
 J E (d + 1) mX12_rules 99 [(0, .ref (eb E + 115)), (1, .int x1), (3, .int (x3 + nI 1))] [] I4 Q)))))) : J E (d + 1) mX12_rules 99 [(0, .ref (eb E + 115)), (1, .int x1), (3, .int x3)] [] I Q := by
  refine J_iload_n 2 aX12_rules_99 rfl ?_
  refine J_aload_n 0 aX12_rules_100 rfl ?_
  refine J_getI aX12_rules_101 flX12_151 sh115 rfl ?_
  refine J_icmp_ge aX12_rules_104 (fun q => ?_) (fun q => ?_)
  · replace h := h.1 q
    refine J_iload_n 1 aX12_rules_128 rfl ?_
    exact J_iret aX12_rules_129 rfl h
  · replace h := h.2 q
    refine J_aload_n 0 aX12_rules_107 rfl ?_
    refine J_getR aX12_rules_108 flX12_9 sh115 rfl ?_
    refine J_bipush (nI 122) aX12_rules_111 (by decide +kernel) ?_
    refine J_iload_n 2 aX12_rules_113 rfl ?_
    refine J_iadd aX12_rules_114 ?_
    refine J_aload_n 0 aX12_rules_115 rfl ?_
    refine J_getR aX12_rules_116 flX12_29 sh115 rfl ?_
    refine J_iload_n 2 aX12_rules_119 rfl ?_
    obtain ⟨j1, e2, b3, h⟩ := h
    refine J_iaload j1 aX12_rules_120 sh122 e2 b3 (by decide) ?_
    obtain ⟨j6, e7, b8, h⟩ := h
    refine J_iastore j6 aX12_rules_121 sh116 e7 b8 (by decide) (fun I4 e5 => ?_)
    replace h := h I4 e5
    refine J_iinc (x3 + nI 1) [(3, .int (x3 + nI 1)), (0, .ref (eb E + 115)), (1, .int x1)] 2 aX12_rules_122 rfl (by first | rfl | (congr 1; decide +kernel)) (by decide) rfl ?_
    refine J_goto aX12_rules_125 ?_
    refine J_pick [1, 2, 0] rfl ?_
    exact h
theorem aX12_fogBy_0 : decode mX12_fogBy.2.1 0 = .ok (.iload_n 1, 1) ∧ 0 + 1 = 1 := ⟨by decide +kernel, rfl⟩
theorem aX12_fogBy_1 : decode mX12_fogBy.2.1 1 = .ok (.iconst 4, 1) ∧ 1 + 1 = 2 := ⟨by decide +kernel, rfl⟩
theorem aX12_fogBy_2 : decode mX12_fogBy.2.1 2 = .ok (.idiv, 1) ∧ 2 + 1 = 3 := ⟨by decide +kernel, rfl⟩
theorem aX12_fogBy_3 : decode mX12_fogBy.2.1 3 = .ok (.istore_n 2, 1) ∧ 3 + 1 = 4 := ⟨by decide +kernel, rfl⟩
theorem aX12_fogBy_4 : decode mX12_fogBy.2.1 4 = .ok (.iload_n 0, 1) ∧ 4 + 1 = 5 := ⟨by decide +kernel, rfl⟩
theorem aX12_fogBy_5 : decode mX12_fogBy.2.1 5 = .ok (.iconst 5, 1) ∧ 5 + 1 = 6 := ⟨by decide +kernel, rfl⟩
theorem aX12_fogBy_6 : decode mX12_fogBy.2.1 6 = .ok (.if_icmp .ge 9, 3) ∧ ((6 : Nat) : Int) + 9 = ((15 : Nat) : Int) ∧ 6 + 3 = 9 := ⟨by decide +kernel, by decide, rfl⟩
theorem aX12_fogBy_9 : decode mX12_fogBy.2.1 9 = .ok (.iconst 5, 1) ∧ 9 + 1 = 10 := ⟨by decide +kernel, rfl⟩
theorem aX12_fogBy_10 : decode mX12_fogBy.2.1 10 = .ok (.iload_n 0, 1) ∧ 10 + 1 = 11 := ⟨by decide +kernel, rfl⟩
theorem aX12_fogBy_11 : decode mX12_fogBy.2.1 11 = .ok (.isub, 1) ∧ 11 + 1 = 12 := ⟨by decide +kernel, rfl⟩
theorem aX12_fogBy_12 : decode mX12_fogBy.2.1 12 = .ok (.goto 6, 3) ∧ ((12 : Nat) : Int) + 6 = ((18 : Nat) : Int) := ⟨by decide +kernel, by decide⟩
theorem aX12_fogBy_15 : decode mX12_fogBy.2.1 15 = .ok (.iload_n 0, 1) ∧ 15 + 1 = 16 := ⟨by decide +kernel, rfl⟩
theorem aX12_fogBy_16 : decode mX12_fogBy.2.1 16 = .ok (.iconst 5, 1) ∧ 16 + 1 = 17 := ⟨by decide +kernel, rfl⟩
theorem aX12_fogBy_17 : decode mX12_fogBy.2.1 17 = .ok (.isub, 1) ∧ 17 + 1 = 18 := ⟨by decide +kernel, rfl⟩
theorem aX12_fogBy_18 : decode mX12_fogBy.2.1 18 = .ok (.istore_n 3, 1) ∧ 18 + 1 = 19 := ⟨by decide +kernel, rfl⟩
theorem aX12_fogBy_19 : decode mX12_fogBy.2.1 19 = .ok (.iload_n 3, 1) ∧ 19 + 1 = 20 := ⟨by decide +kernel, rfl⟩
theorem aX12_fogBy_20 : decode mX12_fogBy.2.1 20 = .ok (.iload_n 2, 1) ∧ 20 + 1 = 21 := ⟨by decide +kernel, rfl⟩
theorem aX12_fogBy_21 : decode mX12_fogBy.2.1 21 = .ok (.if_icmp .ge 7, 3) ∧ ((21 : Nat) : Int) + 7 = ((28 : Nat) : Int) ∧ 21 + 3 = 24 := ⟨by decide +kernel, by decide, rfl⟩
theorem aX12_fogBy_24 : decode mX12_fogBy.2.1 24 = .ok (.iload_n 3, 1) ∧ 24 + 1 = 25 := ⟨by decide +kernel, rfl⟩
theorem aX12_fogBy_25 : decode mX12_fogBy.2.1 25 = .ok (.goto 4, 3) ∧ ((25 : Nat) : Int) + 4 = ((29 : Nat) : Int) := ⟨by decide +kernel, by decide⟩
theorem aX12_fogBy_28 : decode mX12_fogBy.2.1 28 = .ok (.iload_n 2, 1) ∧ 28 + 1 = 29 := ⟨by decide +kernel, rfl⟩
theorem aX12_fogBy_29 : decode mX12_fogBy.2.1 29 = .ok (.istore 4, 2) ∧ 29 + 2 = 31 := ⟨by decide +kernel, rfl⟩
theorem aX12_fogBy_31 : decode mX12_fogBy.2.1 31 = .ok (.iload_n 1, 1) ∧ 31 + 1 = 32 := ⟨by decide +kernel, rfl⟩
theorem aX12_fogBy_32 : decode mX12_fogBy.2.1 32 = .ok (.iconst 4, 1) ∧ 32 + 1 = 33 := ⟨by decide +kernel, rfl⟩
theorem aX12_fogBy_33 : decode mX12_fogBy.2.1 33 = .ok (.irem, 1) ∧ 33 + 1 = 34 := ⟨by decide +kernel, rfl⟩
theorem aX12_fogBy_34 : decode mX12_fogBy.2.1 34 = .ok (.tableswitch 61 0 2 #[26, 35, 44], 26) := by decide +kernel
theorem aX12_fogBy_60 : decode mX12_fogBy.2.1 60 = .ok (.iload_n 0, 1) ∧ 60 + 1 = 61 := ⟨by decide +kernel, rfl⟩
theorem aX12_fogBy_61 : decode mX12_fogBy.2.1 61 = .ok (.iload_n 2, 1) ∧ 61 + 1 = 62 := ⟨by decide +kernel, rfl⟩
theorem aX12_fogBy_62 : decode mX12_fogBy.2.1 62 = .ok (.iadd, 1) ∧ 62 + 1 = 63 := ⟨by decide +kernel, rfl⟩
theorem aX12_fogBy_63 : decode mX12_fogBy.2.1 63 = .ok (.bipush 9, 2) ∧ 63 + 2 = 65 := ⟨by decide +kernel, rfl⟩
theorem aX12_fogBy_65 : decode mX12_fogBy.2.1 65 = .ok (.invokestatic 188, 3) ∧ 65 + 3 = 68 := ⟨by decide +kernel, rfl⟩
theorem aX12_fogBy_68 : decode mX12_fogBy.2.1 68 = .ok (.ireturn, 1) := by decide +kernel
theorem aX12_fogBy_69 : decode mX12_fogBy.2.1 69 = .ok (.iload_n 0, 1) ∧ 69 + 1 = 70 := ⟨by decide +kernel, rfl⟩
theorem aX12_fogBy_70 : decode mX12_fogBy.2.1 70 = .ok (.iload_n 2, 1) ∧ 70 + 1 = 71 := ⟨by decide +kernel, rfl⟩
theorem aX12_fogBy_71 : decode mX12_fogBy.2.1 71 = .ok (.isub, 1) ∧ 71 + 1 = 72 := ⟨by decide +kernel, rfl⟩
theorem aX12_fogBy_72 : decode mX12_fogBy.2.1 72 = .ok (.bipush 9, 2) ∧ 72 + 2 = 74 := ⟨by decide +kernel, rfl⟩
theorem aX12_fogBy_74 : decode mX12_fogBy.2.1 74 = .ok (.invokestatic 188, 3) ∧ 74 + 3 = 77 := ⟨by decide +kernel, rfl⟩
theorem aX12_fogBy_77 : decode mX12_fogBy.2.1 77 = .ok (.ireturn, 1) := by decide +kernel
theorem aX12_fogBy_78 : decode mX12_fogBy.2.1 78 = .ok (.iload_n 0, 1) ∧ 78 + 1 = 79 := ⟨by decide +kernel, rfl⟩
theorem aX12_fogBy_79 : decode mX12_fogBy.2.1 79 = .ok (.iconst 5, 1) ∧ 79 + 1 = 80 := ⟨by decide +kernel, rfl⟩
theorem aX12_fogBy_80 : decode mX12_fogBy.2.1 80 = .ok (.if_icmp .ge 10, 3) ∧ ((80 : Nat) : Int) + 10 = ((90 : Nat) : Int) ∧ 80 + 3 = 83 := ⟨by decide +kernel, by decide, rfl⟩
theorem aX12_fogBy_83 : decode mX12_fogBy.2.1 83 = .ok (.iload_n 0, 1) ∧ 83 + 1 = 84 := ⟨by decide +kernel, rfl⟩
theorem aX12_fogBy_84 : decode mX12_fogBy.2.1 84 = .ok (.iload 4, 2) ∧ 84 + 2 = 86 := ⟨by decide +kernel, rfl⟩
theorem aX12_fogBy_86 : decode mX12_fogBy.2.1 86 = .ok (.iadd, 1) ∧ 86 + 1 = 87 := ⟨by decide +kernel, rfl⟩
theorem aX12_fogBy_87 : decode mX12_fogBy.2.1 87 = .ok (.goto 7, 3) ∧ ((87 : Nat) : Int) + 7 = ((94 : Nat) : Int) := ⟨by decide +kernel, by decide⟩
theorem aX12_fogBy_90 : decode mX12_fogBy.2.1 90 = .ok (.iload_n 0, 1) ∧ 90 + 1 = 91 := ⟨by decide +kernel, rfl⟩
theorem aX12_fogBy_91 : decode mX12_fogBy.2.1 91 = .ok (.iload 4, 2) ∧ 91 + 2 = 93 := ⟨by decide +kernel, rfl⟩
theorem aX12_fogBy_93 : decode mX12_fogBy.2.1 93 = .ok (.isub, 1) ∧ 93 + 1 = 94 := ⟨by decide +kernel, rfl⟩
theorem aX12_fogBy_94 : decode mX12_fogBy.2.1 94 = .ok (.ireturn, 1) := by decide +kernel
theorem aX12_fogBy_95 : decode mX12_fogBy.2.1 95 = .ok (.iload_n 0, 1) ∧ 95 + 1 = 96 := ⟨by decide +kernel, rfl⟩
theorem aX12_fogBy_96 : decode mX12_fogBy.2.1 96 = .ok (.ireturn, 1) := by decide +kernel
theorem S_X12_fogBy {E : EE} {d : Nat} {I : IH} {Q : QT} (x0 : Int32) (x1 : Int32) (h :
(((nI 5) ≤ x0 → J E (d + 1) mX12_fogBy 18 [(0, .int x0), (1, .int x1), (2, .int (x1 / (nI 4)))] [.int (x0 - (nI 5))] I Q) ∧
 (¬ (nI 5) ≤ x0 → J E (d + 1) mX12_fogBy 18 [(0, .int x0), (1, .int x1), (2, .int (x1 / (nI 4)))] [.int ((nI 5) - x0)] I Q))) : Mt E (d + 1) mX12_fogBy [.int x0, .int x1] I Q := by
  refine Mt_of [(0, .int x0), (1, .int x1)] (by decide +kernel) (by simp [lg_sl, Value.category, mX12_fogBy]) rfl ?_
  refine J_iload_n 1 aX12_fogBy_0 rfl ?_
  refine J_iconst (nI 4) aX12_fogBy_1 (by decide +kernel) ?_
  refine J_idiv aX12_fogBy_2 (by decide +kernel) ?_
  refine J_istore_n [(2, .int (x1 / (nI 4))), (0, .int x0), (1, .int x1)] aX12_fogBy_3 (by decide) rfl ?_
  refine J_iload_n 1 aX12_fogBy_4 rfl ?_
  refine J_iconst (nI 5) aX12_fogBy_5 (by decide +kernel) ?_
  refine J_icmp_ge aX12_fogBy_6 (fun q => ?_) (fun q => ?_)
  · replace h := h.1 q
    refine J_iload_n 1 aX12_fogBy_15 rfl ?_
    refine J_iconst (nI 5) aX12_fogBy_16 (by decide +kernel) ?_
    refine J_isub aX12_fogBy_17 ?_
    refine J_pick [1, 2, 0] rfl ?_
    exact h
  · replace h := h.2 q
    refine J_iconst (nI 5) aX12_fogBy_9 (by decide +kernel) ?_
    refine J_iload_n 1 aX12_fogBy_10 rfl ?_
    refine J_isub aX12_fogBy_11 ?_
    refine J_goto aX12_fogBy_12 ?_
    refine J_pick [1, 2, 0] rfl ?_
    exact h
theorem S_X12_fogBy_18 {E : EE} {d : Nat} {I : IH} {Q : QT} (x0 : Int32) (x1 : Int32) (x2 : Int32) (t0 : Int32) (h :
((x2 ≤ t0 → J E (d + 1) mX12_fogBy 29 [(0, .int x0), (1, .int x1), (2, .int x2)] [.int x2] I Q) ∧
 (¬ x2 ≤ t0 → J E (d + 1) mX12_fogBy 29 [(0, .int x0), (1, .int x1), (2, .int x2)] [.int t0] I Q))) : J E (d + 1) mX12_fogBy 18 [(0, .int x0), (1, .int x1), (2, .int x2)] [.int t0] I Q := by
  refine J_istore_n [(3, .int t0), (0, .int x0), (1, .int x1), (2, .int x2)] aX12_fogBy_18 (by decide) rfl ?_
  refine J_iload_n 0 aX12_fogBy_19 rfl ?_
  refine J_iload_n 3 aX12_fogBy_20 rfl ?_
  refine J_icmp_ge aX12_fogBy_21 (fun q => ?_) (fun q => ?_)
  · replace h := h.1 q
    refine J_iload_n 3 aX12_fogBy_28 rfl ?_
    refine J_pick [1, 2, 3] rfl ?_
    exact h
  · replace h := h.2 q
    refine J_iload_n 0 aX12_fogBy_24 rfl ?_
    refine J_goto aX12_fogBy_25 ?_
    refine J_pick [1, 2, 3] rfl ?_
    exact h
theorem S_X12_fogBy_29 {E : EE} {d : Nat} {I : IH} {Q : QT} (x0 : Int32) (x1 : Int32) (x2 : Int32) (t0 : Int32) (h :
(((x1 - x1 / (nI 4) * (nI 4)) = (nI 0) → (Mt E d mX12_held [.int (x0 + x2), .int (nI 9)] I (fun rv I1 => ∃ v2 : Int32, rv = some (.int v2) ∧
 Q (some (.int v2)) I1))) ∧
 (((x1 - x1 / (nI 4) * (nI 4)) = (nI 1) → (Mt E d mX12_held [.int (x0 - x2), .int (nI 9)] I (fun rv I3 => ∃ v4 : Int32, rv = some (.int v4) ∧
 Q (some (.int v4)) I3))) ∧
 (((x1 - x1 / (nI 4) * (nI 4)) = (nI 2) → (((nI 5) ≤ x0 → Q (some (.int (x0 - t0))) I) ∧
 (¬ (nI 5) ≤ x0 → Q (some (.int (x0 + t0))) I))) ∧
 (¬ (x1 - x1 / (nI 4) * (nI 4)) = (nI 0) ∧ ¬ (x1 - x1 / (nI 4) * (nI 4)) = (nI 1) ∧ ¬ (x1 - x1 / (nI 4) * (nI 4)) = (nI 2) → Q (some (.int x0)) I))))) : J E (d + 1) mX12_fogBy 29 [(0, .int x0), (1, .int x1), (2, .int x2)] [.int t0] I Q := by
  refine J_istore [(4, .int t0), (0, .int x0), (1, .int x1), (2, .int x2)] aX12_fogBy_29 (by decide) rfl ?_
  refine J_iload_n 2 aX12_fogBy_31 rfl ?_
  refine J_iconst (nI 4) aX12_fogBy_32 (by decide +kernel) ?_
  refine J_irem aX12_fogBy_33 (by decide +kernel) ?_
  by_cases q0 : (x1 - x1 / (nI 4) * (nI 4)) = (nI 0)
  · replace h := h.1 q0
    refine J_tswIn (nI 0) aX12_fogBy_34 (off := 26) (tgt := 60) (by decide +kernel) q0 ?_
    refine J_iload_n 1 aX12_fogBy_60 rfl ?_
    refine J_iload_n 3 aX12_fogBy_61 rfl ?_
    refine J_iadd aX12_fogBy_62 ?_
    refine J_bipush (nI 9) aX12_fogBy_63 (by decide +kernel) ?_
    refine J_callS [.int (x0 + x2), .int (nI 9)] [] aX12_fogBy_65 lkX12_188 okX12_held rfl rfl (Nat.le_of_ble_eq_true rfl) (Nat.le_refl _) (Mt_mono h (fun rv I1 h => ?_))
    obtain ⟨v2, rfl, h⟩ := h
    refine J_r1 ?_
    exact J_iret aX12_fogBy_68 rfl h
  replace h := h.2
  by_cases q1 : (x1 - x1 / (nI 4) * (nI 4)) = (nI 1)
  · replace h := h.1 q1
    refine J_tswIn (nI 1) aX12_fogBy_34 (off := 35) (tgt := 69) (by decide +kernel) q1 ?_
    refine J_iload_n 1 aX12_fogBy_69 rfl ?_
    refine J_iload_n 3 aX12_fogBy_70 rfl ?_
    refine J_isub aX12_fogBy_71 ?_
    refine J_bipush (nI 9) aX12_fogBy_72 (by decide +kernel) ?_
    refine J_callS [.int (x0 - x2), .int (nI 9)] [] aX12_fogBy_74 lkX12_188 okX12_held rfl rfl (Nat.le_of_ble_eq_true rfl) (Nat.le_refl _) (Mt_mono h (fun rv I3 h => ?_))
    obtain ⟨v4, rfl, h⟩ := h
    refine J_r1 ?_
    exact J_iret aX12_fogBy_77 rfl h
  replace h := h.2
  by_cases q2 : (x1 - x1 / (nI 4) * (nI 4)) = (nI 2)
  · replace h := h.1 q2
    refine J_tswIn (nI 2) aX12_fogBy_34 (off := 44) (tgt := 78) (by decide +kernel) q2 ?_
    refine J_iload_n 1 aX12_fogBy_78 rfl ?_
    refine J_iconst (nI 5) aX12_fogBy_79 (by decide +kernel) ?_
    refine J_icmp_ge aX12_fogBy_80 (fun q => ?_) (fun q => ?_)
    · replace h := h.1 q
      refine J_iload_n 1 aX12_fogBy_90 rfl ?_
      refine J_iload 0 aX12_fogBy_91 rfl ?_
      refine J_isub aX12_fogBy_93 ?_
      exact J_iret aX12_fogBy_94 rfl h
    · replace h := h.2 q
      refine J_iload_n 1 aX12_fogBy_83 rfl ?_
      refine J_iload 0 aX12_fogBy_84 rfl ?_
      refine J_iadd aX12_fogBy_86 ?_
      refine J_goto aX12_fogBy_87 ?_
      exact J_iret aX12_fogBy_94 rfl h
  replace h := h.2
  replace h := h ⟨q0, q1, q2⟩
  refine J_tswOut aX12_fogBy_34 (tgt := 95) (by decide) (tsw_out (fun k h1 h2 hk => by
    have hh : k = 0 ∨ k = 1 ∨ k = 2 := by omega
    rcases hh with rfl | rfl | rfl
    · exact q0 (Int32.toInt_inj.mp (hk.trans (by decide +kernel)))
    · exact q1 (Int32.toInt_inj.mp (hk.trans (by decide +kernel)))
    · exact q2 (Int32.toInt_inj.mp (hk.trans (by decide +kernel)))
    )) ?_
  refine J_iload_n 1 aX12_fogBy_95 rfl ?_
  exact J_iret aX12_fogBy_96 rfl h
