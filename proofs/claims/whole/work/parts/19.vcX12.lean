theorem aX12_in1_0 : decode mX12_in1.2.1 0 = .ok (.iload_n 0, 1) ∧ 0 + 1 = 1 := ⟨by decide +kernel, rfl⟩
theorem aX12_in1_1 : decode mX12_in1.2.1 1 = .ok (.iload_n 1, 1) ∧ 1 + 1 = 2 := ⟨by decide +kernel, rfl⟩
theorem aX12_in1_2 : decode mX12_in1.2.1 2 = .ok (.if_icmp .lt 12, 3) ∧ ((2 : Nat) : Int) + 12 = ((14 : Nat) : Int) ∧ 2 + 3 = 5 := ⟨by decide +kernel, by decide, rfl⟩
theorem aX12_in1_5 : decode mX12_in1.2.1 5 = .ok (.iload_n 0, 1) ∧ 5 + 1 = 6 := ⟨by decide +kernel, rfl⟩
theorem aX12_in1_6 : decode mX12_in1.2.1 6 = .ok (.iload_n 2, 1) ∧ 6 + 1 = 7 := ⟨by decide +kernel, rfl⟩
theorem aX12_in1_7 : decode mX12_in1.2.1 7 = .ok (.if_icmp .gt 7, 3) ∧ ((7 : Nat) : Int) + 7 = ((14 : Nat) : Int) ∧ 7 + 3 = 10 := ⟨by decide +kernel, by decide, rfl⟩
theorem aX12_in1_10 : decode mX12_in1.2.1 10 = .ok (.iconst 1, 1) ∧ 10 + 1 = 11 := ⟨by decide +kernel, rfl⟩
theorem aX12_in1_11 : decode mX12_in1.2.1 11 = .ok (.goto 4, 3) ∧ ((11 : Nat) : Int) + 4 = ((15 : Nat) : Int) := ⟨by decide +kernel, by decide⟩
theorem aX12_in1_14 : decode mX12_in1.2.1 14 = .ok (.iconst 0, 1) ∧ 14 + 1 = 15 := ⟨by decide +kernel, rfl⟩
theorem aX12_in1_15 : decode mX12_in1.2.1 15 = .ok (.ireturn, 1) := by decide +kernel
theorem S_X12_in1 {E : EE} {d : Nat} {I : IH} {Q : QT} (x0 : Int32) (x1 : Int32) (x2 : Int32) (h :
((x0 < x1 → Q (some (.int (nI 0))) I) ∧
 (¬ x0 < x1 → ((x2 < x0 → Q (some (.int (nI 0))) I) ∧
 (¬ x2 < x0 → Q (some (.int (nI 1))) I))))) : Mt E d mX12_in1 [.int x0, .int x1, .int x2] I Q := by
  refine Mt_of [(0, .int x0), (1, .int x1), (2, .int x2)] (by decide +kernel) (by simp [lg_sl, Value.category, mX12_in1]) rfl ?_
  refine J_iload_n 0 aX12_in1_0 rfl ?_
  refine J_iload_n 1 aX12_in1_1 rfl ?_
  refine J_icmp_lt aX12_in1_2 (fun q => ?_) (fun q => ?_)
  · replace h := h.1 q
    refine J_iconst (nI 0) aX12_in1_14 (by decide +kernel) ?_
    exact J_zret aX12_in1_15 rfl (by decide +kernel) h
  · replace h := h.2 q
    refine J_iload_n 0 aX12_in1_5 rfl ?_
    refine J_iload_n 2 aX12_in1_6 rfl ?_
    refine J_icmp_gt aX12_in1_7 (fun q => ?_) (fun q => ?_)
    · replace h := h.1 q
      refine J_iconst (nI 0) aX12_in1_14 (by decide +kernel) ?_
      exact J_zret aX12_in1_15 rfl (by decide +kernel) h
    · replace h := h.2 q
      refine J_iconst (nI 1) aX12_in1_10 (by decide +kernel) ?_
      refine J_goto aX12_in1_11 ?_
      exact J_zret aX12_in1_15 rfl (by decide +kernel) h
theorem aX12_held_0 : decode mX12_held.2.1 0 = .ok (.iload_n 0, 1) ∧ 0 + 1 = 1 := ⟨by decide +kernel, rfl⟩
theorem aX12_held_1 : decode mX12_held.2.1 1 = .ok (.ifCond .ge 7, 3) ∧ ((1 : Nat) : Int) + 7 = ((8 : Nat) : Int) ∧ 1 + 3 = 4 := ⟨by decide +kernel, by decide, rfl⟩
theorem aX12_held_4 : decode mX12_held.2.1 4 = .ok (.iconst 0, 1) ∧ 4 + 1 = 5 := ⟨by decide +kernel, rfl⟩
theorem aX12_held_5 : decode mX12_held.2.1 5 = .ok (.goto 13, 3) ∧ ((5 : Nat) : Int) + 13 = ((18 : Nat) : Int) := ⟨by decide +kernel, by decide⟩
theorem aX12_held_8 : decode mX12_held.2.1 8 = .ok (.iload_n 0, 1) ∧ 8 + 1 = 9 := ⟨by decide +kernel, rfl⟩
theorem aX12_held_9 : decode mX12_held.2.1 9 = .ok (.iload_n 1, 1) ∧ 9 + 1 = 10 := ⟨by decide +kernel, rfl⟩
theorem aX12_held_10 : decode mX12_held.2.1 10 = .ok (.if_icmp .le 7, 3) ∧ ((10 : Nat) : Int) + 7 = ((17 : Nat) : Int) ∧ 10 + 3 = 13 := ⟨by decide +kernel, by decide, rfl⟩
theorem aX12_held_13 : decode mX12_held.2.1 13 = .ok (.iload_n 1, 1) ∧ 13 + 1 = 14 := ⟨by decide +kernel, rfl⟩
theorem aX12_held_14 : decode mX12_held.2.1 14 = .ok (.goto 4, 3) ∧ ((14 : Nat) : Int) + 4 = ((18 : Nat) : Int) := ⟨by decide +kernel, by decide⟩
theorem aX12_held_17 : decode mX12_held.2.1 17 = .ok (.iload_n 0, 1) ∧ 17 + 1 = 18 := ⟨by decide +kernel, rfl⟩
theorem aX12_held_18 : decode mX12_held.2.1 18 = .ok (.ireturn, 1) := by decide +kernel
theorem S_X12_held {E : EE} {d : Nat} {I : IH} {Q : QT} (x0 : Int32) (x1 : Int32) (h :
((0 ≤ x0 → ((x0 ≤ x1 → Q (some (.int x0)) I) ∧
 (¬ x0 ≤ x1 → Q (some (.int x1)) I))) ∧
 (¬ 0 ≤ x0 → Q (some (.int (nI 0))) I))) : Mt E d mX12_held [.int x0, .int x1] I Q := by
  refine Mt_of [(0, .int x0), (1, .int x1)] (by decide +kernel) (by simp [lg_sl, Value.category, mX12_held]) rfl ?_
  refine J_iload_n 0 aX12_held_0 rfl ?_
  refine J_if_ge aX12_held_1 (fun q => ?_) (fun q => ?_)
  · replace h := h.1 q
    refine J_iload_n 0 aX12_held_8 rfl ?_
    refine J_iload_n 1 aX12_held_9 rfl ?_
    refine J_icmp_le aX12_held_10 (fun q => ?_) (fun q => ?_)
    · replace h := h.1 q
      refine J_iload_n 0 aX12_held_17 rfl ?_
      exact J_iret aX12_held_18 rfl h
    · replace h := h.2 q
      refine J_iload_n 1 aX12_held_13 rfl ?_
      refine J_goto aX12_held_14 ?_
      exact J_iret aX12_held_18 rfl h
  · replace h := h.2 q
    refine J_iconst (nI 0) aX12_held_4 (by decide +kernel) ?_
    refine J_goto aX12_held_5 ?_
    exact J_iret aX12_held_18 rfl h
theorem aX12_layDown_0 : decode mX12_layDown.2.1 0 = .ok (.iconst 0, 1) ∧ 0 + 1 = 1 := ⟨by decide +kernel, rfl⟩
theorem aX12_layDown_1 : decode mX12_layDown.2.1 1 = .ok (.istore_n 1, 1) ∧ 1 + 1 = 2 := ⟨by decide +kernel, rfl⟩
theorem aX12_layDown_2 : decode mX12_layDown.2.1 2 = .ok (.iload_n 1, 1) ∧ 2 + 1 = 3 := ⟨by decide +kernel, rfl⟩
theorem aX12_layDown_3 : decode mX12_layDown.2.1 3 = .ok (.bipush 74, 2) ∧ 3 + 2 = 5 := ⟨by decide +kernel, rfl⟩
theorem aX12_layDown_5 : decode mX12_layDown.2.1 5 = .ok (.if_icmp .ge 21, 3) ∧ ((5 : Nat) : Int) + 21 = ((26 : Nat) : Int) ∧ 5 + 3 = 8 := ⟨by decide +kernel, by decide, rfl⟩
theorem aX12_layDown_8 : decode mX12_layDown.2.1 8 = .ok (.aload_n 0, 1) ∧ 8 + 1 = 9 := ⟨by decide +kernel, rfl⟩
theorem aX12_layDown_9 : decode mX12_layDown.2.1 9 = .ok (.getfield 16, 3) ∧ 9 + 3 = 12 := ⟨by decide +kernel, rfl⟩
theorem aX12_layDown_12 : decode mX12_layDown.2.1 12 = .ok (.iload_n 1, 1) ∧ 12 + 1 = 13 := ⟨by decide +kernel, rfl⟩
theorem aX12_layDown_13 : decode mX12_layDown.2.1 13 = .ok (.aload_n 0, 1) ∧ 13 + 1 = 14 := ⟨by decide +kernel, rfl⟩
theorem aX12_layDown_14 : decode mX12_layDown.2.1 14 = .ok (.getfield 9, 3) ∧ 14 + 3 = 17 := ⟨by decide +kernel, rfl⟩
theorem aX12_layDown_17 : decode mX12_layDown.2.1 17 = .ok (.iload_n 1, 1) ∧ 17 + 1 = 18 := ⟨by decide +kernel, rfl⟩
theorem aX12_layDown_18 : decode mX12_layDown.2.1 18 = .ok (.iaload, 1) ∧ 18 + 1 = 19 := ⟨by decide +kernel, rfl⟩
theorem aX12_layDown_19 : decode mX12_layDown.2.1 19 = .ok (.iastore, 1) ∧ 19 + 1 = 20 := ⟨by decide +kernel, rfl⟩
theorem aX12_layDown_20 : decode mX12_layDown.2.1 20 = .ok (.iinc 1 1, 3) ∧ 20 + 3 = 23 := ⟨by decide +kernel, rfl⟩
theorem aX12_layDown_23 : decode mX12_layDown.2.1 23 = .ok (.goto (-21), 3) ∧ ((23 : Nat) : Int) + (-21) = ((2 : Nat) : Int) := ⟨by decide +kernel, by decide⟩
theorem aX12_layDown_26 : decode mX12_layDown.2.1 26 = .ok (.return_, 1) := by decide +kernel
theorem S_X12_layDown {E : EE} {d : Nat} {I : IH} {Q : QT}  (h :
J E d mX12_layDown 2 [(0, .ref (eb E + 115)), (1, .int (nI 0))] [] I Q) : Mt E d mX12_layDown [.ref (eb E + 115)] I Q := by
  refine Mt_of [(0, .ref (eb E + 115))] (by decide +kernel) (by simp [lg_sl, Value.category, mX12_layDown]) rfl ?_
  refine J_iconst (nI 0) aX12_layDown_0 (by decide +kernel) ?_
  refine J_istore_n [(1, .int (nI 0)), (0, .ref (eb E + 115))] aX12_layDown_1 (by decide) rfl ?_
  refine J_pick [1, 0] rfl ?_
  exact h
theorem S_X12_layDown_2 {E : EE} {d : Nat} {I : IH} {Q : QT} (x1 : Int32) (h :
(((nI 74) ≤ x1 → Q none I) ∧
 (¬ (nI 74) ≤ x1 → (∃ j1 : Nat, x1 = nI j1 ∧ j1 < 322 ∧ (∃ j6 : Nat, x1 = nI j6 ∧ j6 < 74 ∧ (∀ I4 : IH, I4 = stI I 118 j6 (I 116 j1) →
 J E d mX12_layDown 2 [(0, .ref (eb E + 115)), (1, .int (x1 + nI 1))] [] I4 Q)))))) : J E d mX12_layDown 2 [(0, .ref (eb E + 115)), (1, .int x1)] [] I Q := by
  refine J_iload_n 1 aX12_layDown_2 rfl ?_
  refine J_bipush (nI 74) aX12_layDown_3 (by decide +kernel) ?_
  refine J_icmp_ge aX12_layDown_5 (fun q => ?_) (fun q => ?_)
  · replace h := h.1 q
    exact J_vret aX12_layDown_26 rfl h
  · replace h := h.2 q
    refine J_aload_n 0 aX12_layDown_8 rfl ?_
    refine J_getR aX12_layDown_9 flX12_16 sh115 rfl ?_
    refine J_iload_n 1 aX12_layDown_12 rfl ?_
    refine J_aload_n 0 aX12_layDown_13 rfl ?_
    refine J_getR aX12_layDown_14 flX12_9 sh115 rfl ?_
    refine J_iload_n 1 aX12_layDown_17 rfl ?_
    obtain ⟨j1, e2, b3, h⟩ := h
    refine J_iaload j1 aX12_layDown_18 sh116 e2 b3 (by decide) ?_
    obtain ⟨j6, e7, b8, h⟩ := h
    refine J_iastore j6 aX12_layDown_19 sh118 e7 b8 (by decide) (fun I4 e5 => ?_)
    replace h := h I4 e5
    refine J_iinc (x1 + nI 1) [(1, .int (x1 + nI 1)), (0, .ref (eb E + 115))] 1 aX12_layDown_20 rfl (by first | rfl | (congr 1; decide +kernel)) (by decide) rfl ?_
    refine J_goto aX12_layDown_23 ?_
    refine J_pick [1, 0] rfl ?_
    exact h
theorem aX12_layBack_0 : decode mX12_layBack.2.1 0 = .ok (.iconst 0, 1) ∧ 0 + 1 = 1 := ⟨by decide +kernel, rfl⟩
theorem aX12_layBack_1 : decode mX12_layBack.2.1 1 = .ok (.istore_n 1, 1) ∧ 1 + 1 = 2 := ⟨by decide +kernel, rfl⟩
theorem aX12_layBack_2 : decode mX12_layBack.2.1 2 = .ok (.iload_n 1, 1) ∧ 2 + 1 = 3 := ⟨by decide +kernel, rfl⟩
theorem aX12_layBack_3 : decode mX12_layBack.2.1 3 = .ok (.bipush 74, 2) ∧ 3 + 2 = 5 := ⟨by decide +kernel, rfl⟩
theorem aX12_layBack_5 : decode mX12_layBack.2.1 5 = .ok (.if_icmp .ge 21, 3) ∧ ((5 : Nat) : Int) + 21 = ((26 : Nat) : Int) ∧ 5 + 3 = 8 := ⟨by decide +kernel, by decide, rfl⟩
theorem aX12_layBack_8 : decode mX12_layBack.2.1 8 = .ok (.aload_n 0, 1) ∧ 8 + 1 = 9 := ⟨by decide +kernel, rfl⟩
theorem aX12_layBack_9 : decode mX12_layBack.2.1 9 = .ok (.getfield 9, 3) ∧ 9 + 3 = 12 := ⟨by decide +kernel, rfl⟩
theorem aX12_layBack_12 : decode mX12_layBack.2.1 12 = .ok (.iload_n 1, 1) ∧ 12 + 1 = 13 := ⟨by decide +kernel, rfl⟩
theorem aX12_layBack_13 : decode mX12_layBack.2.1 13 = .ok (.aload_n 0, 1) ∧ 13 + 1 = 14 := ⟨by decide +kernel, rfl⟩
theorem aX12_layBack_14 : decode mX12_layBack.2.1 14 = .ok (.getfield 16, 3) ∧ 14 + 3 = 17 := ⟨by decide +kernel, rfl⟩
theorem aX12_layBack_17 : decode mX12_layBack.2.1 17 = .ok (.iload_n 1, 1) ∧ 17 + 1 = 18 := ⟨by decide +kernel, rfl⟩
theorem aX12_layBack_18 : decode mX12_layBack.2.1 18 = .ok (.iaload, 1) ∧ 18 + 1 = 19 := ⟨by decide +kernel, rfl⟩
theorem aX12_layBack_19 : decode mX12_layBack.2.1 19 = .ok (.iastore, 1) ∧ 19 + 1 = 20 := ⟨by decide +kernel, rfl⟩
theorem aX12_layBack_20 : decode mX12_layBack.2.1 20 = .ok (.iinc 1 1, 3) ∧ 20 + 3 = 23 := ⟨by decide +kernel, rfl⟩
theorem aX12_layBack_23 : decode mX12_layBack.2.1 23 = .ok (.goto (-21), 3) ∧ ((23 : Nat) : Int) + (-21) = ((2 : Nat) : Int) := ⟨by decide +kernel, by decide⟩
theorem aX12_layBack_26 : decode mX12_layBack.2.1 26 = .ok (.return_, 1) := by decide +kernel
theorem S_X12_layBack {E : EE} {d : Nat} {I : IH} {Q : QT}  (h :
J E d mX12_layBack 2 [(0, .ref (eb E + 115)), (1, .int (nI 0))] [] I Q) : Mt E d mX12_layBack [.ref (eb E + 115)] I Q := by
  refine Mt_of [(0, .ref (eb E + 115))] (by decide +kernel) (by simp [lg_sl, Value.category, mX12_layBack]) rfl ?_
  refine J_iconst (nI 0) aX12_layBack_0 (by decide +kernel) ?_
  refine J_istore_n [(1, .int (nI 0)), (0, .ref (eb E + 115))] aX12_layBack_1 (by decide) rfl ?_
  refine J_pick [1, 0] rfl ?_
  exact h
theorem S_X12_layBack_2 {E : EE} {d : Nat} {I : IH} {Q : QT} (x1 : Int32) (h :
(((nI 74) ≤ x1 → Q none I) ∧
 (¬ (nI 74) ≤ x1 → (∃ j1 : Nat, x1 = nI j1 ∧ j1 < 74 ∧ (∃ j6 : Nat, x1 = nI j6 ∧ j6 < 322 ∧ (∀ I4 : IH, I4 = stI I 116 j6 (I 118 j1) →
 J E d mX12_layBack 2 [(0, .ref (eb E + 115)), (1, .int (x1 + nI 1))] [] I4 Q)))))) : J E d mX12_layBack 2 [(0, .ref (eb E + 115)), (1, .int x1)] [] I Q := by
  refine J_iload_n 1 aX12_layBack_2 rfl ?_
  refine J_bipush (nI 74) aX12_layBack_3 (by decide +kernel) ?_
  refine J_icmp_ge aX12_layBack_5 (fun q => ?_) (fun q => ?_)
  · replace h := h.1 q
    exact J_vret aX12_layBack_26 rfl h
  · replace h := h.2 q
    refine J_aload_n 0 aX12_layBack_8 rfl ?_
    refine J_getR aX12_layBack_9 flX12_9 sh115 rfl ?_
    refine J_iload_n 1 aX12_layBack_12 rfl ?_
    refine J_aload_n 0 aX12_layBack_13 rfl ?_
    refine J_getR aX12_layBack_14 flX12_16 sh115 rfl ?_
    refine J_iload_n 1 aX12_layBack_17 rfl ?_
    obtain ⟨j1, e2, b3, h⟩ := h
    refine J_iaload j1 aX12_layBack_18 sh118 e2 b3 (by decide) ?_
    obtain ⟨j6, e7, b8, h⟩ := h
    refine J_iastore j6 aX12_layBack_19 sh116 e7 b8 (by decide) (fun I4 e5 => ?_)
    replace h := h I4 e5
    refine J_iinc (x1 + nI 1) [(1, .int (x1 + nI 1)), (0, .ref (eb E + 115))] 1 aX12_layBack_20 rfl (by first | rfl | (congr 1; decide +kernel)) (by decide) rfl ?_
    refine J_goto aX12_layBack_23 ?_
    refine J_pick [1, 0] rfl ?_
    exact h
theorem aX12_get_0 : decode mX12_get.2.1 0 = .ok (.aload_n 0, 1) ∧ 0 + 1 = 1 := ⟨by decide +kernel, rfl⟩
theorem aX12_get_1 : decode mX12_get.2.1 1 = .ok (.getfield 9, 3) ∧ 1 + 3 = 4 := ⟨by decide +kernel, rfl⟩
theorem aX12_get_4 : decode mX12_get.2.1 4 = .ok (.bipush 38, 2) ∧ 4 + 2 = 6 := ⟨by decide +kernel, rfl⟩
theorem aX12_get_6 : decode mX12_get.2.1 6 = .ok (.bipush 6, 2) ∧ 6 + 2 = 8 := ⟨by decide +kernel, rfl⟩
theorem aX12_get_8 : decode mX12_get.2.1 8 = .ok (.iload_n 1, 1) ∧ 8 + 1 = 9 := ⟨by decide +kernel, rfl⟩
theorem aX12_get_9 : decode mX12_get.2.1 9 = .ok (.imul, 1) ∧ 9 + 1 = 10 := ⟨by decide +kernel, rfl⟩
theorem aX12_get_10 : decode mX12_get.2.1 10 = .ok (.iadd, 1) ∧ 10 + 1 = 11 := ⟨by decide +kernel, rfl⟩
theorem aX12_get_11 : decode mX12_get.2.1 11 = .ok (.iload_n 2, 1) ∧ 11 + 1 = 12 := ⟨by decide +kernel, rfl⟩
theorem aX12_get_12 : decode mX12_get.2.1 12 = .ok (.iadd, 1) ∧ 12 + 1 = 13 := ⟨by decide +kernel, rfl⟩
theorem aX12_get_13 : decode mX12_get.2.1 13 = .ok (.iaload, 1) ∧ 13 + 1 = 14 := ⟨by decide +kernel, rfl⟩
theorem aX12_get_14 : decode mX12_get.2.1 14 = .ok (.ireturn, 1) := by decide +kernel
theorem S_X12_get {E : EE} {d : Nat} {I : IH} {Q : QT} (x1 : Int32) (x2 : Int32) (h :
(∃ j1 : Nat, (((nI 38) + ((nI 6) * x1)) + x2) = nI j1 ∧ j1 < 322 ∧ Q (some (.int (I 116 j1))) I)) : Mt E d mX12_get [.ref (eb E + 115), .int x1, .int x2] I Q := by
  refine Mt_of [(0, .ref (eb E + 115)), (1, .int x1), (2, .int x2)] (by decide +kernel) (by simp [lg_sl, Value.category, mX12_get]) rfl ?_
  refine J_aload_n 0 aX12_get_0 rfl ?_
  refine J_getR aX12_get_1 flX12_9 sh115 rfl ?_
  refine J_bipush (nI 38) aX12_get_4 (by decide +kernel) ?_
  refine J_bipush (nI 6) aX12_get_6 (by decide +kernel) ?_
  refine J_iload_n 1 aX12_get_8 rfl ?_
  refine J_imul aX12_get_9 ?_
  refine J_iadd aX12_get_10 ?_
  refine J_iload_n 2 aX12_get_11 rfl ?_
  refine J_iadd aX12_get_12 ?_
  obtain ⟨j1, e2, b3, h⟩ := h
  refine J_iaload j1 aX12_get_13 sh116 e2 b3 (by decide) ?_
  exact J_iret aX12_get_14 rfl h
theorem aX12_puts_0 : decode mX12_puts.2.1 0 = .ok (.aload_n 0, 1) ∧ 0 + 1 = 1 := ⟨by decide +kernel, rfl⟩
theorem aX12_puts_1 : decode mX12_puts.2.1 1 = .ok (.getfield 9, 3) ∧ 1 + 3 = 4 := ⟨by decide +kernel, rfl⟩
theorem aX12_puts_4 : decode mX12_puts.2.1 4 = .ok (.bipush 38, 2) ∧ 4 + 2 = 6 := ⟨by decide +kernel, rfl⟩
theorem aX12_puts_6 : decode mX12_puts.2.1 6 = .ok (.bipush 6, 2) ∧ 6 + 2 = 8 := ⟨by decide +kernel, rfl⟩
theorem aX12_puts_8 : decode mX12_puts.2.1 8 = .ok (.iload_n 1, 1) ∧ 8 + 1 = 9 := ⟨by decide +kernel, rfl⟩
theorem aX12_puts_9 : decode mX12_puts.2.1 9 = .ok (.imul, 1) ∧ 9 + 1 = 10 := ⟨by decide +kernel, rfl⟩
theorem aX12_puts_10 : decode mX12_puts.2.1 10 = .ok (.iadd, 1) ∧ 10 + 1 = 11 := ⟨by decide +kernel, rfl⟩
theorem aX12_puts_11 : decode mX12_puts.2.1 11 = .ok (.iload_n 2, 1) ∧ 11 + 1 = 12 := ⟨by decide +kernel, rfl⟩
theorem aX12_puts_12 : decode mX12_puts.2.1 12 = .ok (.iadd, 1) ∧ 12 + 1 = 13 := ⟨by decide +kernel, rfl⟩
theorem aX12_puts_13 : decode mX12_puts.2.1 13 = .ok (.iload_n 3, 1) ∧ 13 + 1 = 14 := ⟨by decide +kernel, rfl⟩
theorem aX12_puts_14 : decode mX12_puts.2.1 14 = .ok (.iastore, 1) ∧ 14 + 1 = 15 := ⟨by decide +kernel, rfl⟩
theorem aX12_puts_15 : decode mX12_puts.2.1 15 = .ok (.return_, 1) := by decide +kernel
theorem S_X12_puts {E : EE} {d : Nat} {I : IH} {Q : QT} (x1 : Int32) (x2 : Int32) (x3 : Int32) (h :
(∃ j3 : Nat, (((nI 38) + ((nI 6) * x1)) + x2) = nI j3 ∧ j3 < 322 ∧ (∀ I1 : IH, I1 = stI I 116 j3 x3 →
 Q none I1))) : Mt E d mX12_puts [.ref (eb E + 115), .int x1, .int x2, .int x3] I Q := by
  refine Mt_of [(0, .ref (eb E + 115)), (1, .int x1), (2, .int x2), (3, .int x3)] (by decide +kernel) (by simp [lg_sl, Value.category, mX12_puts]) rfl ?_
  refine J_aload_n 0 aX12_puts_0 rfl ?_
  refine J_getR aX12_puts_1 flX12_9 sh115 rfl ?_
  refine J_bipush (nI 38) aX12_puts_4 (by decide +kernel) ?_
  refine J_bipush (nI 6) aX12_puts_6 (by decide +kernel) ?_
  refine J_iload_n 1 aX12_puts_8 rfl ?_
  refine J_imul aX12_puts_9 ?_
  refine J_iadd aX12_puts_10 ?_
  refine J_iload_n 2 aX12_puts_11 rfl ?_
  refine J_iadd aX12_puts_12 ?_
  refine J_iload_n 3 aX12_puts_13 rfl ?_
  obtain ⟨j3, e4, b5, h⟩ := h
  refine J_iastore j3 aX12_puts_14 sh116 e4 b5 (by decide) (fun I1 e2 => ?_)
  replace h := h I1 e2
  exact J_vret aX12_puts_15 rfl h
theorem aX12_isPane_0 : decode mX12_isPane.2.1 0 = .ok (.iload_n 1, 1) ∧ 0 + 1 = 1 := ⟨by decide +kernel, rfl⟩
theorem aX12_isPane_1 : decode mX12_isPane.2.1 1 = .ok (.iconst 0, 1) ∧ 1 + 1 = 2 := ⟨by decide +kernel, rfl⟩
theorem aX12_isPane_2 : decode mX12_isPane.2.1 2 = .ok (.aload_n 0, 1) ∧ 2 + 1 = 3 := ⟨by decide +kernel, rfl⟩
theorem aX12_isPane_3 : decode mX12_isPane.2.1 3 = .ok (.getfield 9, 3) ∧ 3 + 3 = 6 := ⟨by decide +kernel, rfl⟩
theorem aX12_isPane_6 : decode mX12_isPane.2.1 6 = .ok (.bipush 6, 2) ∧ 6 + 2 = 8 := ⟨by decide +kernel, rfl⟩
theorem aX12_isPane_8 : decode mX12_isPane.2.1 8 = .ok (.iaload, 1) ∧ 8 + 1 = 9 := ⟨by decide +kernel, rfl⟩
theorem aX12_isPane_9 : decode mX12_isPane.2.1 9 = .ok (.iconst 1, 1) ∧ 9 + 1 = 10 := ⟨by decide +kernel, rfl⟩
theorem aX12_isPane_10 : decode mX12_isPane.2.1 10 = .ok (.isub, 1) ∧ 10 + 1 = 11 := ⟨by decide +kernel, rfl⟩
theorem aX12_isPane_11 : decode mX12_isPane.2.1 11 = .ok (.invokestatic 68, 3) ∧ 11 + 3 = 14 := ⟨by decide +kernel, rfl⟩
theorem aX12_isPane_14 : decode mX12_isPane.2.1 14 = .ok (.ireturn, 1) := by decide +kernel
theorem S_X12_isPane {E : EE} {d : Nat} {I : IH} {Q : QT} (x1 : Int32) (h :
(Mt E d mX12_in1 [.int x1, .int (nI 0), .int ((I 116 6) - (nI 1))] I (fun rv I1 => ∃ v2 : Int32, rv = some (.int v2) ∧
 ((v2 = 0 ∨ v2 = 1) ∧ Q (some (.int v2)) I1)))) : Mt E (d + 1) mX12_isPane [.ref (eb E + 115), .int x1] I Q := by
  refine Mt_of [(0, .ref (eb E + 115)), (1, .int x1)] (by decide +kernel) (by simp [lg_sl, Value.category, mX12_isPane]) rfl ?_
  refine J_iload_n 1 aX12_isPane_0 rfl ?_
  refine J_iconst (nI 0) aX12_isPane_1 (by decide +kernel) ?_
  refine J_aload_n 0 aX12_isPane_2 rfl ?_
  refine J_getR aX12_isPane_3 flX12_9 sh115 rfl ?_
  refine J_bipush (nI 6) aX12_isPane_6 (by decide +kernel) ?_
  refine J_iaload 6 aX12_isPane_8 sh116 rfl (by decide) (by decide) ?_
  refine J_iconst (nI 1) aX12_isPane_9 (by decide +kernel) ?_
  refine J_isub aX12_isPane_10 ?_
  refine J_callS [.int x1, .int (nI 0), .int ((I 116 6) - (nI 1))] [] aX12_isPane_11 lkX12_68 okX12_in1 rfl rfl (Nat.le_of_ble_eq_true rfl) (Nat.le_refl _) (Mt_mono h (fun rv I1 h => ?_))
  obtain ⟨v2, rfl, h⟩ := h
  refine J_r1 ?_
  exact J_zret aX12_isPane_14 rfl (nar_bool h.1).1 h.2
theorem aX12_isAct_0 : decode mX12_isAct.2.1 0 = .ok (.iload_n 1, 1) ∧ 0 + 1 = 1 := ⟨by decide +kernel, rfl⟩
theorem aX12_isAct_1 : decode mX12_isAct.2.1 1 = .ok (.iconst 0, 1) ∧ 1 + 1 = 2 := ⟨by decide +kernel, rfl⟩
theorem aX12_isAct_2 : decode mX12_isAct.2.1 2 = .ok (.aload_n 0, 1) ∧ 2 + 1 = 3 := ⟨by decide +kernel, rfl⟩
theorem aX12_isAct_3 : decode mX12_isAct.2.1 3 = .ok (.getfield 9, 3) ∧ 3 + 3 = 6 := ⟨by decide +kernel, rfl⟩
theorem aX12_isAct_6 : decode mX12_isAct.2.1 6 = .ok (.bipush 6, 2) ∧ 6 + 2 = 8 := ⟨by decide +kernel, rfl⟩
theorem aX12_isAct_8 : decode mX12_isAct.2.1 8 = .ok (.iaload, 1) ∧ 8 + 1 = 9 := ⟨by decide +kernel, rfl⟩
theorem aX12_isAct_9 : decode mX12_isAct.2.1 9 = .ok (.invokestatic 68, 3) ∧ 9 + 3 = 12 := ⟨by decide +kernel, rfl⟩
theorem aX12_isAct_12 : decode mX12_isAct.2.1 12 = .ok (.ireturn, 1) := by decide +kernel
theorem S_X12_isAct {E : EE} {d : Nat} {I : IH} {Q : QT} (x1 : Int32) (h :
(Mt E d mX12_in1 [.int x1, .int (nI 0), .int (I 116 6)] I (fun rv I1 => ∃ v2 : Int32, rv = some (.int v2) ∧
 ((v2 = 0 ∨ v2 = 1) ∧ Q (some (.int v2)) I1)))) : Mt E (d + 1) mX12_isAct [.ref (eb E + 115), .int x1] I Q := by
  refine Mt_of [(0, .ref (eb E + 115)), (1, .int x1)] (by decide +kernel) (by simp [lg_sl, Value.category, mX12_isAct]) rfl ?_
  refine J_iload_n 1 aX12_isAct_0 rfl ?_
  refine J_iconst (nI 0) aX12_isAct_1 (by decide +kernel) ?_
  refine J_aload_n 0 aX12_isAct_2 rfl ?_
  refine J_getR aX12_isAct_3 flX12_9 sh115 rfl ?_
  refine J_bipush (nI 6) aX12_isAct_6 (by decide +kernel) ?_
  refine J_iaload 6 aX12_isAct_8 sh116 rfl (by decide) (by decide) ?_
  refine J_callS [.int x1, .int (nI 0), .int (I 116 6)] [] aX12_isAct_9 lkX12_68 okX12_in1 rfl rfl (Nat.le_of_ble_eq_true rfl) (Nat.le_refl _) (Mt_mono h (fun rv I1 h => ?_))
  obtain ⟨v2, rfl, h⟩ := h
  refine J_r1 ?_
  exact J_zret aX12_isAct_12 rfl (nar_bool h.1).1 h.2
theorem aX12_isOver_0 : decode mX12_isOver.2.1 0 = .ok (.aload_n 0, 1) ∧ 0 + 1 = 1 := ⟨by decide +kernel, rfl⟩
theorem aX12_isOver_1 : decode mX12_isOver.2.1 1 = .ok (.getfield 9, 3) ∧ 1 + 3 = 4 := ⟨by decide +kernel, rfl⟩
theorem aX12_isOver_4 : decode mX12_isOver.2.1 4 = .ok (.iconst 0, 1) ∧ 4 + 1 = 5 := ⟨by decide +kernel, rfl⟩
theorem aX12_isOver_5 : decode mX12_isOver.2.1 5 = .ok (.iaload, 1) ∧ 5 + 1 = 6 := ⟨by decide +kernel, rfl⟩
theorem aX12_isOver_6 : decode mX12_isOver.2.1 6 = .ok (.aload_n 0, 1) ∧ 6 + 1 = 7 := ⟨by decide +kernel, rfl⟩
theorem aX12_isOver_7 : decode mX12_isOver.2.1 7 = .ok (.getfield 9, 3) ∧ 7 + 3 = 10 := ⟨by decide +kernel, rfl⟩
theorem aX12_isOver_10 : decode mX12_isOver.2.1 10 = .ok (.iconst 1, 1) ∧ 10 + 1 = 11 := ⟨by decide +kernel, rfl⟩
theorem aX12_isOver_11 : decode mX12_isOver.2.1 11 = .ok (.iaload, 1) ∧ 11 + 1 = 12 := ⟨by decide +kernel, rfl⟩
theorem aX12_isOver_12 : decode mX12_isOver.2.1 12 = .ok (.if_icmp .lt 7, 3) ∧ ((12 : Nat) : Int) + 7 = ((19 : Nat) : Int) ∧ 12 + 3 = 15 := ⟨by decide +kernel, by decide, rfl⟩
theorem aX12_isOver_15 : decode mX12_isOver.2.1 15 = .ok (.iconst 1, 1) ∧ 15 + 1 = 16 := ⟨by decide +kernel, rfl⟩
theorem aX12_isOver_16 : decode mX12_isOver.2.1 16 = .ok (.goto 4, 3) ∧ ((16 : Nat) : Int) + 4 = ((20 : Nat) : Int) := ⟨by decide +kernel, by decide⟩
theorem aX12_isOver_19 : decode mX12_isOver.2.1 19 = .ok (.iconst 0, 1) ∧ 19 + 1 = 20 := ⟨by decide +kernel, rfl⟩
theorem aX12_isOver_20 : decode mX12_isOver.2.1 20 = .ok (.ireturn, 1) := by decide +kernel
theorem S_X12_isOver {E : EE} {d : Nat} {I : IH} {Q : QT}  (h :
(((I 116 0) < (I 116 1) → Q (some (.int (nI 0))) I) ∧
 (¬ (I 116 0) < (I 116 1) → Q (some (.int (nI 1))) I))) : Mt E d mX12_isOver [.ref (eb E + 115)] I Q := by
  refine Mt_of [(0, .ref (eb E + 115))] (by decide +kernel) (by simp [lg_sl, Value.category, mX12_isOver]) rfl ?_
  refine J_aload_n 0 aX12_isOver_0 rfl ?_
  refine J_getR aX12_isOver_1 flX12_9 sh115 rfl ?_
  refine J_iconst (nI 0) aX12_isOver_4 (by decide +kernel) ?_
  refine J_iaload 0 aX12_isOver_5 sh116 rfl (by decide) (by decide) ?_
  refine J_aload_n 0 aX12_isOver_6 rfl ?_
  refine J_getR aX12_isOver_7 flX12_9 sh115 rfl ?_
  refine J_iconst (nI 1) aX12_isOver_10 (by decide +kernel) ?_
  refine J_iaload 1 aX12_isOver_11 sh116 rfl (by decide) (by decide) ?_
  refine J_icmp_lt aX12_isOver_12 (fun q => ?_) (fun q => ?_)
  · replace h := h.1 q
    refine J_iconst (nI 0) aX12_isOver_19 (by decide +kernel) ?_
    exact J_zret aX12_isOver_20 rfl (by decide +kernel) h
  · replace h := h.2 q
    refine J_iconst (nI 1) aX12_isOver_15 (by decide +kernel) ?_
    refine J_goto aX12_isOver_16 ?_
    exact J_zret aX12_isOver_20 rfl (by decide +kernel) h
theorem aX12_becomes_0 : decode mX12_becomes.2.1 0 = .ok (.aload_n 0, 1) ∧ 0 + 1 = 1 := ⟨by decide +kernel, rfl⟩
theorem aX12_becomes_1 : decode mX12_becomes.2.1 1 = .ok (.getfield 9, 3) ∧ 1 + 3 = 4 := ⟨by decide +kernel, rfl⟩
theorem aX12_becomes_4 : decode mX12_becomes.2.1 4 = .ok (.iload_n 1, 1) ∧ 4 + 1 = 5 := ⟨by decide +kernel, rfl⟩
theorem aX12_becomes_5 : decode mX12_becomes.2.1 5 = .ok (.iaload, 1) ∧ 5 + 1 = 6 := ⟨by decide +kernel, rfl⟩
theorem aX12_becomes_6 : decode mX12_becomes.2.1 6 = .ok (.istore_n 3, 1) ∧ 6 + 1 = 7 := ⟨by decide +kernel, rfl⟩
theorem aX12_becomes_7 : decode mX12_becomes.2.1 7 = .ok (.aload_n 0, 1) ∧ 7 + 1 = 8 := ⟨by decide +kernel, rfl⟩
theorem aX12_becomes_8 : decode mX12_becomes.2.1 8 = .ok (.getfield 9, 3) ∧ 8 + 3 = 11 := ⟨by decide +kernel, rfl⟩
theorem aX12_becomes_11 : decode mX12_becomes.2.1 11 = .ok (.iload_n 1, 1) ∧ 11 + 1 = 12 := ⟨by decide +kernel, rfl⟩
theorem aX12_becomes_12 : decode mX12_becomes.2.1 12 = .ok (.iload_n 2, 1) ∧ 12 + 1 = 13 := ⟨by decide +kernel, rfl⟩
theorem aX12_becomes_13 : decode mX12_becomes.2.1 13 = .ok (.iastore, 1) ∧ 13 + 1 = 14 := ⟨by decide +kernel, rfl⟩
theorem aX12_becomes_14 : decode mX12_becomes.2.1 14 = .ok (.iload_n 3, 1) ∧ 14 + 1 = 15 := ⟨by decide +kernel, rfl⟩
theorem aX12_becomes_15 : decode mX12_becomes.2.1 15 = .ok (.ireturn, 1) := by decide +kernel
theorem S_X12_becomes {E : EE} {d : Nat} {I : IH} {Q : QT} (x1 : Int32) (x2 : Int32) (h :
(∃ j1 : Nat, x1 = nI j1 ∧ j1 < 322 ∧ (∃ j6 : Nat, x1 = nI j6 ∧ j6 < 322 ∧ (∀ I4 : IH, I4 = stI I 116 j6 x2 →
 Q (some (.int (I 116 j1))) I4)))) : Mt E d mX12_becomes [.ref (eb E + 115), .int x1, .int x2] I Q := by
  refine Mt_of [(0, .ref (eb E + 115)), (1, .int x1), (2, .int x2)] (by decide +kernel) (by simp [lg_sl, Value.category, mX12_becomes]) rfl ?_
  refine J_aload_n 0 aX12_becomes_0 rfl ?_
  refine J_getR aX12_becomes_1 flX12_9 sh115 rfl ?_
  refine J_iload_n 1 aX12_becomes_4 rfl ?_
  obtain ⟨j1, e2, b3, h⟩ := h
  refine J_iaload j1 aX12_becomes_5 sh116 e2 b3 (by decide) ?_
  refine J_istore_n [(3, .int (I 116 j1)), (0, .ref (eb E + 115)), (1, .int x1), (2, .int x2)] aX12_becomes_6 (by decide) rfl ?_
  refine J_aload_n 1 aX12_becomes_7 rfl ?_
  refine J_getR aX12_becomes_8 flX12_9 sh115 rfl ?_
  refine J_iload_n 2 aX12_becomes_11 rfl ?_
  refine J_iload_n 3 aX12_becomes_12 rfl ?_
  obtain ⟨j6, e7, b8, h⟩ := h
  refine J_iastore j6 aX12_becomes_13 sh116 e7 b8 (by decide) (fun I4 e5 => ?_)
  replace h := h I4 e5
  refine J_iload_n 0 aX12_becomes_14 rfl ?_
  exact J_iret aX12_becomes_15 rfl h
theorem aX12_above_0 : decode mX12_above.2.1 0 = .ok (.iload_n 0, 1) ∧ 0 + 1 = 1 := ⟨by decide +kernel, rfl⟩
theorem aX12_above_1 : decode mX12_above.2.1 1 = .ok (.iconst 3, 1) ∧ 1 + 1 = 2 := ⟨by decide +kernel, rfl⟩
theorem aX12_above_2 : decode mX12_above.2.1 2 = .ok (.if_icmp .ne 7, 3) ∧ ((2 : Nat) : Int) + 7 = ((9 : Nat) : Int) ∧ 2 + 3 = 5 := ⟨by decide +kernel, by decide, rfl⟩
theorem aX12_above_5 : decode mX12_above.2.1 5 = .ok (.iconst 2, 1) ∧ 5 + 1 = 6 := ⟨by decide +kernel, rfl⟩
theorem aX12_above_6 : decode mX12_above.2.1 6 = .ok (.goto 13, 3) ∧ ((6 : Nat) : Int) + 13 = ((19 : Nat) : Int) := ⟨by decide +kernel, by decide⟩
theorem aX12_above_9 : decode mX12_above.2.1 9 = .ok (.iload_n 0, 1) ∧ 9 + 1 = 10 := ⟨by decide +kernel, rfl⟩
theorem aX12_above_10 : decode mX12_above.2.1 10 = .ok (.iconst 5, 1) ∧ 10 + 1 = 11 := ⟨by decide +kernel, rfl⟩
theorem aX12_above_11 : decode mX12_above.2.1 11 = .ok (.if_icmp .ne 7, 3) ∧ ((11 : Nat) : Int) + 7 = ((18 : Nat) : Int) ∧ 11 + 3 = 14 := ⟨by decide +kernel, by decide, rfl⟩
theorem aX12_above_14 : decode mX12_above.2.1 14 = .ok (.iconst 4, 1) ∧ 14 + 1 = 15 := ⟨by decide +kernel, rfl⟩
theorem aX12_above_15 : decode mX12_above.2.1 15 = .ok (.goto 4, 3) ∧ ((15 : Nat) : Int) + 4 = ((19 : Nat) : Int) := ⟨by decide +kernel, by decide⟩
theorem aX12_above_18 : decode mX12_above.2.1 18 = .ok (.iconst 0, 1) ∧ 18 + 1 = 19 := ⟨by decide +kernel, rfl⟩
theorem aX12_above_19 : decode mX12_above.2.1 19 = .ok (.ireturn, 1) := by decide +kernel
theorem S_X12_above {E : EE} {d : Nat} {I : IH} {Q : QT} (x0 : Int32) (h :
((¬ x0 = (nI 3) → ((¬ x0 = (nI 5) → Q (some (.int (nI 0))) I) ∧
 (x0 = (nI 5) → Q (some (.int (nI 4))) I))) ∧
 (x0 = (nI 3) → Q (some (.int (nI 2))) I))) : Mt E d mX12_above [.int x0] I Q := by
  refine Mt_of [(0, .int x0)] (by decide +kernel) (by simp [lg_sl, Value.category, mX12_above]) rfl ?_
  refine J_iload_n 0 aX12_above_0 rfl ?_
  refine J_iconst (nI 3) aX12_above_1 (by decide +kernel) ?_
  refine J_icmp_ne aX12_above_2 (fun q => ?_) (fun q => ?_)
  · replace h := h.1 q
    refine J_iload_n 0 aX12_above_9 rfl ?_
    refine J_iconst (nI 5) aX12_above_10 (by decide +kernel) ?_
    refine J_icmp_ne aX12_above_11 (fun q => ?_) (fun q => ?_)
    · replace h := h.1 q
      refine J_iconst (nI 0) aX12_above_18 (by decide +kernel) ?_
      exact J_iret aX12_above_19 rfl h
    · replace h := h.2 q
      refine J_iconst (nI 4) aX12_above_14 (by decide +kernel) ?_
      refine J_goto aX12_above_15 ?_
      exact J_iret aX12_above_19 rfl h
  · replace h := h.2 q
    refine J_iconst (nI 2) aX12_above_5 (by decide +kernel) ?_
    refine J_goto aX12_above_6 ?_
    exact J_iret aX12_above_19 rfl h
theorem aX12_isUnder_0 : decode mX12_isUnder.2.1 0 = .ok (.iload_n 0, 1) ∧ 0 + 1 = 1 := ⟨by decide +kernel, rfl⟩
theorem aX12_isUnder_1 : decode mX12_isUnder.2.1 1 = .ok (.istore_n 2, 1) ∧ 1 + 1 = 2 := ⟨by decide +kernel, rfl⟩
theorem aX12_isUnder_2 : decode mX12_isUnder.2.1 2 = .ok (.iload_n 2, 1) ∧ 2 + 1 = 3 := ⟨by decide +kernel, rfl⟩
theorem aX12_isUnder_3 : decode mX12_isUnder.2.1 3 = .ok (.iload_n 1, 1) ∧ 3 + 1 = 4 := ⟨by decide +kernel, rfl⟩
theorem aX12_isUnder_4 : decode mX12_isUnder.2.1 4 = .ok (.if_icmp .eq 15, 3) ∧ ((4 : Nat) : Int) + 15 = ((19 : Nat) : Int) ∧ 4 + 3 = 7 := ⟨by decide +kernel, by decide, rfl⟩
theorem aX12_isUnder_7 : decode mX12_isUnder.2.1 7 = .ok (.iload_n 2, 1) ∧ 7 + 1 = 8 := ⟨by decide +kernel, rfl⟩
theorem aX12_isUnder_8 : decode mX12_isUnder.2.1 8 = .ok (.ifCond .eq 11, 3) ∧ ((8 : Nat) : Int) + 11 = ((19 : Nat) : Int) ∧ 8 + 3 = 11 := ⟨by decide +kernel, by decide, rfl⟩
theorem aX12_isUnder_11 : decode mX12_isUnder.2.1 11 = .ok (.iload_n 2, 1) ∧ 11 + 1 = 12 := ⟨by decide +kernel, rfl⟩
theorem aX12_isUnder_12 : decode mX12_isUnder.2.1 12 = .ok (.invokestatic 72, 3) ∧ 12 + 3 = 15 := ⟨by decide +kernel, rfl⟩
theorem aX12_isUnder_15 : decode mX12_isUnder.2.1 15 = .ok (.istore_n 2, 1) ∧ 15 + 1 = 16 := ⟨by decide +kernel, rfl⟩
theorem aX12_isUnder_16 : decode mX12_isUnder.2.1 16 = .ok (.goto (-14), 3) ∧ ((16 : Nat) : Int) + (-14) = ((2 : Nat) : Int) := ⟨by decide +kernel, by decide⟩
theorem aX12_isUnder_19 : decode mX12_isUnder.2.1 19 = .ok (.iload_n 2, 1) ∧ 19 + 1 = 20 := ⟨by decide +kernel, rfl⟩
theorem aX12_isUnder_20 : decode mX12_isUnder.2.1 20 = .ok (.iload_n 1, 1) ∧ 20 + 1 = 21 := ⟨by decide +kernel, rfl⟩
theorem aX12_isUnder_21 : decode mX12_isUnder.2.1 21 = .ok (.if_icmp .ne 7, 3) ∧ ((21 : Nat) : Int) + 7 = ((28 : Nat) : Int) ∧ 21 + 3 = 24 := ⟨by decide +kernel, by decide, rfl⟩
theorem aX12_isUnder_24 : decode mX12_isUnder.2.1 24 = .ok (.iconst 1, 1) ∧ 24 + 1 = 25 := ⟨by decide +kernel, rfl⟩
theorem aX12_isUnder_25 : decode mX12_isUnder.2.1 25 = .ok (.goto 4, 3) ∧ ((25 : Nat) : Int) + 4 = ((29 : Nat) : Int) := ⟨by decide +kernel, by decide⟩
theorem aX12_isUnder_28 : decode mX12_isUnder.2.1 28 = .ok (.iconst 0, 1) ∧ 28 + 1 = 29 := ⟨by decide +kernel, rfl⟩
theorem aX12_isUnder_29 : decode mX12_isUnder.2.1 29 = .ok (.ireturn, 1) := by decide +kernel
theorem S_X12_isUnder {E : EE} {d : Nat} {I : IH} {Q : QT} (x0 : Int32) (x1 : Int32) (h :
J E (d + 1) mX12_isUnder 2 [(1, .int x1), (2, .int x0)] [] I Q) : Mt E (d + 1) mX12_isUnder [.int x0, .int x1] I Q := by
  refine Mt_of [(0, .int x0), (1, .int x1)] (by decide +kernel) (by simp [lg_sl, Value.category, mX12_isUnder]) rfl ?_
  refine J_iload_n 0 aX12_isUnder_0 rfl ?_
  refine J_istore_n [(2, .int x0), (0, .int x0), (1, .int x1)] aX12_isUnder_1 (by decide) rfl ?_
  refine J_pick [2, 0] rfl ?_
  exact h
theorem S_X12_isUnder_2 {E : EE} {d : Nat} {I : IH} {Q : QT} (x1 : Int32) (x2 : Int32) (h :
((x2 = x1 → ((¬ x2 = x1 → Q (some (.int (nI 0))) I) ∧
 (x2 = x1 → Q (some (.int (nI 1))) I))) ∧
 (¬ x2 = x1 → ((x2 = 0 → ((¬ x2 = x1 → Q (some (.int (nI 0))) I) ∧
 (x2 = x1 → Q (some (.int (nI 1))) I))) ∧
 (¬ x2 = 0 → (Mt E d mX12_above [.int x2] I (fun rv I1 => ∃ v2 : Int32, rv = some (.int v2) ∧
 J E (d + 1) mX12_isUnder 2 [(1, .int x1), (2, .int v2)] [] I1 Q))))))) : J E (d + 1) mX12_isUnder 2 [(1, .int x1), (2, .int x2)] [] I Q := by
  refine J_iload_n 1 aX12_isUnder_2 rfl ?_
  refine J_iload_n 0 aX12_isUnder_3 rfl ?_
  refine J_icmp_eq aX12_isUnder_4 (fun q => ?_) (fun q => ?_)
  · replace h := h.1 q
    refine J_iload_n 1 aX12_isUnder_19 rfl ?_
    refine J_iload_n 0 aX12_isUnder_20 rfl ?_
    refine J_icmp_ne aX12_isUnder_21 (fun q => ?_) (fun q => ?_)
    · replace h := h.1 q
      refine J_iconst (nI 0) aX12_isUnder_28 (by decide +kernel) ?_
      exact J_zret aX12_isUnder_29 rfl (by decide +kernel) h
    · replace h := h.2 q
      refine J_iconst (nI 1) aX12_isUnder_24 (by decide +kernel) ?_
      refine J_goto aX12_isUnder_25 ?_
      exact J_zret aX12_isUnder_29 rfl (by decide +kernel) h
  · replace h := h.2 q
    refine J_iload_n 1 aX12_isUnder_7 rfl ?_
    refine J_if_eq aX12_isUnder_8 (fun q => ?_) (fun q => ?_)
    · replace h := h.1 q
      refine J_iload_n 1 aX12_isUnder_19 rfl ?_
      refine J_iload_n 0 aX12_isUnder_20 rfl ?_
      refine J_icmp_ne aX12_isUnder_21 (fun q => ?_) (fun q => ?_)
      · replace h := h.1 q
        refine J_iconst (nI 0) aX12_isUnder_28 (by decide +kernel) ?_
        exact J_zret aX12_isUnder_29 rfl (by decide +kernel) h
      · replace h := h.2 q
        refine J_iconst (nI 1) aX12_isUnder_24 (by decide +kernel) ?_
        refine J_goto aX12_isUnder_25 ?_
        exact J_zret aX12_isUnder_29 rfl (by decide +kernel) h
    · replace h := h.2 q
      refine J_iload_n 1 aX12_isUnder_11 rfl ?_
      refine J_callS [.int x2] [] aX12_isUnder_12 lkX12_72 okX12_above rfl rfl (Nat.le_of_ble_eq_true rfl) (Nat.le_refl _) (Mt_mono h (fun rv I1 h => ?_))
      obtain ⟨v2, rfl, h⟩ := h
      refine J_r1 ?_
      refine J_istore_n [(2, .int v2), (1, .int x1)] aX12_isUnder_15 (by decide) rfl ?_
      refine J_goto aX12_isUnder_16 ?_
      refine J_pick [1, 0] rfl ?_
      exact h
theorem aX12_ones_0 : decode mX12_ones.2.1 0 = .ok (.iconst 0, 1) ∧ 0 + 1 = 1 := ⟨by decide +kernel, rfl⟩
theorem aX12_ones_1 : decode mX12_ones.2.1 1 = .ok (.istore_n 1, 1) ∧ 1 + 1 = 2 := ⟨by decide +kernel, rfl⟩
theorem aX12_ones_2 : decode mX12_ones.2.1 2 = .ok (.iload_n 0, 1) ∧ 2 + 1 = 3 := ⟨by decide +kernel, rfl⟩
theorem aX12_ones_3 : decode mX12_ones.2.1 3 = .ok (.istore_n 2, 1) ∧ 3 + 1 = 4 := ⟨by decide +kernel, rfl⟩
theorem aX12_ones_4 : decode mX12_ones.2.1 4 = .ok (.iload_n 2, 1) ∧ 4 + 1 = 5 := ⟨by decide +kernel, rfl⟩
theorem aX12_ones_5 : decode mX12_ones.2.1 5 = .ok (.ifCond .eq 15, 3) ∧ ((5 : Nat) : Int) + 15 = ((20 : Nat) : Int) ∧ 5 + 3 = 8 := ⟨by decide +kernel, by decide, rfl⟩
theorem aX12_ones_8 : decode mX12_ones.2.1 8 = .ok (.iinc 1 1, 3) ∧ 8 + 3 = 11 := ⟨by decide +kernel, rfl⟩
theorem aX12_ones_11 : decode mX12_ones.2.1 11 = .ok (.iload_n 2, 1) ∧ 11 + 1 = 12 := ⟨by decide +kernel, rfl⟩
theorem aX12_ones_12 : decode mX12_ones.2.1 12 = .ok (.iload_n 2, 1) ∧ 12 + 1 = 13 := ⟨by decide +kernel, rfl⟩
theorem aX12_ones_13 : decode mX12_ones.2.1 13 = .ok (.iconst 1, 1) ∧ 13 + 1 = 14 := ⟨by decide +kernel, rfl⟩
theorem aX12_ones_14 : decode mX12_ones.2.1 14 = .ok (.isub, 1) ∧ 14 + 1 = 15 := ⟨by decide +kernel, rfl⟩
theorem aX12_ones_15 : decode mX12_ones.2.1 15 = .ok (.iand, 1) ∧ 15 + 1 = 16 := ⟨by decide +kernel, rfl⟩
theorem aX12_ones_16 : decode mX12_ones.2.1 16 = .ok (.istore_n 2, 1) ∧ 16 + 1 = 17 := ⟨by decide +kernel, rfl⟩
theorem aX12_ones_17 : decode mX12_ones.2.1 17 = .ok (.goto (-13), 3) ∧ ((17 : Nat) : Int) + (-13) = ((4 : Nat) : Int) := ⟨by decide +kernel, by decide⟩
theorem aX12_ones_20 : decode mX12_ones.2.1 20 = .ok (.iload_n 1, 1) ∧ 20 + 1 = 21 := ⟨by decide +kernel, rfl⟩
theorem aX12_ones_21 : decode mX12_ones.2.1 21 = .ok (.ireturn, 1) := by decide +kernel
theorem S_X12_ones {E : EE} {d : Nat} {I : IH} {Q : QT} (x0 : Int32) (h :
J E d mX12_ones 4 [(1, .int (nI 0)), (2, .int x0)] [] I Q) : Mt E d mX12_ones [.int x0] I Q := by
  refine Mt_of [(0, .int x0)] (by decide +kernel) (by simp [lg_sl, Value.category, mX12_ones]) rfl ?_
  refine J_iconst (nI 0) aX12_ones_0 (by decide +kernel) ?_
  refine J_istore_n [(1, .int (nI 0)), (0, .int x0)] aX12_ones_1 (by decide) rfl ?_
  refine J_iload_n 1 aX12_ones_2 rfl ?_
  refine J_istore_n [(2, .int x0), (1, .int (nI 0)), (0, .int x0)] aX12_ones_3 (by decide) rfl ?_
  refine J_pick [1, 0] rfl ?_
  exact h
theorem S_X12_ones_4 {E : EE} {d : Nat} {I : IH} {Q : QT} (x1 : Int32) (x2 : Int32) (h :
((x2 = 0 → Q (some (.int x1)) I) ∧
 (¬ x2 = 0 → J E d mX12_ones 4 [(1, .int (x1 + nI 1)), (2, .int (x2 &&& (x2 - (nI 1))))] [] I Q))) : J E d mX12_ones 4 [(1, .int x1), (2, .int x2)] [] I Q := by
  refine J_iload_n 1 aX12_ones_4 rfl ?_
  refine J_if_eq aX12_ones_5 (fun q => ?_) (fun q => ?_)
  · replace h := h.1 q
    refine J_iload_n 0 aX12_ones_20 rfl ?_
    exact J_iret aX12_ones_21 rfl h
  · replace h := h.2 q
    refine J_iinc (x1 + nI 1) [(1, .int (x1 + nI 1)), (2, .int x2)] 0 aX12_ones_8 rfl (by first | rfl | (congr 1; decide +kernel)) (by decide) rfl ?_
    refine J_iload_n 1 aX12_ones_11 rfl ?_
    refine J_iload_n 1 aX12_ones_12 rfl ?_
    refine J_iconst (nI 1) aX12_ones_13 (by decide +kernel) ?_
    refine J_isub aX12_ones_14 ?_
    refine J_iand aX12_ones_15 ?_
    refine J_istore_n [(2, .int (x2 &&& (x2 - (nI 1)))), (1, .int (x1 + nI 1))] aX12_ones_16 (by decide) rfl ?_
    refine J_goto aX12_ones_17 ?_
    refine J_pick [1, 0] rfl ?_
    exact h
theorem aX12_turned_0 : decode mX12_turned.2.1 0 = .ok (.iload_n 0, 1) ∧ 0 + 1 = 1 := ⟨by decide +kernel, rfl⟩
theorem aX12_turned_1 : decode mX12_turned.2.1 1 = .ok (.iload_n 1, 1) ∧ 1 + 1 = 2 := ⟨by decide +kernel, rfl⟩
theorem aX12_turned_2 : decode mX12_turned.2.1 2 = .ok (.ishl, 1) ∧ 2 + 1 = 3 := ⟨by decide +kernel, rfl⟩
theorem aX12_turned_3 : decode mX12_turned.2.1 3 = .ok (.istore_n 2, 1) ∧ 3 + 1 = 4 := ⟨by decide +kernel, rfl⟩
theorem aX12_turned_4 : decode mX12_turned.2.1 4 = .ok (.iload_n 2, 1) ∧ 4 + 1 = 5 := ⟨by decide +kernel, rfl⟩
theorem aX12_turned_5 : decode mX12_turned.2.1 5 = .ok (.iload_n 2, 1) ∧ 5 + 1 = 6 := ⟨by decide +kernel, rfl⟩
theorem aX12_turned_6 : decode mX12_turned.2.1 6 = .ok (.bipush 8, 2) ∧ 6 + 2 = 8 := ⟨by decide +kernel, rfl⟩
theorem aX12_turned_8 : decode mX12_turned.2.1 8 = .ok (.ishr, 1) ∧ 8 + 1 = 9 := ⟨by decide +kernel, rfl⟩
theorem aX12_turned_9 : decode mX12_turned.2.1 9 = .ok (.ior, 1) ∧ 9 + 1 = 10 := ⟨by decide +kernel, rfl⟩
theorem aX12_turned_10 : decode mX12_turned.2.1 10 = .ok (.sipush 255, 3) ∧ 10 + 3 = 13 := ⟨by decide +kernel, rfl⟩
theorem aX12_turned_13 : decode mX12_turned.2.1 13 = .ok (.iand, 1) ∧ 13 + 1 = 14 := ⟨by decide +kernel, rfl⟩
theorem aX12_turned_14 : decode mX12_turned.2.1 14 = .ok (.ireturn, 1) := by decide +kernel
theorem S_X12_turned {E : EE} {d : Nat} {I : IH} {Q : QT} (x0 : Int32) (x1 : Int32) (h :
Q (some (.int (((x0 <<< (x1 &&& 31)) ||| ((x0 <<< (x1 &&& 31)) >>> ((nI 8) &&& 31))) &&& (nI 255)))) I) : Mt E d mX12_turned [.int x0, .int x1] I Q := by
  refine Mt_of [(0, .int x0), (1, .int x1)] (by decide +kernel) (by simp [lg_sl, Value.category, mX12_turned]) rfl ?_
  refine J_iload_n 0 aX12_turned_0 rfl ?_
  refine J_iload_n 1 aX12_turned_1 rfl ?_
  refine J_ishl aX12_turned_2 ?_
  refine J_istore_n [(2, .int (x0 <<< (x1 &&& 31))), (0, .int x0), (1, .int x1)] aX12_turned_3 (by decide) rfl ?_
  refine J_iload_n 0 aX12_turned_4 rfl ?_
  refine J_iload_n 0 aX12_turned_5 rfl ?_
  refine J_bipush (nI 8) aX12_turned_6 (by decide +kernel) ?_
  refine J_ishr aX12_turned_8 ?_
  refine J_ior aX12_turned_9 ?_
  refine J_sipush (nI 255) aX12_turned_10 (by decide +kernel) ?_
  refine J_iand aX12_turned_13 ?_
  exact J_iret aX12_turned_14 rfl h
theorem aX12_sceneBy_0 : decode mX12_sceneBy.2.1 0 = .ok (.iload_n 1, 1) ∧ 0 + 1 = 1 := ⟨by decide +kernel, rfl⟩
theorem aX12_sceneBy_1 : decode mX12_sceneBy.2.1 1 = .ok (.iload_n 1, 1) ∧ 1 + 1 = 2 := ⟨by decide +kernel, rfl⟩
theorem aX12_sceneBy_2 : decode mX12_sceneBy.2.1 2 = .ok (.iconst 1, 1) ∧ 2 + 1 = 3 := ⟨by decide +kernel, rfl⟩
theorem aX12_sceneBy_3 : decode mX12_sceneBy.2.1 3 = .ok (.invokestatic 76, 3) ∧ 3 + 3 = 6 := ⟨by decide +kernel, rfl⟩
theorem aX12_sceneBy_6 : decode mX12_sceneBy.2.1 6 = .ok (.ixor, 1) ∧ 6 + 1 = 7 := ⟨by decide +kernel, rfl⟩
theorem aX12_sceneBy_7 : decode mX12_sceneBy.2.1 7 = .ok (.istore_n 3, 1) ∧ 7 + 1 = 8 := ⟨by decide +kernel, rfl⟩
theorem aX12_sceneBy_8 : decode mX12_sceneBy.2.1 8 = .ok (.iload_n 0, 1) ∧ 8 + 1 = 9 := ⟨by decide +kernel, rfl⟩
theorem aX12_sceneBy_9 : decode mX12_sceneBy.2.1 9 = .ok (.tableswitch 91 1 5 #[35, 42, 44, 61, 67], 35) := by decide +kernel
theorem aX12_sceneBy_44 : decode mX12_sceneBy.2.1 44 = .ok (.iload_n 1, 1) ∧ 44 + 1 = 45 := ⟨by decide +kernel, rfl⟩
theorem aX12_sceneBy_45 : decode mX12_sceneBy.2.1 45 = .ok (.bipush 7, 2) ∧ 45 + 2 = 47 := ⟨by decide +kernel, rfl⟩
theorem aX12_sceneBy_47 : decode mX12_sceneBy.2.1 47 = .ok (.invokestatic 76, 3) ∧ 47 + 3 = 50 := ⟨by decide +kernel, rfl⟩
theorem aX12_sceneBy_50 : decode mX12_sceneBy.2.1 50 = .ok (.ireturn, 1) := by decide +kernel
theorem aX12_sceneBy_51 : decode mX12_sceneBy.2.1 51 = .ok (.iload_n 3, 1) ∧ 51 + 1 = 52 := ⟨by decide +kernel, rfl⟩
theorem aX12_sceneBy_52 : decode mX12_sceneBy.2.1 52 = .ok (.ireturn, 1) := by decide +kernel
theorem aX12_sceneBy_53 : decode mX12_sceneBy.2.1 53 = .ok (.iload_n 2, 1) ∧ 53 + 1 = 54 := ⟨by decide +kernel, rfl⟩
theorem aX12_sceneBy_54 : decode mX12_sceneBy.2.1 54 = .ok (.iconst 2, 1) ∧ 54 + 1 = 55 := ⟨by decide +kernel, rfl⟩
theorem aX12_sceneBy_55 : decode mX12_sceneBy.2.1 55 = .ok (.irem, 1) ∧ 55 + 1 = 56 := ⟨by decide +kernel, rfl⟩
theorem aX12_sceneBy_56 : decode mX12_sceneBy.2.1 56 = .ok (.iconst 1, 1) ∧ 56 + 1 = 57 := ⟨by decide +kernel, rfl⟩
theorem aX12_sceneBy_57 : decode mX12_sceneBy.2.1 57 = .ok (.if_icmp .ne 11, 3) ∧ ((57 : Nat) : Int) + 11 = ((68 : Nat) : Int) ∧ 57 + 3 = 60 := ⟨by decide +kernel, by decide, rfl⟩
theorem aX12_sceneBy_60 : decode mX12_sceneBy.2.1 60 = .ok (.sipush 255, 3) ∧ 60 + 3 = 63 := ⟨by decide +kernel, rfl⟩
theorem aX12_sceneBy_63 : decode mX12_sceneBy.2.1 63 = .ok (.iload_n 3, 1) ∧ 63 + 1 = 64 := ⟨by decide +kernel, rfl⟩
theorem aX12_sceneBy_64 : decode mX12_sceneBy.2.1 64 = .ok (.isub, 1) ∧ 64 + 1 = 65 := ⟨by decide +kernel, rfl⟩
theorem aX12_sceneBy_65 : decode mX12_sceneBy.2.1 65 = .ok (.goto 4, 3) ∧ ((65 : Nat) : Int) + 4 = ((69 : Nat) : Int) := ⟨by decide +kernel, by decide⟩
theorem aX12_sceneBy_68 : decode mX12_sceneBy.2.1 68 = .ok (.iload_n 3, 1) ∧ 68 + 1 = 69 := ⟨by decide +kernel, rfl⟩
theorem aX12_sceneBy_69 : decode mX12_sceneBy.2.1 69 = .ok (.ireturn, 1) := by decide +kernel
theorem aX12_sceneBy_70 : decode mX12_sceneBy.2.1 70 = .ok (.iload_n 1, 1) ∧ 70 + 1 = 71 := ⟨by decide +kernel, rfl⟩
theorem aX12_sceneBy_71 : decode mX12_sceneBy.2.1 71 = .ok (.iconst 2, 1) ∧ 71 + 1 = 72 := ⟨by decide +kernel, rfl⟩
theorem aX12_sceneBy_72 : decode mX12_sceneBy.2.1 72 = .ok (.invokestatic 76, 3) ∧ 72 + 3 = 75 := ⟨by decide +kernel, rfl⟩
theorem aX12_sceneBy_75 : decode mX12_sceneBy.2.1 75 = .ok (.ireturn, 1) := by decide +kernel
theorem aX12_sceneBy_76 : decode mX12_sceneBy.2.1 76 = .ok (.iload_n 2, 1) ∧ 76 + 1 = 77 := ⟨by decide +kernel, rfl⟩
theorem aX12_sceneBy_77 : decode mX12_sceneBy.2.1 77 = .ok (.iconst 3, 1) ∧ 77 + 1 = 78 := ⟨by decide +kernel, rfl⟩
theorem aX12_sceneBy_78 : decode mX12_sceneBy.2.1 78 = .ok (.irem, 1) ∧ 78 + 1 = 79 := ⟨by decide +kernel, rfl⟩
theorem aX12_sceneBy_79 : decode mX12_sceneBy.2.1 79 = .ok (.iconst 2, 1) ∧ 79 + 1 = 80 := ⟨by decide +kernel, rfl⟩
theorem aX12_sceneBy_80 : decode mX12_sceneBy.2.1 80 = .ok (.if_icmp .ne 14, 3) ∧ ((80 : Nat) : Int) + 14 = ((94 : Nat) : Int) ∧ 80 + 3 = 83 := ⟨by decide +kernel, by decide, rfl⟩
theorem aX12_sceneBy_83 : decode mX12_sceneBy.2.1 83 = .ok (.iload_n 1, 1) ∧ 83 + 1 = 84 := ⟨by decide +kernel, rfl⟩
theorem aX12_sceneBy_84 : decode mX12_sceneBy.2.1 84 = .ok (.iconst 2, 1) ∧ 84 + 1 = 85 := ⟨by decide +kernel, rfl⟩
theorem aX12_sceneBy_85 : decode mX12_sceneBy.2.1 85 = .ok (.invokestatic 76, 3) ∧ 85 + 3 = 88 := ⟨by decide +kernel, rfl⟩
theorem aX12_sceneBy_88 : decode mX12_sceneBy.2.1 88 = .ok (.bipush 15, 2) ∧ 88 + 2 = 90 := ⟨by decide +kernel, rfl⟩
theorem aX12_sceneBy_90 : decode mX12_sceneBy.2.1 90 = .ok (.ixor, 1) ∧ 90 + 1 = 91 := ⟨by decide +kernel, rfl⟩
theorem aX12_sceneBy_91 : decode mX12_sceneBy.2.1 91 = .ok (.goto 8, 3) ∧ ((91 : Nat) : Int) + 8 = ((99 : Nat) : Int) := ⟨by decide +kernel, by decide⟩
theorem aX12_sceneBy_94 : decode mX12_sceneBy.2.1 94 = .ok (.iload_n 1, 1) ∧ 94 + 1 = 95 := ⟨by decide +kernel, rfl⟩
theorem aX12_sceneBy_95 : decode mX12_sceneBy.2.1 95 = .ok (.iconst 2, 1) ∧ 95 + 1 = 96 := ⟨by decide +kernel, rfl⟩
theorem aX12_sceneBy_96 : decode mX12_sceneBy.2.1 96 = .ok (.invokestatic 76, 3) ∧ 96 + 3 = 99 := ⟨by decide +kernel, rfl⟩
theorem aX12_sceneBy_99 : decode mX12_sceneBy.2.1 99 = .ok (.ireturn, 1) := by decide +kernel
theorem aX12_sceneBy_100 : decode mX12_sceneBy.2.1 100 = .ok (.iload_n 1, 1) ∧ 100 + 1 = 101 := ⟨by decide +kernel, rfl⟩
theorem aX12_sceneBy_101 : decode mX12_sceneBy.2.1 101 = .ok (.iconst 1, 1) ∧ 101 + 1 = 102 := ⟨by decide +kernel, rfl⟩
theorem aX12_sceneBy_102 : decode mX12_sceneBy.2.1 102 = .ok (.invokestatic 76, 3) ∧ 102 + 3 = 105 := ⟨by decide +kernel, rfl⟩
theorem aX12_sceneBy_105 : decode mX12_sceneBy.2.1 105 = .ok (.ireturn, 1) := by decide +kernel
theorem S_X12_sceneBy {E : EE} {d : Nat} {I : IH} {Q : QT} (x0 : Int32) (x1 : Int32) (x2 : Int32) (h :
(Mt E d mX12_turned [.int x1, .int (nI 1)] I (fun rv I1 => ∃ v2 : Int32, rv = some (.int v2) ∧
 ((x0 = (nI 1) → (Mt E d mX12_turned [.int x1, .int (nI 7)] I1 (fun rv I3 => ∃ v4 : Int32, rv = some (.int v4) ∧
 Q (some (.int v4)) I3))) ∧
 ((x0 = (nI 2) → Q (some (.int (x1 ^^^ v2))) I1) ∧
 ((x0 = (nI 3) → ((¬ (x2 - x2 / (nI 2) * (nI 2)) = (nI 1) → Q (some (.int (x1 ^^^ v2))) I1) ∧
 ((x2 - x2 / (nI 2) * (nI 2)) = (nI 1) → Q (some (.int ((nI 255) - (x1 ^^^ v2)))) I1))) ∧
 ((x0 = (nI 4) → (Mt E d mX12_turned [.int x1, .int (nI 2)] I1 (fun rv I5 => ∃ v6 : Int32, rv = some (.int v6) ∧
 Q (some (.int v6)) I5))) ∧
 ((x0 = (nI 5) → ((¬ (x2 - x2 / (nI 3) * (nI 3)) = (nI 2) → (Mt E d mX12_turned [.int x1, .int (nI 2)] I1 (fun rv I7 => ∃ v8 : Int32, rv = some (.int v8) ∧
 Q (some (.int v8)) I7))) ∧
 ((x2 - x2 / (nI 3) * (nI 3)) = (nI 2) → (Mt E d mX12_turned [.int x1, .int (nI 2)] I1 (fun rv I9 => ∃ v10 : Int32, rv = some (.int v10) ∧
 Q (some (.int (v10 ^^^ (nI 15)))) I9))))) ∧
 (¬ x0 = (nI 1) ∧ ¬ x0 = (nI 2) ∧ ¬ x0 = (nI 3) ∧ ¬ x0 = (nI 4) ∧ ¬ x0 = (nI 5) → (Mt E d mX12_turned [.int x1, .int (nI 1)] I1 (fun rv I11 => ∃ v12 : Int32, rv = some (.int v12) ∧
 Q (some (.int v12)) I11))))))))))) : Mt E (d + 1) mX12_sceneBy [.int x0, .int x1, .int x2] I Q := by
  refine Mt_of [(0, .int x0), (1, .int x1), (2, .int x2)] (by decide +kernel) (by simp [lg_sl, Value.category, mX12_sceneBy]) rfl ?_
  refine J_iload_n 1 aX12_sceneBy_0 rfl ?_
  refine J_iload_n 1 aX12_sceneBy_1 rfl ?_
  refine J_iconst (nI 1) aX12_sceneBy_2 (by decide +kernel) ?_
  refine J_callS [.int x1, .int (nI 1)] [.int x1] aX12_sceneBy_3 lkX12_76 okX12_turned rfl rfl (Nat.le_of_ble_eq_true rfl) (Nat.le_refl _) (Mt_mono h (fun rv I1 h => ?_))
  obtain ⟨v2, rfl, h⟩ := h
  refine J_r1 ?_
  refine J_ixor aX12_sceneBy_6 ?_
  refine J_istore_n [(3, .int (x1 ^^^ v2)), (0, .int x0), (1, .int x1), (2, .int x2)] aX12_sceneBy_7 (by decide) rfl ?_
  refine J_iload_n 1 aX12_sceneBy_8 rfl ?_
  by_cases q1 : x0 = (nI 1)
  · replace h := h.1 q1
    refine J_tswIn (nI 1) aX12_sceneBy_9 (off := 35) (tgt := 44) (by decide +kernel) q1 ?_
    refine J_iload_n 2 aX12_sceneBy_44 rfl ?_
    refine J_bipush (nI 7) aX12_sceneBy_45 (by decide +kernel) ?_
    refine J_callS [.int x1, .int (nI 7)] [] aX12_sceneBy_47 lkX12_76 okX12_turned rfl rfl (Nat.le_of_ble_eq_true rfl) (Nat.le_refl _) (Mt_mono h (fun rv I3 h => ?_))
    obtain ⟨v4, rfl, h⟩ := h
    refine J_r1 ?_
    exact J_iret aX12_sceneBy_50 rfl h
  replace h := h.2
  by_cases q2 : x0 = (nI 2)
  · replace h := h.1 q2
    refine J_tswIn (nI 2) aX12_sceneBy_9 (off := 42) (tgt := 51) (by decide +kernel) q2 ?_
    refine J_iload_n 0 aX12_sceneBy_51 rfl ?_
    exact J_iret aX12_sceneBy_52 rfl h
  replace h := h.2
  by_cases q3 : x0 = (nI 3)
  · replace h := h.1 q3
    refine J_tswIn (nI 3) aX12_sceneBy_9 (off := 44) (tgt := 53) (by decide +kernel) q3 ?_
    refine J_iload_n 3 aX12_sceneBy_53 rfl ?_
    refine J_iconst (nI 2) aX12_sceneBy_54 (by decide +kernel) ?_
    refine J_irem aX12_sceneBy_55 (by decide +kernel) ?_
    refine J_iconst (nI 1) aX12_sceneBy_56 (by decide +kernel) ?_
    refine J_icmp_ne aX12_sceneBy_57 (fun q => ?_) (fun q => ?_)
    · replace h := h.1 q
      refine J_iload_n 0 aX12_sceneBy_68 rfl ?_
      exact J_iret aX12_sceneBy_69 rfl h
    · replace h := h.2 q
      refine J_sipush (nI 255) aX12_sceneBy_60 (by decide +kernel) ?_
      refine J_iload_n 0 aX12_sceneBy_63 rfl ?_
      refine J_isub aX12_sceneBy_64 ?_
      refine J_goto aX12_sceneBy_65 ?_
      exact J_iret aX12_sceneBy_69 rfl h
  replace h := h.2
  by_cases q4 : x0 = (nI 4)
  · replace h := h.1 q4
    refine J_tswIn (nI 4) aX12_sceneBy_9 (off := 61) (tgt := 70) (by decide +kernel) q4 ?_
    refine J_iload_n 2 aX12_sceneBy_70 rfl ?_
    refine J_iconst (nI 2) aX12_sceneBy_71 (by decide +kernel) ?_
    refine J_callS [.int x1, .int (nI 2)] [] aX12_sceneBy_72 lkX12_76 okX12_turned rfl rfl (Nat.le_of_ble_eq_true rfl) (Nat.le_refl _) (Mt_mono h (fun rv I5 h => ?_))
    obtain ⟨v6, rfl, h⟩ := h
    refine J_r1 ?_
    exact J_iret aX12_sceneBy_75 rfl h
  replace h := h.2
  by_cases q5 : x0 = (nI 5)
  · replace h := h.1 q5
    refine J_tswIn (nI 5) aX12_sceneBy_9 (off := 67) (tgt := 76) (by decide +kernel) q5 ?_
    refine J_iload_n 3 aX12_sceneBy_76 rfl ?_
    refine J_iconst (nI 3) aX12_sceneBy_77 (by decide +kernel) ?_
    refine J_irem aX12_sceneBy_78 (by decide +kernel) ?_
    refine J_iconst (nI 2) aX12_sceneBy_79 (by decide +kernel) ?_
    refine J_icmp_ne aX12_sceneBy_80 (fun q => ?_) (fun q => ?_)
    · replace h := h.1 q
      refine J_iload_n 2 aX12_sceneBy_94 rfl ?_
      refine J_iconst (nI 2) aX12_sceneBy_95 (by decide +kernel) ?_
      refine J_callS [.int x1, .int (nI 2)] [] aX12_sceneBy_96 lkX12_76 okX12_turned rfl rfl (Nat.le_of_ble_eq_true rfl) (Nat.le_refl _) (Mt_mono h (fun rv I7 h => ?_))
      obtain ⟨v8, rfl, h⟩ := h
      refine J_r1 ?_
      exact J_iret aX12_sceneBy_99 rfl h
    · replace h := h.2 q
      refine J_iload_n 2 aX12_sceneBy_83 rfl ?_
      refine J_iconst (nI 2) aX12_sceneBy_84 (by decide +kernel) ?_
      refine J_callS [.int x1, .int (nI 2)] [] aX12_sceneBy_85 lkX12_76 okX12_turned rfl rfl (Nat.le_of_ble_eq_true rfl) (Nat.le_refl _) (Mt_mono h (fun rv I9 h => ?_))
      obtain ⟨v10, rfl, h⟩ := h
      refine J_r1 ?_
      refine J_bipush (nI 15) aX12_sceneBy_88 (by decide +kernel) ?_
      refine J_ixor aX12_sceneBy_90 ?_
      refine J_goto aX12_sceneBy_91 ?_
      exact J_iret aX12_sceneBy_99 rfl h
  replace h := h.2
  replace h := h ⟨q1, q2, q3, q4, q5⟩
  refine J_tswOut aX12_sceneBy_9 (tgt := 100) (by decide) (tsw_out (fun k h1 h2 hk => by
    have hh : k = 1 ∨ k = 2 ∨ k = 3 ∨ k = 4 ∨ k = 5 := by omega
    rcases hh with rfl | rfl | rfl | rfl | rfl
    · exact q1 (Int32.toInt_inj.mp (hk.trans (by decide +kernel)))
    · exact q2 (Int32.toInt_inj.mp (hk.trans (by decide +kernel)))
    · exact q3 (Int32.toInt_inj.mp (hk.trans (by decide +kernel)))
    · exact q4 (Int32.toInt_inj.mp (hk.trans (by decide +kernel)))
    · exact q5 (Int32.toInt_inj.mp (hk.trans (by decide +kernel)))
    )) ?_
  refine J_iload_n 2 aX12_sceneBy_100 rfl ?_
  refine J_iconst (nI 1) aX12_sceneBy_101 (by decide +kernel) ?_
  refine J_callS [.int x1, .int (nI 1)] [] aX12_sceneBy_102 lkX12_76 okX12_turned rfl rfl (Nat.le_of_ble_eq_true rfl) (Nat.le_refl _) (Mt_mono h (fun rv I11 h => ?_))
  obtain ⟨v12, rfl, h⟩ := h
  refine J_r1 ?_
  exact J_iret aX12_sceneBy_105 rfl h
theorem aX12_lightsOf_0 : decode mX12_lightsOf.2.1 0 = .ok (.aload_n 0, 1) ∧ 0 + 1 = 1 := ⟨by decide +kernel, rfl⟩
theorem aX12_lightsOf_1 : decode mX12_lightsOf.2.1 1 = .ok (.iload_n 1, 1) ∧ 1 + 1 = 2 := ⟨by decide +kernel, rfl⟩
theorem aX12_lightsOf_2 : decode mX12_lightsOf.2.1 2 = .ok (.iconst 1, 1) ∧ 2 + 1 = 3 := ⟨by decide +kernel, rfl⟩
theorem aX12_lightsOf_3 : decode mX12_lightsOf.2.1 3 = .ok (.invokevirtual 80, 3) ∧ 3 + 3 = 6 := ⟨by decide +kernel, rfl⟩
theorem aX12_lightsOf_6 : decode mX12_lightsOf.2.1 6 = .ok (.invokestatic 83, 3) ∧ 6 + 3 = 9 := ⟨by decide +kernel, rfl⟩
theorem aX12_lightsOf_9 : decode mX12_lightsOf.2.1 9 = .ok (.aload_n 0, 1) ∧ 9 + 1 = 10 := ⟨by decide +kernel, rfl⟩
theorem aX12_lightsOf_10 : decode mX12_lightsOf.2.1 10 = .ok (.getfield 9, 3) ∧ 10 + 3 = 13 := ⟨by decide +kernel, rfl⟩
theorem aX12_lightsOf_13 : decode mX12_lightsOf.2.1 13 = .ok (.bipush 26, 2) ∧ 13 + 2 = 15 := ⟨by decide +kernel, rfl⟩
theorem aX12_lightsOf_15 : decode mX12_lightsOf.2.1 15 = .ok (.aload_n 0, 1) ∧ 15 + 1 = 16 := ⟨by decide +kernel, rfl⟩
theorem aX12_lightsOf_16 : decode mX12_lightsOf.2.1 16 = .ok (.iload_n 1, 1) ∧ 16 + 1 = 17 := ⟨by decide +kernel, rfl⟩
theorem aX12_lightsOf_17 : decode mX12_lightsOf.2.1 17 = .ok (.iconst 3, 1) ∧ 17 + 1 = 18 := ⟨by decide +kernel, rfl⟩
theorem aX12_lightsOf_18 : decode mX12_lightsOf.2.1 18 = .ok (.invokevirtual 80, 3) ∧ 18 + 3 = 21 := ⟨by decide +kernel, rfl⟩
theorem aX12_lightsOf_21 : decode mX12_lightsOf.2.1 21 = .ok (.iadd, 1) ∧ 21 + 1 = 22 := ⟨by decide +kernel, rfl⟩
theorem aX12_lightsOf_22 : decode mX12_lightsOf.2.1 22 = .ok (.iaload, 1) ∧ 22 + 1 = 23 := ⟨by decide +kernel, rfl⟩
theorem aX12_lightsOf_23 : decode mX12_lightsOf.2.1 23 = .ok (.isub, 1) ∧ 23 + 1 = 24 := ⟨by decide +kernel, rfl⟩
theorem aX12_lightsOf_24 : decode mX12_lightsOf.2.1 24 = .ok (.aload_n 0, 1) ∧ 24 + 1 = 25 := ⟨by decide +kernel, rfl⟩
theorem aX12_lightsOf_25 : decode mX12_lightsOf.2.1 25 = .ok (.getfield 9, 3) ∧ 25 + 3 = 28 := ⟨by decide +kernel, rfl⟩
theorem aX12_lightsOf_28 : decode mX12_lightsOf.2.1 28 = .ok (.iconst 3, 1) ∧ 28 + 1 = 29 := ⟨by decide +kernel, rfl⟩
theorem aX12_lightsOf_29 : decode mX12_lightsOf.2.1 29 = .ok (.iaload, 1) ∧ 29 + 1 = 30 := ⟨by decide +kernel, rfl⟩
theorem aX12_lightsOf_30 : decode mX12_lightsOf.2.1 30 = .ok (.iconst 3, 1) ∧ 30 + 1 = 31 := ⟨by decide +kernel, rfl⟩
theorem aX12_lightsOf_31 : decode mX12_lightsOf.2.1 31 = .ok (.idiv, 1) ∧ 31 + 1 = 32 := ⟨by decide +kernel, rfl⟩
theorem aX12_lightsOf_32 : decode mX12_lightsOf.2.1 32 = .ok (.isub, 1) ∧ 32 + 1 = 33 := ⟨by decide +kernel, rfl⟩
theorem aX12_lightsOf_33 : decode mX12_lightsOf.2.1 33 = .ok (.istore_n 2, 1) ∧ 33 + 1 = 34 := ⟨by decide +kernel, rfl⟩
theorem aX12_lightsOf_34 : decode mX12_lightsOf.2.1 34 = .ok (.iload_n 2, 1) ∧ 34 + 1 = 35 := ⟨by decide +kernel, rfl⟩
theorem aX12_lightsOf_35 : decode mX12_lightsOf.2.1 35 = .ok (.ifCond .ge 7, 3) ∧ ((35 : Nat) : Int) + 7 = ((42 : Nat) : Int) ∧ 35 + 3 = 38 := ⟨by decide +kernel, by decide, rfl⟩
theorem aX12_lightsOf_38 : decode mX12_lightsOf.2.1 38 = .ok (.iconst 0, 1) ∧ 38 + 1 = 39 := ⟨by decide +kernel, rfl⟩
theorem aX12_lightsOf_39 : decode mX12_lightsOf.2.1 39 = .ok (.goto 4, 3) ∧ ((39 : Nat) : Int) + 4 = ((43 : Nat) : Int) := ⟨by decide +kernel, by decide⟩
theorem aX12_lightsOf_42 : decode mX12_lightsOf.2.1 42 = .ok (.iload_n 2, 1) ∧ 42 + 1 = 43 := ⟨by decide +kernel, rfl⟩
theorem aX12_lightsOf_43 : decode mX12_lightsOf.2.1 43 = .ok (.ireturn, 1) := by decide +kernel
theorem S_X12_lightsOf {E : EE} {d : Nat} {I : IH} {Q : QT} (x1 : Int32) (h :
(Mt E d mX12_get [.ref (eb E + 115), .int x1, .int (nI 1)] I (fun rv I1 => ∃ v2 : Int32, rv = some (.int v2) ∧
 (Mt E d mX12_ones [.int v2] I1 (fun rv I3 => ∃ v4 : Int32, rv = some (.int v4) ∧
 (Mt E d mX12_get [.ref (eb E + 115), .int x1, .int (nI 3)] I3 (fun rv I5 => ∃ v6 : Int32, rv = some (.int v6) ∧
 (∃ j7 : Nat, ((nI 26) + v6) = nI j7 ∧ j7 < 322 ∧ ((0 ≤ ((v4 - (I5 116 j7)) - ((I5 116 3) / (nI 3))) → Q (some (.int ((v4 - (I5 116 j7)) - ((I5 116 3) / (nI 3))))) I5) ∧
 (¬ 0 ≤ ((v4 - (I5 116 j7)) - ((I5 116 3) / (nI 3))) → Q (some (.int (nI 0))) I5)))))))))) : Mt E (d + 1) mX12_lightsOf [.ref (eb E + 115), .int x1] I Q := by
  refine Mt_of [(0, .ref (eb E + 115)), (1, .int x1)] (by decide +kernel) (by simp [lg_sl, Value.category, mX12_lightsOf]) rfl ?_
  refine J_aload_n 0 aX12_lightsOf_0 rfl ?_
  refine J_iload_n 1 aX12_lightsOf_1 rfl ?_
  refine J_iconst (nI 1) aX12_lightsOf_2 (by decide +kernel) ?_
  refine J_callV [.int x1, .int (nI 1)] [] aX12_lightsOf_3 lkX12_80_X12 okX12_get sh115 rfl rfl rfl (Nat.le_of_ble_eq_true rfl) (Nat.le_refl _) (Mt_mono h (fun rv I1 h => ?_))
  obtain ⟨v2, rfl, h⟩ := h
  refine J_r1 ?_
  refine J_callS [.int v2] [] aX12_lightsOf_6 lkX12_83 okX12_ones rfl rfl (Nat.le_of_ble_eq_true rfl) (Nat.le_refl _) (Mt_mono h (fun rv I3 h => ?_))
  obtain ⟨v4, rfl, h⟩ := h
  refine J_r1 ?_
  refine J_aload_n 0 aX12_lightsOf_9 rfl ?_
  refine J_getR aX12_lightsOf_10 flX12_9 sh115 rfl ?_
  refine J_bipush (nI 26) aX12_lightsOf_13 (by decide +kernel) ?_
  refine J_aload_n 0 aX12_lightsOf_15 rfl ?_
  refine J_iload_n 1 aX12_lightsOf_16 rfl ?_
  refine J_iconst (nI 3) aX12_lightsOf_17 (by decide +kernel) ?_
  refine J_callV [.int x1, .int (nI 3)] [.int (nI 26), .ref (eb E + 116), .int v4] aX12_lightsOf_18 lkX12_80_X12 okX12_get sh115 rfl rfl rfl (Nat.le_of_ble_eq_true rfl) (Nat.le_refl _) (Mt_mono h (fun rv I5 h => ?_))
  obtain ⟨v6, rfl, h⟩ := h
  refine J_r1 ?_
  refine J_iadd aX12_lightsOf_21 ?_
  obtain ⟨j7, e8, b9, h⟩ := h
  refine J_iaload j7 aX12_lightsOf_22 sh116 e8 b9 (by decide) ?_
  refine J_isub aX12_lightsOf_23 ?_
  refine J_aload_n 0 aX12_lightsOf_24 rfl ?_
  refine J_getR aX12_lightsOf_25 flX12_9 sh115 rfl ?_
  refine J_iconst (nI 3) aX12_lightsOf_28 (by decide +kernel) ?_
  refine J_iaload 3 aX12_lightsOf_29 sh116 rfl (by decide) (by decide) ?_
  refine J_iconst (nI 3) aX12_lightsOf_30 (by decide +kernel) ?_
  refine J_idiv aX12_lightsOf_31 (by decide +kernel) ?_
  refine J_isub aX12_lightsOf_32 ?_
  refine J_istore_n [(2, .int ((v4 - (I5 116 j7)) - ((I5 116 3) / (nI 3)))), (0, .ref (eb E + 115)), (1, .int x1)] aX12_lightsOf_33 (by decide) rfl ?_
  refine J_iload_n 0 aX12_lightsOf_34 rfl ?_
  refine J_if_ge aX12_lightsOf_35 (fun q => ?_) (fun q => ?_)
  · replace h := h.1 q
    refine J_iload_n 0 aX12_lightsOf_42 rfl ?_
    exact J_iret aX12_lightsOf_43 rfl h
  · replace h := h.2 q
    refine J_iconst (nI 0) aX12_lightsOf_38 (by decide +kernel) ?_
    refine J_goto aX12_lightsOf_39 ?_
    exact J_iret aX12_lightsOf_43 rfl h
theorem aX12_asksOf_0 : decode mX12_asksOf.2.1 0 = .ok (.aload_n 0, 1) ∧ 0 + 1 = 1 := ⟨by decide +kernel, rfl⟩
theorem aX12_asksOf_1 : decode mX12_asksOf.2.1 1 = .ok (.iload_n 1, 1) ∧ 1 + 1 = 2 := ⟨by decide +kernel, rfl⟩
theorem aX12_asksOf_2 : decode mX12_asksOf.2.1 2 = .ok (.invokevirtual 86, 3) ∧ 2 + 3 = 5 := ⟨by decide +kernel, rfl⟩
theorem aX12_asksOf_5 : decode mX12_asksOf.2.1 5 = .ok (.istore_n 2, 1) ∧ 5 + 1 = 6 := ⟨by decide +kernel, rfl⟩
theorem aX12_asksOf_6 : decode mX12_asksOf.2.1 6 = .ok (.aload_n 0, 1) ∧ 6 + 1 = 7 := ⟨by decide +kernel, rfl⟩
theorem aX12_asksOf_7 : decode mX12_asksOf.2.1 7 = .ok (.iload_n 1, 1) ∧ 7 + 1 = 8 := ⟨by decide +kernel, rfl⟩
theorem aX12_asksOf_8 : decode mX12_asksOf.2.1 8 = .ok (.iconst 0, 1) ∧ 8 + 1 = 9 := ⟨by decide +kernel, rfl⟩
theorem aX12_asksOf_9 : decode mX12_asksOf.2.1 9 = .ok (.invokevirtual 80, 3) ∧ 9 + 3 = 12 := ⟨by decide +kernel, rfl⟩
theorem aX12_asksOf_12 : decode mX12_asksOf.2.1 12 = .ok (.tableswitch 74 1 5 #[36, 40, 44, 50, 61], 36) := by decide +kernel
theorem aX12_asksOf_48 : decode mX12_asksOf.2.1 48 = .ok (.iconst 2, 1) ∧ 48 + 1 = 49 := ⟨by decide +kernel, rfl⟩
theorem aX12_asksOf_49 : decode mX12_asksOf.2.1 49 = .ok (.iload_n 2, 1) ∧ 49 + 1 = 50 := ⟨by decide +kernel, rfl⟩
theorem aX12_asksOf_50 : decode mX12_asksOf.2.1 50 = .ok (.imul, 1) ∧ 50 + 1 = 51 := ⟨by decide +kernel, rfl⟩
theorem aX12_asksOf_51 : decode mX12_asksOf.2.1 51 = .ok (.ireturn, 1) := by decide +kernel
theorem aX12_asksOf_52 : decode mX12_asksOf.2.1 52 = .ok (.iload_n 2, 1) ∧ 52 + 1 = 53 := ⟨by decide +kernel, rfl⟩
theorem aX12_asksOf_53 : decode mX12_asksOf.2.1 53 = .ok (.iload_n 1, 1) ∧ 53 + 1 = 54 := ⟨by decide +kernel, rfl⟩
theorem aX12_asksOf_54 : decode mX12_asksOf.2.1 54 = .ok (.iadd, 1) ∧ 54 + 1 = 55 := ⟨by decide +kernel, rfl⟩
theorem aX12_asksOf_55 : decode mX12_asksOf.2.1 55 = .ok (.ireturn, 1) := by decide +kernel
theorem aX12_asksOf_56 : decode mX12_asksOf.2.1 56 = .ok (.iconst 2, 1) ∧ 56 + 1 = 57 := ⟨by decide +kernel, rfl⟩
theorem aX12_asksOf_57 : decode mX12_asksOf.2.1 57 = .ok (.iload_n 2, 1) ∧ 57 + 1 = 58 := ⟨by decide +kernel, rfl⟩
theorem aX12_asksOf_58 : decode mX12_asksOf.2.1 58 = .ok (.iload_n 1, 1) ∧ 58 + 1 = 59 := ⟨by decide +kernel, rfl⟩
theorem aX12_asksOf_59 : decode mX12_asksOf.2.1 59 = .ok (.iadd, 1) ∧ 59 + 1 = 60 := ⟨by decide +kernel, rfl⟩
theorem aX12_asksOf_60 : decode mX12_asksOf.2.1 60 = .ok (.imul, 1) ∧ 60 + 1 = 61 := ⟨by decide +kernel, rfl⟩
theorem aX12_asksOf_61 : decode mX12_asksOf.2.1 61 = .ok (.ireturn, 1) := by decide +kernel
theorem aX12_asksOf_62 : decode mX12_asksOf.2.1 62 = .ok (.iload_n 2, 1) ∧ 62 + 1 = 63 := ⟨by decide +kernel, rfl⟩
theorem aX12_asksOf_63 : decode mX12_asksOf.2.1 63 = .ok (.iconst 3, 1) ∧ 63 + 1 = 64 := ⟨by decide +kernel, rfl⟩
theorem aX12_asksOf_64 : decode mX12_asksOf.2.1 64 = .ok (.if_icmp .le 7, 3) ∧ ((64 : Nat) : Int) + 7 = ((71 : Nat) : Int) ∧ 64 + 3 = 67 := ⟨by decide +kernel, by decide, rfl⟩
theorem aX12_asksOf_67 : decode mX12_asksOf.2.1 67 = .ok (.iconst 3, 1) ∧ 67 + 1 = 68 := ⟨by decide +kernel, rfl⟩
theorem aX12_asksOf_68 : decode mX12_asksOf.2.1 68 = .ok (.goto 4, 3) ∧ ((68 : Nat) : Int) + 4 = ((72 : Nat) : Int) := ⟨by decide +kernel, by decide⟩
theorem aX12_asksOf_71 : decode mX12_asksOf.2.1 71 = .ok (.iload_n 2, 1) ∧ 71 + 1 = 72 := ⟨by decide +kernel, rfl⟩
theorem aX12_asksOf_72 : decode mX12_asksOf.2.1 72 = .ok (.ireturn, 1) := by decide +kernel
theorem aX12_asksOf_73 : decode mX12_asksOf.2.1 73 = .ok (.iload_n 2, 1) ∧ 73 + 1 = 74 := ⟨by decide +kernel, rfl⟩
theorem aX12_asksOf_74 : decode mX12_asksOf.2.1 74 = .ok (.iconst 3, 1) ∧ 74 + 1 = 75 := ⟨by decide +kernel, rfl⟩
theorem aX12_asksOf_75 : decode mX12_asksOf.2.1 75 = .ok (.if_icmp .le 7, 3) ∧ ((75 : Nat) : Int) + 7 = ((82 : Nat) : Int) ∧ 75 + 3 = 78 := ⟨by decide +kernel, by decide, rfl⟩
theorem aX12_asksOf_78 : decode mX12_asksOf.2.1 78 = .ok (.iconst 4, 1) ∧ 78 + 1 = 79 := ⟨by decide +kernel, rfl⟩
theorem aX12_asksOf_79 : decode mX12_asksOf.2.1 79 = .ok (.goto 6, 3) ∧ ((79 : Nat) : Int) + 6 = ((85 : Nat) : Int) := ⟨by decide +kernel, by decide⟩
theorem aX12_asksOf_82 : decode mX12_asksOf.2.1 82 = .ok (.iload_n 2, 1) ∧ 82 + 1 = 83 := ⟨by decide +kernel, rfl⟩
theorem aX12_asksOf_83 : decode mX12_asksOf.2.1 83 = .ok (.iconst 1, 1) ∧ 83 + 1 = 84 := ⟨by decide +kernel, rfl⟩
theorem aX12_asksOf_84 : decode mX12_asksOf.2.1 84 = .ok (.iadd, 1) ∧ 84 + 1 = 85 := ⟨by decide +kernel, rfl⟩
theorem aX12_asksOf_85 : decode mX12_asksOf.2.1 85 = .ok (.ireturn, 1) := by decide +kernel
theorem aX12_asksOf_86 : decode mX12_asksOf.2.1 86 = .ok (.iload_n 2, 1) ∧ 86 + 1 = 87 := ⟨by decide +kernel, rfl⟩
theorem aX12_asksOf_87 : decode mX12_asksOf.2.1 87 = .ok (.ireturn, 1) := by decide +kernel
theorem S_X12_asksOf {E : EE} {d : Nat} {I : IH} {Q : QT} (x1 : Int32) (h :
(Mt E d mX12_lightsOf [.ref (eb E + 115), .int x1] I (fun rv I1 => ∃ v2 : Int32, rv = some (.int v2) ∧
 (Mt E d mX12_get [.ref (eb E + 115), .int x1, .int (nI 0)] I1 (fun rv I3 => ∃ v4 : Int32, rv = some (.int v4) ∧
 ((v4 = (nI 1) → Q (some (.int ((nI 2) * v2))) I3) ∧
 ((v4 = (nI 2) → Q (some (.int (v2 + x1))) I3) ∧
 ((v4 = (nI 3) → Q (some (.int ((nI 2) * (v2 + x1)))) I3) ∧
 ((v4 = (nI 4) → ((v2 ≤ (nI 3) → Q (some (.int v2)) I3) ∧
 (¬ v2 ≤ (nI 3) → Q (some (.int (nI 3))) I3))) ∧
 ((v4 = (nI 5) → ((v2 ≤ (nI 3) → Q (some (.int (v2 + (nI 1)))) I3) ∧
 (¬ v2 ≤ (nI 3) → Q (some (.int (nI 4))) I3))) ∧
 (¬ v4 = (nI 1) ∧ ¬ v4 = (nI 2) ∧ ¬ v4 = (nI 3) ∧ ¬ v4 = (nI 4) ∧ ¬ v4 = (nI 5) → Q (some (.int v2)) I3))))))))))) : Mt E (d + 1) mX12_asksOf [.ref (eb E + 115), .int x1] I Q := by
  refine Mt_of [(0, .ref (eb E + 115)), (1, .int x1)] (by decide +kernel) (by simp [lg_sl, Value.category, mX12_asksOf]) rfl ?_
  refine J_aload_n 0 aX12_asksOf_0 rfl ?_
  refine J_iload_n 1 aX12_asksOf_1 rfl ?_
  refine J_callV [.int x1] [] aX12_asksOf_2 lkX12_86_X12 okX12_lightsOf sh115 rfl rfl rfl (Nat.le_of_ble_eq_true rfl) (Nat.le_refl _) (Mt_mono h (fun rv I1 h => ?_))
  obtain ⟨v2, rfl, h⟩ := h
  refine J_r1 ?_
  refine J_istore_n [(2, .int v2), (0, .ref (eb E + 115)), (1, .int x1)] aX12_asksOf_5 (by decide) rfl ?_
  refine J_aload_n 1 aX12_asksOf_6 rfl ?_
  refine J_iload_n 2 aX12_asksOf_7 rfl ?_
  refine J_iconst (nI 0) aX12_asksOf_8 (by decide +kernel) ?_
  refine J_callV [.int x1, .int (nI 0)] [] aX12_asksOf_9 lkX12_80_X12 okX12_get sh115 rfl rfl rfl (Nat.le_of_ble_eq_true rfl) (Nat.le_refl _) (Mt_mono h (fun rv I3 h => ?_))
  obtain ⟨v4, rfl, h⟩ := h
  refine J_r1 ?_
  by_cases q1 : v4 = (nI 1)
  · replace h := h.1 q1
    refine J_tswIn (nI 1) aX12_asksOf_12 (off := 36) (tgt := 48) (by decide +kernel) q1 ?_
    refine J_iconst (nI 2) aX12_asksOf_48 (by decide +kernel) ?_
    refine J_iload_n 0 aX12_asksOf_49 rfl ?_
    refine J_imul aX12_asksOf_50 ?_
    exact J_iret aX12_asksOf_51 rfl h
  replace h := h.2
  by_cases q2 : v4 = (nI 2)
  · replace h := h.1 q2
    refine J_tswIn (nI 2) aX12_asksOf_12 (off := 40) (tgt := 52) (by decide +kernel) q2 ?_
    refine J_iload_n 0 aX12_asksOf_52 rfl ?_
    refine J_iload_n 2 aX12_asksOf_53 rfl ?_
    refine J_iadd aX12_asksOf_54 ?_
    exact J_iret aX12_asksOf_55 rfl h
  replace h := h.2
  by_cases q3 : v4 = (nI 3)
  · replace h := h.1 q3
    refine J_tswIn (nI 3) aX12_asksOf_12 (off := 44) (tgt := 56) (by decide +kernel) q3 ?_
    refine J_iconst (nI 2) aX12_asksOf_56 (by decide +kernel) ?_
    refine J_iload_n 0 aX12_asksOf_57 rfl ?_
    refine J_iload_n 2 aX12_asksOf_58 rfl ?_
    refine J_iadd aX12_asksOf_59 ?_
    refine J_imul aX12_asksOf_60 ?_
    exact J_iret aX12_asksOf_61 rfl h
  replace h := h.2
  by_cases q4 : v4 = (nI 4)
  · replace h := h.1 q4
    refine J_tswIn (nI 4) aX12_asksOf_12 (off := 50) (tgt := 62) (by decide +kernel) q4 ?_
    refine J_iload_n 0 aX12_asksOf_62 rfl ?_
    refine J_iconst (nI 3) aX12_asksOf_63 (by decide +kernel) ?_
    refine J_icmp_le aX12_asksOf_64 (fun q => ?_) (fun q => ?_)
    · replace h := h.1 q
      refine J_iload_n 0 aX12_asksOf_71 rfl ?_
      exact J_iret aX12_asksOf_72 rfl h
    · replace h := h.2 q
      refine J_iconst (nI 3) aX12_asksOf_67 (by decide +kernel) ?_
      refine J_goto aX12_asksOf_68 ?_
      exact J_iret aX12_asksOf_72 rfl h
  replace h := h.2
  by_cases q5 : v4 = (nI 5)
  · replace h := h.1 q5
    refine J_tswIn (nI 5) aX12_asksOf_12 (off := 61) (tgt := 73) (by decide +kernel) q5 ?_
    refine J_iload_n 0 aX12_asksOf_73 rfl ?_
    refine J_iconst (nI 3) aX12_asksOf_74 (by decide +kernel) ?_
    refine J_icmp_le aX12_asksOf_75 (fun q => ?_) (fun q => ?_)
    · replace h := h.1 q
      refine J_iload_n 0 aX12_asksOf_82 rfl ?_
      refine J_iconst (nI 1) aX12_asksOf_83 (by decide +kernel) ?_
      refine J_iadd aX12_asksOf_84 ?_
      exact J_iret aX12_asksOf_85 rfl h
    · replace h := h.2 q
      refine J_iconst (nI 4) aX12_asksOf_78 (by decide +kernel) ?_
      refine J_goto aX12_asksOf_79 ?_
      exact J_iret aX12_asksOf_85 rfl h
  replace h := h.2
  replace h := h ⟨q1, q2, q3, q4, q5⟩
  refine J_tswOut aX12_asksOf_12 (tgt := 86) (by decide) (tsw_out (fun k h1 h2 hk => by
    have hh : k = 1 ∨ k = 2 ∨ k = 3 ∨ k = 4 ∨ k = 5 := by omega
    rcases hh with rfl | rfl | rfl | rfl | rfl
    · exact q1 (Int32.toInt_inj.mp (hk.trans (by decide +kernel)))
    · exact q2 (Int32.toInt_inj.mp (hk.trans (by decide +kernel)))
    · exact q3 (Int32.toInt_inj.mp (hk.trans (by decide +kernel)))
    · exact q4 (Int32.toInt_inj.mp (hk.trans (by decide +kernel)))
    · exact q5 (Int32.toInt_inj.mp (hk.trans (by decide +kernel)))
    )) ?_
  refine J_iload_n 0 aX12_asksOf_86 rfl ?_
  exact J_iret aX12_asksOf_87 rfl h
theorem aX12_isOpen_0 : decode mX12_isOpen.2.1 0 = .ok (.aload_n 0, 1) ∧ 0 + 1 = 1 := ⟨by decide +kernel, rfl⟩
theorem aX12_isOpen_1 : decode mX12_isOpen.2.1 1 = .ok (.iload_n 1, 1) ∧ 1 + 1 = 2 := ⟨by decide +kernel, rfl⟩
theorem aX12_isOpen_2 : decode mX12_isOpen.2.1 2 = .ok (.iconst 2, 1) ∧ 2 + 1 = 3 := ⟨by decide +kernel, rfl⟩
theorem aX12_isOpen_3 : decode mX12_isOpen.2.1 3 = .ok (.invokevirtual 80, 3) ∧ 3 + 3 = 6 := ⟨by decide +kernel, rfl⟩
theorem aX12_isOpen_6 : decode mX12_isOpen.2.1 6 = .ok (.aload_n 0, 1) ∧ 6 + 1 = 7 := ⟨by decide +kernel, rfl⟩
theorem aX12_isOpen_7 : decode mX12_isOpen.2.1 7 = .ok (.getfield 9, 3) ∧ 7 + 3 = 10 := ⟨by decide +kernel, rfl⟩
theorem aX12_isOpen_10 : decode mX12_isOpen.2.1 10 = .ok (.bipush 32, 2) ∧ 10 + 2 = 12 := ⟨by decide +kernel, rfl⟩
theorem aX12_isOpen_12 : decode mX12_isOpen.2.1 12 = .ok (.aload_n 0, 1) ∧ 12 + 1 = 13 := ⟨by decide +kernel, rfl⟩
theorem aX12_isOpen_13 : decode mX12_isOpen.2.1 13 = .ok (.iload_n 1, 1) ∧ 13 + 1 = 14 := ⟨by decide +kernel, rfl⟩
theorem aX12_isOpen_14 : decode mX12_isOpen.2.1 14 = .ok (.iconst 3, 1) ∧ 14 + 1 = 15 := ⟨by decide +kernel, rfl⟩
theorem aX12_isOpen_15 : decode mX12_isOpen.2.1 15 = .ok (.invokevirtual 80, 3) ∧ 15 + 3 = 18 := ⟨by decide +kernel, rfl⟩
theorem aX12_isOpen_18 : decode mX12_isOpen.2.1 18 = .ok (.iadd, 1) ∧ 18 + 1 = 19 := ⟨by decide +kernel, rfl⟩
theorem aX12_isOpen_19 : decode mX12_isOpen.2.1 19 = .ok (.iaload, 1) ∧ 19 + 1 = 20 := ⟨by decide +kernel, rfl⟩
theorem aX12_isOpen_20 : decode mX12_isOpen.2.1 20 = .ok (.if_icmp .ge 21, 3) ∧ ((20 : Nat) : Int) + 21 = ((41 : Nat) : Int) ∧ 20 + 3 = 23 := ⟨by decide +kernel, by decide, rfl⟩
theorem aX12_isOpen_23 : decode mX12_isOpen.2.1 23 = .ok (.aload_n 0, 1) ∧ 23 + 1 = 24 := ⟨by decide +kernel, rfl⟩
theorem aX12_isOpen_24 : decode mX12_isOpen.2.1 24 = .ok (.getfield 9, 3) ∧ 24 + 3 = 27 := ⟨by decide +kernel, rfl⟩
theorem aX12_isOpen_27 : decode mX12_isOpen.2.1 27 = .ok (.iconst 4, 1) ∧ 27 + 1 = 28 := ⟨by decide +kernel, rfl⟩
theorem aX12_isOpen_28 : decode mX12_isOpen.2.1 28 = .ok (.iaload, 1) ∧ 28 + 1 = 29 := ⟨by decide +kernel, rfl⟩
theorem aX12_isOpen_29 : decode mX12_isOpen.2.1 29 = .ok (.aload_n 0, 1) ∧ 29 + 1 = 30 := ⟨by decide +kernel, rfl⟩
theorem aX12_isOpen_30 : decode mX12_isOpen.2.1 30 = .ok (.iload_n 1, 1) ∧ 30 + 1 = 31 := ⟨by decide +kernel, rfl⟩
theorem aX12_isOpen_31 : decode mX12_isOpen.2.1 31 = .ok (.invokevirtual 89, 3) ∧ 31 + 3 = 34 := ⟨by decide +kernel, rfl⟩
theorem aX12_isOpen_34 : decode mX12_isOpen.2.1 34 = .ok (.if_icmp .lt 7, 3) ∧ ((34 : Nat) : Int) + 7 = ((41 : Nat) : Int) ∧ 34 + 3 = 37 := ⟨by decide +kernel, by decide, rfl⟩
theorem aX12_isOpen_37 : decode mX12_isOpen.2.1 37 = .ok (.iconst 1, 1) ∧ 37 + 1 = 38 := ⟨by decide +kernel, rfl⟩
theorem aX12_isOpen_38 : decode mX12_isOpen.2.1 38 = .ok (.goto 4, 3) ∧ ((38 : Nat) : Int) + 4 = ((42 : Nat) : Int) := ⟨by decide +kernel, by decide⟩
theorem aX12_isOpen_41 : decode mX12_isOpen.2.1 41 = .ok (.iconst 0, 1) ∧ 41 + 1 = 42 := ⟨by decide +kernel, rfl⟩
theorem aX12_isOpen_42 : decode mX12_isOpen.2.1 42 = .ok (.ireturn, 1) := by decide +kernel
theorem S_X12_isOpen {E : EE} {d : Nat} {I : IH} {Q : QT} (x1 : Int32) (h :
(Mt E d mX12_get [.ref (eb E + 115), .int x1, .int (nI 2)] I (fun rv I1 => ∃ v2 : Int32, rv = some (.int v2) ∧
 (Mt E d mX12_get [.ref (eb E + 115), .int x1, .int (nI 3)] I1 (fun rv I3 => ∃ v4 : Int32, rv = some (.int v4) ∧
 (∃ j5 : Nat, ((nI 32) + v4) = nI j5 ∧ j5 < 322 ∧ (((I3 116 j5) ≤ v2 → Q (some (.int (nI 0))) I3) ∧
 (¬ (I3 116 j5) ≤ v2 → (Mt E d mX12_asksOf [.ref (eb E + 115), .int x1] I3 (fun rv I8 => ∃ v9 : Int32, rv = some (.int v9) ∧
 (((I3 116 4) < v9 → Q (some (.int (nI 0))) I8) ∧
 (¬ (I3 116 4) < v9 → Q (some (.int (nI 1))) I8)))))))))))) : Mt E (d + 1) mX12_isOpen [.ref (eb E + 115), .int x1] I Q := by
  refine Mt_of [(0, .ref (eb E + 115)), (1, .int x1)] (by decide +kernel) (by simp [lg_sl, Value.category, mX12_isOpen]) rfl ?_
  refine J_aload_n 0 aX12_isOpen_0 rfl ?_
  refine J_iload_n 1 aX12_isOpen_1 rfl ?_
  refine J_iconst (nI 2) aX12_isOpen_2 (by decide +kernel) ?_
  refine J_callV [.int x1, .int (nI 2)] [] aX12_isOpen_3 lkX12_80_X12 okX12_get sh115 rfl rfl rfl (Nat.le_of_ble_eq_true rfl) (Nat.le_refl _) (Mt_mono h (fun rv I1 h => ?_))
  obtain ⟨v2, rfl, h⟩ := h
  refine J_r1 ?_
  refine J_aload_n 0 aX12_isOpen_6 rfl ?_
  refine J_getR aX12_isOpen_7 flX12_9 sh115 rfl ?_
  refine J_bipush (nI 32) aX12_isOpen_10 (by decide +kernel) ?_
  refine J_aload_n 0 aX12_isOpen_12 rfl ?_
  refine J_iload_n 1 aX12_isOpen_13 rfl ?_
  refine J_iconst (nI 3) aX12_isOpen_14 (by decide +kernel) ?_
  refine J_callV [.int x1, .int (nI 3)] [.int (nI 32), .ref (eb E + 116), .int v2] aX12_isOpen_15 lkX12_80_X12 okX12_get sh115 rfl rfl rfl (Nat.le_of_ble_eq_true rfl) (Nat.le_refl _) (Mt_mono h (fun rv I3 h => ?_))
  obtain ⟨v4, rfl, h⟩ := h
  refine J_r1 ?_
  refine J_iadd aX12_isOpen_18 ?_
  obtain ⟨j5, e6, b7, h⟩ := h
  refine J_iaload j5 aX12_isOpen_19 sh116 e6 b7 (by decide) ?_
  refine J_icmp_ge aX12_isOpen_20 (fun q => ?_) (fun q => ?_)
  · replace h := h.1 q
    refine J_iconst (nI 0) aX12_isOpen_41 (by decide +kernel) ?_
    exact J_zret aX12_isOpen_42 rfl (by decide +kernel) h
  · replace h := h.2 q
    refine J_aload_n 0 aX12_isOpen_23 rfl ?_
    refine J_getR aX12_isOpen_24 flX12_9 sh115 rfl ?_
    refine J_iconst (nI 4) aX12_isOpen_27 (by decide +kernel) ?_
    refine J_iaload 4 aX12_isOpen_28 sh116 rfl (by decide) (by decide) ?_
    refine J_aload_n 0 aX12_isOpen_29 rfl ?_
    refine J_iload_n 1 aX12_isOpen_30 rfl ?_
    refine J_callV [.int x1] [.int (I3 116 4)] aX12_isOpen_31 lkX12_89_X12 okX12_asksOf sh115 rfl rfl rfl (Nat.le_of_ble_eq_true rfl) (Nat.le_refl _) (Mt_mono h (fun rv I8 h => ?_))
    obtain ⟨v9, rfl, h⟩ := h
    refine J_r1 ?_
    refine J_icmp_lt aX12_isOpen_34 (fun q => ?_) (fun q => ?_)
    · replace h := h.1 q
      refine J_iconst (nI 0) aX12_isOpen_41 (by decide +kernel) ?_
      exact J_zret aX12_isOpen_42 rfl (by decide +kernel) h
    · replace h := h.2 q
      refine J_iconst (nI 1) aX12_isOpen_37 (by decide +kernel) ?_
      refine J_goto aX12_isOpen_38 ?_
      exact J_zret aX12_isOpen_42 rfl (by decide +kernel) h
theorem aX12_wouldShow_0 : decode mX12_wouldShow.2.1 0 = .ok (.aload_n 0, 1) ∧ 0 + 1 = 1 := ⟨by decide +kernel, rfl⟩
theorem aX12_wouldShow_1 : decode mX12_wouldShow.2.1 1 = .ok (.iload_n 1, 1) ∧ 1 + 1 = 2 := ⟨by decide +kernel, rfl⟩
theorem aX12_wouldShow_2 : decode mX12_wouldShow.2.1 2 = .ok (.iconst 4, 1) ∧ 2 + 1 = 3 := ⟨by decide +kernel, rfl⟩
theorem aX12_wouldShow_3 : decode mX12_wouldShow.2.1 3 = .ok (.invokevirtual 80, 3) ∧ 3 + 3 = 6 := ⟨by decide +kernel, rfl⟩
theorem aX12_wouldShow_6 : decode mX12_wouldShow.2.1 6 = .ok (.ifCond .ne 24, 3) ∧ ((6 : Nat) : Int) + 24 = ((30 : Nat) : Int) ∧ 6 + 3 = 9 := ⟨by decide +kernel, by decide, rfl⟩
theorem aX12_wouldShow_9 : decode mX12_wouldShow.2.1 9 = .ok (.aload_n 0, 1) ∧ 9 + 1 = 10 := ⟨by decide +kernel, rfl⟩
theorem aX12_wouldShow_10 : decode mX12_wouldShow.2.1 10 = .ok (.iload_n 1, 1) ∧ 10 + 1 = 11 := ⟨by decide +kernel, rfl⟩
theorem aX12_wouldShow_11 : decode mX12_wouldShow.2.1 11 = .ok (.invokevirtual 86, 3) ∧ 11 + 3 = 14 := ⟨by decide +kernel, rfl⟩
theorem aX12_wouldShow_14 : decode mX12_wouldShow.2.1 14 = .ok (.iconst 2, 1) ∧ 14 + 1 = 15 := ⟨by decide +kernel, rfl⟩
theorem aX12_wouldShow_15 : decode mX12_wouldShow.2.1 15 = .ok (.if_icmp .le 15, 3) ∧ ((15 : Nat) : Int) + 15 = ((30 : Nat) : Int) ∧ 15 + 3 = 18 := ⟨by decide +kernel, by decide, rfl⟩
theorem aX12_wouldShow_18 : decode mX12_wouldShow.2.1 18 = .ok (.aload_n 0, 1) ∧ 18 + 1 = 19 := ⟨by decide +kernel, rfl⟩
theorem aX12_wouldShow_19 : decode mX12_wouldShow.2.1 19 = .ok (.iload_n 1, 1) ∧ 19 + 1 = 20 := ⟨by decide +kernel, rfl⟩
theorem aX12_wouldShow_20 : decode mX12_wouldShow.2.1 20 = .ok (.invokevirtual 92, 3) ∧ 20 + 3 = 23 := ⟨by decide +kernel, rfl⟩
theorem aX12_wouldShow_23 : decode mX12_wouldShow.2.1 23 = .ok (.ifCond .eq 7, 3) ∧ ((23 : Nat) : Int) + 7 = ((30 : Nat) : Int) ∧ 23 + 3 = 26 := ⟨by decide +kernel, by decide, rfl⟩
theorem aX12_wouldShow_26 : decode mX12_wouldShow.2.1 26 = .ok (.iconst 1, 1) ∧ 26 + 1 = 27 := ⟨by decide +kernel, rfl⟩
theorem aX12_wouldShow_27 : decode mX12_wouldShow.2.1 27 = .ok (.goto 4, 3) ∧ ((27 : Nat) : Int) + 4 = ((31 : Nat) : Int) := ⟨by decide +kernel, by decide⟩
theorem aX12_wouldShow_30 : decode mX12_wouldShow.2.1 30 = .ok (.iconst 0, 1) ∧ 30 + 1 = 31 := ⟨by decide +kernel, rfl⟩
theorem aX12_wouldShow_31 : decode mX12_wouldShow.2.1 31 = .ok (.ireturn, 1) := by decide +kernel
theorem S_X12_wouldShow {E : EE} {d : Nat} {I : IH} {Q : QT} (x1 : Int32) (h :
(Mt E d mX12_get [.ref (eb E + 115), .int x1, .int (nI 4)] I (fun rv I1 => ∃ v2 : Int32, rv = some (.int v2) ∧
 ((¬ v2 = 0 → Q (some (.int (nI 0))) I1) ∧
 (v2 = 0 → (Mt E d mX12_lightsOf [.ref (eb E + 115), .int x1] I1 (fun rv I3 => ∃ v4 : Int32, rv = some (.int v4) ∧
 ((v4 ≤ (nI 2) → Q (some (.int (nI 0))) I3) ∧
 (¬ v4 ≤ (nI 2) → (Mt E d mX12_isOpen [.ref (eb E + 115), .int x1] I3 (fun rv I5 => ∃ v6 : Int32, rv = some (.int v6) ∧
 ((v6 = 0 → Q (some (.int (nI 0))) I5) ∧
 (¬ v6 = 0 → Q (some (.int (nI 1))) I5))))))))))))) : Mt E (d + 1) mX12_wouldShow [.ref (eb E + 115), .int x1] I Q := by
  refine Mt_of [(0, .ref (eb E + 115)), (1, .int x1)] (by decide +kernel) (by simp [lg_sl, Value.category, mX12_wouldShow]) rfl ?_
  refine J_aload_n 0 aX12_wouldShow_0 rfl ?_
  refine J_iload_n 1 aX12_wouldShow_1 rfl ?_
  refine J_iconst (nI 4) aX12_wouldShow_2 (by decide +kernel) ?_
  refine J_callV [.int x1, .int (nI 4)] [] aX12_wouldShow_3 lkX12_80_X12 okX12_get sh115 rfl rfl rfl (Nat.le_of_ble_eq_true rfl) (Nat.le_refl _) (Mt_mono h (fun rv I1 h => ?_))
  obtain ⟨v2, rfl, h⟩ := h
  refine J_r1 ?_
  refine J_if_ne aX12_wouldShow_6 (fun q => ?_) (fun q => ?_)
  · replace h := h.1 q
    refine J_iconst (nI 0) aX12_wouldShow_30 (by decide +kernel) ?_
    exact J_zret aX12_wouldShow_31 rfl (by decide +kernel) h
  · replace h := h.2 q
    refine J_aload_n 0 aX12_wouldShow_9 rfl ?_
    refine J_iload_n 1 aX12_wouldShow_10 rfl ?_
    refine J_callV [.int x1] [] aX12_wouldShow_11 lkX12_86_X12 okX12_lightsOf sh115 rfl rfl rfl (Nat.le_of_ble_eq_true rfl) (Nat.le_refl _) (Mt_mono h (fun rv I3 h => ?_))
    obtain ⟨v4, rfl, h⟩ := h
    refine J_r1 ?_
    refine J_iconst (nI 2) aX12_wouldShow_14 (by decide +kernel) ?_
    refine J_icmp_le aX12_wouldShow_15 (fun q => ?_) (fun q => ?_)
    · replace h := h.1 q
      refine J_iconst (nI 0) aX12_wouldShow_30 (by decide +kernel) ?_
      exact J_zret aX12_wouldShow_31 rfl (by decide +kernel) h
    · replace h := h.2 q
      refine J_aload_n 0 aX12_wouldShow_18 rfl ?_
      refine J_iload_n 1 aX12_wouldShow_19 rfl ?_
      refine J_callV [.int x1] [] aX12_wouldShow_20 lkX12_92_X12 okX12_isOpen sh115 rfl rfl rfl (Nat.le_of_ble_eq_true rfl) (Nat.le_refl _) (Mt_mono h (fun rv I5 h => ?_))
      obtain ⟨v6, rfl, h⟩ := h
      refine J_r1 ?_
      refine J_if_eq aX12_wouldShow_23 (fun q => ?_) (fun q => ?_)
      · replace h := h.1 q
        refine J_iconst (nI 0) aX12_wouldShow_30 (by decide +kernel) ?_
        exact J_zret aX12_wouldShow_31 rfl (by decide +kernel) h
      · replace h := h.2 q
        refine J_iconst (nI 1) aX12_wouldShow_26 (by decide +kernel) ?_
        refine J_goto aX12_wouldShow_27 ?_
        exact J_zret aX12_wouldShow_31 rfl (by decide +kernel) h
theorem aX12_scenesGoOn_0 : decode mX12_scenesGoOn.2.1 0 = .ok (.iconst 0, 1) ∧ 0 + 1 = 1 := ⟨by decide +kernel, rfl⟩
theorem aX12_scenesGoOn_1 : decode mX12_scenesGoOn.2.1 1 = .ok (.istore_n 1, 1) ∧ 1 + 1 = 2 := ⟨by decide +kernel, rfl⟩
theorem aX12_scenesGoOn_2 : decode mX12_scenesGoOn.2.1 2 = .ok (.iload_n 1, 1) ∧ 2 + 1 = 3 := ⟨by decide +kernel, rfl⟩
theorem aX12_scenesGoOn_3 : decode mX12_scenesGoOn.2.1 3 = .ok (.aload_n 0, 1) ∧ 3 + 1 = 4 := ⟨by decide +kernel, rfl⟩
theorem aX12_scenesGoOn_4 : decode mX12_scenesGoOn.2.1 4 = .ok (.getfield 9, 3) ∧ 4 + 3 = 7 := ⟨by decide +kernel, rfl⟩
theorem aX12_scenesGoOn_7 : decode mX12_scenesGoOn.2.1 7 = .ok (.bipush 6, 2) ∧ 7 + 2 = 9 := ⟨by decide +kernel, rfl⟩
theorem aX12_scenesGoOn_9 : decode mX12_scenesGoOn.2.1 9 = .ok (.iaload, 1) ∧ 9 + 1 = 10 := ⟨by decide +kernel, rfl⟩
theorem aX12_scenesGoOn_10 : decode mX12_scenesGoOn.2.1 10 = .ok (.if_icmp .ge 36, 3) ∧ ((10 : Nat) : Int) + 36 = ((46 : Nat) : Int) ∧ 10 + 3 = 13 := ⟨by decide +kernel, by decide, rfl⟩
theorem aX12_scenesGoOn_13 : decode mX12_scenesGoOn.2.1 13 = .ok (.aload_n 0, 1) ∧ 13 + 1 = 14 := ⟨by decide +kernel, rfl⟩
theorem aX12_scenesGoOn_14 : decode mX12_scenesGoOn.2.1 14 = .ok (.iload_n 1, 1) ∧ 14 + 1 = 15 := ⟨by decide +kernel, rfl⟩
theorem aX12_scenesGoOn_15 : decode mX12_scenesGoOn.2.1 15 = .ok (.iconst 1, 1) ∧ 15 + 1 = 16 := ⟨by decide +kernel, rfl⟩
theorem aX12_scenesGoOn_16 : decode mX12_scenesGoOn.2.1 16 = .ok (.aload_n 0, 1) ∧ 16 + 1 = 17 := ⟨by decide +kernel, rfl⟩
theorem aX12_scenesGoOn_17 : decode mX12_scenesGoOn.2.1 17 = .ok (.iload_n 1, 1) ∧ 17 + 1 = 18 := ⟨by decide +kernel, rfl⟩
theorem aX12_scenesGoOn_18 : decode mX12_scenesGoOn.2.1 18 = .ok (.iconst 0, 1) ∧ 18 + 1 = 19 := ⟨by decide +kernel, rfl⟩
theorem aX12_scenesGoOn_19 : decode mX12_scenesGoOn.2.1 19 = .ok (.invokevirtual 80, 3) ∧ 19 + 3 = 22 := ⟨by decide +kernel, rfl⟩
theorem aX12_scenesGoOn_22 : decode mX12_scenesGoOn.2.1 22 = .ok (.aload_n 0, 1) ∧ 22 + 1 = 23 := ⟨by decide +kernel, rfl⟩
theorem aX12_scenesGoOn_23 : decode mX12_scenesGoOn.2.1 23 = .ok (.iload_n 1, 1) ∧ 23 + 1 = 24 := ⟨by decide +kernel, rfl⟩
theorem aX12_scenesGoOn_24 : decode mX12_scenesGoOn.2.1 24 = .ok (.iconst 1, 1) ∧ 24 + 1 = 25 := ⟨by decide +kernel, rfl⟩
theorem aX12_scenesGoOn_25 : decode mX12_scenesGoOn.2.1 25 = .ok (.invokevirtual 80, 3) ∧ 25 + 3 = 28 := ⟨by decide +kernel, rfl⟩
theorem aX12_scenesGoOn_28 : decode mX12_scenesGoOn.2.1 28 = .ok (.aload_n 0, 1) ∧ 28 + 1 = 29 := ⟨by decide +kernel, rfl⟩
theorem aX12_scenesGoOn_29 : decode mX12_scenesGoOn.2.1 29 = .ok (.getfield 9, 3) ∧ 29 + 3 = 32 := ⟨by decide +kernel, rfl⟩
theorem aX12_scenesGoOn_32 : decode mX12_scenesGoOn.2.1 32 = .ok (.iconst 0, 1) ∧ 32 + 1 = 33 := ⟨by decide +kernel, rfl⟩
theorem aX12_scenesGoOn_33 : decode mX12_scenesGoOn.2.1 33 = .ok (.iaload, 1) ∧ 33 + 1 = 34 := ⟨by decide +kernel, rfl⟩
theorem aX12_scenesGoOn_34 : decode mX12_scenesGoOn.2.1 34 = .ok (.invokestatic 96, 3) ∧ 34 + 3 = 37 := ⟨by decide +kernel, rfl⟩
theorem aX12_scenesGoOn_37 : decode mX12_scenesGoOn.2.1 37 = .ok (.invokevirtual 100, 3) ∧ 37 + 3 = 40 := ⟨by decide +kernel, rfl⟩
theorem aX12_scenesGoOn_40 : decode mX12_scenesGoOn.2.1 40 = .ok (.iinc 1 1, 3) ∧ 40 + 3 = 43 := ⟨by decide +kernel, rfl⟩
theorem aX12_scenesGoOn_43 : decode mX12_scenesGoOn.2.1 43 = .ok (.goto (-41), 3) ∧ ((43 : Nat) : Int) + (-41) = ((2 : Nat) : Int) := ⟨by decide +kernel, by decide⟩
theorem aX12_scenesGoOn_46 : decode mX12_scenesGoOn.2.1 46 = .ok (.return_, 1) := by decide +kernel
theorem S_X12_scenesGoOn {E : EE} {d : Nat} {I : IH} {Q : QT}  (h :
J E (d + 1) mX12_scenesGoOn 2 [(0, .ref (eb E + 115)), (1, .int (nI 0))] [] I Q) : Mt E (d + 1) mX12_scenesGoOn [.ref (eb E + 115)] I Q := by
  refine Mt_of [(0, .ref (eb E + 115))] (by decide +kernel) (by simp [lg_sl, Value.category, mX12_scenesGoOn]) rfl ?_
  refine J_iconst (nI 0) aX12_scenesGoOn_0 (by decide +kernel) ?_
  refine J_istore_n [(1, .int (nI 0)), (0, .ref (eb E + 115))] aX12_scenesGoOn_1 (by decide) rfl ?_
  refine J_pick [1, 0] rfl ?_
  exact h
theorem S_X12_scenesGoOn_2 {E : EE} {d : Nat} {I : IH} {Q : QT} (x1 : Int32) (h :
(((I 116 6) ≤ x1 → Q none I) ∧
 (¬ (I 116 6) ≤ x1 → (Mt E d mX12_get [.ref (eb E + 115), .int x1, .int (nI 0)] I (fun rv I1 => ∃ v2 : Int32, rv = some (.int v2) ∧
 (Mt E d mX12_get [.ref (eb E + 115), .int x1, .int (nI 1)] I1 (fun rv I3 => ∃ v4 : Int32, rv = some (.int v4) ∧
 (Mt E d mX12_sceneBy [.int v2, .int v4, .int (I3 116 0)] I3 (fun rv I5 => ∃ v6 : Int32, rv = some (.int v6) ∧
 (Mt E d mX12_puts [.ref (eb E + 115), .int x1, .int (nI 1), .int v6] I5 (fun rv I7 => rv = none ∧
 J E (d + 1) mX12_scenesGoOn 2 [(0, .ref (eb E + 115)), (1, .int (x1 + nI 1))] [] I7 Q))))))))))) : J E (d + 1) mX12_scenesGoOn 2 [(0, .ref (eb E + 115)), (1, .int x1)] [] I Q := by
  refine J_iload_n 1 aX12_scenesGoOn_2 rfl ?_
  refine J_aload_n 0 aX12_scenesGoOn_3 rfl ?_
  refine J_getR aX12_scenesGoOn_4 flX12_9 sh115 rfl ?_
  refine J_bipush (nI 6) aX12_scenesGoOn_7 (by decide +kernel) ?_
  refine J_iaload 6 aX12_scenesGoOn_9 sh116 rfl (by decide) (by decide) ?_
  refine J_icmp_ge aX12_scenesGoOn_10 (fun q => ?_) (fun q => ?_)
  · replace h := h.1 q
    exact J_vret aX12_scenesGoOn_46 rfl h
  · replace h := h.2 q
    refine J_aload_n 0 aX12_scenesGoOn_13 rfl ?_
    refine J_iload_n 1 aX12_scenesGoOn_14 rfl ?_
    refine J_iconst (nI 1) aX12_scenesGoOn_15 (by decide +kernel) ?_
    refine J_aload_n 0 aX12_scenesGoOn_16 rfl ?_
    refine J_iload_n 1 aX12_scenesGoOn_17 rfl ?_
    refine J_iconst (nI 0) aX12_scenesGoOn_18 (by decide +kernel) ?_
    refine J_callV [.int x1, .int (nI 0)] [.int (nI 1), .int x1, .ref (eb E + 115)] aX12_scenesGoOn_19 lkX12_80_X12 okX12_get sh115 rfl rfl rfl (Nat.le_of_ble_eq_true rfl) (Nat.le_refl _) (Mt_mono h (fun rv I1 h => ?_))
    obtain ⟨v2, rfl, h⟩ := h
    refine J_r1 ?_
    refine J_aload_n 0 aX12_scenesGoOn_22 rfl ?_
    refine J_iload_n 1 aX12_scenesGoOn_23 rfl ?_
    refine J_iconst (nI 1) aX12_scenesGoOn_24 (by decide +kernel) ?_
    refine J_callV [.int x1, .int (nI 1)] [.int v2, .int (nI 1), .int x1, .ref (eb E + 115)] aX12_scenesGoOn_25 lkX12_80_X12 okX12_get sh115 rfl rfl rfl (Nat.le_of_ble_eq_true rfl) (Nat.le_refl _) (Mt_mono h (fun rv I3 h => ?_))
    obtain ⟨v4, rfl, h⟩ := h
    refine J_r1 ?_
    refine J_aload_n 0 aX12_scenesGoOn_28 rfl ?_
    refine J_getR aX12_scenesGoOn_29 flX12_9 sh115 rfl ?_
    refine J_iconst (nI 0) aX12_scenesGoOn_32 (by decide +kernel) ?_
    refine J_iaload 0 aX12_scenesGoOn_33 sh116 rfl (by decide) (by decide) ?_
    refine J_callS [.int v2, .int v4, .int (I3 116 0)] [.int (nI 1), .int x1, .ref (eb E + 115)] aX12_scenesGoOn_34 lkX12_96 okX12_sceneBy rfl rfl (Nat.le_of_ble_eq_true rfl) (Nat.le_refl _) (Mt_mono h (fun rv I5 h => ?_))
    obtain ⟨v6, rfl, h⟩ := h
    refine J_r1 ?_
    refine J_callV [.int x1, .int (nI 1), .int v6] [] aX12_scenesGoOn_37 lkX12_100_X12 okX12_puts sh115 rfl rfl rfl (Nat.le_of_ble_eq_true rfl) (Nat.le_refl _) (Mt_mono h (fun rv I7 h => ?_))
    obtain ⟨rfl, h⟩ := h
    refine J_r0 ?_
    refine J_iinc (x1 + nI 1) [(1, .int (x1 + nI 1)), (0, .ref (eb E + 115))] 1 aX12_scenesGoOn_40 rfl (by first | rfl | (congr 1; decide +kernel)) (by decide) rfl ?_
    refine J_goto aX12_scenesGoOn_43 ?_
    refine J_pick [1, 0] rfl ?_
    exact h
theorem aX12_knownOf_0 : decode mX12_knownOf.2.1 0 = .ok (.iload_n 1, 1) ∧ 0 + 1 = 1 := ⟨by decide +kernel, rfl⟩
theorem aX12_knownOf_1 : decode mX12_knownOf.2.1 1 = .ok (.ifCond .ne 12, 3) ∧ ((1 : Nat) : Int) + 12 = ((13 : Nat) : Int) ∧ 1 + 3 = 4 := ⟨by decide +kernel, by decide, rfl⟩
theorem aX12_knownOf_4 : decode mX12_knownOf.2.1 4 = .ok (.aload_n 0, 1) ∧ 4 + 1 = 5 := ⟨by decide +kernel, rfl⟩
theorem aX12_knownOf_5 : decode mX12_knownOf.2.1 5 = .ok (.getfield 9, 3) ∧ 5 + 3 = 8 := ⟨by decide +kernel, rfl⟩
theorem aX12_knownOf_8 : decode mX12_knownOf.2.1 8 = .ok (.iconst 0, 1) ∧ 8 + 1 = 9 := ⟨by decide +kernel, rfl⟩
theorem aX12_knownOf_9 : decode mX12_knownOf.2.1 9 = .ok (.iaload, 1) ∧ 9 + 1 = 10 := ⟨by decide +kernel, rfl⟩
theorem aX12_knownOf_10 : decode mX12_knownOf.2.1 10 = .ok (.goto 45, 3) ∧ ((10 : Nat) : Int) + 45 = ((55 : Nat) : Int) := ⟨by decide +kernel, by decide⟩
theorem aX12_knownOf_13 : decode mX12_knownOf.2.1 13 = .ok (.iload_n 1, 1) ∧ 13 + 1 = 14 := ⟨by decide +kernel, rfl⟩
theorem aX12_knownOf_14 : decode mX12_knownOf.2.1 14 = .ok (.iconst 1, 1) ∧ 14 + 1 = 15 := ⟨by decide +kernel, rfl⟩
theorem aX12_knownOf_15 : decode mX12_knownOf.2.1 15 = .ok (.if_icmp .ne 11, 3) ∧ ((15 : Nat) : Int) + 11 = ((26 : Nat) : Int) ∧ 15 + 3 = 18 := ⟨by decide +kernel, by decide, rfl⟩
theorem aX12_knownOf_18 : decode mX12_knownOf.2.1 18 = .ok (.aload_n 0, 1) ∧ 18 + 1 = 19 := ⟨by decide +kernel, rfl⟩
theorem aX12_knownOf_19 : decode mX12_knownOf.2.1 19 = .ok (.iload_n 2, 1) ∧ 19 + 1 = 20 := ⟨by decide +kernel, rfl⟩
theorem aX12_knownOf_20 : decode mX12_knownOf.2.1 20 = .ok (.invokevirtual 86, 3) ∧ 20 + 3 = 23 := ⟨by decide +kernel, rfl⟩
theorem aX12_knownOf_23 : decode mX12_knownOf.2.1 23 = .ok (.goto 32, 3) ∧ ((23 : Nat) : Int) + 32 = ((55 : Nat) : Int) := ⟨by decide +kernel, by decide⟩
theorem aX12_knownOf_26 : decode mX12_knownOf.2.1 26 = .ok (.iload_n 1, 1) ∧ 26 + 1 = 27 := ⟨by decide +kernel, rfl⟩
theorem aX12_knownOf_27 : decode mX12_knownOf.2.1 27 = .ok (.iconst 2, 1) ∧ 27 + 1 = 28 := ⟨by decide +kernel, rfl⟩
theorem aX12_knownOf_28 : decode mX12_knownOf.2.1 28 = .ok (.if_icmp .ne 12, 3) ∧ ((28 : Nat) : Int) + 12 = ((40 : Nat) : Int) ∧ 28 + 3 = 31 := ⟨by decide +kernel, by decide, rfl⟩
theorem aX12_knownOf_31 : decode mX12_knownOf.2.1 31 = .ok (.aload_n 0, 1) ∧ 31 + 1 = 32 := ⟨by decide +kernel, rfl⟩
theorem aX12_knownOf_32 : decode mX12_knownOf.2.1 32 = .ok (.iload_n 2, 1) ∧ 32 + 1 = 33 := ⟨by decide +kernel, rfl⟩
theorem aX12_knownOf_33 : decode mX12_knownOf.2.1 33 = .ok (.iconst 2, 1) ∧ 33 + 1 = 34 := ⟨by decide +kernel, rfl⟩
theorem aX12_knownOf_34 : decode mX12_knownOf.2.1 34 = .ok (.invokevirtual 80, 3) ∧ 34 + 3 = 37 := ⟨by decide +kernel, rfl⟩
theorem aX12_knownOf_37 : decode mX12_knownOf.2.1 37 = .ok (.goto 18, 3) ∧ ((37 : Nat) : Int) + 18 = ((55 : Nat) : Int) := ⟨by decide +kernel, by decide⟩
theorem aX12_knownOf_40 : decode mX12_knownOf.2.1 40 = .ok (.iload_n 1, 1) ∧ 40 + 1 = 41 := ⟨by decide +kernel, rfl⟩
theorem aX12_knownOf_41 : decode mX12_knownOf.2.1 41 = .ok (.iconst 3, 1) ∧ 41 + 1 = 42 := ⟨by decide +kernel, rfl⟩
theorem aX12_knownOf_42 : decode mX12_knownOf.2.1 42 = .ok (.if_icmp .ne 12, 3) ∧ ((42 : Nat) : Int) + 12 = ((54 : Nat) : Int) ∧ 42 + 3 = 45 := ⟨by decide +kernel, by decide, rfl⟩
theorem aX12_knownOf_45 : decode mX12_knownOf.2.1 45 = .ok (.aload_n 0, 1) ∧ 45 + 1 = 46 := ⟨by decide +kernel, rfl⟩
theorem aX12_knownOf_46 : decode mX12_knownOf.2.1 46 = .ok (.getfield 9, 3) ∧ 46 + 3 = 49 := ⟨by decide +kernel, rfl⟩
theorem aX12_knownOf_49 : decode mX12_knownOf.2.1 49 = .ok (.iconst 3, 1) ∧ 49 + 1 = 50 := ⟨by decide +kernel, rfl⟩
theorem aX12_knownOf_50 : decode mX12_knownOf.2.1 50 = .ok (.iaload, 1) ∧ 50 + 1 = 51 := ⟨by decide +kernel, rfl⟩
theorem aX12_knownOf_51 : decode mX12_knownOf.2.1 51 = .ok (.goto 4, 3) ∧ ((51 : Nat) : Int) + 4 = ((55 : Nat) : Int) := ⟨by decide +kernel, by decide⟩
theorem aX12_knownOf_54 : decode mX12_knownOf.2.1 54 = .ok (.iload_n 2, 1) ∧ 54 + 1 = 55 := ⟨by decide +kernel, rfl⟩
theorem aX12_knownOf_55 : decode mX12_knownOf.2.1 55 = .ok (.ireturn, 1) := by decide +kernel
theorem S_X12_knownOf {E : EE} {d : Nat} {I : IH} {Q : QT} (x1 : Int32) (x2 : Int32) (h :
((¬ x1 = 0 → ((¬ x1 = (nI 1) → ((¬ x1 = (nI 2) → ((¬ x1 = (nI 3) → Q (some (.int x2)) I) ∧
 (x1 = (nI 3) → Q (some (.int (I 116 3))) I))) ∧
 (x1 = (nI 2) → (Mt E d mX12_get [.ref (eb E + 115), .int x2, .int (nI 2)] I (fun rv I1 => ∃ v2 : Int32, rv = some (.int v2) ∧
 Q (some (.int v2)) I1))))) ∧
 (x1 = (nI 1) → (Mt E d mX12_lightsOf [.ref (eb E + 115), .int x2] I (fun rv I3 => ∃ v4 : Int32, rv = some (.int v4) ∧
 Q (some (.int v4)) I3))))) ∧
 (x1 = 0 → Q (some (.int (I 116 0))) I))) : Mt E (d + 1) mX12_knownOf [.ref (eb E + 115), .int x1, .int x2] I Q := by
  refine Mt_of [(0, .ref (eb E + 115)), (1, .int x1), (2, .int x2)] (by decide +kernel) (by simp [lg_sl, Value.category, mX12_knownOf]) rfl ?_
  refine J_iload_n 1 aX12_knownOf_0 rfl ?_
  refine J_if_ne aX12_knownOf_1 (fun q => ?_) (fun q => ?_)
  · replace h := h.1 q
    refine J_iload_n 1 aX12_knownOf_13 rfl ?_
    refine J_iconst (nI 1) aX12_knownOf_14 (by decide +kernel) ?_
    refine J_icmp_ne aX12_knownOf_15 (fun q => ?_) (fun q => ?_)
    · replace h := h.1 q
      refine J_iload_n 1 aX12_knownOf_26 rfl ?_
      refine J_iconst (nI 2) aX12_knownOf_27 (by decide +kernel) ?_
      refine J_icmp_ne aX12_knownOf_28 (fun q => ?_) (fun q => ?_)
      · replace h := h.1 q
        refine J_iload_n 1 aX12_knownOf_40 rfl ?_
        refine J_iconst (nI 3) aX12_knownOf_41 (by decide +kernel) ?_
        refine J_icmp_ne aX12_knownOf_42 (fun q => ?_) (fun q => ?_)
        · replace h := h.1 q
          refine J_iload_n 2 aX12_knownOf_54 rfl ?_
          exact J_iret aX12_knownOf_55 rfl h
        · replace h := h.2 q
          refine J_aload_n 0 aX12_knownOf_45 rfl ?_
          refine J_getR aX12_knownOf_46 flX12_9 sh115 rfl ?_
          refine J_iconst (nI 3) aX12_knownOf_49 (by decide +kernel) ?_
          refine J_iaload 3 aX12_knownOf_50 sh116 rfl (by decide) (by decide) ?_
          refine J_goto aX12_knownOf_51 ?_
          exact J_iret aX12_knownOf_55 rfl h
      · replace h := h.2 q
        refine J_aload_n 0 aX12_knownOf_31 rfl ?_
        refine J_iload_n 2 aX12_knownOf_32 rfl ?_
        refine J_iconst (nI 2) aX12_knownOf_33 (by decide +kernel) ?_
        refine J_callV [.int x2, .int (nI 2)] [] aX12_knownOf_34 lkX12_80_X12 okX12_get sh115 rfl rfl rfl (Nat.le_of_ble_eq_true rfl) (Nat.le_refl _) (Mt_mono h (fun rv I1 h => ?_))
        obtain ⟨v2, rfl, h⟩ := h
        refine J_r1 ?_
        refine J_goto aX12_knownOf_37 ?_
        exact J_iret aX12_knownOf_55 rfl h
    · replace h := h.2 q
      refine J_aload_n 0 aX12_knownOf_18 rfl ?_
      refine J_iload_n 2 aX12_knownOf_19 rfl ?_
      refine J_callV [.int x2] [] aX12_knownOf_20 lkX12_86_X12 okX12_lightsOf sh115 rfl rfl rfl (Nat.le_of_ble_eq_true rfl) (Nat.le_refl _) (Mt_mono h (fun rv I3 h => ?_))
      obtain ⟨v4, rfl, h⟩ := h
      refine J_r1 ?_
      refine J_goto aX12_knownOf_23 ?_
      exact J_iret aX12_knownOf_55 rfl h
  · replace h := h.2 q
    refine J_aload_n 0 aX12_knownOf_4 rfl ?_
    refine J_getR aX12_knownOf_5 flX12_9 sh115 rfl ?_
    refine J_iconst (nI 0) aX12_knownOf_8 (by decide +kernel) ?_
    refine J_iaload 0 aX12_knownOf_9 sh116 rfl (by decide) (by decide) ?_
    refine J_goto aX12_knownOf_10 ?_
    exact J_iret aX12_knownOf_55 rfl h
theorem aX12_joined_0 : decode mX12_joined.2.1 0 = .ok (.iload_n 0, 1) ∧ 0 + 1 = 1 := ⟨by decide +kernel, rfl⟩
theorem aX12_joined_1 : decode mX12_joined.2.1 1 = .ok (.tableswitch 78 10010 10013 #[31, 42, 53, 64], 31) := by decide +kernel
theorem aX12_joined_32 : decode mX12_joined.2.1 32 = .ok (.iload_n 1, 1) ∧ 32 + 1 = 33 := ⟨by decide +kernel, rfl⟩
theorem aX12_joined_33 : decode mX12_joined.2.1 33 = .ok (.iload_n 2, 1) ∧ 33 + 1 = 34 := ⟨by decide +kernel, rfl⟩
theorem aX12_joined_34 : decode mX12_joined.2.1 34 = .ok (.if_icmp .ge 7, 3) ∧ ((34 : Nat) : Int) + 7 = ((41 : Nat) : Int) ∧ 34 + 3 = 37 := ⟨by decide +kernel, by decide, rfl⟩
theorem aX12_joined_37 : decode mX12_joined.2.1 37 = .ok (.iconst 1, 1) ∧ 37 + 1 = 38 := ⟨by decide +kernel, rfl⟩
theorem aX12_joined_38 : decode mX12_joined.2.1 38 = .ok (.goto 4, 3) ∧ ((38 : Nat) : Int) + 4 = ((42 : Nat) : Int) := ⟨by decide +kernel, by decide⟩
theorem aX12_joined_41 : decode mX12_joined.2.1 41 = .ok (.iconst 0, 1) ∧ 41 + 1 = 42 := ⟨by decide +kernel, rfl⟩
theorem aX12_joined_42 : decode mX12_joined.2.1 42 = .ok (.ireturn, 1) := by decide +kernel
theorem aX12_joined_43 : decode mX12_joined.2.1 43 = .ok (.iload_n 1, 1) ∧ 43 + 1 = 44 := ⟨by decide +kernel, rfl⟩
theorem aX12_joined_44 : decode mX12_joined.2.1 44 = .ok (.iload_n 2, 1) ∧ 44 + 1 = 45 := ⟨by decide +kernel, rfl⟩
theorem aX12_joined_45 : decode mX12_joined.2.1 45 = .ok (.if_icmp .ne 7, 3) ∧ ((45 : Nat) : Int) + 7 = ((52 : Nat) : Int) ∧ 45 + 3 = 48 := ⟨by decide +kernel, by decide, rfl⟩
theorem aX12_joined_48 : decode mX12_joined.2.1 48 = .ok (.iconst 1, 1) ∧ 48 + 1 = 49 := ⟨by decide +kernel, rfl⟩
theorem aX12_joined_49 : decode mX12_joined.2.1 49 = .ok (.goto 4, 3) ∧ ((49 : Nat) : Int) + 4 = ((53 : Nat) : Int) := ⟨by decide +kernel, by decide⟩
theorem aX12_joined_52 : decode mX12_joined.2.1 52 = .ok (.iconst 0, 1) ∧ 52 + 1 = 53 := ⟨by decide +kernel, rfl⟩
theorem aX12_joined_53 : decode mX12_joined.2.1 53 = .ok (.ireturn, 1) := by decide +kernel
theorem aX12_joined_54 : decode mX12_joined.2.1 54 = .ok (.iload_n 1, 1) ∧ 54 + 1 = 55 := ⟨by decide +kernel, rfl⟩
theorem aX12_joined_55 : decode mX12_joined.2.1 55 = .ok (.iload_n 2, 1) ∧ 55 + 1 = 56 := ⟨by decide +kernel, rfl⟩
theorem aX12_joined_56 : decode mX12_joined.2.1 56 = .ok (.if_icmp .le 7, 3) ∧ ((56 : Nat) : Int) + 7 = ((63 : Nat) : Int) ∧ 56 + 3 = 59 := ⟨by decide +kernel, by decide, rfl⟩
theorem aX12_joined_59 : decode mX12_joined.2.1 59 = .ok (.iconst 1, 1) ∧ 59 + 1 = 60 := ⟨by decide +kernel, rfl⟩
theorem aX12_joined_60 : decode mX12_joined.2.1 60 = .ok (.goto 4, 3) ∧ ((60 : Nat) : Int) + 4 = ((64 : Nat) : Int) := ⟨by decide +kernel, by decide⟩
theorem aX12_joined_63 : decode mX12_joined.2.1 63 = .ok (.iconst 0, 1) ∧ 63 + 1 = 64 := ⟨by decide +kernel, rfl⟩
theorem aX12_joined_64 : decode mX12_joined.2.1 64 = .ok (.ireturn, 1) := by decide +kernel
theorem aX12_joined_65 : decode mX12_joined.2.1 65 = .ok (.iload_n 1, 1) ∧ 65 + 1 = 66 := ⟨by decide +kernel, rfl⟩
theorem aX12_joined_66 : decode mX12_joined.2.1 66 = .ok (.ifCond .eq 11, 3) ∧ ((66 : Nat) : Int) + 11 = ((77 : Nat) : Int) ∧ 66 + 3 = 69 := ⟨by decide +kernel, by decide, rfl⟩
theorem aX12_joined_69 : decode mX12_joined.2.1 69 = .ok (.iload_n 2, 1) ∧ 69 + 1 = 70 := ⟨by decide +kernel, rfl⟩
theorem aX12_joined_70 : decode mX12_joined.2.1 70 = .ok (.ifCond .eq 7, 3) ∧ ((70 : Nat) : Int) + 7 = ((77 : Nat) : Int) ∧ 70 + 3 = 73 := ⟨by decide +kernel, by decide, rfl⟩
theorem aX12_joined_73 : decode mX12_joined.2.1 73 = .ok (.iconst 1, 1) ∧ 73 + 1 = 74 := ⟨by decide +kernel, rfl⟩
theorem aX12_joined_74 : decode mX12_joined.2.1 74 = .ok (.goto 4, 3) ∧ ((74 : Nat) : Int) + 4 = ((78 : Nat) : Int) := ⟨by decide +kernel, by decide⟩
theorem aX12_joined_77 : decode mX12_joined.2.1 77 = .ok (.iconst 0, 1) ∧ 77 + 1 = 78 := ⟨by decide +kernel, rfl⟩
theorem aX12_joined_78 : decode mX12_joined.2.1 78 = .ok (.ireturn, 1) := by decide +kernel
theorem aX12_joined_79 : decode mX12_joined.2.1 79 = .ok (.iload_n 1, 1) ∧ 79 + 1 = 80 := ⟨by decide +kernel, rfl⟩
theorem aX12_joined_80 : decode mX12_joined.2.1 80 = .ok (.ifCond .ne 7, 3) ∧ ((80 : Nat) : Int) + 7 = ((87 : Nat) : Int) ∧ 80 + 3 = 83 := ⟨by decide +kernel, by decide, rfl⟩
theorem aX12_joined_83 : decode mX12_joined.2.1 83 = .ok (.iload_n 2, 1) ∧ 83 + 1 = 84 := ⟨by decide +kernel, rfl⟩
theorem aX12_joined_84 : decode mX12_joined.2.1 84 = .ok (.ifCond .eq 7, 3) ∧ ((84 : Nat) : Int) + 7 = ((91 : Nat) : Int) ∧ 84 + 3 = 87 := ⟨by decide +kernel, by decide, rfl⟩
theorem aX12_joined_87 : decode mX12_joined.2.1 87 = .ok (.iconst 1, 1) ∧ 87 + 1 = 88 := ⟨by decide +kernel, rfl⟩
theorem aX12_joined_88 : decode mX12_joined.2.1 88 = .ok (.goto 4, 3) ∧ ((88 : Nat) : Int) + 4 = ((92 : Nat) : Int) := ⟨by decide +kernel, by decide⟩
theorem aX12_joined_91 : decode mX12_joined.2.1 91 = .ok (.iconst 0, 1) ∧ 91 + 1 = 92 := ⟨by decide +kernel, rfl⟩
theorem aX12_joined_92 : decode mX12_joined.2.1 92 = .ok (.ireturn, 1) := by decide +kernel
theorem S_X12_joined {E : EE} {d : Nat} {I : IH} {Q : QT} (x0 : Int32) (x1 : Int32) (x2 : Int32) (h :
((x0 = (nI 10010) → ((x2 ≤ x1 → Q (some (.int (nI 0))) I) ∧
 (¬ x2 ≤ x1 → Q (some (.int (nI 1))) I))) ∧
 ((x0 = (nI 10011) → ((¬ x1 = x2 → Q (some (.int (nI 0))) I) ∧
 (x1 = x2 → Q (some (.int (nI 1))) I))) ∧
 ((x0 = (nI 10012) → ((x1 ≤ x2 → Q (some (.int (nI 0))) I) ∧
 (¬ x1 ≤ x2 → Q (some (.int (nI 1))) I))) ∧
 ((x0 = (nI 10013) → ((x1 = 0 → Q (some (.int (nI 0))) I) ∧
 (¬ x1 = 0 → ((x2 = 0 → Q (some (.int (nI 0))) I) ∧
 (¬ x2 = 0 → Q (some (.int (nI 1))) I))))) ∧
 (¬ x0 = (nI 10010) ∧ ¬ x0 = (nI 10011) ∧ ¬ x0 = (nI 10012) ∧ ¬ x0 = (nI 10013) → ((¬ x1 = 0 → Q (some (.int (nI 1))) I) ∧
 (x1 = 0 → ((x2 = 0 → Q (some (.int (nI 0))) I) ∧
 (¬ x2 = 0 → Q (some (.int (nI 1))) I)))))))))) : Mt E d mX12_joined [.int x0, .int x1, .int x2] I Q := by
  refine Mt_of [(0, .int x0), (1, .int x1), (2, .int x2)] (by decide +kernel) (by simp [lg_sl, Value.category, mX12_joined]) rfl ?_
  refine J_iload_n 0 aX12_joined_0 rfl ?_
  by_cases q10010 : x0 = (nI 10010)
  · replace h := h.1 q10010
    refine J_tswIn (nI 10010) aX12_joined_1 (off := 31) (tgt := 32) (by decide +kernel) q10010 ?_
    refine J_iload_n 1 aX12_joined_32 rfl ?_
    refine J_iload_n 2 aX12_joined_33 rfl ?_
    refine J_icmp_ge aX12_joined_34 (fun q => ?_) (fun q => ?_)
    · replace h := h.1 q
      refine J_iconst (nI 0) aX12_joined_41 (by decide +kernel) ?_
      exact J_iret aX12_joined_42 rfl h
    · replace h := h.2 q
      refine J_iconst (nI 1) aX12_joined_37 (by decide +kernel) ?_
      refine J_goto aX12_joined_38 ?_
      exact J_iret aX12_joined_42 rfl h
  replace h := h.2
  by_cases q10011 : x0 = (nI 10011)
  · replace h := h.1 q10011
    refine J_tswIn (nI 10011) aX12_joined_1 (off := 42) (tgt := 43) (by decide +kernel) q10011 ?_
    refine J_iload_n 1 aX12_joined_43 rfl ?_
    refine J_iload_n 2 aX12_joined_44 rfl ?_
    refine J_icmp_ne aX12_joined_45 (fun q => ?_) (fun q => ?_)
    · replace h := h.1 q
      refine J_iconst (nI 0) aX12_joined_52 (by decide +kernel) ?_
      exact J_iret aX12_joined_53 rfl h
    · replace h := h.2 q
      refine J_iconst (nI 1) aX12_joined_48 (by decide +kernel) ?_
      refine J_goto aX12_joined_49 ?_
      exact J_iret aX12_joined_53 rfl h
  replace h := h.2
  by_cases q10012 : x0 = (nI 10012)
  · replace h := h.1 q10012
    refine J_tswIn (nI 10012) aX12_joined_1 (off := 53) (tgt := 54) (by decide +kernel) q10012 ?_
    refine J_iload_n 1 aX12_joined_54 rfl ?_
    refine J_iload_n 2 aX12_joined_55 rfl ?_
    refine J_icmp_le aX12_joined_56 (fun q => ?_) (fun q => ?_)
    · replace h := h.1 q
      refine J_iconst (nI 0) aX12_joined_63 (by decide +kernel) ?_
      exact J_iret aX12_joined_64 rfl h
    · replace h := h.2 q
      refine J_iconst (nI 1) aX12_joined_59 (by decide +kernel) ?_
      refine J_goto aX12_joined_60 ?_
      exact J_iret aX12_joined_64 rfl h
  replace h := h.2
  by_cases q10013 : x0 = (nI 10013)
  · replace h := h.1 q10013
    refine J_tswIn (nI 10013) aX12_joined_1 (off := 64) (tgt := 65) (by decide +kernel) q10013 ?_
    refine J_iload_n 1 aX12_joined_65 rfl ?_
    refine J_if_eq aX12_joined_66 (fun q => ?_) (fun q => ?_)
    · replace h := h.1 q
      refine J_iconst (nI 0) aX12_joined_77 (by decide +kernel) ?_
      exact J_iret aX12_joined_78 rfl h
    · replace h := h.2 q
      refine J_iload_n 2 aX12_joined_69 rfl ?_
      refine J_if_eq aX12_joined_70 (fun q => ?_) (fun q => ?_)
      · replace h := h.1 q
        refine J_iconst (nI 0) aX12_joined_77 (by decide +kernel) ?_
        exact J_iret aX12_joined_78 rfl h
      · replace h := h.2 q
        refine J_iconst (nI 1) aX12_joined_73 (by decide +kernel) ?_
        refine J_goto aX12_joined_74 ?_
        exact J_iret aX12_joined_78 rfl h
  replace h := h.2
  replace h := h ⟨q10010, q10011, q10012, q10013⟩
  refine J_tswOut aX12_joined_1 (tgt := 79) (by decide) (tsw_out (fun k h1 h2 hk => by
    have hh : k = 10010 ∨ k = 10011 ∨ k = 10012 ∨ k = 10013 := by omega
    rcases hh with rfl | rfl | rfl | rfl
    · exact q10010 (Int32.toInt_inj.mp (hk.trans (by decide +kernel)))
    · exact q10011 (Int32.toInt_inj.mp (hk.trans (by decide +kernel)))
    · exact q10012 (Int32.toInt_inj.mp (hk.trans (by decide +kernel)))
    · exact q10013 (Int32.toInt_inj.mp (hk.trans (by decide +kernel)))
    )) ?_
  refine J_iload_n 1 aX12_joined_79 rfl ?_
  refine J_if_ne aX12_joined_80 (fun q => ?_) (fun q => ?_)
  · replace h := h.1 q
    refine J_iconst (nI 1) aX12_joined_87 (by decide +kernel) ?_
    refine J_goto aX12_joined_88 ?_
    exact J_iret aX12_joined_92 rfl h
  · replace h := h.2 q
    refine J_iload_n 2 aX12_joined_83 rfl ?_
    refine J_if_eq aX12_joined_84 (fun q => ?_) (fun q => ?_)
    · replace h := h.1 q
      refine J_iconst (nI 0) aX12_joined_91 (by decide +kernel) ?_
      exact J_iret aX12_joined_92 rfl h
    · replace h := h.2 q
      refine J_iconst (nI 1) aX12_joined_87 (by decide +kernel) ?_
      refine J_goto aX12_joined_88 ?_
      exact J_iret aX12_joined_92 rfl h
theorem aX12_ruleOf_0 : decode mX12_ruleOf.2.1 0 = .ok (.aload_n 0, 1) ∧ 0 + 1 = 1 := ⟨by decide +kernel, rfl⟩
theorem aX12_ruleOf_1 : decode mX12_ruleOf.2.1 1 = .ok (.getfield 9, 3) ∧ 1 + 3 = 4 := ⟨by decide +kernel, rfl⟩
theorem aX12_ruleOf_4 : decode mX12_ruleOf.2.1 4 = .ok (.bipush 98, 2) ∧ 4 + 2 = 6 := ⟨by decide +kernel, rfl⟩
theorem aX12_ruleOf_6 : decode mX12_ruleOf.2.1 6 = .ok (.iconst 3, 1) ∧ 6 + 1 = 7 := ⟨by decide +kernel, rfl⟩
theorem aX12_ruleOf_7 : decode mX12_ruleOf.2.1 7 = .ok (.iload_n 1, 1) ∧ 7 + 1 = 8 := ⟨by decide +kernel, rfl⟩
theorem aX12_ruleOf_8 : decode mX12_ruleOf.2.1 8 = .ok (.imul, 1) ∧ 8 + 1 = 9 := ⟨by decide +kernel, rfl⟩
theorem aX12_ruleOf_9 : decode mX12_ruleOf.2.1 9 = .ok (.iadd, 1) ∧ 9 + 1 = 10 := ⟨by decide +kernel, rfl⟩
theorem aX12_ruleOf_10 : decode mX12_ruleOf.2.1 10 = .ok (.iload_n 2, 1) ∧ 10 + 1 = 11 := ⟨by decide +kernel, rfl⟩
theorem aX12_ruleOf_11 : decode mX12_ruleOf.2.1 11 = .ok (.iadd, 1) ∧ 11 + 1 = 12 := ⟨by decide +kernel, rfl⟩
theorem aX12_ruleOf_12 : decode mX12_ruleOf.2.1 12 = .ok (.iaload, 1) ∧ 12 + 1 = 13 := ⟨by decide +kernel, rfl⟩
theorem aX12_ruleOf_13 : decode mX12_ruleOf.2.1 13 = .ok (.ireturn, 1) := by decide +kernel
theorem S_X12_ruleOf {E : EE} {d : Nat} {I : IH} {Q : QT} (x1 : Int32) (x2 : Int32) (h :
(∃ j1 : Nat, (((nI 98) + ((nI 3) * x1)) + x2) = nI j1 ∧ j1 < 322 ∧ Q (some (.int (I 116 j1))) I)) : Mt E d mX12_ruleOf [.ref (eb E + 115), .int x1, .int x2] I Q := by
  refine Mt_of [(0, .ref (eb E + 115)), (1, .int x1), (2, .int x2)] (by decide +kernel) (by simp [lg_sl, Value.category, mX12_ruleOf]) rfl ?_
  refine J_aload_n 0 aX12_ruleOf_0 rfl ?_
  refine J_getR aX12_ruleOf_1 flX12_9 sh115 rfl ?_
  refine J_bipush (nI 98) aX12_ruleOf_4 (by decide +kernel) ?_
  refine J_iconst (nI 3) aX12_ruleOf_6 (by decide +kernel) ?_
  refine J_iload_n 1 aX12_ruleOf_7 rfl ?_
  refine J_imul aX12_ruleOf_8 ?_
  refine J_iadd aX12_ruleOf_9 ?_
  refine J_iload_n 2 aX12_ruleOf_10 rfl ?_
  refine J_iadd aX12_ruleOf_11 ?_
  obtain ⟨j1, e2, b3, h⟩ := h
  refine J_iaload j1 aX12_ruleOf_12 sh116 e2 b3 (by decide) ?_
  exact J_iret aX12_ruleOf_13 rfl h
theorem aX12_holdsFor_0 : decode mX12_holdsFor.2.1 0 = .ok (.iconst 0, 1) ∧ 0 + 1 = 1 := ⟨by decide +kernel, rfl⟩
theorem aX12_holdsFor_1 : decode mX12_holdsFor.2.1 1 = .ok (.istore_n 3, 1) ∧ 1 + 1 = 2 := ⟨by decide +kernel, rfl⟩
theorem aX12_holdsFor_2 : decode mX12_holdsFor.2.1 2 = .ok (.iload_n 1, 1) ∧ 2 + 1 = 3 := ⟨by decide +kernel, rfl⟩
theorem aX12_holdsFor_3 : decode mX12_holdsFor.2.1 3 = .ok (.ifCond .ne 7, 3) ∧ ((3 : Nat) : Int) + 7 = ((10 : Nat) : Int) ∧ 3 + 3 = 6 := ⟨by decide +kernel, by decide, rfl⟩
theorem aX12_holdsFor_6 : decode mX12_holdsFor.2.1 6 = .ok (.iconst 0, 1) ∧ 6 + 1 = 7 := ⟨by decide +kernel, rfl⟩
theorem aX12_holdsFor_7 : decode mX12_holdsFor.2.1 7 = .ok (.goto 11, 3) ∧ ((7 : Nat) : Int) + 11 = ((18 : Nat) : Int) := ⟨by decide +kernel, by decide⟩
theorem aX12_holdsFor_10 : decode mX12_holdsFor.2.1 10 = .ok (.aload_n 0, 1) ∧ 10 + 1 = 11 := ⟨by decide +kernel, rfl⟩
theorem aX12_holdsFor_11 : decode mX12_holdsFor.2.1 11 = .ok (.iload_n 1, 1) ∧ 11 + 1 = 12 := ⟨by decide +kernel, rfl⟩
theorem aX12_holdsFor_12 : decode mX12_holdsFor.2.1 12 = .ok (.iconst 1, 1) ∧ 12 + 1 = 13 := ⟨by decide +kernel, rfl⟩
theorem aX12_holdsFor_13 : decode mX12_holdsFor.2.1 13 = .ok (.isub, 1) ∧ 13 + 1 = 14 := ⟨by decide +kernel, rfl⟩
theorem aX12_holdsFor_14 : decode mX12_holdsFor.2.1 14 = .ok (.iconst 2, 1) ∧ 14 + 1 = 15 := ⟨by decide +kernel, rfl⟩
theorem aX12_holdsFor_15 : decode mX12_holdsFor.2.1 15 = .ok (.invokevirtual 104, 3) ∧ 15 + 3 = 18 := ⟨by decide +kernel, rfl⟩
theorem aX12_holdsFor_18 : decode mX12_holdsFor.2.1 18 = .ok (.istore 4, 2) ∧ 18 + 2 = 20 := ⟨by decide +kernel, rfl⟩
theorem aX12_holdsFor_20 : decode mX12_holdsFor.2.1 20 = .ok (.iload 4, 2) ∧ 20 + 2 = 22 := ⟨by decide +kernel, rfl⟩
theorem aX12_holdsFor_22 : decode mX12_holdsFor.2.1 22 = .ok (.aload_n 0, 1) ∧ 22 + 1 = 23 := ⟨by decide +kernel, rfl⟩
theorem aX12_holdsFor_23 : decode mX12_holdsFor.2.1 23 = .ok (.iload_n 1, 1) ∧ 23 + 1 = 24 := ⟨by decide +kernel, rfl⟩
theorem aX12_holdsFor_24 : decode mX12_holdsFor.2.1 24 = .ok (.iconst 2, 1) ∧ 24 + 1 = 25 := ⟨by decide +kernel, rfl⟩
theorem aX12_holdsFor_25 : decode mX12_holdsFor.2.1 25 = .ok (.invokevirtual 104, 3) ∧ 25 + 3 = 28 := ⟨by decide +kernel, rfl⟩
theorem aX12_holdsFor_28 : decode mX12_holdsFor.2.1 28 = .ok (.if_icmp .ge 124, 3) ∧ ((28 : Nat) : Int) + 124 = ((152 : Nat) : Int) ∧ 28 + 3 = 31 := ⟨by decide +kernel, by decide, rfl⟩
theorem aX12_holdsFor_31 : decode mX12_holdsFor.2.1 31 = .ok (.aload_n 0, 1) ∧ 31 + 1 = 32 := ⟨by decide +kernel, rfl⟩
theorem aX12_holdsFor_32 : decode mX12_holdsFor.2.1 32 = .ok (.getfield 9, 3) ∧ 32 + 3 = 35 := ⟨by decide +kernel, rfl⟩
theorem aX12_holdsFor_35 : decode mX12_holdsFor.2.1 35 = .ok (.bipush 122, 2) ∧ 35 + 2 = 37 := ⟨by decide +kernel, rfl⟩
theorem aX12_holdsFor_37 : decode mX12_holdsFor.2.1 37 = .ok (.iload 4, 2) ∧ 37 + 2 = 39 := ⟨by decide +kernel, rfl⟩
theorem aX12_holdsFor_39 : decode mX12_holdsFor.2.1 39 = .ok (.iadd, 1) ∧ 39 + 1 = 40 := ⟨by decide +kernel, rfl⟩
theorem aX12_holdsFor_40 : decode mX12_holdsFor.2.1 40 = .ok (.iaload, 1) ∧ 40 + 1 = 41 := ⟨by decide +kernel, rfl⟩
theorem aX12_holdsFor_41 : decode mX12_holdsFor.2.1 41 = .ok (.istore 5, 2) ∧ 41 + 2 = 43 := ⟨by decide +kernel, rfl⟩
theorem aX12_holdsFor_43 : decode mX12_holdsFor.2.1 43 = .ok (.iload 5, 2) ∧ 43 + 2 = 45 := ⟨by decide +kernel, rfl⟩
theorem aX12_holdsFor_45 : decode mX12_holdsFor.2.1 45 = .ok (.sipush 10010, 3) ∧ 45 + 3 = 48 := ⟨by decide +kernel, rfl⟩
theorem aX12_holdsFor_48 : decode mX12_holdsFor.2.1 48 = .ok (.if_icmp .ge 39, 3) ∧ ((48 : Nat) : Int) + 39 = ((87 : Nat) : Int) ∧ 48 + 3 = 51 := ⟨by decide +kernel, by decide, rfl⟩
theorem aX12_holdsFor_51 : decode mX12_holdsFor.2.1 51 = .ok (.aload_n 0, 1) ∧ 51 + 1 = 52 := ⟨by decide +kernel, rfl⟩
theorem aX12_holdsFor_52 : decode mX12_holdsFor.2.1 52 = .ok (.getfield 19, 3) ∧ 52 + 3 = 55 := ⟨by decide +kernel, rfl⟩
theorem aX12_holdsFor_55 : decode mX12_holdsFor.2.1 55 = .ok (.iload_n 3, 1) ∧ 55 + 1 = 56 := ⟨by decide +kernel, rfl⟩
theorem aX12_holdsFor_56 : decode mX12_holdsFor.2.1 56 = .ok (.iload 5, 2) ∧ 56 + 2 = 58 := ⟨by decide +kernel, rfl⟩
theorem aX12_holdsFor_58 : decode mX12_holdsFor.2.1 58 = .ok (.sipush 10000, 3) ∧ 58 + 3 = 61 := ⟨by decide +kernel, rfl⟩
theorem aX12_holdsFor_61 : decode mX12_holdsFor.2.1 61 = .ok (.if_icmp .ge 8, 3) ∧ ((61 : Nat) : Int) + 8 = ((69 : Nat) : Int) ∧ 61 + 3 = 64 := ⟨by decide +kernel, by decide, rfl⟩
theorem aX12_holdsFor_64 : decode mX12_holdsFor.2.1 64 = .ok (.iload 5, 2) ∧ 64 + 2 = 66 := ⟨by decide +kernel, rfl⟩
theorem aX12_holdsFor_66 : decode mX12_holdsFor.2.1 66 = .ok (.goto 14, 3) ∧ ((66 : Nat) : Int) + 14 = ((80 : Nat) : Int) := ⟨by decide +kernel, by decide⟩
theorem aX12_holdsFor_69 : decode mX12_holdsFor.2.1 69 = .ok (.aload_n 0, 1) ∧ 69 + 1 = 70 := ⟨by decide +kernel, rfl⟩
theorem aX12_holdsFor_70 : decode mX12_holdsFor.2.1 70 = .ok (.iload 5, 2) ∧ 70 + 2 = 72 := ⟨by decide +kernel, rfl⟩
theorem aX12_holdsFor_72 : decode mX12_holdsFor.2.1 72 = .ok (.sipush 10000, 3) ∧ 72 + 3 = 75 := ⟨by decide +kernel, rfl⟩
theorem aX12_holdsFor_75 : decode mX12_holdsFor.2.1 75 = .ok (.isub, 1) ∧ 75 + 1 = 76 := ⟨by decide +kernel, rfl⟩
theorem aX12_holdsFor_76 : decode mX12_holdsFor.2.1 76 = .ok (.iload_n 2, 1) ∧ 76 + 1 = 77 := ⟨by decide +kernel, rfl⟩
theorem aX12_holdsFor_77 : decode mX12_holdsFor.2.1 77 = .ok (.invokevirtual 107, 3) ∧ 77 + 3 = 80 := ⟨by decide +kernel, rfl⟩
theorem aX12_holdsFor_80 : decode mX12_holdsFor.2.1 80 = .ok (.iastore, 1) ∧ 80 + 1 = 81 := ⟨by decide +kernel, rfl⟩
theorem aX12_holdsFor_81 : decode mX12_holdsFor.2.1 81 = .ok (.iinc 3 1, 3) ∧ 81 + 3 = 84 := ⟨by decide +kernel, rfl⟩
theorem aX12_holdsFor_84 : decode mX12_holdsFor.2.1 84 = .ok (.goto 62, 3) ∧ ((84 : Nat) : Int) + 62 = ((146 : Nat) : Int) := ⟨by decide +kernel, by decide⟩
theorem aX12_holdsFor_87 : decode mX12_holdsFor.2.1 87 = .ok (.iload 5, 2) ∧ 87 + 2 = 89 := ⟨by decide +kernel, rfl⟩
theorem aX12_holdsFor_89 : decode mX12_holdsFor.2.1 89 = .ok (.sipush 10015, 3) ∧ 89 + 3 = 92 := ⟨by decide +kernel, rfl⟩
theorem aX12_holdsFor_92 : decode mX12_holdsFor.2.1 92 = .ok (.if_icmp .ne 24, 3) ∧ ((92 : Nat) : Int) + 24 = ((116 : Nat) : Int) ∧ 92 + 3 = 95 := ⟨by decide +kernel, by decide, rfl⟩
theorem aX12_holdsFor_95 : decode mX12_holdsFor.2.1 95 = .ok (.aload_n 0, 1) ∧ 95 + 1 = 96 := ⟨by decide +kernel, rfl⟩
theorem aX12_holdsFor_96 : decode mX12_holdsFor.2.1 96 = .ok (.getfield 19, 3) ∧ 96 + 3 = 99 := ⟨by decide +kernel, rfl⟩
theorem aX12_holdsFor_99 : decode mX12_holdsFor.2.1 99 = .ok (.iload_n 3, 1) ∧ 99 + 1 = 100 := ⟨by decide +kernel, rfl⟩
theorem aX12_holdsFor_100 : decode mX12_holdsFor.2.1 100 = .ok (.iconst 1, 1) ∧ 100 + 1 = 101 := ⟨by decide +kernel, rfl⟩
theorem aX12_holdsFor_101 : decode mX12_holdsFor.2.1 101 = .ok (.isub, 1) ∧ 101 + 1 = 102 := ⟨by decide +kernel, rfl⟩
theorem aX12_holdsFor_102 : decode mX12_holdsFor.2.1 102 = .ok (.iconst 1, 1) ∧ 102 + 1 = 103 := ⟨by decide +kernel, rfl⟩
theorem aX12_holdsFor_103 : decode mX12_holdsFor.2.1 103 = .ok (.aload_n 0, 1) ∧ 103 + 1 = 104 := ⟨by decide +kernel, rfl⟩
theorem aX12_holdsFor_104 : decode mX12_holdsFor.2.1 104 = .ok (.getfield 19, 3) ∧ 104 + 3 = 107 := ⟨by decide +kernel, rfl⟩
theorem aX12_holdsFor_107 : decode mX12_holdsFor.2.1 107 = .ok (.iload_n 3, 1) ∧ 107 + 1 = 108 := ⟨by decide +kernel, rfl⟩
theorem aX12_holdsFor_108 : decode mX12_holdsFor.2.1 108 = .ok (.iconst 1, 1) ∧ 108 + 1 = 109 := ⟨by decide +kernel, rfl⟩
theorem aX12_holdsFor_109 : decode mX12_holdsFor.2.1 109 = .ok (.isub, 1) ∧ 109 + 1 = 110 := ⟨by decide +kernel, rfl⟩
theorem aX12_holdsFor_110 : decode mX12_holdsFor.2.1 110 = .ok (.iaload, 1) ∧ 110 + 1 = 111 := ⟨by decide +kernel, rfl⟩
theorem aX12_holdsFor_111 : decode mX12_holdsFor.2.1 111 = .ok (.isub, 1) ∧ 111 + 1 = 112 := ⟨by decide +kernel, rfl⟩
theorem aX12_holdsFor_112 : decode mX12_holdsFor.2.1 112 = .ok (.iastore, 1) ∧ 112 + 1 = 113 := ⟨by decide +kernel, rfl⟩
theorem aX12_holdsFor_113 : decode mX12_holdsFor.2.1 113 = .ok (.goto 33, 3) ∧ ((113 : Nat) : Int) + 33 = ((146 : Nat) : Int) := ⟨by decide +kernel, by decide⟩
theorem aX12_holdsFor_116 : decode mX12_holdsFor.2.1 116 = .ok (.iinc 3 (-1), 3) ∧ 116 + 3 = 119 := ⟨by decide +kernel, rfl⟩
theorem aX12_holdsFor_119 : decode mX12_holdsFor.2.1 119 = .ok (.aload_n 0, 1) ∧ 119 + 1 = 120 := ⟨by decide +kernel, rfl⟩
theorem aX12_holdsFor_120 : decode mX12_holdsFor.2.1 120 = .ok (.getfield 19, 3) ∧ 120 + 3 = 123 := ⟨by decide +kernel, rfl⟩
theorem aX12_holdsFor_123 : decode mX12_holdsFor.2.1 123 = .ok (.iload_n 3, 1) ∧ 123 + 1 = 124 := ⟨by decide +kernel, rfl⟩
theorem aX12_holdsFor_124 : decode mX12_holdsFor.2.1 124 = .ok (.iconst 1, 1) ∧ 124 + 1 = 125 := ⟨by decide +kernel, rfl⟩
theorem aX12_holdsFor_125 : decode mX12_holdsFor.2.1 125 = .ok (.isub, 1) ∧ 125 + 1 = 126 := ⟨by decide +kernel, rfl⟩
theorem aX12_holdsFor_126 : decode mX12_holdsFor.2.1 126 = .ok (.iload 5, 2) ∧ 126 + 2 = 128 := ⟨by decide +kernel, rfl⟩
theorem aX12_holdsFor_128 : decode mX12_holdsFor.2.1 128 = .ok (.aload_n 0, 1) ∧ 128 + 1 = 129 := ⟨by decide +kernel, rfl⟩
theorem aX12_holdsFor_129 : decode mX12_holdsFor.2.1 129 = .ok (.getfield 19, 3) ∧ 129 + 3 = 132 := ⟨by decide +kernel, rfl⟩
theorem aX12_holdsFor_132 : decode mX12_holdsFor.2.1 132 = .ok (.iload_n 3, 1) ∧ 132 + 1 = 133 := ⟨by decide +kernel, rfl⟩
theorem aX12_holdsFor_133 : decode mX12_holdsFor.2.1 133 = .ok (.iconst 1, 1) ∧ 133 + 1 = 134 := ⟨by decide +kernel, rfl⟩
theorem aX12_holdsFor_134 : decode mX12_holdsFor.2.1 134 = .ok (.isub, 1) ∧ 134 + 1 = 135 := ⟨by decide +kernel, rfl⟩
theorem aX12_holdsFor_135 : decode mX12_holdsFor.2.1 135 = .ok (.iaload, 1) ∧ 135 + 1 = 136 := ⟨by decide +kernel, rfl⟩
theorem aX12_holdsFor_136 : decode mX12_holdsFor.2.1 136 = .ok (.aload_n 0, 1) ∧ 136 + 1 = 137 := ⟨by decide +kernel, rfl⟩
theorem aX12_holdsFor_137 : decode mX12_holdsFor.2.1 137 = .ok (.getfield 19, 3) ∧ 137 + 3 = 140 := ⟨by decide +kernel, rfl⟩
theorem aX12_holdsFor_140 : decode mX12_holdsFor.2.1 140 = .ok (.iload_n 3, 1) ∧ 140 + 1 = 141 := ⟨by decide +kernel, rfl⟩
theorem aX12_holdsFor_141 : decode mX12_holdsFor.2.1 141 = .ok (.iaload, 1) ∧ 141 + 1 = 142 := ⟨by decide +kernel, rfl⟩
theorem aX12_holdsFor_142 : decode mX12_holdsFor.2.1 142 = .ok (.invokestatic 110, 3) ∧ 142 + 3 = 145 := ⟨by decide +kernel, rfl⟩
theorem aX12_holdsFor_145 : decode mX12_holdsFor.2.1 145 = .ok (.iastore, 1) ∧ 145 + 1 = 146 := ⟨by decide +kernel, rfl⟩
theorem aX12_holdsFor_146 : decode mX12_holdsFor.2.1 146 = .ok (.iinc 4 1, 3) ∧ 146 + 3 = 149 := ⟨by decide +kernel, rfl⟩
theorem aX12_holdsFor_149 : decode mX12_holdsFor.2.1 149 = .ok (.goto (-129), 3) ∧ ((149 : Nat) : Int) + (-129) = ((20 : Nat) : Int) := ⟨by decide +kernel, by decide⟩
theorem aX12_holdsFor_152 : decode mX12_holdsFor.2.1 152 = .ok (.iload_n 3, 1) ∧ 152 + 1 = 153 := ⟨by decide +kernel, rfl⟩
theorem aX12_holdsFor_153 : decode mX12_holdsFor.2.1 153 = .ok (.ifCond .eq 12, 3) ∧ ((153 : Nat) : Int) + 12 = ((165 : Nat) : Int) ∧ 153 + 3 = 156 := ⟨by decide +kernel, by decide, rfl⟩
theorem aX12_holdsFor_156 : decode mX12_holdsFor.2.1 156 = .ok (.aload_n 0, 1) ∧ 156 + 1 = 157 := ⟨by decide +kernel, rfl⟩
theorem aX12_holdsFor_157 : decode mX12_holdsFor.2.1 157 = .ok (.getfield 19, 3) ∧ 157 + 3 = 160 := ⟨by decide +kernel, rfl⟩
theorem aX12_holdsFor_160 : decode mX12_holdsFor.2.1 160 = .ok (.iconst 0, 1) ∧ 160 + 1 = 161 := ⟨by decide +kernel, rfl⟩
theorem aX12_holdsFor_161 : decode mX12_holdsFor.2.1 161 = .ok (.iaload, 1) ∧ 161 + 1 = 162 := ⟨by decide +kernel, rfl⟩
theorem aX12_holdsFor_162 : decode mX12_holdsFor.2.1 162 = .ok (.ifCond .eq 7, 3) ∧ ((162 : Nat) : Int) + 7 = ((169 : Nat) : Int) ∧ 162 + 3 = 165 := ⟨by decide +kernel, by decide, rfl⟩
theorem aX12_holdsFor_165 : decode mX12_holdsFor.2.1 165 = .ok (.iconst 1, 1) ∧ 165 + 1 = 166 := ⟨by decide +kernel, rfl⟩
theorem aX12_holdsFor_166 : decode mX12_holdsFor.2.1 166 = .ok (.goto 4, 3) ∧ ((166 : Nat) : Int) + 4 = ((170 : Nat) : Int) := ⟨by decide +kernel, by decide⟩
theorem aX12_holdsFor_169 : decode mX12_holdsFor.2.1 169 = .ok (.iconst 0, 1) ∧ 169 + 1 = 170 := ⟨by decide +kernel, rfl⟩
theorem aX12_holdsFor_170 : decode mX12_holdsFor.2.1 170 = .ok (.ireturn, 1) := by decide +kernel
theorem S_X12_holdsFor {E : EE} {d : Nat} {I : IH} {Q : QT} (x1 : Int32) (x2 : Int32) (h :
((¬ x1 = 0 → (Mt E d mX12_ruleOf [.ref (eb E + 115), .int (x1 - (nI 1)), .int (nI 2)] I (fun rv I1 => ∃ v2 : Int32, rv = some (.int v2) ∧
 J E (d + 1) mX12_holdsFor 20 [(0, .ref (eb E + 115)), (1, .int x1), (2, .int x2), (3, .int (nI 0)), (4, .int v2)] [] I1 Q))) ∧
 (x1 = 0 → J E (d + 1) mX12_holdsFor 20 [(0, .ref (eb E + 115)), (1, .int x1), (2, .int x2), (3, .int (nI 0)), (4, .int (nI 0))] [] I Q))) : Mt E (d + 1) mX12_holdsFor [.ref (eb E + 115), .int x1, .int x2] I Q := by
  refine Mt_of [(0, .ref (eb E + 115)), (1, .int x1), (2, .int x2)] (by decide +kernel) (by simp [lg_sl, Value.category, mX12_holdsFor]) rfl ?_
  refine J_iconst (nI 0) aX12_holdsFor_0 (by decide +kernel) ?_
  refine J_istore_n [(3, .int (nI 0)), (0, .ref (eb E + 115)), (1, .int x1), (2, .int x2)] aX12_holdsFor_1 (by decide) rfl ?_
  refine J_iload_n 2 aX12_holdsFor_2 rfl ?_
  refine J_if_ne aX12_holdsFor_3 (fun q => ?_) (fun q => ?_)
  · replace h := h.1 q
    refine J_aload_n 1 aX12_holdsFor_10 rfl ?_
    refine J_iload_n 2 aX12_holdsFor_11 rfl ?_
    refine J_iconst (nI 1) aX12_holdsFor_12 (by decide +kernel) ?_
    refine J_isub aX12_holdsFor_13 ?_
    refine J_iconst (nI 2) aX12_holdsFor_14 (by decide +kernel) ?_
    refine J_callV [.int (x1 - (nI 1)), .int (nI 2)] [] aX12_holdsFor_15 lkX12_104_X12 okX12_ruleOf sh115 rfl rfl rfl (Nat.le_of_ble_eq_true rfl) (Nat.le_refl _) (Mt_mono h (fun rv I1 h => ?_))
    obtain ⟨v2, rfl, h⟩ := h
    refine J_r1 ?_
    refine J_istore [(4, .int v2), (3, .int (nI 0)), (0, .ref (eb E + 115)), (1, .int x1), (2, .int x2)] aX12_holdsFor_18 (by decide) rfl ?_
    refine J_pick [2, 3, 4, 1, 0] rfl ?_
    exact h
  · replace h := h.2 q
    refine J_iconst (nI 0) aX12_holdsFor_6 (by decide +kernel) ?_
    refine J_goto aX12_holdsFor_7 ?_
    refine J_istore [(4, .int (nI 0)), (3, .int (nI 0)), (0, .ref (eb E + 115)), (1, .int x1), (2, .int x2)] aX12_holdsFor_18 (by decide) rfl ?_
    refine J_pick [2, 3, 4, 1, 0] rfl ?_
    exact h
theorem S_X12_holdsFor_20 {E : EE} {d : Nat} {I : IH} {Q : QT} (x1 : Int32) (x2 : Int32) (x3 : Int32) (x4 : Int32) (h :
(Mt E d mX12_ruleOf [.ref (eb E + 115), .int x1, .int (nI 2)] I (fun rv I1 => ∃ v2 : Int32, rv = some (.int v2) ∧
 ((v2 ≤ x4 → ((x3 = 0 → Q (some (.int (nI 1))) I1) ∧
 (¬ x3 = 0 → (((I1 119 0) = 0 → Q (some (.int (nI 0))) I1) ∧
 (¬ (I1 119 0) = 0 → Q (some (.int (nI 1))) I1))))) ∧
 (¬ v2 ≤ x4 → (∃ j3 : Nat, ((nI 122) + x4) = nI j3 ∧ j3 < 322 ∧ (((nI 10010) ≤ (I1 116 j3) → ((¬ (I1 116 j3) = (nI 10015) → (∃ j6 : Nat, ((x3 + (-1)) - (nI 1)) = nI j6 ∧ j6 < 200 ∧ (∃ j9 : Nat, (x3 + (-1)) = nI j9 ∧ j9 < 200 ∧ (Mt E d mX12_joined [.int (I1 116 j3), .int (I1 119 j6), .int (I1 119 j9)] I1 (fun rv I12 => ∃ v13 : Int32, rv = some (.int v13) ∧
 (∃ j16 : Nat, ((x3 + (-1)) - (nI 1)) = nI j16 ∧ j16 < 200 ∧ (∀ I14 : IH, I14 = stI I12 119 j16 v13 →
 J E (d + 1) mX12_holdsFor 20 [(0, .ref (eb E + 115)), (1, .int x1), (2, .int x2), (3, .int (x3 + (-1))), (4, .int (x4 + nI 1))] [] I14 Q))))))) ∧
 ((I1 116 j3) = (nI 10015) → (∃ j19 : Nat, (x3 - (nI 1)) = nI j19 ∧ j19 < 200 ∧ (∃ j24 : Nat, (x3 - (nI 1)) = nI j24 ∧ j24 < 200 ∧ (∀ I22 : IH, I22 = stI I1 119 j24 ((nI 1) - (I1 119 j19)) →
 J E (d + 1) mX12_holdsFor 20 [(0, .ref (eb E + 115)), (1, .int x1), (2, .int x2), (3, .int x3), (4, .int (x4 + nI 1))] [] I22 Q)))))) ∧
 (¬ (nI 10010) ≤ (I1 116 j3) → (((nI 10000) ≤ (I1 116 j3) → (Mt E d mX12_knownOf [.ref (eb E + 115), .int ((I1 116 j3) - (nI 10000)), .int x2] I1 (fun rv I27 => ∃ v28 : Int32, rv = some (.int v28) ∧
 (∃ j31 : Nat, x3 = nI j31 ∧ j31 < 200 ∧ (∀ I29 : IH, I29 = stI I27 119 j31 v28 →
 J E (d + 1) mX12_holdsFor 20 [(0, .ref (eb E + 115)), (1, .int x1), (2, .int x2), (3, .int (x3 + nI 1)), (4, .int (x4 + nI 1))] [] I29 Q))))) ∧
 (¬ (nI 10000) ≤ (I1 116 j3) → (∃ j36 : Nat, x3 = nI j36 ∧ j36 < 200 ∧ (∀ I34 : IH, I34 = stI I1 119 j36 (I1 116 j3) →
 J E (d + 1) mX12_holdsFor 20 [(0, .ref (eb E + 115)), (1, .int x1), (2, .int x2), (3, .int (x3 + nI 1)), (4, .int (x4 + nI 1))] [] I34 Q)))))))))))) : J E (d + 1) mX12_holdsFor 20 [(0, .ref (eb E + 115)), (1, .int x1), (2, .int x2), (3, .int x3), (4, .int x4)] [] I Q := by
  refine J_iload 4 aX12_holdsFor_20 rfl ?_
  refine J_aload_n 0 aX12_holdsFor_22 rfl ?_
  refine J_iload_n 1 aX12_holdsFor_23 rfl ?_
  refine J_iconst (nI 2) aX12_holdsFor_24 (by decide +kernel) ?_
  refine J_callV [.int x1, .int (nI 2)] [.int x4] aX12_holdsFor_25 lkX12_104_X12 okX12_ruleOf sh115 rfl rfl rfl (Nat.le_of_ble_eq_true rfl) (Nat.le_refl _) (Mt_mono h (fun rv I1 h => ?_))
  obtain ⟨v2, rfl, h⟩ := h
  refine J_r1 ?_
  refine J_icmp_ge aX12_holdsFor_28 (fun q => ?_) (fun q => ?_)
  · replace h := h.1 q
    refine J_iload_n 3 aX12_holdsFor_152 rfl ?_
    refine J_if_eq aX12_holdsFor_153 (fun q => ?_) (fun q => ?_)
    · replace h := h.1 q
      refine J_iconst (nI 1) aX12_holdsFor_165 (by decide +kernel) ?_
      refine J_goto aX12_holdsFor_166 ?_
      exact J_zret aX12_holdsFor_170 rfl (by decide +kernel) h
    · replace h := h.2 q
      refine J_aload_n 0 aX12_holdsFor_156 rfl ?_
      refine J_getR aX12_holdsFor_157 flX12_19 sh115 rfl ?_
      refine J_iconst (nI 0) aX12_holdsFor_160 (by decide +kernel) ?_
      refine J_iaload 0 aX12_holdsFor_161 sh119 rfl (by decide) (by decide) ?_
      refine J_if_eq aX12_holdsFor_162 (fun q => ?_) (fun q => ?_)
      · replace h := h.1 q
        refine J_iconst (nI 0) aX12_holdsFor_169 (by decide +kernel) ?_
        exact J_zret aX12_holdsFor_170 rfl (by decide +kernel) h
      · replace h := h.2 q
        refine J_iconst (nI 1) aX12_holdsFor_165 (by decide +kernel) ?_
        refine J_goto aX12_holdsFor_166 ?_
        exact J_zret aX12_holdsFor_170 rfl (by decide +kernel) h
  · replace h := h.2 q
    refine J_aload_n 0 aX12_holdsFor_31 rfl ?_
    refine J_getR aX12_holdsFor_32 flX12_9 sh115 rfl ?_
    refine J_bipush (nI 122) aX12_holdsFor_35 (by decide +kernel) ?_
    refine J_iload 4 aX12_holdsFor_37 rfl ?_
    refine J_iadd aX12_holdsFor_39 ?_
    obtain ⟨j3, e4, b5, h⟩ := h
    refine J_iaload j3 aX12_holdsFor_40 sh116 e4 b5 (by decide) ?_
    refine J_istore [(5, .int (I1 116 j3)), (0, .ref (eb E + 115)), (1, .int x1), (2, .int x2), (3, .int x3), (4, .int x4)] aX12_holdsFor_41 (by decide) rfl ?_
    refine J_iload 0 aX12_holdsFor_43 rfl ?_
    refine J_sipush (nI 10010) aX12_holdsFor_45 (by decide +kernel) ?_
    refine J_icmp_ge aX12_holdsFor_48 (fun q => ?_) (fun q => ?_)
    · replace h := h.1 q
      refine J_iload 0 aX12_holdsFor_87 rfl ?_
      refine J_sipush (nI 10015) aX12_holdsFor_89 (by decide +kernel) ?_
      refine J_icmp_ne aX12_holdsFor_92 (fun q => ?_) (fun q => ?_)
      · replace h := h.1 q
        refine J_iinc (x3 + (-1)) [(3, .int (x3 + (-1))), (5, .int (I1 116 j3)), (0, .ref (eb E + 115)), (1, .int x1), (2, .int x2), (4, .int x4)] 4 aX12_holdsFor_116 rfl (by first | rfl | (congr 1; decide +kernel)) (by decide) rfl ?_
        refine J_aload_n 2 aX12_holdsFor_119 rfl ?_
        refine J_getR aX12_holdsFor_120 flX12_19 sh115 rfl ?_
        refine J_iload_n 0 aX12_holdsFor_123 rfl ?_
        refine J_iconst (nI 1) aX12_holdsFor_124 (by decide +kernel) ?_
        refine J_isub aX12_holdsFor_125 ?_
        refine J_iload 1 aX12_holdsFor_126 rfl ?_
        refine J_aload_n 2 aX12_holdsFor_128 rfl ?_
        refine J_getR aX12_holdsFor_129 flX12_19 sh115 rfl ?_
        refine J_iload_n 0 aX12_holdsFor_132 rfl ?_
        refine J_iconst (nI 1) aX12_holdsFor_133 (by decide +kernel) ?_
        refine J_isub aX12_holdsFor_134 ?_
        obtain ⟨j6, e7, b8, h⟩ := h
        refine J_iaload j6 aX12_holdsFor_135 sh119 e7 b8 (by decide) ?_
        refine J_aload_n 2 aX12_holdsFor_136 rfl ?_
        refine J_getR aX12_holdsFor_137 flX12_19 sh115 rfl ?_
        refine J_iload_n 0 aX12_holdsFor_140 rfl ?_
        obtain ⟨j9, e10, b11, h⟩ := h
        refine J_iaload j9 aX12_holdsFor_141 sh119 e10 b11 (by decide) ?_
        refine J_callS [.int (I1 116 j3), .int (I1 119 j6), .int (I1 119 j9)] [.int ((x3 + (-1)) - (nI 1)), .ref (eb E + 119)] aX12_holdsFor_142 lkX12_110 okX12_joined rfl rfl (Nat.le_of_ble_eq_true rfl) (Nat.le_refl _) (Mt_mono h (fun rv I12 h => ?_))
        obtain ⟨v13, rfl, h⟩ := h
        refine J_r1 ?_
        obtain ⟨j16, e17, b18, h⟩ := h
        refine J_iastore j16 aX12_holdsFor_145 sh119 e17 b18 (by decide) (fun I14 e15 => ?_)
        replace h := h I14 e15
        refine J_iinc (x4 + nI 1) [(4, .int (x4 + nI 1)), (3, .int (x3 + (-1))), (5, .int (I1 116 j3)), (0, .ref (eb E + 115)), (1, .int x1), (2, .int x2)] 5 aX12_holdsFor_146 rfl (by first | rfl | (congr 1; decide +kernel)) (by decide) rfl ?_
        refine J_goto aX12_holdsFor_149 ?_
        refine J_pick [3, 4, 5, 1, 0] rfl ?_
        exact h
      · replace h := h.2 q
        refine J_aload_n 1 aX12_holdsFor_95 rfl ?_
        refine J_getR aX12_holdsFor_96 flX12_19 sh115 rfl ?_
        refine J_iload_n 4 aX12_holdsFor_99 rfl ?_
        refine J_iconst (nI 1) aX12_holdsFor_100 (by decide +kernel) ?_
        refine J_isub aX12_holdsFor_101 ?_
        refine J_iconst (nI 1) aX12_holdsFor_102 (by decide +kernel) ?_
        refine J_aload_n 1 aX12_holdsFor_103 rfl ?_
        refine J_getR aX12_holdsFor_104 flX12_19 sh115 rfl ?_
        refine J_iload_n 4 aX12_holdsFor_107 rfl ?_
        refine J_iconst (nI 1) aX12_holdsFor_108 (by decide +kernel) ?_
        refine J_isub aX12_holdsFor_109 ?_
        obtain ⟨j19, e20, b21, h⟩ := h
        refine J_iaload j19 aX12_holdsFor_110 sh119 e20 b21 (by decide) ?_
        refine J_isub aX12_holdsFor_111 ?_
        obtain ⟨j24, e25, b26, h⟩ := h
        refine J_iastore j24 aX12_holdsFor_112 sh119 e25 b26 (by decide) (fun I22 e23 => ?_)
        replace h := h I22 e23
        refine J_goto aX12_holdsFor_113 ?_
        refine J_iinc (x4 + nI 1) [(4, .int (x4 + nI 1)), (5, .int (I1 116 j3)), (0, .ref (eb E + 115)), (1, .int x1), (2, .int x2), (3, .int x3)] 5 aX12_holdsFor_146 rfl (by first | rfl | (congr 1; decide +kernel)) (by decide) rfl ?_
        refine J_goto aX12_holdsFor_149 ?_
        refine J_pick [2, 3, 4, 5, 0] rfl ?_
        exact h
    · replace h := h.2 q
      refine J_aload_n 1 aX12_holdsFor_51 rfl ?_
      refine J_getR aX12_holdsFor_52 flX12_19 sh115 rfl ?_
      refine J_iload_n 4 aX12_holdsFor_55 rfl ?_
      refine J_iload 0 aX12_holdsFor_56 rfl ?_
      refine J_sipush (nI 10000) aX12_holdsFor_58 (by decide +kernel) ?_
      refine J_icmp_ge aX12_holdsFor_61 (fun q => ?_) (fun q => ?_)
      · replace h := h.1 q
        refine J_aload_n 1 aX12_holdsFor_69 rfl ?_
        refine J_iload 0 aX12_holdsFor_70 rfl ?_
        refine J_sipush (nI 10000) aX12_holdsFor_72 (by decide +kernel) ?_
        refine J_isub aX12_holdsFor_75 ?_
        refine J_iload_n 3 aX12_holdsFor_76 rfl ?_
        refine J_callV [.int ((I1 116 j3) - (nI 10000)), .int x2] [.int x3, .ref (eb E + 119)] aX12_holdsFor_77 lkX12_107_X12 okX12_knownOf sh115 rfl rfl rfl (Nat.le_of_ble_eq_true rfl) (Nat.le_refl _) (Mt_mono h (fun rv I27 h => ?_))
        obtain ⟨v28, rfl, h⟩ := h
        refine J_r1 ?_
        obtain ⟨j31, e32, b33, h⟩ := h
        refine J_iastore j31 aX12_holdsFor_80 sh119 e32 b33 (by decide) (fun I29 e30 => ?_)
        replace h := h I29 e30
        refine J_iinc (x3 + nI 1) [(3, .int (x3 + nI 1)), (5, .int (I1 116 j3)), (0, .ref (eb E + 115)), (1, .int x1), (2, .int x2), (4, .int x4)] 4 aX12_holdsFor_81 rfl (by first | rfl | (congr 1; decide +kernel)) (by decide) rfl ?_
        refine J_goto aX12_holdsFor_84 ?_
        refine J_iinc (x4 + nI 1) [(4, .int (x4 + nI 1)), (3, .int (x3 + nI 1)), (5, .int (I1 116 j3)), (0, .ref (eb E + 115)), (1, .int x1), (2, .int x2)] 5 aX12_holdsFor_146 rfl (by first | rfl | (congr 1; decide +kernel)) (by decide) rfl ?_
        refine J_goto aX12_holdsFor_149 ?_
        refine J_pick [3, 4, 5, 1, 0] rfl ?_
        exact h
      · replace h := h.2 q
        refine J_iload 0 aX12_holdsFor_64 rfl ?_
        refine J_goto aX12_holdsFor_66 ?_
        obtain ⟨j36, e37, b38, h⟩ := h
        refine J_iastore j36 aX12_holdsFor_80 sh119 e37 b38 (by decide) (fun I34 e35 => ?_)
        replace h := h I34 e35
        refine J_iinc (x3 + nI 1) [(3, .int (x3 + nI 1)), (5, .int (I1 116 j3)), (0, .ref (eb E + 115)), (1, .int x1), (2, .int x2), (4, .int x4)] 4 aX12_holdsFor_81 rfl (by first | rfl | (congr 1; decide +kernel)) (by decide) rfl ?_
        refine J_goto aX12_holdsFor_84 ?_
        refine J_iinc (x4 + nI 1) [(4, .int (x4 + nI 1)), (3, .int (x3 + nI 1)), (5, .int (I1 116 j3)), (0, .ref (eb E + 115)), (1, .int x1), (2, .int x2)] 5 aX12_holdsFor_146 rfl (by first | rfl | (congr 1; decide +kernel)) (by decide) rfl ?_
        refine J_goto aX12_holdsFor_149 ?_
        refine J_pick [3, 4, 5, 1, 0] rfl ?_
        exact h
theorem aX12_willOf_0 : decode mX12_willOf.2.1 0 = .ok (.iconst 0, 1) ∧ 0 + 1 = 1 := ⟨by decide +kernel, rfl⟩
theorem aX12_willOf_1 : decode mX12_willOf.2.1 1 = .ok (.istore_n 2, 1) ∧ 1 + 1 = 2 := ⟨by decide +kernel, rfl⟩
theorem aX12_willOf_2 : decode mX12_willOf.2.1 2 = .ok (.iload_n 2, 1) ∧ 2 + 1 = 3 := ⟨by decide +kernel, rfl⟩
theorem aX12_willOf_3 : decode mX12_willOf.2.1 3 = .ok (.aload_n 0, 1) ∧ 3 + 1 = 4 := ⟨by decide +kernel, rfl⟩
theorem aX12_willOf_4 : decode mX12_willOf.2.1 4 = .ok (.getfield 9, 3) ∧ 4 + 3 = 7 := ⟨by decide +kernel, rfl⟩
theorem aX12_willOf_7 : decode mX12_willOf.2.1 7 = .ok (.bipush 7, 2) ∧ 7 + 2 = 9 := ⟨by decide +kernel, rfl⟩
theorem aX12_willOf_9 : decode mX12_willOf.2.1 9 = .ok (.iaload, 1) ∧ 9 + 1 = 10 := ⟨by decide +kernel, rfl⟩
theorem aX12_willOf_10 : decode mX12_willOf.2.1 10 = .ok (.if_icmp .ge 43, 3) ∧ ((10 : Nat) : Int) + 43 = ((53 : Nat) : Int) ∧ 10 + 3 = 13 := ⟨by decide +kernel, by decide, rfl⟩
theorem aX12_willOf_13 : decode mX12_willOf.2.1 13 = .ok (.aload_n 0, 1) ∧ 13 + 1 = 14 := ⟨by decide +kernel, rfl⟩
theorem aX12_willOf_14 : decode mX12_willOf.2.1 14 = .ok (.iload_n 1, 1) ∧ 14 + 1 = 15 := ⟨by decide +kernel, rfl⟩
theorem aX12_willOf_15 : decode mX12_willOf.2.1 15 = .ok (.iconst 0, 1) ∧ 15 + 1 = 16 := ⟨by decide +kernel, rfl⟩
theorem aX12_willOf_16 : decode mX12_willOf.2.1 16 = .ok (.invokevirtual 80, 3) ∧ 16 + 3 = 19 := ⟨by decide +kernel, rfl⟩
theorem aX12_willOf_19 : decode mX12_willOf.2.1 19 = .ok (.aload_n 0, 1) ∧ 19 + 1 = 20 := ⟨by decide +kernel, rfl⟩
theorem aX12_willOf_20 : decode mX12_willOf.2.1 20 = .ok (.iload_n 2, 1) ∧ 20 + 1 = 21 := ⟨by decide +kernel, rfl⟩
theorem aX12_willOf_21 : decode mX12_willOf.2.1 21 = .ok (.iconst 0, 1) ∧ 21 + 1 = 22 := ⟨by decide +kernel, rfl⟩
theorem aX12_willOf_22 : decode mX12_willOf.2.1 22 = .ok (.invokevirtual 104, 3) ∧ 22 + 3 = 25 := ⟨by decide +kernel, rfl⟩
theorem aX12_willOf_25 : decode mX12_willOf.2.1 25 = .ok (.invokestatic 113, 3) ∧ 25 + 3 = 28 := ⟨by decide +kernel, rfl⟩
theorem aX12_willOf_28 : decode mX12_willOf.2.1 28 = .ok (.ifCond .eq 19, 3) ∧ ((28 : Nat) : Int) + 19 = ((47 : Nat) : Int) ∧ 28 + 3 = 31 := ⟨by decide +kernel, by decide, rfl⟩
theorem aX12_willOf_31 : decode mX12_willOf.2.1 31 = .ok (.aload_n 0, 1) ∧ 31 + 1 = 32 := ⟨by decide +kernel, rfl⟩
theorem aX12_willOf_32 : decode mX12_willOf.2.1 32 = .ok (.iload_n 2, 1) ∧ 32 + 1 = 33 := ⟨by decide +kernel, rfl⟩
theorem aX12_willOf_33 : decode mX12_willOf.2.1 33 = .ok (.iload_n 1, 1) ∧ 33 + 1 = 34 := ⟨by decide +kernel, rfl⟩
theorem aX12_willOf_34 : decode mX12_willOf.2.1 34 = .ok (.invokevirtual 117, 3) ∧ 34 + 3 = 37 := ⟨by decide +kernel, rfl⟩
theorem aX12_willOf_37 : decode mX12_willOf.2.1 37 = .ok (.ifCond .eq 10, 3) ∧ ((37 : Nat) : Int) + 10 = ((47 : Nat) : Int) ∧ 37 + 3 = 40 := ⟨by decide +kernel, by decide, rfl⟩
theorem aX12_willOf_40 : decode mX12_willOf.2.1 40 = .ok (.aload_n 0, 1) ∧ 40 + 1 = 41 := ⟨by decide +kernel, rfl⟩
theorem aX12_willOf_41 : decode mX12_willOf.2.1 41 = .ok (.iload_n 2, 1) ∧ 41 + 1 = 42 := ⟨by decide +kernel, rfl⟩
theorem aX12_willOf_42 : decode mX12_willOf.2.1 42 = .ok (.iconst 1, 1) ∧ 42 + 1 = 43 := ⟨by decide +kernel, rfl⟩
theorem aX12_willOf_43 : decode mX12_willOf.2.1 43 = .ok (.invokevirtual 104, 3) ∧ 43 + 3 = 46 := ⟨by decide +kernel, rfl⟩
theorem aX12_willOf_46 : decode mX12_willOf.2.1 46 = .ok (.ireturn, 1) := by decide +kernel
theorem aX12_willOf_47 : decode mX12_willOf.2.1 47 = .ok (.iinc 2 1, 3) ∧ 47 + 3 = 50 := ⟨by decide +kernel, rfl⟩
theorem aX12_willOf_50 : decode mX12_willOf.2.1 50 = .ok (.goto (-48), 3) ∧ ((50 : Nat) : Int) + (-48) = ((2 : Nat) : Int) := ⟨by decide +kernel, by decide⟩
theorem aX12_willOf_53 : decode mX12_willOf.2.1 53 = .ok (.iconst 0, 1) ∧ 53 + 1 = 54 := ⟨by decide +kernel, rfl⟩
theorem aX12_willOf_54 : decode mX12_willOf.2.1 54 = .ok (.ireturn, 1) := by decide +kernel
theorem S_X12_willOf {E : EE} {d : Nat} {I : IH} {Q : QT} (x1 : Int32) (h :
J E (d + 1) mX12_willOf 2 [(0, .ref (eb E + 115)), (1, .int x1), (2, .int (nI 0))] [] I Q) : Mt E (d + 1) mX12_willOf [.ref (eb E + 115), .int x1] I Q := by
  refine Mt_of [(0, .ref (eb E + 115)), (1, .int x1)] (by decide +kernel) (by simp [lg_sl, Value.category, mX12_willOf]) rfl ?_
  refine J_iconst (nI 0) aX12_willOf_0 (by decide +kernel) ?_
  refine J_istore_n [(2, .int (nI 0)), (0, .ref (eb E + 115)), (1, .int x1)] aX12_willOf_1 (by decide) rfl ?_
  refine J_pick [1, 2, 0] rfl ?_
  exact h
theorem S_X12_willOf_2 {E : EE} {d : Nat} {I : IH} {Q : QT} (x1 : Int32) (x2 : Int32) (h :
(((I 116 7) ≤ x2 → Q (some (.int (nI 0))) I) ∧
 (¬ (I 116 7) ≤ x2 → (Mt E d mX12_get [.ref (eb E + 115), .int x1, .int (nI 0)] I (fun rv I1 => ∃ v2 : Int32, rv = some (.int v2) ∧
 (Mt E d mX12_ruleOf [.ref (eb E + 115), .int x2, .int (nI 0)] I1 (fun rv I3 => ∃ v4 : Int32, rv = some (.int v4) ∧
 (Mt E d mX12_isUnder [.int v2, .int v4] I3 (fun rv I5 => ∃ v6 : Int32, rv = some (.int v6) ∧
 ((v6 = 0 → J E (d + 1) mX12_willOf 2 [(0, .ref (eb E + 115)), (1, .int x1), (2, .int (x2 + nI 1))] [] I5 Q) ∧
 (¬ v6 = 0 → (Mt E d mX12_holdsFor [.ref (eb E + 115), .int x2, .int x1] I5 (fun rv I7 => ∃ v8 : Int32, rv = some (.int v8) ∧
 ((v8 = 0 → J E (d + 1) mX12_willOf 2 [(0, .ref (eb E + 115)), (1, .int x1), (2, .int (x2 + nI 1))] [] I7 Q) ∧
 (¬ v8 = 0 → (Mt E d mX12_ruleOf [.ref (eb E + 115), .int x2, .int (nI 1)] I7 (fun rv I9 => ∃ v10 : Int32, rv = some (.int v10) ∧
 Q (some (.int v10)) I9))))))))))))))))) : J E (d + 1) mX12_willOf 2 [(0, .ref (eb E + 115)), (1, .int x1), (2, .int x2)] [] I Q := by
  refine J_iload_n 2 aX12_willOf_2 rfl ?_
  refine J_aload_n 0 aX12_willOf_3 rfl ?_
  refine J_getR aX12_willOf_4 flX12_9 sh115 rfl ?_
  refine J_bipush (nI 7) aX12_willOf_7 (by decide +kernel) ?_
  refine J_iaload 7 aX12_willOf_9 sh116 rfl (by decide) (by decide) ?_
  refine J_icmp_ge aX12_willOf_10 (fun q => ?_) (fun q => ?_)
  · replace h := h.1 q
    refine J_iconst (nI 0) aX12_willOf_53 (by decide +kernel) ?_
    exact J_iret aX12_willOf_54 rfl h
  · replace h := h.2 q
    refine J_aload_n 0 aX12_willOf_13 rfl ?_
    refine J_iload_n 1 aX12_willOf_14 rfl ?_
    refine J_iconst (nI 0) aX12_willOf_15 (by decide +kernel) ?_
    refine J_callV [.int x1, .int (nI 0)] [] aX12_willOf_16 lkX12_80_X12 okX12_get sh115 rfl rfl rfl (Nat.le_of_ble_eq_true rfl) (Nat.le_refl _) (Mt_mono h (fun rv I1 h => ?_))
    obtain ⟨v2, rfl, h⟩ := h
    refine J_r1 ?_
    refine J_aload_n 0 aX12_willOf_19 rfl ?_
    refine J_iload_n 2 aX12_willOf_20 rfl ?_
    refine J_iconst (nI 0) aX12_willOf_21 (by decide +kernel) ?_
    refine J_callV [.int x2, .int (nI 0)] [.int v2] aX12_willOf_22 lkX12_104_X12 okX12_ruleOf sh115 rfl rfl rfl (Nat.le_of_ble_eq_true rfl) (Nat.le_refl _) (Mt_mono h (fun rv I3 h => ?_))
    obtain ⟨v4, rfl, h⟩ := h
    refine J_r1 ?_
    refine J_callS [.int v2, .int v4] [] aX12_willOf_25 lkX12_113 okX12_isUnder rfl rfl (Nat.le_of_ble_eq_true rfl) (Nat.le_refl _) (Mt_mono h (fun rv I5 h => ?_))
    obtain ⟨v6, rfl, h⟩ := h
    refine J_r1 ?_
    refine J_if_eq aX12_willOf_28 (fun q => ?_) (fun q => ?_)
    · replace h := h.1 q
      refine J_iinc (x2 + nI 1) [(2, .int (x2 + nI 1)), (0, .ref (eb E + 115)), (1, .int x1)] 2 aX12_willOf_47 rfl (by first | rfl | (congr 1; decide +kernel)) (by decide) rfl ?_
      refine J_goto aX12_willOf_50 ?_
      refine J_pick [1, 2, 0] rfl ?_
      exact h
    · replace h := h.2 q
      refine J_aload_n 0 aX12_willOf_31 rfl ?_
      refine J_iload_n 2 aX12_willOf_32 rfl ?_
      refine J_iload_n 1 aX12_willOf_33 rfl ?_
      refine J_callV [.int x2, .int x1] [] aX12_willOf_34 lkX12_117_X12 okX12_holdsFor sh115 rfl rfl rfl (Nat.le_of_ble_eq_true rfl) (Nat.le_refl _) (Mt_mono h (fun rv I7 h => ?_))
      obtain ⟨v8, rfl, h⟩ := h
      refine J_r1 ?_
      refine J_if_eq aX12_willOf_37 (fun q => ?_) (fun q => ?_)
      · replace h := h.1 q
        refine J_iinc (x2 + nI 1) [(2, .int (x2 + nI 1)), (0, .ref (eb E + 115)), (1, .int x1)] 2 aX12_willOf_47 rfl (by first | rfl | (congr 1; decide +kernel)) (by decide) rfl ?_
        refine J_goto aX12_willOf_50 ?_
        refine J_pick [1, 2, 0] rfl ?_
        exact h
      · replace h := h.2 q
        refine J_aload_n 0 aX12_willOf_40 rfl ?_
        refine J_iload_n 2 aX12_willOf_41 rfl ?_
        refine J_iconst (nI 1) aX12_willOf_42 (by decide +kernel) ?_
        refine J_callV [.int x2, .int (nI 1)] [] aX12_willOf_43 lkX12_104_X12 okX12_ruleOf sh115 rfl rfl rfl (Nat.le_of_ble_eq_true rfl) (Nat.le_refl _) (Mt_mono h (fun rv I9 h => ?_))
        obtain ⟨v10, rfl, h⟩ := h
        refine J_r1 ?_
        exact J_iret aX12_willOf_46 rfl h
theorem aX12_byteAt_0 : decode mX12_byteAt.2.1 0 = .ok (.iload_n 1, 1) ∧ 0 + 1 = 1 := ⟨by decide +kernel, rfl⟩
theorem aX12_byteAt_1 : decode mX12_byteAt.2.1 1 = .ok (.aload_n 0, 1) ∧ 1 + 1 = 2 := ⟨by decide +kernel, rfl⟩
theorem aX12_byteAt_2 : decode mX12_byteAt.2.1 2 = .ok (.getfield 120, 3) ∧ 2 + 3 = 5 := ⟨by decide +kernel, rfl⟩
theorem aX12_byteAt_5 : decode mX12_byteAt.2.1 5 = .ok (.if_icmp .ge 12, 3) ∧ ((5 : Nat) : Int) + 12 = ((17 : Nat) : Int) ∧ 5 + 3 = 8 := ⟨by decide +kernel, by decide, rfl⟩
theorem aX12_byteAt_8 : decode mX12_byteAt.2.1 8 = .ok (.aload_n 0, 1) ∧ 8 + 1 = 9 := ⟨by decide +kernel, rfl⟩
theorem aX12_byteAt_9 : decode mX12_byteAt.2.1 9 = .ok (.getfield 22, 3) ∧ 9 + 3 = 12 := ⟨by decide +kernel, rfl⟩
theorem aX12_byteAt_12 : decode mX12_byteAt.2.1 12 = .ok (.iload_n 1, 1) ∧ 12 + 1 = 13 := ⟨by decide +kernel, rfl⟩
theorem aX12_byteAt_13 : decode mX12_byteAt.2.1 13 = .ok (.iaload, 1) ∧ 13 + 1 = 14 := ⟨by decide +kernel, rfl⟩
theorem aX12_byteAt_14 : decode mX12_byteAt.2.1 14 = .ok (.goto 4, 3) ∧ ((14 : Nat) : Int) + 4 = ((18 : Nat) : Int) := ⟨by decide +kernel, by decide⟩
theorem aX12_byteAt_17 : decode mX12_byteAt.2.1 17 = .ok (.iconst (-1), 1) ∧ 17 + 1 = 18 := ⟨by decide +kernel, rfl⟩
theorem aX12_byteAt_18 : decode mX12_byteAt.2.1 18 = .ok (.ireturn, 1) := by decide +kernel
theorem S_X12_byteAt {E : EE} {d : Nat} {I : IH} {Q : QT} (x1 : Int32) (h :
(((I 115 6) ≤ x1 → Q (some (.int (-1))) I) ∧
 (¬ (I 115 6) ≤ x1 → (∃ j1 : Nat, x1 = nI j1 ∧ j1 < 200 ∧ Q (some (.int (I 120 j1))) I)))) : Mt E d mX12_byteAt [.ref (eb E + 115), .int x1] I Q := by
  refine Mt_of [(0, .ref (eb E + 115)), (1, .int x1)] (by decide +kernel) (by simp [lg_sl, Value.category, mX12_byteAt]) rfl ?_
  refine J_iload_n 1 aX12_byteAt_0 rfl ?_
  refine J_aload_n 0 aX12_byteAt_1 rfl ?_
  refine J_getI aX12_byteAt_2 flX12_120 sh115 rfl ?_
  refine J_icmp_ge aX12_byteAt_5 (fun q => ?_) (fun q => ?_)
  · replace h := h.1 q
    refine J_iconst (-1) aX12_byteAt_17 (by decide +kernel) ?_
    exact J_iret aX12_byteAt_18 rfl h
  · replace h := h.2 q
    refine J_aload_n 0 aX12_byteAt_8 rfl ?_
    refine J_getR aX12_byteAt_9 flX12_22 sh115 rfl ?_
    refine J_iload_n 1 aX12_byteAt_12 rfl ?_
    obtain ⟨j1, e2, b3, h⟩ := h
    refine J_iaload j1 aX12_byteAt_13 sh120 e2 b3 (by decide) ?_
    refine J_goto aX12_byteAt_14 ?_
    exact J_iret aX12_byteAt_18 rfl h
theorem aX12_isNameOf_0 : decode mX12_isNameOf.2.1 0 = .ok (.aload_n 0, 1) ∧ 0 + 1 = 1 := ⟨by decide +kernel, rfl⟩
theorem aX12_isNameOf_1 : decode mX12_isNameOf.2.1 1 = .ok (.getfield 124, 3) ∧ 1 + 3 = 4 := ⟨by decide +kernel, rfl⟩
theorem aX12_isNameOf_4 : decode mX12_isNameOf.2.1 4 = .ok (.aload_n 0, 1) ∧ 4 + 1 = 5 := ⟨by decide +kernel, rfl⟩
theorem aX12_isNameOf_5 : decode mX12_isNameOf.2.1 5 = .ok (.getfield 127, 3) ∧ 5 + 3 = 8 := ⟨by decide +kernel, rfl⟩
theorem aX12_isNameOf_8 : decode mX12_isNameOf.2.1 8 = .ok (.isub, 1) ∧ 8 + 1 = 9 := ⟨by decide +kernel, rfl⟩
theorem aX12_isNameOf_9 : decode mX12_isNameOf.2.1 9 = .ok (.bipush 8, 2) ∧ 9 + 2 = 11 := ⟨by decide +kernel, rfl⟩
theorem aX12_isNameOf_11 : decode mX12_isNameOf.2.1 11 = .ok (.if_icmp .gt 7, 3) ∧ ((11 : Nat) : Int) + 7 = ((18 : Nat) : Int) ∧ 11 + 3 = 14 := ⟨by decide +kernel, by decide, rfl⟩
theorem aX12_isNameOf_14 : decode mX12_isNameOf.2.1 14 = .ok (.iconst 1, 1) ∧ 14 + 1 = 15 := ⟨by decide +kernel, rfl⟩
theorem aX12_isNameOf_15 : decode mX12_isNameOf.2.1 15 = .ok (.goto 4, 3) ∧ ((15 : Nat) : Int) + 4 = ((19 : Nat) : Int) := ⟨by decide +kernel, by decide⟩
theorem aX12_isNameOf_18 : decode mX12_isNameOf.2.1 18 = .ok (.iconst 0, 1) ∧ 18 + 1 = 19 := ⟨by decide +kernel, rfl⟩
theorem aX12_isNameOf_19 : decode mX12_isNameOf.2.1 19 = .ok (.istore_n 2, 1) ∧ 19 + 1 = 20 := ⟨by decide +kernel, rfl⟩
theorem aX12_isNameOf_20 : decode mX12_isNameOf.2.1 20 = .ok (.iconst 0, 1) ∧ 20 + 1 = 21 := ⟨by decide +kernel, rfl⟩
theorem aX12_isNameOf_21 : decode mX12_isNameOf.2.1 21 = .ok (.istore_n 3, 1) ∧ 21 + 1 = 22 := ⟨by decide +kernel, rfl⟩
theorem aX12_isNameOf_22 : decode mX12_isNameOf.2.1 22 = .ok (.iload_n 3, 1) ∧ 22 + 1 = 23 := ⟨by decide +kernel, rfl⟩
theorem aX12_isNameOf_23 : decode mX12_isNameOf.2.1 23 = .ok (.bipush 8, 2) ∧ 23 + 2 = 25 := ⟨by decide +kernel, rfl⟩
theorem aX12_isNameOf_25 : decode mX12_isNameOf.2.1 25 = .ok (.if_icmp .ge 61, 3) ∧ ((25 : Nat) : Int) + 61 = ((86 : Nat) : Int) ∧ 25 + 3 = 28 := ⟨by decide +kernel, by decide, rfl⟩
theorem aX12_isNameOf_28 : decode mX12_isNameOf.2.1 28 = .ok (.iload_n 2, 1) ∧ 28 + 1 = 29 := ⟨by decide +kernel, rfl⟩
theorem aX12_isNameOf_29 : decode mX12_isNameOf.2.1 29 = .ok (.ifCond .eq 57, 3) ∧ ((29 : Nat) : Int) + 57 = ((86 : Nat) : Int) ∧ 29 + 3 = 32 := ⟨by decide +kernel, by decide, rfl⟩
theorem aX12_isNameOf_32 : decode mX12_isNameOf.2.1 32 = .ok (.aload_n 0, 1) ∧ 32 + 1 = 33 := ⟨by decide +kernel, rfl⟩
theorem aX12_isNameOf_33 : decode mX12_isNameOf.2.1 33 = .ok (.getfield 25, 3) ∧ 33 + 3 = 36 := ⟨by decide +kernel, rfl⟩
theorem aX12_isNameOf_36 : decode mX12_isNameOf.2.1 36 = .ok (.bipush 8, 2) ∧ 36 + 2 = 38 := ⟨by decide +kernel, rfl⟩
theorem aX12_isNameOf_38 : decode mX12_isNameOf.2.1 38 = .ok (.iload_n 1, 1) ∧ 38 + 1 = 39 := ⟨by decide +kernel, rfl⟩
theorem aX12_isNameOf_39 : decode mX12_isNameOf.2.1 39 = .ok (.imul, 1) ∧ 39 + 1 = 40 := ⟨by decide +kernel, rfl⟩
theorem aX12_isNameOf_40 : decode mX12_isNameOf.2.1 40 = .ok (.iload_n 3, 1) ∧ 40 + 1 = 41 := ⟨by decide +kernel, rfl⟩
theorem aX12_isNameOf_41 : decode mX12_isNameOf.2.1 41 = .ok (.iadd, 1) ∧ 41 + 1 = 42 := ⟨by decide +kernel, rfl⟩
theorem aX12_isNameOf_42 : decode mX12_isNameOf.2.1 42 = .ok (.caload, 1) ∧ 42 + 1 = 43 := ⟨by decide +kernel, rfl⟩
theorem aX12_isNameOf_43 : decode mX12_isNameOf.2.1 43 = .ok (.aload_n 0, 1) ∧ 43 + 1 = 44 := ⟨by decide +kernel, rfl⟩
theorem aX12_isNameOf_44 : decode mX12_isNameOf.2.1 44 = .ok (.getfield 127, 3) ∧ 44 + 3 = 47 := ⟨by decide +kernel, rfl⟩
theorem aX12_isNameOf_47 : decode mX12_isNameOf.2.1 47 = .ok (.iload_n 3, 1) ∧ 47 + 1 = 48 := ⟨by decide +kernel, rfl⟩
theorem aX12_isNameOf_48 : decode mX12_isNameOf.2.1 48 = .ok (.iadd, 1) ∧ 48 + 1 = 49 := ⟨by decide +kernel, rfl⟩
theorem aX12_isNameOf_49 : decode mX12_isNameOf.2.1 49 = .ok (.aload_n 0, 1) ∧ 49 + 1 = 50 := ⟨by decide +kernel, rfl⟩
theorem aX12_isNameOf_50 : decode mX12_isNameOf.2.1 50 = .ok (.getfield 124, 3) ∧ 50 + 3 = 53 := ⟨by decide +kernel, rfl⟩
theorem aX12_isNameOf_53 : decode mX12_isNameOf.2.1 53 = .ok (.if_icmp .ge 16, 3) ∧ ((53 : Nat) : Int) + 16 = ((69 : Nat) : Int) ∧ 53 + 3 = 56 := ⟨by decide +kernel, by decide, rfl⟩
theorem aX12_isNameOf_56 : decode mX12_isNameOf.2.1 56 = .ok (.aload_n 0, 1) ∧ 56 + 1 = 57 := ⟨by decide +kernel, rfl⟩
theorem aX12_isNameOf_57 : decode mX12_isNameOf.2.1 57 = .ok (.aload_n 0, 1) ∧ 57 + 1 = 58 := ⟨by decide +kernel, rfl⟩
theorem aX12_isNameOf_58 : decode mX12_isNameOf.2.1 58 = .ok (.getfield 127, 3) ∧ 58 + 3 = 61 := ⟨by decide +kernel, rfl⟩
theorem aX12_isNameOf_61 : decode mX12_isNameOf.2.1 61 = .ok (.iload_n 3, 1) ∧ 61 + 1 = 62 := ⟨by decide +kernel, rfl⟩
theorem aX12_isNameOf_62 : decode mX12_isNameOf.2.1 62 = .ok (.iadd, 1) ∧ 62 + 1 = 63 := ⟨by decide +kernel, rfl⟩
theorem aX12_isNameOf_63 : decode mX12_isNameOf.2.1 63 = .ok (.invokevirtual 130, 3) ∧ 63 + 3 = 66 := ⟨by decide +kernel, rfl⟩
theorem aX12_isNameOf_66 : decode mX12_isNameOf.2.1 66 = .ok (.goto 5, 3) ∧ ((66 : Nat) : Int) + 5 = ((71 : Nat) : Int) := ⟨by decide +kernel, by decide⟩
theorem aX12_isNameOf_69 : decode mX12_isNameOf.2.1 69 = .ok (.bipush 32, 2) ∧ 69 + 2 = 71 := ⟨by decide +kernel, rfl⟩
theorem aX12_isNameOf_71 : decode mX12_isNameOf.2.1 71 = .ok (.if_icmp .ne 7, 3) ∧ ((71 : Nat) : Int) + 7 = ((78 : Nat) : Int) ∧ 71 + 3 = 74 := ⟨by decide +kernel, by decide, rfl⟩
theorem aX12_isNameOf_74 : decode mX12_isNameOf.2.1 74 = .ok (.iconst 1, 1) ∧ 74 + 1 = 75 := ⟨by decide +kernel, rfl⟩
theorem aX12_isNameOf_75 : decode mX12_isNameOf.2.1 75 = .ok (.goto 4, 3) ∧ ((75 : Nat) : Int) + 4 = ((79 : Nat) : Int) := ⟨by decide +kernel, by decide⟩
theorem aX12_isNameOf_78 : decode mX12_isNameOf.2.1 78 = .ok (.iconst 0, 1) ∧ 78 + 1 = 79 := ⟨by decide +kernel, rfl⟩
theorem aX12_isNameOf_79 : decode mX12_isNameOf.2.1 79 = .ok (.istore_n 2, 1) ∧ 79 + 1 = 80 := ⟨by decide +kernel, rfl⟩
theorem aX12_isNameOf_80 : decode mX12_isNameOf.2.1 80 = .ok (.iinc 3 1, 3) ∧ 80 + 3 = 83 := ⟨by decide +kernel, rfl⟩
theorem aX12_isNameOf_83 : decode mX12_isNameOf.2.1 83 = .ok (.goto (-61), 3) ∧ ((83 : Nat) : Int) + (-61) = ((22 : Nat) : Int) := ⟨by decide +kernel, by decide⟩
theorem aX12_isNameOf_86 : decode mX12_isNameOf.2.1 86 = .ok (.iload_n 2, 1) ∧ 86 + 1 = 87 := ⟨by decide +kernel, rfl⟩
theorem aX12_isNameOf_87 : decode mX12_isNameOf.2.1 87 = .ok (.ireturn, 1) := by decide +kernel
theorem S_X12_isNameOf {E : EE} {d : Nat} {I : IH} {Q : QT} (x1 : Int32) (h :
(((nI 8) < ((I 115 8) - (I 115 9)) → J E (d + 1) mX12_isNameOf 22 [(0, .ref (eb E + 115)), (1, .int x1), (2, .int (nI 0)), (3, .int (nI 0))] [] I Q) ∧
 (¬ (nI 8) < ((I 115 8) - (I 115 9)) → J E (d + 1) mX12_isNameOf 22 [(0, .ref (eb E + 115)), (1, .int x1), (2, .int (nI 1)), (3, .int (nI 0))] [] I Q))) : Mt E (d + 1) mX12_isNameOf [.ref (eb E + 115), .int x1] I Q := by
  refine Mt_of [(0, .ref (eb E + 115)), (1, .int x1)] (by decide +kernel) (by simp [lg_sl, Value.category, mX12_isNameOf]) rfl ?_
  refine J_aload_n 0 aX12_isNameOf_0 rfl ?_
  refine J_getI aX12_isNameOf_1 flX12_124 sh115 rfl ?_
  refine J_aload_n 0 aX12_isNameOf_4 rfl ?_
  refine J_getI aX12_isNameOf_5 flX12_127 sh115 rfl ?_
  refine J_isub aX12_isNameOf_8 ?_
  refine J_bipush (nI 8) aX12_isNameOf_9 (by decide +kernel) ?_
  refine J_icmp_gt aX12_isNameOf_11 (fun q => ?_) (fun q => ?_)
  · replace h := h.1 q
    refine J_iconst (nI 0) aX12_isNameOf_18 (by decide +kernel) ?_
    refine J_istore_n [(2, .int (nI 0)), (0, .ref (eb E + 115)), (1, .int x1)] aX12_isNameOf_19 (by decide) rfl ?_
    refine J_iconst (nI 0) aX12_isNameOf_20 (by decide +kernel) ?_
    refine J_istore_n [(3, .int (nI 0)), (2, .int (nI 0)), (0, .ref (eb E + 115)), (1, .int x1)] aX12_isNameOf_21 (by decide) rfl ?_
    refine J_pick [2, 3, 1, 0] rfl ?_
    exact h
  · replace h := h.2 q
    refine J_iconst (nI 1) aX12_isNameOf_14 (by decide +kernel) ?_
    refine J_goto aX12_isNameOf_15 ?_
    refine J_istore_n [(2, .int (nI 1)), (0, .ref (eb E + 115)), (1, .int x1)] aX12_isNameOf_19 (by decide) rfl ?_
    refine J_iconst (nI 0) aX12_isNameOf_20 (by decide +kernel) ?_
    refine J_istore_n [(3, .int (nI 0)), (2, .int (nI 1)), (0, .ref (eb E + 115)), (1, .int x1)] aX12_isNameOf_21 (by decide) rfl ?_
    refine J_pick [2, 3, 1, 0] rfl ?_
    exact h
theorem S_X12_isNameOf_22 {E : EE} {d : Nat} {I : IH} {Q : QT} (x1 : Int32) (x2 : Int32) (x3 : Int32) (h :
(((nI 8) ≤ x3 → ((x2 = 0 ∨ x2 = 1) ∧ Q (some (.int x2)) I)) ∧
 (¬ (nI 8) ≤ x3 → ((x2 = 0 → ((x2 = 0 ∨ x2 = 1) ∧ Q (some (.int x2)) I)) ∧
 (¬ x2 = 0 → (∃ j1 : Nat, (((nI 8) * x1) + x3) = nI j1 ∧ j1 < 144 ∧ (((I 115 8) ≤ ((I 115 9) + x3) → ((¬ (I 121 j1) = (nI 32) → J E (d + 1) mX12_isNameOf 22 [(0, .ref (eb E + 115)), (1, .int x1), (2, .int (nI 0)), (3, .int (x3 + nI 1))] [] I Q) ∧
 ((I 121 j1) = (nI 32) → J E (d + 1) mX12_isNameOf 22 [(0, .ref (eb E + 115)), (1, .int x1), (2, .int (nI 1)), (3, .int (x3 + nI 1))] [] I Q))) ∧
 (¬ (I 115 8) ≤ ((I 115 9) + x3) → (Mt E d mX12_byteAt [.ref (eb E + 115), .int ((I 115 9) + x3)] I (fun rv I4 => ∃ v5 : Int32, rv = some (.int v5) ∧
 ((¬ (I 121 j1) = v5 → J E (d + 1) mX12_isNameOf 22 [(0, .ref (eb E + 115)), (1, .int x1), (2, .int (nI 0)), (3, .int (x3 + nI 1))] [] I4 Q) ∧
 ((I 121 j1) = v5 → J E (d + 1) mX12_isNameOf 22 [(0, .ref (eb E + 115)), (1, .int x1), (2, .int (nI 1)), (3, .int (x3 + nI 1))] [] I4 Q)))))))))))) : J E (d + 1) mX12_isNameOf 22 [(0, .ref (eb E + 115)), (1, .int x1), (2, .int x2), (3, .int x3)] [] I Q := by
  refine J_iload_n 3 aX12_isNameOf_22 rfl ?_
  refine J_bipush (nI 8) aX12_isNameOf_23 (by decide +kernel) ?_
  refine J_icmp_ge aX12_isNameOf_25 (fun q => ?_) (fun q => ?_)
  · replace h := h.1 q
    refine J_iload_n 2 aX12_isNameOf_86 rfl ?_
    exact J_zret aX12_isNameOf_87 rfl (nar_bool h.1).1 h.2
  · replace h := h.2 q
    refine J_iload_n 2 aX12_isNameOf_28 rfl ?_
    refine J_if_eq aX12_isNameOf_29 (fun q => ?_) (fun q => ?_)
    · replace h := h.1 q
      refine J_iload_n 2 aX12_isNameOf_86 rfl ?_
      exact J_zret aX12_isNameOf_87 rfl (nar_bool h.1).1 h.2
    · replace h := h.2 q
      refine J_aload_n 0 aX12_isNameOf_32 rfl ?_
      refine J_getR aX12_isNameOf_33 flX12_25 sh115 rfl ?_
      refine J_bipush (nI 8) aX12_isNameOf_36 (by decide +kernel) ?_
      refine J_iload_n 1 aX12_isNameOf_38 rfl ?_
      refine J_imul aX12_isNameOf_39 ?_
      refine J_iload_n 3 aX12_isNameOf_40 rfl ?_
      refine J_iadd aX12_isNameOf_41 ?_
      obtain ⟨j1, e2, b3, h⟩ := h
      refine J_caload j1 aX12_isNameOf_42 sh121 e2 b3 (by decide) ?_
      refine J_aload_n 0 aX12_isNameOf_43 rfl ?_
      refine J_getI aX12_isNameOf_44 flX12_127 sh115 rfl ?_
      refine J_iload_n 3 aX12_isNameOf_47 rfl ?_
      refine J_iadd aX12_isNameOf_48 ?_
      refine J_aload_n 0 aX12_isNameOf_49 rfl ?_
      refine J_getI aX12_isNameOf_50 flX12_124 sh115 rfl ?_
      refine J_icmp_ge aX12_isNameOf_53 (fun q => ?_) (fun q => ?_)
      · replace h := h.1 q
        refine J_bipush (nI 32) aX12_isNameOf_69 (by decide +kernel) ?_
        refine J_icmp_ne aX12_isNameOf_71 (fun q => ?_) (fun q => ?_)
        · replace h := h.1 q
          refine J_iconst (nI 0) aX12_isNameOf_78 (by decide +kernel) ?_
          refine J_istore_n [(2, .int (nI 0)), (0, .ref (eb E + 115)), (1, .int x1), (3, .int x3)] aX12_isNameOf_79 (by decide) rfl ?_
          refine J_iinc (x3 + nI 1) [(3, .int (x3 + nI 1)), (2, .int (nI 0)), (0, .ref (eb E + 115)), (1, .int x1)] 3 aX12_isNameOf_80 rfl (by first | rfl | (congr 1; decide +kernel)) (by decide) rfl ?_
          refine J_goto aX12_isNameOf_83 ?_
          refine J_pick [2, 3, 1, 0] rfl ?_
          exact h
        · replace h := h.2 q
          refine J_iconst (nI 1) aX12_isNameOf_74 (by decide +kernel) ?_
          refine J_goto aX12_isNameOf_75 ?_
          refine J_istore_n [(2, .int (nI 1)), (0, .ref (eb E + 115)), (1, .int x1), (3, .int x3)] aX12_isNameOf_79 (by decide) rfl ?_
          refine J_iinc (x3 + nI 1) [(3, .int (x3 + nI 1)), (2, .int (nI 1)), (0, .ref (eb E + 115)), (1, .int x1)] 3 aX12_isNameOf_80 rfl (by first | rfl | (congr 1; decide +kernel)) (by decide) rfl ?_
          refine J_goto aX12_isNameOf_83 ?_
          refine J_pick [2, 3, 1, 0] rfl ?_
          exact h
      · replace h := h.2 q
        refine J_aload_n 0 aX12_isNameOf_56 rfl ?_
        refine J_aload_n 0 aX12_isNameOf_57 rfl ?_
        refine J_getI aX12_isNameOf_58 flX12_127 sh115 rfl ?_
        refine J_iload_n 3 aX12_isNameOf_61 rfl ?_
        refine J_iadd aX12_isNameOf_62 ?_
        refine J_callV [.int ((I 115 9) + x3)] [.int (I 121 j1)] aX12_isNameOf_63 lkX12_130_X12 okX12_byteAt sh115 rfl rfl rfl (Nat.le_of_ble_eq_true rfl) (Nat.le_refl _) (Mt_mono h (fun rv I4 h => ?_))
        obtain ⟨v5, rfl, h⟩ := h
        refine J_r1 ?_
        refine J_goto aX12_isNameOf_66 ?_
        refine J_icmp_ne aX12_isNameOf_71 (fun q => ?_) (fun q => ?_)
        · replace h := h.1 q
          refine J_iconst (nI 0) aX12_isNameOf_78 (by decide +kernel) ?_
          refine J_istore_n [(2, .int (nI 0)), (0, .ref (eb E + 115)), (1, .int x1), (3, .int x3)] aX12_isNameOf_79 (by decide) rfl ?_
          refine J_iinc (x3 + nI 1) [(3, .int (x3 + nI 1)), (2, .int (nI 0)), (0, .ref (eb E + 115)), (1, .int x1)] 3 aX12_isNameOf_80 rfl (by first | rfl | (congr 1; decide +kernel)) (by decide) rfl ?_
          refine J_goto aX12_isNameOf_83 ?_
          refine J_pick [2, 3, 1, 0] rfl ?_
          exact h
        · replace h := h.2 q
          refine J_iconst (nI 1) aX12_isNameOf_74 (by decide +kernel) ?_
          refine J_goto aX12_isNameOf_75 ?_
          refine J_istore_n [(2, .int (nI 1)), (0, .ref (eb E + 115)), (1, .int x1), (3, .int x3)] aX12_isNameOf_79 (by decide) rfl ?_
          refine J_iinc (x3 + nI 1) [(3, .int (x3 + nI 1)), (2, .int (nI 1)), (0, .ref (eb E + 115)), (1, .int x1)] 3 aX12_isNameOf_80 rfl (by first | rfl | (congr 1; decide +kernel)) (by decide) rfl ?_
          refine J_goto aX12_isNameOf_83 ?_
          refine J_pick [2, 3, 1, 0] rfl ?_
          exact h
