theorem aX6_add_0 : decode mX6_add.2.1 0 = .ok (.aload_n 0, 1) ∧ 0 + 1 = 1 := ⟨by decide +kernel, rfl⟩
theorem aX6_add_1 : decode mX6_add.2.1 1 = .ok (.getfield 9, 3) ∧ 1 + 3 = 4 := ⟨by decide +kernel, rfl⟩
theorem aX6_add_4 : decode mX6_add.2.1 4 = .ok (.bipush 8, 2) ∧ 4 + 2 = 6 := ⟨by decide +kernel, rfl⟩
theorem aX6_add_6 : decode mX6_add.2.1 6 = .ok (.if_icmp .ge 46, 3) ∧ ((6 : Nat) : Int) + 46 = ((52 : Nat) : Int) ∧ 6 + 3 = 9 := ⟨by decide +kernel, by decide, rfl⟩
theorem aX6_add_9 : decode mX6_add.2.1 9 = .ok (.aload_n 0, 1) ∧ 9 + 1 = 10 := ⟨by decide +kernel, rfl⟩
theorem aX6_add_10 : decode mX6_add.2.1 10 = .ok (.getfield 18, 3) ∧ 10 + 3 = 13 := ⟨by decide +kernel, rfl⟩
theorem aX6_add_13 : decode mX6_add.2.1 13 = .ok (.aload_n 0, 1) ∧ 13 + 1 = 14 := ⟨by decide +kernel, rfl⟩
theorem aX6_add_14 : decode mX6_add.2.1 14 = .ok (.getfield 9, 3) ∧ 14 + 3 = 17 := ⟨by decide +kernel, rfl⟩
theorem aX6_add_17 : decode mX6_add.2.1 17 = .ok (.iload_n 1, 1) ∧ 17 + 1 = 18 := ⟨by decide +kernel, rfl⟩
theorem aX6_add_18 : decode mX6_add.2.1 18 = .ok (.iastore, 1) ∧ 18 + 1 = 19 := ⟨by decide +kernel, rfl⟩
theorem aX6_add_19 : decode mX6_add.2.1 19 = .ok (.aload_n 0, 1) ∧ 19 + 1 = 20 := ⟨by decide +kernel, rfl⟩
theorem aX6_add_20 : decode mX6_add.2.1 20 = .ok (.getfield 22, 3) ∧ 20 + 3 = 23 := ⟨by decide +kernel, rfl⟩
theorem aX6_add_23 : decode mX6_add.2.1 23 = .ok (.aload_n 0, 1) ∧ 23 + 1 = 24 := ⟨by decide +kernel, rfl⟩
theorem aX6_add_24 : decode mX6_add.2.1 24 = .ok (.getfield 9, 3) ∧ 24 + 3 = 27 := ⟨by decide +kernel, rfl⟩
theorem aX6_add_27 : decode mX6_add.2.1 27 = .ok (.iload_n 2, 1) ∧ 27 + 1 = 28 := ⟨by decide +kernel, rfl⟩
theorem aX6_add_28 : decode mX6_add.2.1 28 = .ok (.iastore, 1) ∧ 28 + 1 = 29 := ⟨by decide +kernel, rfl⟩
theorem aX6_add_29 : decode mX6_add.2.1 29 = .ok (.aload_n 0, 1) ∧ 29 + 1 = 30 := ⟨by decide +kernel, rfl⟩
theorem aX6_add_30 : decode mX6_add.2.1 30 = .ok (.getfield 25, 3) ∧ 30 + 3 = 33 := ⟨by decide +kernel, rfl⟩
theorem aX6_add_33 : decode mX6_add.2.1 33 = .ok (.aload_n 0, 1) ∧ 33 + 1 = 34 := ⟨by decide +kernel, rfl⟩
theorem aX6_add_34 : decode mX6_add.2.1 34 = .ok (.getfield 9, 3) ∧ 34 + 3 = 37 := ⟨by decide +kernel, rfl⟩
theorem aX6_add_37 : decode mX6_add.2.1 37 = .ok (.aload_n 0, 1) ∧ 37 + 1 = 38 := ⟨by decide +kernel, rfl⟩
theorem aX6_add_38 : decode mX6_add.2.1 38 = .ok (.getfield 15, 3) ∧ 38 + 3 = 41 := ⟨by decide +kernel, rfl⟩
theorem aX6_add_41 : decode mX6_add.2.1 41 = .ok (.iastore, 1) ∧ 41 + 1 = 42 := ⟨by decide +kernel, rfl⟩
theorem aX6_add_42 : decode mX6_add.2.1 42 = .ok (.aload_n 0, 1) ∧ 42 + 1 = 43 := ⟨by decide +kernel, rfl⟩
theorem aX6_add_43 : decode mX6_add.2.1 43 = .ok (.dup, 1) ∧ 43 + 1 = 44 := ⟨by decide +kernel, rfl⟩
theorem aX6_add_44 : decode mX6_add.2.1 44 = .ok (.getfield 9, 3) ∧ 44 + 3 = 47 := ⟨by decide +kernel, rfl⟩
theorem aX6_add_47 : decode mX6_add.2.1 47 = .ok (.iconst 1, 1) ∧ 47 + 1 = 48 := ⟨by decide +kernel, rfl⟩
theorem aX6_add_48 : decode mX6_add.2.1 48 = .ok (.iadd, 1) ∧ 48 + 1 = 49 := ⟨by decide +kernel, rfl⟩
theorem aX6_add_49 : decode mX6_add.2.1 49 = .ok (.putfield 9, 3) ∧ 49 + 3 = 52 := ⟨by decide +kernel, rfl⟩
theorem aX6_add_52 : decode mX6_add.2.1 52 = .ok (.return_, 1) := by decide +kernel
theorem S_X6_add {E : EE} {d : Nat} {I : IH} {Q : QT} {r : Nat} (hR : isRu r) (x1 : Int32) (x2 : Int32) (h :
(((nI 8) ≤ (I r 0) → Q none I) ∧
 (¬ (nI 8) ≤ (I r 0) → (∃ j3 : Nat, (I r 0) = nI j3 ∧ j3 < 8 ∧ (∀ I1 : IH, I1 = stI I (r + 1) j3 x1 →
 (∃ j8 : Nat, (I1 r 0) = nI j8 ∧ j8 < 8 ∧ (∀ I6 : IH, I6 = stI I1 (r + 2) j8 x2 →
 (∃ j13 : Nat, (I6 r 0) = nI j13 ∧ j13 < 8 ∧ (∀ I11 : IH, I11 = stI I6 (r + 3) j13 (I6 r 1) →
 (∀ I16 : IH, I16 = stI I11 r 0 ((I11 r 0) + (nI 1)) →
 Q none I16)))))))))) : Mt E d mX6_add [.ref (eb E + r), .int x1, .int x2] I Q := by
  refine Mt_of [(0, .ref (eb E + r)), (1, .int x1), (2, .int x2)] (by decide +kernel) (by simp [lg_sl, Value.category, mX6_add]) rfl ?_
  refine J_aload_n 0 aX6_add_0 rfl ?_
  refine J_getI aX6_add_1 flX6_9 (shRu hR) rfl ?_
  refine J_bipush (nI 8) aX6_add_4 (by decide +kernel) ?_
  refine J_icmp_ge aX6_add_6 (fun q => ?_) (fun q => ?_)
  · replace h := h.1 q
    exact J_vret aX6_add_52 rfl h
  · replace h := h.2 q
    refine J_aload_n 0 aX6_add_9 rfl ?_
    refine J_getR aX6_add_10 flX6_18 (shRu hR) rfl ?_
    refine J_aload_n 0 aX6_add_13 rfl ?_
    refine J_getI aX6_add_14 flX6_9 (shRu hR) rfl ?_
    refine J_iload_n 1 aX6_add_17 rfl ?_
    obtain ⟨j3, e4, b5, h⟩ := h
    refine J_iastore j3 aX6_add_18 (shRu1 hR) e4 b5 (by decide) (fun I1 e2 => ?_)
    replace h := h I1 e2
    refine J_aload_n 0 aX6_add_19 rfl ?_
    refine J_getR aX6_add_20 flX6_22 (shRu hR) rfl ?_
    refine J_aload_n 0 aX6_add_23 rfl ?_
    refine J_getI aX6_add_24 flX6_9 (shRu hR) rfl ?_
    refine J_iload_n 2 aX6_add_27 rfl ?_
    obtain ⟨j8, e9, b10, h⟩ := h
    refine J_iastore j8 aX6_add_28 (shRu2 hR) e9 b10 (by decide) (fun I6 e7 => ?_)
    replace h := h I6 e7
    refine J_aload_n 0 aX6_add_29 rfl ?_
    refine J_getR aX6_add_30 flX6_25 (shRu hR) rfl ?_
    refine J_aload_n 0 aX6_add_33 rfl ?_
    refine J_getI aX6_add_34 flX6_9 (shRu hR) rfl ?_
    refine J_aload_n 0 aX6_add_37 rfl ?_
    refine J_getI aX6_add_38 flX6_15 (shRu hR) rfl ?_
    obtain ⟨j13, e14, b15, h⟩ := h
    refine J_iastore j13 aX6_add_41 (shRu3 hR) e14 b15 (by decide) (fun I11 e12 => ?_)
    replace h := h I11 e12
    refine J_aload_n 0 aX6_add_42 rfl ?_
    refine J_dup aX6_add_43 rfl ?_
    refine J_getI aX6_add_44 flX6_9 (shRu hR) rfl ?_
    refine J_iconst (nI 1) aX6_add_47 (by decide +kernel) ?_
    refine J_iadd aX6_add_48 ?_
    refine J_putI aX6_add_49 fpX6_9 (shRu hR) rfl (fun I16 e17 => ?_)
    replace h := h I16 e17
    exact J_vret aX6_add_52 rfl h
theorem aX6_emit_0 : decode mX6_emit.2.1 0 = .ok (.aload_n 0, 1) ∧ 0 + 1 = 1 := ⟨by decide +kernel, rfl⟩
theorem aX6_emit_1 : decode mX6_emit.2.1 1 = .ok (.getfield 15, 3) ∧ 1 + 3 = 4 := ⟨by decide +kernel, rfl⟩
theorem aX6_emit_4 : decode mX6_emit.2.1 4 = .ok (.aload_n 0, 1) ∧ 4 + 1 = 5 := ⟨by decide +kernel, rfl⟩
theorem aX6_emit_5 : decode mX6_emit.2.1 5 = .ok (.getfield 30, 3) ∧ 5 + 3 = 8 := ⟨by decide +kernel, rfl⟩
theorem aX6_emit_8 : decode mX6_emit.2.1 8 = .ok (.arraylength, 1) ∧ 8 + 1 = 9 := ⟨by decide +kernel, rfl⟩
theorem aX6_emit_9 : decode mX6_emit.2.1 9 = .ok (.if_icmp .ge 23, 3) ∧ ((9 : Nat) : Int) + 23 = ((32 : Nat) : Int) ∧ 9 + 3 = 12 := ⟨by decide +kernel, by decide, rfl⟩
theorem aX6_emit_12 : decode mX6_emit.2.1 12 = .ok (.aload_n 0, 1) ∧ 12 + 1 = 13 := ⟨by decide +kernel, rfl⟩
theorem aX6_emit_13 : decode mX6_emit.2.1 13 = .ok (.getfield 30, 3) ∧ 13 + 3 = 16 := ⟨by decide +kernel, rfl⟩
theorem aX6_emit_16 : decode mX6_emit.2.1 16 = .ok (.aload_n 0, 1) ∧ 16 + 1 = 17 := ⟨by decide +kernel, rfl⟩
theorem aX6_emit_17 : decode mX6_emit.2.1 17 = .ok (.getfield 15, 3) ∧ 17 + 3 = 20 := ⟨by decide +kernel, rfl⟩
theorem aX6_emit_20 : decode mX6_emit.2.1 20 = .ok (.iload_n 1, 1) ∧ 20 + 1 = 21 := ⟨by decide +kernel, rfl⟩
theorem aX6_emit_21 : decode mX6_emit.2.1 21 = .ok (.iastore, 1) ∧ 21 + 1 = 22 := ⟨by decide +kernel, rfl⟩
theorem aX6_emit_22 : decode mX6_emit.2.1 22 = .ok (.aload_n 0, 1) ∧ 22 + 1 = 23 := ⟨by decide +kernel, rfl⟩
theorem aX6_emit_23 : decode mX6_emit.2.1 23 = .ok (.dup, 1) ∧ 23 + 1 = 24 := ⟨by decide +kernel, rfl⟩
theorem aX6_emit_24 : decode mX6_emit.2.1 24 = .ok (.getfield 15, 3) ∧ 24 + 3 = 27 := ⟨by decide +kernel, rfl⟩
theorem aX6_emit_27 : decode mX6_emit.2.1 27 = .ok (.iconst 1, 1) ∧ 27 + 1 = 28 := ⟨by decide +kernel, rfl⟩
theorem aX6_emit_28 : decode mX6_emit.2.1 28 = .ok (.iadd, 1) ∧ 28 + 1 = 29 := ⟨by decide +kernel, rfl⟩
theorem aX6_emit_29 : decode mX6_emit.2.1 29 = .ok (.putfield 15, 3) ∧ 29 + 3 = 32 := ⟨by decide +kernel, rfl⟩
theorem aX6_emit_32 : decode mX6_emit.2.1 32 = .ok (.return_, 1) := by decide +kernel
theorem S_X6_emit {E : EE} {d : Nat} {I : IH} {Q : QT} {r : Nat} (hR : isRu r) (x1 : Int32) (h :
(((nI 200) ≤ (I r 1) → Q none I) ∧
 (¬ (nI 200) ≤ (I r 1) → (∃ j3 : Nat, (I r 1) = nI j3 ∧ j3 < 200 ∧ (∀ I1 : IH, I1 = stI I (r + 4) j3 x1 →
 (∀ I6 : IH, I6 = stI I1 r 1 ((I1 r 1) + (nI 1)) →
 Q none I6)))))) : Mt E d mX6_emit [.ref (eb E + r), .int x1] I Q := by
  refine Mt_of [(0, .ref (eb E + r)), (1, .int x1)] (by decide +kernel) (by simp [lg_sl, Value.category, mX6_emit]) rfl ?_
  refine J_aload_n 0 aX6_emit_0 rfl ?_
  refine J_getI aX6_emit_1 flX6_15 (shRu hR) rfl ?_
  refine J_aload_n 0 aX6_emit_4 rfl ?_
  refine J_getR aX6_emit_5 flX6_30 (shRu hR) rfl ?_
  refine J_alen (v := nI 200) aX6_emit_8 (shRu4 hR) (by decide) rfl ?_
  refine J_icmp_ge aX6_emit_9 (fun q => ?_) (fun q => ?_)
  · replace h := h.1 q
    exact J_vret aX6_emit_32 rfl h
  · replace h := h.2 q
    refine J_aload_n 0 aX6_emit_12 rfl ?_
    refine J_getR aX6_emit_13 flX6_30 (shRu hR) rfl ?_
    refine J_aload_n 0 aX6_emit_16 rfl ?_
    refine J_getI aX6_emit_17 flX6_15 (shRu hR) rfl ?_
    refine J_iload_n 1 aX6_emit_20 rfl ?_
    obtain ⟨j3, e4, b5, h⟩ := h
    refine J_iastore j3 aX6_emit_21 (shRu4 hR) e4 b5 (by decide) (fun I1 e2 => ?_)
    replace h := h I1 e2
    refine J_aload_n 0 aX6_emit_22 rfl ?_
    refine J_dup aX6_emit_23 rfl ?_
    refine J_getI aX6_emit_24 flX6_15 (shRu hR) rfl ?_
    refine J_iconst (nI 1) aX6_emit_27 (by decide +kernel) ?_
    refine J_iadd aX6_emit_28 ?_
    refine J_putI aX6_emit_29 fpX6_15 (shRu hR) rfl (fun I6 e7 => ?_)
    replace h := h I6 e7
    exact J_vret aX6_emit_32 rfl h
theorem aX6_tells_0 : decode mX6_tells.2.1 0 = .ok (.iconst 0, 1) ∧ 0 + 1 = 1 := ⟨by decide +kernel, rfl⟩
theorem aX6_tells_1 : decode mX6_tells.2.1 1 = .ok (.istore_n 2, 1) ∧ 1 + 1 = 2 := ⟨by decide +kernel, rfl⟩
theorem aX6_tells_2 : decode mX6_tells.2.1 2 = .ok (.iconst 0, 1) ∧ 2 + 1 = 3 := ⟨by decide +kernel, rfl⟩
theorem aX6_tells_3 : decode mX6_tells.2.1 3 = .ok (.istore_n 3, 1) ∧ 3 + 1 = 4 := ⟨by decide +kernel, rfl⟩
theorem aX6_tells_4 : decode mX6_tells.2.1 4 = .ok (.iload_n 3, 1) ∧ 4 + 1 = 5 := ⟨by decide +kernel, rfl⟩
theorem aX6_tells_5 : decode mX6_tells.2.1 5 = .ok (.aload_n 0, 1) ∧ 5 + 1 = 6 := ⟨by decide +kernel, rfl⟩
theorem aX6_tells_6 : decode mX6_tells.2.1 6 = .ok (.getfield 9, 3) ∧ 6 + 3 = 9 := ⟨by decide +kernel, rfl⟩
theorem aX6_tells_9 : decode mX6_tells.2.1 9 = .ok (.if_icmp .ge 50, 3) ∧ ((9 : Nat) : Int) + 50 = ((59 : Nat) : Int) ∧ 9 + 3 = 12 := ⟨by decide +kernel, by decide, rfl⟩
theorem aX6_tells_12 : decode mX6_tells.2.1 12 = .ok (.iload_n 1, 1) ∧ 12 + 1 = 13 := ⟨by decide +kernel, rfl⟩
theorem aX6_tells_13 : decode mX6_tells.2.1 13 = .ok (.aload_n 0, 1) ∧ 13 + 1 = 14 := ⟨by decide +kernel, rfl⟩
theorem aX6_tells_14 : decode mX6_tells.2.1 14 = .ok (.getfield 18, 3) ∧ 14 + 3 = 17 := ⟨by decide +kernel, rfl⟩
theorem aX6_tells_17 : decode mX6_tells.2.1 17 = .ok (.iload_n 3, 1) ∧ 17 + 1 = 18 := ⟨by decide +kernel, rfl⟩
theorem aX6_tells_18 : decode mX6_tells.2.1 18 = .ok (.iaload, 1) ∧ 18 + 1 = 19 := ⟨by decide +kernel, rfl⟩
theorem aX6_tells_19 : decode mX6_tells.2.1 19 = .ok (.invokestatic 42, 3) ∧ 19 + 3 = 22 := ⟨by decide +kernel, rfl⟩
theorem aX6_tells_22 : decode mX6_tells.2.1 22 = .ok (.ifCond .eq 24, 3) ∧ ((22 : Nat) : Int) + 24 = ((46 : Nat) : Int) ∧ 22 + 3 = 25 := ⟨by decide +kernel, by decide, rfl⟩
theorem aX6_tells_25 : decode mX6_tells.2.1 25 = .ok (.aload_n 0, 1) ∧ 25 + 1 = 26 := ⟨by decide +kernel, rfl⟩
theorem aX6_tells_26 : decode mX6_tells.2.1 26 = .ok (.iload_n 2, 1) ∧ 26 + 1 = 27 := ⟨by decide +kernel, rfl⟩
theorem aX6_tells_27 : decode mX6_tells.2.1 27 = .ok (.aload_n 0, 1) ∧ 27 + 1 = 28 := ⟨by decide +kernel, rfl⟩
theorem aX6_tells_28 : decode mX6_tells.2.1 28 = .ok (.getfield 25, 3) ∧ 28 + 3 = 31 := ⟨by decide +kernel, rfl⟩
theorem aX6_tells_31 : decode mX6_tells.2.1 31 = .ok (.iload_n 3, 1) ∧ 31 + 1 = 32 := ⟨by decide +kernel, rfl⟩
theorem aX6_tells_32 : decode mX6_tells.2.1 32 = .ok (.iaload, 1) ∧ 32 + 1 = 33 := ⟨by decide +kernel, rfl⟩
theorem aX6_tells_33 : decode mX6_tells.2.1 33 = .ok (.invokevirtual 46, 3) ∧ 33 + 3 = 36 := ⟨by decide +kernel, rfl⟩
theorem aX6_tells_36 : decode mX6_tells.2.1 36 = .ok (.ifCond .eq 10, 3) ∧ ((36 : Nat) : Int) + 10 = ((46 : Nat) : Int) ∧ 36 + 3 = 39 := ⟨by decide +kernel, by decide, rfl⟩
theorem aX6_tells_39 : decode mX6_tells.2.1 39 = .ok (.aload_n 0, 1) ∧ 39 + 1 = 40 := ⟨by decide +kernel, rfl⟩
theorem aX6_tells_40 : decode mX6_tells.2.1 40 = .ok (.getfield 22, 3) ∧ 40 + 3 = 43 := ⟨by decide +kernel, rfl⟩
theorem aX6_tells_43 : decode mX6_tells.2.1 43 = .ok (.iload_n 3, 1) ∧ 43 + 1 = 44 := ⟨by decide +kernel, rfl⟩
theorem aX6_tells_44 : decode mX6_tells.2.1 44 = .ok (.iaload, 1) ∧ 44 + 1 = 45 := ⟨by decide +kernel, rfl⟩
theorem aX6_tells_45 : decode mX6_tells.2.1 45 = .ok (.ireturn, 1) := by decide +kernel
theorem aX6_tells_46 : decode mX6_tells.2.1 46 = .ok (.aload_n 0, 1) ∧ 46 + 1 = 47 := ⟨by decide +kernel, rfl⟩
theorem aX6_tells_47 : decode mX6_tells.2.1 47 = .ok (.getfield 25, 3) ∧ 47 + 3 = 50 := ⟨by decide +kernel, rfl⟩
theorem aX6_tells_50 : decode mX6_tells.2.1 50 = .ok (.iload_n 3, 1) ∧ 50 + 1 = 51 := ⟨by decide +kernel, rfl⟩
theorem aX6_tells_51 : decode mX6_tells.2.1 51 = .ok (.iaload, 1) ∧ 51 + 1 = 52 := ⟨by decide +kernel, rfl⟩
theorem aX6_tells_52 : decode mX6_tells.2.1 52 = .ok (.istore_n 2, 1) ∧ 52 + 1 = 53 := ⟨by decide +kernel, rfl⟩
theorem aX6_tells_53 : decode mX6_tells.2.1 53 = .ok (.iinc 3 1, 3) ∧ 53 + 3 = 56 := ⟨by decide +kernel, rfl⟩
theorem aX6_tells_56 : decode mX6_tells.2.1 56 = .ok (.goto (-52), 3) ∧ ((56 : Nat) : Int) + (-52) = ((4 : Nat) : Int) := ⟨by decide +kernel, by decide⟩
theorem aX6_tells_59 : decode mX6_tells.2.1 59 = .ok (.iconst 0, 1) ∧ 59 + 1 = 60 := ⟨by decide +kernel, rfl⟩
theorem aX6_tells_60 : decode mX6_tells.2.1 60 = .ok (.ireturn, 1) := by decide +kernel
theorem S_X6_tells {E : EE} {d : Nat} {I : IH} {Q : QT} {r : Nat} (hR : isRu r) (x1 : Int32) (h :
J E (d + 1) mX6_tells 4 [(0, .ref (eb E + r)), (1, .int x1), (2, .int (nI 0)), (3, .int (nI 0))] [] I Q) : Mt E (d + 1) mX6_tells [.ref (eb E + r), .int x1] I Q := by
  refine Mt_of [(0, .ref (eb E + r)), (1, .int x1)] (by decide +kernel) (by simp [lg_sl, Value.category, mX6_tells]) rfl ?_
  refine J_iconst (nI 0) aX6_tells_0 (by decide +kernel) ?_
  refine J_istore_n [(2, .int (nI 0)), (0, .ref (eb E + r)), (1, .int x1)] aX6_tells_1 (by decide) rfl ?_
  refine J_iconst (nI 0) aX6_tells_2 (by decide +kernel) ?_
  refine J_istore_n [(3, .int (nI 0)), (2, .int (nI 0)), (0, .ref (eb E + r)), (1, .int x1)] aX6_tells_3 (by decide) rfl ?_
  refine J_pick [2, 3, 1, 0] rfl ?_
  exact h
theorem S_X6_tells_4 {E : EE} {d : Nat} {I : IH} {Q : QT} {r : Nat} (hR : isRu r) (x1 : Int32) (x2 : Int32) (x3 : Int32) (h :
(((I r 0) ≤ x3 → Q (some (.int (nI 0))) I) ∧
 (¬ (I r 0) ≤ x3 → (∃ j1 : Nat, x3 = nI j1 ∧ j1 < 8 ∧ (Mt E d mX11_isOrUnder [.int x1, .int (I (r + 1) j1)] I (fun rv I4 => ∃ v5 : Int32, rv = some (.int v5) ∧
 ((v5 = 0 → (∃ j6 : Nat, x3 = nI j6 ∧ j6 < 8 ∧ J E (d + 1) mX6_tells 4 [(0, .ref (eb E + r)), (1, .int x1), (2, .int (I4 (r + 3) j6)), (3, .int (x3 + nI 1))] [] I4 Q)) ∧
 (¬ v5 = 0 → (∃ j9 : Nat, x3 = nI j9 ∧ j9 < 8 ∧ (Mt E d mX6_holds [.ref (eb E + r), .int x2, .int (I4 (r + 3) j9)] I4 (fun rv I12 => ∃ v13 : Int32, rv = some (.int v13) ∧
 ((v13 = 0 → (∃ j14 : Nat, x3 = nI j14 ∧ j14 < 8 ∧ J E (d + 1) mX6_tells 4 [(0, .ref (eb E + r)), (1, .int x1), (2, .int (I12 (r + 3) j14)), (3, .int (x3 + nI 1))] [] I12 Q)) ∧
 (¬ v13 = 0 → (∃ j17 : Nat, x3 = nI j17 ∧ j17 < 8 ∧ Q (some (.int (I12 (r + 2) j17))) I12)))))))))))))) : J E (d + 1) mX6_tells 4 [(0, .ref (eb E + r)), (1, .int x1), (2, .int x2), (3, .int x3)] [] I Q := by
  refine J_iload_n 3 aX6_tells_4 rfl ?_
  refine J_aload_n 0 aX6_tells_5 rfl ?_
  refine J_getI aX6_tells_6 flX6_9 (shRu hR) rfl ?_
  refine J_icmp_ge aX6_tells_9 (fun q => ?_) (fun q => ?_)
  · replace h := h.1 q
    refine J_iconst (nI 0) aX6_tells_59 (by decide +kernel) ?_
    exact J_iret aX6_tells_60 rfl h
  · replace h := h.2 q
    refine J_iload_n 1 aX6_tells_12 rfl ?_
    refine J_aload_n 0 aX6_tells_13 rfl ?_
    refine J_getR aX6_tells_14 flX6_18 (shRu hR) rfl ?_
    refine J_iload_n 3 aX6_tells_17 rfl ?_
    obtain ⟨j1, e2, b3, h⟩ := h
    refine J_iaload j1 aX6_tells_18 (shRu1 hR) e2 b3 (by decide) ?_
    refine J_callS [.int x1, .int (I (r + 1) j1)] [] aX6_tells_19 lkX6_42 okX11_isOrUnder rfl rfl (Nat.le_of_ble_eq_true rfl) (Nat.le_refl _) (Mt_mono h (fun rv I4 h => ?_))
    obtain ⟨v5, rfl, h⟩ := h
    refine J_r1 ?_
    refine J_if_eq aX6_tells_22 (fun q => ?_) (fun q => ?_)
    · replace h := h.1 q
      refine J_aload_n 0 aX6_tells_46 rfl ?_
      refine J_getR aX6_tells_47 flX6_25 (shRu hR) rfl ?_
      refine J_iload_n 3 aX6_tells_50 rfl ?_
      obtain ⟨j6, e7, b8, h⟩ := h
      refine J_iaload j6 aX6_tells_51 (shRu3 hR) e7 b8 (by decide) ?_
      refine J_istore_n [(2, .int (I4 (r + 3) j6)), (0, .ref (eb E + r)), (1, .int x1), (3, .int x3)] aX6_tells_52 (by decide) rfl ?_
      refine J_iinc (x3 + nI 1) [(3, .int (x3 + nI 1)), (2, .int (I4 (r + 3) j6)), (0, .ref (eb E + r)), (1, .int x1)] 3 aX6_tells_53 rfl (by first | rfl | (congr 1; decide +kernel)) (by decide) rfl ?_
      refine J_goto aX6_tells_56 ?_
      refine J_pick [2, 3, 1, 0] rfl ?_
      exact h
    · replace h := h.2 q
      refine J_aload_n 0 aX6_tells_25 rfl ?_
      refine J_iload_n 2 aX6_tells_26 rfl ?_
      refine J_aload_n 0 aX6_tells_27 rfl ?_
      refine J_getR aX6_tells_28 flX6_25 (shRu hR) rfl ?_
      refine J_iload_n 3 aX6_tells_31 rfl ?_
      obtain ⟨j9, e10, b11, h⟩ := h
      refine J_iaload j9 aX6_tells_32 (shRu3 hR) e10 b11 (by decide) ?_
      refine J_callV [.int x2, .int (I4 (r + 3) j9)] [] aX6_tells_33 lkX6_46_X6 okX6_holds (shRu hR) rfl rfl rfl (Nat.le_of_ble_eq_true rfl) (Nat.le_refl _) (Mt_mono h (fun rv I12 h => ?_))
      obtain ⟨v13, rfl, h⟩ := h
      refine J_r1 ?_
      refine J_if_eq aX6_tells_36 (fun q => ?_) (fun q => ?_)
      · replace h := h.1 q
        refine J_aload_n 0 aX6_tells_46 rfl ?_
        refine J_getR aX6_tells_47 flX6_25 (shRu hR) rfl ?_
        refine J_iload_n 3 aX6_tells_50 rfl ?_
        obtain ⟨j14, e15, b16, h⟩ := h
        refine J_iaload j14 aX6_tells_51 (shRu3 hR) e15 b16 (by decide) ?_
        refine J_istore_n [(2, .int (I12 (r + 3) j14)), (0, .ref (eb E + r)), (1, .int x1), (3, .int x3)] aX6_tells_52 (by decide) rfl ?_
        refine J_iinc (x3 + nI 1) [(3, .int (x3 + nI 1)), (2, .int (I12 (r + 3) j14)), (0, .ref (eb E + r)), (1, .int x1)] 3 aX6_tells_53 rfl (by first | rfl | (congr 1; decide +kernel)) (by decide) rfl ?_
        refine J_goto aX6_tells_56 ?_
        refine J_pick [2, 3, 1, 0] rfl ?_
        exact h
      · replace h := h.2 q
        refine J_aload_n 0 aX6_tells_39 rfl ?_
        refine J_getR aX6_tells_40 flX6_22 (shRu hR) rfl ?_
        refine J_iload_n 3 aX6_tells_43 rfl ?_
        obtain ⟨j17, e18, b19, h⟩ := h
        refine J_iaload j17 aX6_tells_44 (shRu2 hR) e18 b19 (by decide) ?_
        exact J_iret aX6_tells_45 rfl h
theorem aX6_holds_0 : decode mX6_holds.2.1 0 = .ok (.iload_n 1, 1) ∧ 0 + 1 = 1 := ⟨by decide +kernel, rfl⟩
theorem aX6_holds_1 : decode mX6_holds.2.1 1 = .ok (.iload_n 2, 1) ∧ 1 + 1 = 2 := ⟨by decide +kernel, rfl⟩
theorem aX6_holds_2 : decode mX6_holds.2.1 2 = .ok (.if_icmp .ne 7, 3) ∧ ((2 : Nat) : Int) + 7 = ((9 : Nat) : Int) ∧ 2 + 3 = 5 := ⟨by decide +kernel, by decide, rfl⟩
theorem aX6_holds_5 : decode mX6_holds.2.1 5 = .ok (.iconst 1, 1) ∧ 5 + 1 = 6 := ⟨by decide +kernel, rfl⟩
theorem aX6_holds_6 : decode mX6_holds.2.1 6 = .ok (.goto 4, 3) ∧ ((6 : Nat) : Int) + 4 = ((10 : Nat) : Int) := ⟨by decide +kernel, by decide⟩
theorem aX6_holds_9 : decode mX6_holds.2.1 9 = .ok (.iconst 0, 1) ∧ 9 + 1 = 10 := ⟨by decide +kernel, rfl⟩
theorem aX6_holds_10 : decode mX6_holds.2.1 10 = .ok (.istore_n 3, 1) ∧ 10 + 1 = 11 := ⟨by decide +kernel, rfl⟩
theorem aX6_holds_11 : decode mX6_holds.2.1 11 = .ok (.iload_n 1, 1) ∧ 11 + 1 = 12 := ⟨by decide +kernel, rfl⟩
theorem aX6_holds_12 : decode mX6_holds.2.1 12 = .ok (.istore 4, 2) ∧ 12 + 2 = 14 := ⟨by decide +kernel, rfl⟩
theorem aX6_holds_14 : decode mX6_holds.2.1 14 = .ok (.iload 4, 2) ∧ 14 + 2 = 16 := ⟨by decide +kernel, rfl⟩
theorem aX6_holds_16 : decode mX6_holds.2.1 16 = .ok (.iload_n 2, 1) ∧ 16 + 1 = 17 := ⟨by decide +kernel, rfl⟩
theorem aX6_holds_17 : decode mX6_holds.2.1 17 = .ok (.if_icmp .ge 231, 3) ∧ ((17 : Nat) : Int) + 231 = ((248 : Nat) : Int) ∧ 17 + 3 = 20 := ⟨by decide +kernel, by decide, rfl⟩
theorem aX6_holds_20 : decode mX6_holds.2.1 20 = .ok (.aload_n 0, 1) ∧ 20 + 1 = 21 := ⟨by decide +kernel, rfl⟩
theorem aX6_holds_21 : decode mX6_holds.2.1 21 = .ok (.getfield 30, 3) ∧ 21 + 3 = 24 := ⟨by decide +kernel, rfl⟩
theorem aX6_holds_24 : decode mX6_holds.2.1 24 = .ok (.iload 4, 2) ∧ 24 + 2 = 26 := ⟨by decide +kernel, rfl⟩
theorem aX6_holds_26 : decode mX6_holds.2.1 26 = .ok (.iaload, 1) ∧ 26 + 1 = 27 := ⟨by decide +kernel, rfl⟩
theorem aX6_holds_27 : decode mX6_holds.2.1 27 = .ok (.istore 5, 2) ∧ 27 + 2 = 29 := ⟨by decide +kernel, rfl⟩
theorem aX6_holds_29 : decode mX6_holds.2.1 29 = .ok (.iload 5, 2) ∧ 29 + 2 = 31 := ⟨by decide +kernel, rfl⟩
theorem aX6_holds_31 : decode mX6_holds.2.1 31 = .ok (.iconst 2, 1) ∧ 31 + 1 = 32 := ⟨by decide +kernel, rfl⟩
theorem aX6_holds_32 : decode mX6_holds.2.1 32 = .ok (.if_icmp .gt 171, 3) ∧ ((32 : Nat) : Int) + 171 = ((203 : Nat) : Int) ∧ 32 + 3 = 35 := ⟨by decide +kernel, by decide, rfl⟩
theorem aX6_holds_35 : decode mX6_holds.2.1 35 = .ok (.iload 4, 2) ∧ 35 + 2 = 37 := ⟨by decide +kernel, rfl⟩
theorem aX6_holds_37 : decode mX6_holds.2.1 37 = .ok (.iconst 2, 1) ∧ 37 + 1 = 38 := ⟨by decide +kernel, rfl⟩
theorem aX6_holds_38 : decode mX6_holds.2.1 38 = .ok (.iadd, 1) ∧ 38 + 1 = 39 := ⟨by decide +kernel, rfl⟩
theorem aX6_holds_39 : decode mX6_holds.2.1 39 = .ok (.iload_n 2, 1) ∧ 39 + 1 = 40 := ⟨by decide +kernel, rfl⟩
theorem aX6_holds_40 : decode mX6_holds.2.1 40 = .ok (.if_icmp .ge 163, 3) ∧ ((40 : Nat) : Int) + 163 = ((203 : Nat) : Int) ∧ 40 + 3 = 43 := ⟨by decide +kernel, by decide, rfl⟩
theorem aX6_holds_43 : decode mX6_holds.2.1 43 = .ok (.aload_n 0, 1) ∧ 43 + 1 = 44 := ⟨by decide +kernel, rfl⟩
theorem aX6_holds_44 : decode mX6_holds.2.1 44 = .ok (.getfield 30, 3) ∧ 44 + 3 = 47 := ⟨by decide +kernel, rfl⟩
theorem aX6_holds_47 : decode mX6_holds.2.1 47 = .ok (.iload 4, 2) ∧ 47 + 2 = 49 := ⟨by decide +kernel, rfl⟩
theorem aX6_holds_49 : decode mX6_holds.2.1 49 = .ok (.iconst 1, 1) ∧ 49 + 1 = 50 := ⟨by decide +kernel, rfl⟩
theorem aX6_holds_50 : decode mX6_holds.2.1 50 = .ok (.iadd, 1) ∧ 50 + 1 = 51 := ⟨by decide +kernel, rfl⟩
theorem aX6_holds_51 : decode mX6_holds.2.1 51 = .ok (.iaload, 1) ∧ 51 + 1 = 52 := ⟨by decide +kernel, rfl⟩
theorem aX6_holds_52 : decode mX6_holds.2.1 52 = .ok (.ifCond .ge 22, 3) ∧ ((52 : Nat) : Int) + 22 = ((74 : Nat) : Int) ∧ 52 + 3 = 55 := ⟨by decide +kernel, by decide, rfl⟩
theorem aX6_holds_55 : decode mX6_holds.2.1 55 = .ok (.aload_n 0, 1) ∧ 55 + 1 = 56 := ⟨by decide +kernel, rfl⟩
theorem aX6_holds_56 : decode mX6_holds.2.1 56 = .ok (.getfield 33, 3) ∧ 56 + 3 = 59 := ⟨by decide +kernel, rfl⟩
theorem aX6_holds_59 : decode mX6_holds.2.1 59 = .ok (.iconst 5, 1) ∧ 59 + 1 = 60 := ⟨by decide +kernel, rfl⟩
theorem aX6_holds_60 : decode mX6_holds.2.1 60 = .ok (.aload_n 0, 1) ∧ 60 + 1 = 61 := ⟨by decide +kernel, rfl⟩
theorem aX6_holds_61 : decode mX6_holds.2.1 61 = .ok (.getfield 30, 3) ∧ 61 + 3 = 64 := ⟨by decide +kernel, rfl⟩
theorem aX6_holds_64 : decode mX6_holds.2.1 64 = .ok (.iload 4, 2) ∧ 64 + 2 = 66 := ⟨by decide +kernel, rfl⟩
theorem aX6_holds_66 : decode mX6_holds.2.1 66 = .ok (.iconst 1, 1) ∧ 66 + 1 = 67 := ⟨by decide +kernel, rfl⟩
theorem aX6_holds_67 : decode mX6_holds.2.1 67 = .ok (.iadd, 1) ∧ 67 + 1 = 68 := ⟨by decide +kernel, rfl⟩
theorem aX6_holds_68 : decode mX6_holds.2.1 68 = .ok (.iaload, 1) ∧ 68 + 1 = 69 := ⟨by decide +kernel, rfl⟩
theorem aX6_holds_69 : decode mX6_holds.2.1 69 = .ok (.iadd, 1) ∧ 69 + 1 = 70 := ⟨by decide +kernel, rfl⟩
theorem aX6_holds_70 : decode mX6_holds.2.1 70 = .ok (.iaload, 1) ∧ 70 + 1 = 71 := ⟨by decide +kernel, rfl⟩
theorem aX6_holds_71 : decode mX6_holds.2.1 71 = .ok (.goto 12, 3) ∧ ((71 : Nat) : Int) + 12 = ((83 : Nat) : Int) := ⟨by decide +kernel, by decide⟩
theorem aX6_holds_74 : decode mX6_holds.2.1 74 = .ok (.aload_n 0, 1) ∧ 74 + 1 = 75 := ⟨by decide +kernel, rfl⟩
theorem aX6_holds_75 : decode mX6_holds.2.1 75 = .ok (.getfield 30, 3) ∧ 75 + 3 = 78 := ⟨by decide +kernel, rfl⟩
theorem aX6_holds_78 : decode mX6_holds.2.1 78 = .ok (.iload 4, 2) ∧ 78 + 2 = 80 := ⟨by decide +kernel, rfl⟩
theorem aX6_holds_80 : decode mX6_holds.2.1 80 = .ok (.iconst 1, 1) ∧ 80 + 1 = 81 := ⟨by decide +kernel, rfl⟩
theorem aX6_holds_81 : decode mX6_holds.2.1 81 = .ok (.iadd, 1) ∧ 81 + 1 = 82 := ⟨by decide +kernel, rfl⟩
theorem aX6_holds_82 : decode mX6_holds.2.1 82 = .ok (.iaload, 1) ∧ 82 + 1 = 83 := ⟨by decide +kernel, rfl⟩
theorem aX6_holds_83 : decode mX6_holds.2.1 83 = .ok (.istore 6, 2) ∧ 83 + 2 = 85 := ⟨by decide +kernel, rfl⟩
theorem aX6_holds_85 : decode mX6_holds.2.1 85 = .ok (.aload_n 0, 1) ∧ 85 + 1 = 86 := ⟨by decide +kernel, rfl⟩
theorem aX6_holds_86 : decode mX6_holds.2.1 86 = .ok (.getfield 30, 3) ∧ 86 + 3 = 89 := ⟨by decide +kernel, rfl⟩
theorem aX6_holds_89 : decode mX6_holds.2.1 89 = .ok (.iload 4, 2) ∧ 89 + 2 = 91 := ⟨by decide +kernel, rfl⟩
theorem aX6_holds_91 : decode mX6_holds.2.1 91 = .ok (.iconst 2, 1) ∧ 91 + 1 = 92 := ⟨by decide +kernel, rfl⟩
theorem aX6_holds_92 : decode mX6_holds.2.1 92 = .ok (.iadd, 1) ∧ 92 + 1 = 93 := ⟨by decide +kernel, rfl⟩
theorem aX6_holds_93 : decode mX6_holds.2.1 93 = .ok (.iaload, 1) ∧ 93 + 1 = 94 := ⟨by decide +kernel, rfl⟩
theorem aX6_holds_94 : decode mX6_holds.2.1 94 = .ok (.ifCond .ge 22, 3) ∧ ((94 : Nat) : Int) + 22 = ((116 : Nat) : Int) ∧ 94 + 3 = 97 := ⟨by decide +kernel, by decide, rfl⟩
theorem aX6_holds_97 : decode mX6_holds.2.1 97 = .ok (.aload_n 0, 1) ∧ 97 + 1 = 98 := ⟨by decide +kernel, rfl⟩
theorem aX6_holds_98 : decode mX6_holds.2.1 98 = .ok (.getfield 33, 3) ∧ 98 + 3 = 101 := ⟨by decide +kernel, rfl⟩
theorem aX6_holds_101 : decode mX6_holds.2.1 101 = .ok (.iconst 5, 1) ∧ 101 + 1 = 102 := ⟨by decide +kernel, rfl⟩
theorem aX6_holds_102 : decode mX6_holds.2.1 102 = .ok (.aload_n 0, 1) ∧ 102 + 1 = 103 := ⟨by decide +kernel, rfl⟩
theorem aX6_holds_103 : decode mX6_holds.2.1 103 = .ok (.getfield 30, 3) ∧ 103 + 3 = 106 := ⟨by decide +kernel, rfl⟩
theorem aX6_holds_106 : decode mX6_holds.2.1 106 = .ok (.iload 4, 2) ∧ 106 + 2 = 108 := ⟨by decide +kernel, rfl⟩
theorem aX6_holds_108 : decode mX6_holds.2.1 108 = .ok (.iconst 2, 1) ∧ 108 + 1 = 109 := ⟨by decide +kernel, rfl⟩
theorem aX6_holds_109 : decode mX6_holds.2.1 109 = .ok (.iadd, 1) ∧ 109 + 1 = 110 := ⟨by decide +kernel, rfl⟩
theorem aX6_holds_110 : decode mX6_holds.2.1 110 = .ok (.iaload, 1) ∧ 110 + 1 = 111 := ⟨by decide +kernel, rfl⟩
theorem aX6_holds_111 : decode mX6_holds.2.1 111 = .ok (.iadd, 1) ∧ 111 + 1 = 112 := ⟨by decide +kernel, rfl⟩
theorem aX6_holds_112 : decode mX6_holds.2.1 112 = .ok (.iaload, 1) ∧ 112 + 1 = 113 := ⟨by decide +kernel, rfl⟩
theorem aX6_holds_113 : decode mX6_holds.2.1 113 = .ok (.goto 12, 3) ∧ ((113 : Nat) : Int) + 12 = ((125 : Nat) : Int) := ⟨by decide +kernel, by decide⟩
theorem aX6_holds_116 : decode mX6_holds.2.1 116 = .ok (.aload_n 0, 1) ∧ 116 + 1 = 117 := ⟨by decide +kernel, rfl⟩
theorem aX6_holds_117 : decode mX6_holds.2.1 117 = .ok (.getfield 30, 3) ∧ 117 + 3 = 120 := ⟨by decide +kernel, rfl⟩
theorem aX6_holds_120 : decode mX6_holds.2.1 120 = .ok (.iload 4, 2) ∧ 120 + 2 = 122 := ⟨by decide +kernel, rfl⟩
theorem aX6_holds_122 : decode mX6_holds.2.1 122 = .ok (.iconst 2, 1) ∧ 122 + 1 = 123 := ⟨by decide +kernel, rfl⟩
theorem aX6_holds_123 : decode mX6_holds.2.1 123 = .ok (.iadd, 1) ∧ 123 + 1 = 124 := ⟨by decide +kernel, rfl⟩
theorem aX6_holds_124 : decode mX6_holds.2.1 124 = .ok (.iaload, 1) ∧ 124 + 1 = 125 := ⟨by decide +kernel, rfl⟩
theorem aX6_holds_125 : decode mX6_holds.2.1 125 = .ok (.istore 7, 2) ∧ 125 + 2 = 127 := ⟨by decide +kernel, rfl⟩
theorem aX6_holds_127 : decode mX6_holds.2.1 127 = .ok (.iload 5, 2) ∧ 127 + 2 = 129 := ⟨by decide +kernel, rfl⟩
theorem aX6_holds_129 : decode mX6_holds.2.1 129 = .ok (.ifCond .ne 18, 3) ∧ ((129 : Nat) : Int) + 18 = ((147 : Nat) : Int) ∧ 129 + 3 = 132 := ⟨by decide +kernel, by decide, rfl⟩
theorem aX6_holds_132 : decode mX6_holds.2.1 132 = .ok (.iload 6, 2) ∧ 132 + 2 = 134 := ⟨by decide +kernel, rfl⟩
theorem aX6_holds_134 : decode mX6_holds.2.1 134 = .ok (.iload 7, 2) ∧ 134 + 2 = 136 := ⟨by decide +kernel, rfl⟩
theorem aX6_holds_136 : decode mX6_holds.2.1 136 = .ok (.if_icmp .ge 7, 3) ∧ ((136 : Nat) : Int) + 7 = ((143 : Nat) : Int) ∧ 136 + 3 = 139 := ⟨by decide +kernel, by decide, rfl⟩
theorem aX6_holds_139 : decode mX6_holds.2.1 139 = .ok (.iconst 1, 1) ∧ 139 + 1 = 140 := ⟨by decide +kernel, rfl⟩
theorem aX6_holds_140 : decode mX6_holds.2.1 140 = .ok (.goto 40, 3) ∧ ((140 : Nat) : Int) + 40 = ((180 : Nat) : Int) := ⟨by decide +kernel, by decide⟩
theorem aX6_holds_143 : decode mX6_holds.2.1 143 = .ok (.iconst 0, 1) ∧ 143 + 1 = 144 := ⟨by decide +kernel, rfl⟩
theorem aX6_holds_144 : decode mX6_holds.2.1 144 = .ok (.goto 36, 3) ∧ ((144 : Nat) : Int) + 36 = ((180 : Nat) : Int) := ⟨by decide +kernel, by decide⟩
theorem aX6_holds_147 : decode mX6_holds.2.1 147 = .ok (.iload 5, 2) ∧ 147 + 2 = 149 := ⟨by decide +kernel, rfl⟩
theorem aX6_holds_149 : decode mX6_holds.2.1 149 = .ok (.iconst 1, 1) ∧ 149 + 1 = 150 := ⟨by decide +kernel, rfl⟩
theorem aX6_holds_150 : decode mX6_holds.2.1 150 = .ok (.if_icmp .ne 18, 3) ∧ ((150 : Nat) : Int) + 18 = ((168 : Nat) : Int) ∧ 150 + 3 = 153 := ⟨by decide +kernel, by decide, rfl⟩
theorem aX6_holds_153 : decode mX6_holds.2.1 153 = .ok (.iload 6, 2) ∧ 153 + 2 = 155 := ⟨by decide +kernel, rfl⟩
theorem aX6_holds_155 : decode mX6_holds.2.1 155 = .ok (.iload 7, 2) ∧ 155 + 2 = 157 := ⟨by decide +kernel, rfl⟩
theorem aX6_holds_157 : decode mX6_holds.2.1 157 = .ok (.if_icmp .ne 7, 3) ∧ ((157 : Nat) : Int) + 7 = ((164 : Nat) : Int) ∧ 157 + 3 = 160 := ⟨by decide +kernel, by decide, rfl⟩
theorem aX6_holds_160 : decode mX6_holds.2.1 160 = .ok (.iconst 1, 1) ∧ 160 + 1 = 161 := ⟨by decide +kernel, rfl⟩
theorem aX6_holds_161 : decode mX6_holds.2.1 161 = .ok (.goto 19, 3) ∧ ((161 : Nat) : Int) + 19 = ((180 : Nat) : Int) := ⟨by decide +kernel, by decide⟩
theorem aX6_holds_164 : decode mX6_holds.2.1 164 = .ok (.iconst 0, 1) ∧ 164 + 1 = 165 := ⟨by decide +kernel, rfl⟩
theorem aX6_holds_165 : decode mX6_holds.2.1 165 = .ok (.goto 15, 3) ∧ ((165 : Nat) : Int) + 15 = ((180 : Nat) : Int) := ⟨by decide +kernel, by decide⟩
theorem aX6_holds_168 : decode mX6_holds.2.1 168 = .ok (.iload 6, 2) ∧ 168 + 2 = 170 := ⟨by decide +kernel, rfl⟩
theorem aX6_holds_170 : decode mX6_holds.2.1 170 = .ok (.iload 7, 2) ∧ 170 + 2 = 172 := ⟨by decide +kernel, rfl⟩
theorem aX6_holds_172 : decode mX6_holds.2.1 172 = .ok (.if_icmp .le 7, 3) ∧ ((172 : Nat) : Int) + 7 = ((179 : Nat) : Int) ∧ 172 + 3 = 175 := ⟨by decide +kernel, by decide, rfl⟩
theorem aX6_holds_175 : decode mX6_holds.2.1 175 = .ok (.iconst 1, 1) ∧ 175 + 1 = 176 := ⟨by decide +kernel, rfl⟩
theorem aX6_holds_176 : decode mX6_holds.2.1 176 = .ok (.goto 4, 3) ∧ ((176 : Nat) : Int) + 4 = ((180 : Nat) : Int) := ⟨by decide +kernel, by decide⟩
theorem aX6_holds_179 : decode mX6_holds.2.1 179 = .ok (.iconst 0, 1) ∧ 179 + 1 = 180 := ⟨by decide +kernel, rfl⟩
theorem aX6_holds_180 : decode mX6_holds.2.1 180 = .ok (.istore 8, 2) ∧ 180 + 2 = 182 := ⟨by decide +kernel, rfl⟩
theorem aX6_holds_182 : decode mX6_holds.2.1 182 = .ok (.iload_n 3, 1) ∧ 182 + 1 = 183 := ⟨by decide +kernel, rfl⟩
theorem aX6_holds_183 : decode mX6_holds.2.1 183 = .ok (.iconst 1, 1) ∧ 183 + 1 = 184 := ⟨by decide +kernel, rfl⟩
theorem aX6_holds_184 : decode mX6_holds.2.1 184 = .ok (.ishl, 1) ∧ 184 + 1 = 185 := ⟨by decide +kernel, rfl⟩
theorem aX6_holds_185 : decode mX6_holds.2.1 185 = .ok (.iload 8, 2) ∧ 185 + 2 = 187 := ⟨by decide +kernel, rfl⟩
theorem aX6_holds_187 : decode mX6_holds.2.1 187 = .ok (.ifCond .eq 7, 3) ∧ ((187 : Nat) : Int) + 7 = ((194 : Nat) : Int) ∧ 187 + 3 = 190 := ⟨by decide +kernel, by decide, rfl⟩
theorem aX6_holds_190 : decode mX6_holds.2.1 190 = .ok (.iconst 1, 1) ∧ 190 + 1 = 191 := ⟨by decide +kernel, rfl⟩
theorem aX6_holds_191 : decode mX6_holds.2.1 191 = .ok (.goto 4, 3) ∧ ((191 : Nat) : Int) + 4 = ((195 : Nat) : Int) := ⟨by decide +kernel, by decide⟩
theorem aX6_holds_194 : decode mX6_holds.2.1 194 = .ok (.iconst 0, 1) ∧ 194 + 1 = 195 := ⟨by decide +kernel, rfl⟩
theorem aX6_holds_195 : decode mX6_holds.2.1 195 = .ok (.ior, 1) ∧ 195 + 1 = 196 := ⟨by decide +kernel, rfl⟩
theorem aX6_holds_196 : decode mX6_holds.2.1 196 = .ok (.istore_n 3, 1) ∧ 196 + 1 = 197 := ⟨by decide +kernel, rfl⟩
theorem aX6_holds_197 : decode mX6_holds.2.1 197 = .ok (.iinc 4 2, 3) ∧ 197 + 3 = 200 := ⟨by decide +kernel, rfl⟩
theorem aX6_holds_200 : decode mX6_holds.2.1 200 = .ok (.goto 42, 3) ∧ ((200 : Nat) : Int) + 42 = ((242 : Nat) : Int) := ⟨by decide +kernel, by decide⟩
theorem aX6_holds_203 : decode mX6_holds.2.1 203 = .ok (.iload 5, 2) ∧ 203 + 2 = 205 := ⟨by decide +kernel, rfl⟩
theorem aX6_holds_205 : decode mX6_holds.2.1 205 = .ok (.iconst 3, 1) ∧ 205 + 1 = 206 := ⟨by decide +kernel, rfl⟩
theorem aX6_holds_206 : decode mX6_holds.2.1 206 = .ok (.if_icmp .ne 10, 3) ∧ ((206 : Nat) : Int) + 10 = ((216 : Nat) : Int) ∧ 206 + 3 = 209 := ⟨by decide +kernel, by decide, rfl⟩
theorem aX6_holds_209 : decode mX6_holds.2.1 209 = .ok (.iload_n 3, 1) ∧ 209 + 1 = 210 := ⟨by decide +kernel, rfl⟩
theorem aX6_holds_210 : decode mX6_holds.2.1 210 = .ok (.iconst 1, 1) ∧ 210 + 1 = 211 := ⟨by decide +kernel, rfl⟩
theorem aX6_holds_211 : decode mX6_holds.2.1 211 = .ok (.ixor, 1) ∧ 211 + 1 = 212 := ⟨by decide +kernel, rfl⟩
theorem aX6_holds_212 : decode mX6_holds.2.1 212 = .ok (.istore_n 3, 1) ∧ 212 + 1 = 213 := ⟨by decide +kernel, rfl⟩
theorem aX6_holds_213 : decode mX6_holds.2.1 213 = .ok (.goto 29, 3) ∧ ((213 : Nat) : Int) + 29 = ((242 : Nat) : Int) := ⟨by decide +kernel, by decide⟩
theorem aX6_holds_216 : decode mX6_holds.2.1 216 = .ok (.iload 5, 2) ∧ 216 + 2 = 218 := ⟨by decide +kernel, rfl⟩
theorem aX6_holds_218 : decode mX6_holds.2.1 218 = .ok (.iconst 4, 1) ∧ 218 + 1 = 219 := ⟨by decide +kernel, rfl⟩
theorem aX6_holds_219 : decode mX6_holds.2.1 219 = .ok (.if_icmp .ne 15, 3) ∧ ((219 : Nat) : Int) + 15 = ((234 : Nat) : Int) ∧ 219 + 3 = 222 := ⟨by decide +kernel, by decide, rfl⟩
theorem aX6_holds_222 : decode mX6_holds.2.1 222 = .ok (.iload_n 3, 1) ∧ 222 + 1 = 223 := ⟨by decide +kernel, rfl⟩
theorem aX6_holds_223 : decode mX6_holds.2.1 223 = .ok (.iconst 1, 1) ∧ 223 + 1 = 224 := ⟨by decide +kernel, rfl⟩
theorem aX6_holds_224 : decode mX6_holds.2.1 224 = .ok (.ishr, 1) ∧ 224 + 1 = 225 := ⟨by decide +kernel, rfl⟩
theorem aX6_holds_225 : decode mX6_holds.2.1 225 = .ok (.iload_n 3, 1) ∧ 225 + 1 = 226 := ⟨by decide +kernel, rfl⟩
theorem aX6_holds_226 : decode mX6_holds.2.1 226 = .ok (.bipush (-2), 2) ∧ 226 + 2 = 228 := ⟨by decide +kernel, rfl⟩
theorem aX6_holds_228 : decode mX6_holds.2.1 228 = .ok (.ior, 1) ∧ 228 + 1 = 229 := ⟨by decide +kernel, rfl⟩
theorem aX6_holds_229 : decode mX6_holds.2.1 229 = .ok (.iand, 1) ∧ 229 + 1 = 230 := ⟨by decide +kernel, rfl⟩
theorem aX6_holds_230 : decode mX6_holds.2.1 230 = .ok (.istore_n 3, 1) ∧ 230 + 1 = 231 := ⟨by decide +kernel, rfl⟩
theorem aX6_holds_231 : decode mX6_holds.2.1 231 = .ok (.goto 11, 3) ∧ ((231 : Nat) : Int) + 11 = ((242 : Nat) : Int) := ⟨by decide +kernel, by decide⟩
theorem aX6_holds_234 : decode mX6_holds.2.1 234 = .ok (.iload_n 3, 1) ∧ 234 + 1 = 235 := ⟨by decide +kernel, rfl⟩
theorem aX6_holds_235 : decode mX6_holds.2.1 235 = .ok (.iconst 1, 1) ∧ 235 + 1 = 236 := ⟨by decide +kernel, rfl⟩
theorem aX6_holds_236 : decode mX6_holds.2.1 236 = .ok (.ishr, 1) ∧ 236 + 1 = 237 := ⟨by decide +kernel, rfl⟩
theorem aX6_holds_237 : decode mX6_holds.2.1 237 = .ok (.iload_n 3, 1) ∧ 237 + 1 = 238 := ⟨by decide +kernel, rfl⟩
theorem aX6_holds_238 : decode mX6_holds.2.1 238 = .ok (.iconst 1, 1) ∧ 238 + 1 = 239 := ⟨by decide +kernel, rfl⟩
theorem aX6_holds_239 : decode mX6_holds.2.1 239 = .ok (.iand, 1) ∧ 239 + 1 = 240 := ⟨by decide +kernel, rfl⟩
theorem aX6_holds_240 : decode mX6_holds.2.1 240 = .ok (.ior, 1) ∧ 240 + 1 = 241 := ⟨by decide +kernel, rfl⟩
theorem aX6_holds_241 : decode mX6_holds.2.1 241 = .ok (.istore_n 3, 1) ∧ 241 + 1 = 242 := ⟨by decide +kernel, rfl⟩
theorem aX6_holds_242 : decode mX6_holds.2.1 242 = .ok (.iinc 4 1, 3) ∧ 242 + 3 = 245 := ⟨by decide +kernel, rfl⟩
theorem aX6_holds_245 : decode mX6_holds.2.1 245 = .ok (.goto (-231), 3) ∧ ((245 : Nat) : Int) + (-231) = ((14 : Nat) : Int) := ⟨by decide +kernel, by decide⟩
theorem aX6_holds_248 : decode mX6_holds.2.1 248 = .ok (.iload_n 3, 1) ∧ 248 + 1 = 249 := ⟨by decide +kernel, rfl⟩
theorem aX6_holds_249 : decode mX6_holds.2.1 249 = .ok (.iconst 1, 1) ∧ 249 + 1 = 250 := ⟨by decide +kernel, rfl⟩
theorem aX6_holds_250 : decode mX6_holds.2.1 250 = .ok (.iand, 1) ∧ 250 + 1 = 251 := ⟨by decide +kernel, rfl⟩
theorem aX6_holds_251 : decode mX6_holds.2.1 251 = .ok (.iconst 1, 1) ∧ 251 + 1 = 252 := ⟨by decide +kernel, rfl⟩
theorem aX6_holds_252 : decode mX6_holds.2.1 252 = .ok (.if_icmp .ne 7, 3) ∧ ((252 : Nat) : Int) + 7 = ((259 : Nat) : Int) ∧ 252 + 3 = 255 := ⟨by decide +kernel, by decide, rfl⟩
theorem aX6_holds_255 : decode mX6_holds.2.1 255 = .ok (.iconst 1, 1) ∧ 255 + 1 = 256 := ⟨by decide +kernel, rfl⟩
theorem aX6_holds_256 : decode mX6_holds.2.1 256 = .ok (.goto 4, 3) ∧ ((256 : Nat) : Int) + 4 = ((260 : Nat) : Int) := ⟨by decide +kernel, by decide⟩
theorem aX6_holds_259 : decode mX6_holds.2.1 259 = .ok (.iconst 0, 1) ∧ 259 + 1 = 260 := ⟨by decide +kernel, rfl⟩
theorem aX6_holds_260 : decode mX6_holds.2.1 260 = .ok (.ireturn, 1) := by decide +kernel
theorem S_X6_holds {E : EE} {d : Nat} {I : IH} {Q : QT} {r : Nat} (hR : isRu r) (x1 : Int32) (x2 : Int32) (h :
((¬ x1 = x2 → J E d mX6_holds 14 [(0, .ref (eb E + r)), (2, .int x2), (3, .int (nI 0)), (4, .int x1)] [] I Q) ∧
 (x1 = x2 → J E d mX6_holds 14 [(0, .ref (eb E + r)), (2, .int x2), (3, .int (nI 1)), (4, .int x1)] [] I Q))) : Mt E d mX6_holds [.ref (eb E + r), .int x1, .int x2] I Q := by
  refine Mt_of [(0, .ref (eb E + r)), (1, .int x1), (2, .int x2)] (by decide +kernel) (by simp [lg_sl, Value.category, mX6_holds]) rfl ?_
  refine J_iload_n 1 aX6_holds_0 rfl ?_
  refine J_iload_n 2 aX6_holds_1 rfl ?_
  refine J_icmp_ne aX6_holds_2 (fun q => ?_) (fun q => ?_)
  · replace h := h.1 q
    refine J_iconst (nI 0) aX6_holds_9 (by decide +kernel) ?_
    refine J_istore_n [(3, .int (nI 0)), (0, .ref (eb E + r)), (1, .int x1), (2, .int x2)] aX6_holds_10 (by decide) rfl ?_
    refine J_iload_n 2 aX6_holds_11 rfl ?_
    refine J_istore [(4, .int x1), (3, .int (nI 0)), (0, .ref (eb E + r)), (1, .int x1), (2, .int x2)] aX6_holds_12 (by decide) rfl ?_
    refine J_pick [2, 4, 1, 0] rfl ?_
    exact h
  · replace h := h.2 q
    refine J_iconst (nI 1) aX6_holds_5 (by decide +kernel) ?_
    refine J_goto aX6_holds_6 ?_
    refine J_istore_n [(3, .int (nI 1)), (0, .ref (eb E + r)), (1, .int x1), (2, .int x2)] aX6_holds_10 (by decide) rfl ?_
    refine J_iload_n 2 aX6_holds_11 rfl ?_
    refine J_istore [(4, .int x1), (3, .int (nI 1)), (0, .ref (eb E + r)), (1, .int x1), (2, .int x2)] aX6_holds_12 (by decide) rfl ?_
    refine J_pick [2, 4, 1, 0] rfl ?_
    exact h
theorem S_X6_holds_14 {E : EE} {d : Nat} {I : IH} {Q : QT} {r : Nat} (hR : isRu r) (x2 : Int32) (x3 : Int32) (x4 : Int32) (h :
((x2 ≤ x4 → ((¬ (x3 &&& (nI 1)) = (nI 1) → Q (some (.int (nI 0))) I) ∧
 ((x3 &&& (nI 1)) = (nI 1) → Q (some (.int (nI 1))) I))) ∧
 (¬ x2 ≤ x4 → (∃ j1 : Nat, x4 = nI j1 ∧ j1 < 200 ∧ (((nI 2) < (I (r + 4) j1) → J E d mX6_holds 203 [(0, .ref (eb E + r)), (2, .int x2), (3, .int x3), (4, .int x4), (5, .int (I (r + 4) j1))] [] I Q) ∧
 (¬ (nI 2) < (I (r + 4) j1) → ((x2 ≤ (x4 + (nI 2)) → J E d mX6_holds 203 [(0, .ref (eb E + r)), (2, .int x2), (3, .int x3), (4, .int x4), (5, .int (I (r + 4) j1))] [] I Q) ∧
 (¬ x2 ≤ (x4 + (nI 2)) → (∃ j4 : Nat, (x4 + (nI 1)) = nI j4 ∧ j4 < 200 ∧ ((0 ≤ (I (r + 4) j4) → (∃ j7 : Nat, (x4 + (nI 1)) = nI j7 ∧ j7 < 200 ∧ J E d mX6_holds 83 [(0, .ref (eb E + r)), (2, .int x2), (3, .int x3), (4, .int x4), (5, .int (I (r + 4) j1))] [.int (I (r + 4) j7)] I Q)) ∧
 (¬ 0 ≤ (I (r + 4) j4) → (∃ j10 : Nat, (x4 + (nI 1)) = nI j10 ∧ j10 < 200 ∧ (∃ j13 : Nat, ((nI 5) + (I (r + 4) j10)) = nI j13 ∧ j13 < 5 ∧ J E d mX6_holds 83 [(0, .ref (eb E + r)), (2, .int x2), (3, .int x3), (4, .int x4), (5, .int (I (r + 4) j1))] [.int (I (r + 5) j13)] I Q))))))))))))) : J E d mX6_holds 14 [(0, .ref (eb E + r)), (2, .int x2), (3, .int x3), (4, .int x4)] [] I Q := by
  refine J_iload 3 aX6_holds_14 rfl ?_
  refine J_iload_n 1 aX6_holds_16 rfl ?_
  refine J_icmp_ge aX6_holds_17 (fun q => ?_) (fun q => ?_)
  · replace h := h.1 q
    refine J_iload_n 2 aX6_holds_248 rfl ?_
    refine J_iconst (nI 1) aX6_holds_249 (by decide +kernel) ?_
    refine J_iand aX6_holds_250 ?_
    refine J_iconst (nI 1) aX6_holds_251 (by decide +kernel) ?_
    refine J_icmp_ne aX6_holds_252 (fun q => ?_) (fun q => ?_)
    · replace h := h.1 q
      refine J_iconst (nI 0) aX6_holds_259 (by decide +kernel) ?_
      exact J_zret aX6_holds_260 rfl (by decide +kernel) h
    · replace h := h.2 q
      refine J_iconst (nI 1) aX6_holds_255 (by decide +kernel) ?_
      refine J_goto aX6_holds_256 ?_
      exact J_zret aX6_holds_260 rfl (by decide +kernel) h
  · replace h := h.2 q
    refine J_aload_n 0 aX6_holds_20 rfl ?_
    refine J_getR aX6_holds_21 flX6_30 (shRu hR) rfl ?_
    refine J_iload 3 aX6_holds_24 rfl ?_
    obtain ⟨j1, e2, b3, h⟩ := h
    refine J_iaload j1 aX6_holds_26 (shRu4 hR) e2 b3 (by decide) ?_
    refine J_istore [(5, .int (I (r + 4) j1)), (0, .ref (eb E + r)), (2, .int x2), (3, .int x3), (4, .int x4)] aX6_holds_27 (by decide) rfl ?_
    refine J_iload 0 aX6_holds_29 rfl ?_
    refine J_iconst (nI 2) aX6_holds_31 (by decide +kernel) ?_
    refine J_icmp_gt aX6_holds_32 (fun q => ?_) (fun q => ?_)
    · replace h := h.1 q
      refine J_pick [1, 2, 3, 4, 0] rfl ?_
      exact h
    · replace h := h.2 q
      refine J_iload 4 aX6_holds_35 rfl ?_
      refine J_iconst (nI 2) aX6_holds_37 (by decide +kernel) ?_
      refine J_iadd aX6_holds_38 ?_
      refine J_iload_n 2 aX6_holds_39 rfl ?_
      refine J_icmp_ge aX6_holds_40 (fun q => ?_) (fun q => ?_)
      · replace h := h.1 q
        refine J_pick [1, 2, 3, 4, 0] rfl ?_
        exact h
      · replace h := h.2 q
        refine J_aload_n 1 aX6_holds_43 rfl ?_
        refine J_getR aX6_holds_44 flX6_30 (shRu hR) rfl ?_
        refine J_iload 4 aX6_holds_47 rfl ?_
        refine J_iconst (nI 1) aX6_holds_49 (by decide +kernel) ?_
        refine J_iadd aX6_holds_50 ?_
        obtain ⟨j4, e5, b6, h⟩ := h
        refine J_iaload j4 aX6_holds_51 (shRu4 hR) e5 b6 (by decide) ?_
        refine J_if_ge aX6_holds_52 (fun q => ?_) (fun q => ?_)
        · replace h := h.1 q
          refine J_aload_n 1 aX6_holds_74 rfl ?_
          refine J_getR aX6_holds_75 flX6_30 (shRu hR) rfl ?_
          refine J_iload 4 aX6_holds_78 rfl ?_
          refine J_iconst (nI 1) aX6_holds_80 (by decide +kernel) ?_
          refine J_iadd aX6_holds_81 ?_
          obtain ⟨j7, e8, b9, h⟩ := h
          refine J_iaload j7 aX6_holds_82 (shRu4 hR) e8 b9 (by decide) ?_
          refine J_pick [1, 2, 3, 4, 0] rfl ?_
          exact h
        · replace h := h.2 q
          refine J_aload_n 1 aX6_holds_55 rfl ?_
          refine J_getR aX6_holds_56 flX6_33 (shRu hR) rfl ?_
          refine J_iconst (nI 5) aX6_holds_59 (by decide +kernel) ?_
          refine J_aload_n 1 aX6_holds_60 rfl ?_
          refine J_getR aX6_holds_61 flX6_30 (shRu hR) rfl ?_
          refine J_iload 4 aX6_holds_64 rfl ?_
          refine J_iconst (nI 1) aX6_holds_66 (by decide +kernel) ?_
          refine J_iadd aX6_holds_67 ?_
          obtain ⟨j10, e11, b12, h⟩ := h
          refine J_iaload j10 aX6_holds_68 (shRu4 hR) e11 b12 (by decide) ?_
          refine J_iadd aX6_holds_69 ?_
          obtain ⟨j13, e14, b15, h⟩ := h
          refine J_iaload j13 aX6_holds_70 (shRu5 hR) e14 b15 (by decide) ?_
          refine J_goto aX6_holds_71 ?_
          refine J_pick [1, 2, 3, 4, 0] rfl ?_
          exact h
theorem S_X6_holds_203 {E : EE} {d : Nat} {I : IH} {Q : QT} {r : Nat} (hR : isRu r) (x2 : Int32) (x3 : Int32) (x4 : Int32) (x5 : Int32) (h :
((¬ x5 = (nI 3) → ((¬ x5 = (nI 4) → J E d mX6_holds 14 [(0, .ref (eb E + r)), (2, .int x2), (3, .int ((x3 >>> ((nI 1) &&& 31)) ||| (x3 &&& (nI 1)))), (4, .int (x4 + nI 1))] [] I Q) ∧
 (x5 = (nI 4) → J E d mX6_holds 14 [(0, .ref (eb E + r)), (2, .int x2), (3, .int ((x3 >>> ((nI 1) &&& 31)) &&& (x3 ||| (-2)))), (4, .int (x4 + nI 1))] [] I Q))) ∧
 (x5 = (nI 3) → J E d mX6_holds 14 [(0, .ref (eb E + r)), (2, .int x2), (3, .int (x3 ^^^ (nI 1))), (4, .int (x4 + nI 1))] [] I Q))) : J E d mX6_holds 203 [(0, .ref (eb E + r)), (2, .int x2), (3, .int x3), (4, .int x4), (5, .int x5)] [] I Q := by
  refine J_iload 4 aX6_holds_203 rfl ?_
  refine J_iconst (nI 3) aX6_holds_205 (by decide +kernel) ?_
  refine J_icmp_ne aX6_holds_206 (fun q => ?_) (fun q => ?_)
  · replace h := h.1 q
    refine J_iload 4 aX6_holds_216 rfl ?_
    refine J_iconst (nI 4) aX6_holds_218 (by decide +kernel) ?_
    refine J_icmp_ne aX6_holds_219 (fun q => ?_) (fun q => ?_)
    · replace h := h.1 q
      refine J_iload_n 2 aX6_holds_234 rfl ?_
      refine J_iconst (nI 1) aX6_holds_235 (by decide +kernel) ?_
      refine J_ishr aX6_holds_236 ?_
      refine J_iload_n 2 aX6_holds_237 rfl ?_
      refine J_iconst (nI 1) aX6_holds_238 (by decide +kernel) ?_
      refine J_iand aX6_holds_239 ?_
      refine J_ior aX6_holds_240 ?_
      refine J_istore_n [(3, .int ((x3 >>> ((nI 1) &&& 31)) ||| (x3 &&& (nI 1)))), (0, .ref (eb E + r)), (2, .int x2), (4, .int x4), (5, .int x5)] aX6_holds_241 (by decide) rfl ?_
      refine J_iinc (x4 + nI 1) [(4, .int (x4 + nI 1)), (3, .int ((x3 >>> ((nI 1) &&& 31)) ||| (x3 &&& (nI 1)))), (0, .ref (eb E + r)), (2, .int x2), (5, .int x5)] 3 aX6_holds_242 rfl (by first | rfl | (congr 1; decide +kernel)) (by decide) rfl ?_
      refine J_goto aX6_holds_245 ?_
      refine J_pick [2, 3, 1, 0] rfl ?_
      exact h
    · replace h := h.2 q
      refine J_iload_n 2 aX6_holds_222 rfl ?_
      refine J_iconst (nI 1) aX6_holds_223 (by decide +kernel) ?_
      refine J_ishr aX6_holds_224 ?_
      refine J_iload_n 2 aX6_holds_225 rfl ?_
      refine J_bipush (-2) aX6_holds_226 (by decide +kernel) ?_
      refine J_ior aX6_holds_228 ?_
      refine J_iand aX6_holds_229 ?_
      refine J_istore_n [(3, .int ((x3 >>> ((nI 1) &&& 31)) &&& (x3 ||| (-2)))), (0, .ref (eb E + r)), (2, .int x2), (4, .int x4), (5, .int x5)] aX6_holds_230 (by decide) rfl ?_
      refine J_goto aX6_holds_231 ?_
      refine J_iinc (x4 + nI 1) [(4, .int (x4 + nI 1)), (3, .int ((x3 >>> ((nI 1) &&& 31)) &&& (x3 ||| (-2)))), (0, .ref (eb E + r)), (2, .int x2), (5, .int x5)] 3 aX6_holds_242 rfl (by first | rfl | (congr 1; decide +kernel)) (by decide) rfl ?_
      refine J_goto aX6_holds_245 ?_
      refine J_pick [2, 3, 1, 0] rfl ?_
      exact h
  · replace h := h.2 q
    refine J_iload_n 2 aX6_holds_209 rfl ?_
    refine J_iconst (nI 1) aX6_holds_210 (by decide +kernel) ?_
    refine J_ixor aX6_holds_211 ?_
    refine J_istore_n [(3, .int (x3 ^^^ (nI 1))), (0, .ref (eb E + r)), (2, .int x2), (4, .int x4), (5, .int x5)] aX6_holds_212 (by decide) rfl ?_
    refine J_goto aX6_holds_213 ?_
    refine J_iinc (x4 + nI 1) [(4, .int (x4 + nI 1)), (3, .int (x3 ^^^ (nI 1))), (0, .ref (eb E + r)), (2, .int x2), (5, .int x5)] 3 aX6_holds_242 rfl (by first | rfl | (congr 1; decide +kernel)) (by decide) rfl ?_
    refine J_goto aX6_holds_245 ?_
    refine J_pick [2, 3, 1, 0] rfl ?_
    exact h
theorem S_X6_holds_83 {E : EE} {d : Nat} {I : IH} {Q : QT} {r : Nat} (hR : isRu r) (x2 : Int32) (x3 : Int32) (x4 : Int32) (x5 : Int32) (t0 : Int32) (h :
(∃ j1 : Nat, (x4 + (nI 2)) = nI j1 ∧ j1 < 200 ∧ ((0 ≤ (I (r + 4) j1) → (∃ j4 : Nat, (x4 + (nI 2)) = nI j4 ∧ j4 < 200 ∧ J E d mX6_holds 125 [(0, .ref (eb E + r)), (2, .int x2), (3, .int x3), (4, .int x4), (5, .int x5), (6, .int t0)] [.int (I (r + 4) j4)] I Q)) ∧
 (¬ 0 ≤ (I (r + 4) j1) → (∃ j7 : Nat, (x4 + (nI 2)) = nI j7 ∧ j7 < 200 ∧ (∃ j10 : Nat, ((nI 5) + (I (r + 4) j7)) = nI j10 ∧ j10 < 5 ∧ J E d mX6_holds 125 [(0, .ref (eb E + r)), (2, .int x2), (3, .int x3), (4, .int x4), (5, .int x5), (6, .int t0)] [.int (I (r + 5) j10)] I Q)))))) : J E d mX6_holds 83 [(0, .ref (eb E + r)), (2, .int x2), (3, .int x3), (4, .int x4), (5, .int x5)] [.int t0] I Q := by
  refine J_istore [(6, .int t0), (0, .ref (eb E + r)), (2, .int x2), (3, .int x3), (4, .int x4), (5, .int x5)] aX6_holds_83 (by decide) rfl ?_
  refine J_aload_n 1 aX6_holds_85 rfl ?_
  refine J_getR aX6_holds_86 flX6_30 (shRu hR) rfl ?_
  refine J_iload 4 aX6_holds_89 rfl ?_
  refine J_iconst (nI 2) aX6_holds_91 (by decide +kernel) ?_
  refine J_iadd aX6_holds_92 ?_
  obtain ⟨j1, e2, b3, h⟩ := h
  refine J_iaload j1 aX6_holds_93 (shRu4 hR) e2 b3 (by decide) ?_
  refine J_if_ge aX6_holds_94 (fun q => ?_) (fun q => ?_)
  · replace h := h.1 q
    refine J_aload_n 1 aX6_holds_116 rfl ?_
    refine J_getR aX6_holds_117 flX6_30 (shRu hR) rfl ?_
    refine J_iload 4 aX6_holds_120 rfl ?_
    refine J_iconst (nI 2) aX6_holds_122 (by decide +kernel) ?_
    refine J_iadd aX6_holds_123 ?_
    obtain ⟨j4, e5, b6, h⟩ := h
    refine J_iaload j4 aX6_holds_124 (shRu4 hR) e5 b6 (by decide) ?_
    refine J_pick [1, 2, 3, 4, 5, 0] rfl ?_
    exact h
  · replace h := h.2 q
    refine J_aload_n 1 aX6_holds_97 rfl ?_
    refine J_getR aX6_holds_98 flX6_33 (shRu hR) rfl ?_
    refine J_iconst (nI 5) aX6_holds_101 (by decide +kernel) ?_
    refine J_aload_n 1 aX6_holds_102 rfl ?_
    refine J_getR aX6_holds_103 flX6_30 (shRu hR) rfl ?_
    refine J_iload 4 aX6_holds_106 rfl ?_
    refine J_iconst (nI 2) aX6_holds_108 (by decide +kernel) ?_
    refine J_iadd aX6_holds_109 ?_
    obtain ⟨j7, e8, b9, h⟩ := h
    refine J_iaload j7 aX6_holds_110 (shRu4 hR) e8 b9 (by decide) ?_
    refine J_iadd aX6_holds_111 ?_
    obtain ⟨j10, e11, b12, h⟩ := h
    refine J_iaload j10 aX6_holds_112 (shRu5 hR) e11 b12 (by decide) ?_
    refine J_goto aX6_holds_113 ?_
    refine J_pick [1, 2, 3, 4, 5, 0] rfl ?_
    exact h
theorem S_X6_holds_125 {E : EE} {d : Nat} {I : IH} {Q : QT} {r : Nat} (hR : isRu r) (x2 : Int32) (x3 : Int32) (x4 : Int32) (x5 : Int32) (x6 : Int32) (t0 : Int32) (h :
((¬ x5 = 0 → ((¬ x5 = (nI 1) → ((x6 ≤ t0 → J E d mX6_holds 180 [(0, .ref (eb E + r)), (2, .int x2), (3, .int x3), (4, .int x4)] [.int (nI 0)] I Q) ∧
 (¬ x6 ≤ t0 → J E d mX6_holds 180 [(0, .ref (eb E + r)), (2, .int x2), (3, .int x3), (4, .int x4)] [.int (nI 1)] I Q))) ∧
 (x5 = (nI 1) → ((¬ x6 = t0 → J E d mX6_holds 180 [(0, .ref (eb E + r)), (2, .int x2), (3, .int x3), (4, .int x4)] [.int (nI 0)] I Q) ∧
 (x6 = t0 → J E d mX6_holds 180 [(0, .ref (eb E + r)), (2, .int x2), (3, .int x3), (4, .int x4)] [.int (nI 1)] I Q))))) ∧
 (x5 = 0 → ((t0 ≤ x6 → J E d mX6_holds 180 [(0, .ref (eb E + r)), (2, .int x2), (3, .int x3), (4, .int x4)] [.int (nI 0)] I Q) ∧
 (¬ t0 ≤ x6 → J E d mX6_holds 180 [(0, .ref (eb E + r)), (2, .int x2), (3, .int x3), (4, .int x4)] [.int (nI 1)] I Q))))) : J E d mX6_holds 125 [(0, .ref (eb E + r)), (2, .int x2), (3, .int x3), (4, .int x4), (5, .int x5), (6, .int x6)] [.int t0] I Q := by
  refine J_istore [(7, .int t0), (0, .ref (eb E + r)), (2, .int x2), (3, .int x3), (4, .int x4), (5, .int x5), (6, .int x6)] aX6_holds_125 (by decide) rfl ?_
  refine J_iload 5 aX6_holds_127 rfl ?_
  refine J_if_ne aX6_holds_129 (fun q => ?_) (fun q => ?_)
  · replace h := h.1 q
    refine J_iload 5 aX6_holds_147 rfl ?_
    refine J_iconst (nI 1) aX6_holds_149 (by decide +kernel) ?_
    refine J_icmp_ne aX6_holds_150 (fun q => ?_) (fun q => ?_)
    · replace h := h.1 q
      refine J_iload 6 aX6_holds_168 rfl ?_
      refine J_iload 0 aX6_holds_170 rfl ?_
      refine J_icmp_le aX6_holds_172 (fun q => ?_) (fun q => ?_)
      · replace h := h.1 q
        refine J_iconst (nI 0) aX6_holds_179 (by decide +kernel) ?_
        refine J_pick [1, 2, 3, 4] rfl ?_
        exact h
      · replace h := h.2 q
        refine J_iconst (nI 1) aX6_holds_175 (by decide +kernel) ?_
        refine J_goto aX6_holds_176 ?_
        refine J_pick [1, 2, 3, 4] rfl ?_
        exact h
    · replace h := h.2 q
      refine J_iload 6 aX6_holds_153 rfl ?_
      refine J_iload 0 aX6_holds_155 rfl ?_
      refine J_icmp_ne aX6_holds_157 (fun q => ?_) (fun q => ?_)
      · replace h := h.1 q
        refine J_iconst (nI 0) aX6_holds_164 (by decide +kernel) ?_
        refine J_goto aX6_holds_165 ?_
        refine J_pick [1, 2, 3, 4] rfl ?_
        exact h
      · replace h := h.2 q
        refine J_iconst (nI 1) aX6_holds_160 (by decide +kernel) ?_
        refine J_goto aX6_holds_161 ?_
        refine J_pick [1, 2, 3, 4] rfl ?_
        exact h
  · replace h := h.2 q
    refine J_iload 6 aX6_holds_132 rfl ?_
    refine J_iload 0 aX6_holds_134 rfl ?_
    refine J_icmp_ge aX6_holds_136 (fun q => ?_) (fun q => ?_)
    · replace h := h.1 q
      refine J_iconst (nI 0) aX6_holds_143 (by decide +kernel) ?_
      refine J_goto aX6_holds_144 ?_
      refine J_pick [1, 2, 3, 4] rfl ?_
      exact h
    · replace h := h.2 q
      refine J_iconst (nI 1) aX6_holds_139 (by decide +kernel) ?_
      refine J_goto aX6_holds_140 ?_
      refine J_pick [1, 2, 3, 4] rfl ?_
      exact h
theorem S_X6_holds_180 {E : EE} {d : Nat} {I : IH} {Q : QT} {r : Nat} (hR : isRu r) (x2 : Int32) (x3 : Int32) (x4 : Int32) (t0 : Int32) (h :
((t0 = 0 → J E d mX6_holds 14 [(0, .ref (eb E + r)), (2, .int x2), (3, .int ((x3 <<< ((nI 1) &&& 31)) ||| (nI 0))), (4, .int ((x4 + nI 2) + nI 1))] [] I Q) ∧
 (¬ t0 = 0 → J E d mX6_holds 14 [(0, .ref (eb E + r)), (2, .int x2), (3, .int ((x3 <<< ((nI 1) &&& 31)) ||| (nI 1))), (4, .int ((x4 + nI 2) + nI 1))] [] I Q))) : J E d mX6_holds 180 [(0, .ref (eb E + r)), (2, .int x2), (3, .int x3), (4, .int x4)] [.int t0] I Q := by
  refine J_istore [(8, .int t0), (0, .ref (eb E + r)), (2, .int x2), (3, .int x3), (4, .int x4)] aX6_holds_180 (by decide) rfl ?_
  refine J_iload_n 3 aX6_holds_182 rfl ?_
  refine J_iconst (nI 1) aX6_holds_183 (by decide +kernel) ?_
  refine J_ishl aX6_holds_184 ?_
  refine J_iload 0 aX6_holds_185 rfl ?_
  refine J_if_eq aX6_holds_187 (fun q => ?_) (fun q => ?_)
  · replace h := h.1 q
    refine J_iconst (nI 0) aX6_holds_194 (by decide +kernel) ?_
    refine J_ior aX6_holds_195 ?_
    refine J_istore_n [(3, .int ((x3 <<< ((nI 1) &&& 31)) ||| (nI 0))), (8, .int t0), (0, .ref (eb E + r)), (2, .int x2), (4, .int x4)] aX6_holds_196 (by decide) rfl ?_
    refine J_iinc (x4 + nI 2) [(4, .int (x4 + nI 2)), (3, .int ((x3 <<< ((nI 1) &&& 31)) ||| (nI 0))), (8, .int t0), (0, .ref (eb E + r)), (2, .int x2)] 4 aX6_holds_197 rfl (by first | rfl | (congr 1; decide +kernel)) (by decide) rfl ?_
    refine J_goto aX6_holds_200 ?_
    refine J_iinc ((x4 + nI 2) + nI 1) [(4, .int ((x4 + nI 2) + nI 1)), (3, .int ((x3 <<< ((nI 1) &&& 31)) ||| (nI 0))), (8, .int t0), (0, .ref (eb E + r)), (2, .int x2)] 0 aX6_holds_242 rfl (by first | rfl | (congr 1; decide +kernel)) (by decide) rfl ?_
    refine J_goto aX6_holds_245 ?_
    refine J_pick [3, 4, 1, 0] rfl ?_
    exact h
  · replace h := h.2 q
    refine J_iconst (nI 1) aX6_holds_190 (by decide +kernel) ?_
    refine J_goto aX6_holds_191 ?_
    refine J_ior aX6_holds_195 ?_
    refine J_istore_n [(3, .int ((x3 <<< ((nI 1) &&& 31)) ||| (nI 1))), (8, .int t0), (0, .ref (eb E + r)), (2, .int x2), (4, .int x4)] aX6_holds_196 (by decide) rfl ?_
    refine J_iinc (x4 + nI 2) [(4, .int (x4 + nI 2)), (3, .int ((x3 <<< ((nI 1) &&& 31)) ||| (nI 1))), (8, .int t0), (0, .ref (eb E + r)), (2, .int x2)] 4 aX6_holds_197 rfl (by first | rfl | (congr 1; decide +kernel)) (by decide) rfl ?_
    refine J_goto aX6_holds_200 ?_
    refine J_iinc ((x4 + nI 2) + nI 1) [(4, .int ((x4 + nI 2) + nI 1)), (3, .int ((x3 <<< ((nI 1) &&& 31)) ||| (nI 1))), (8, .int t0), (0, .ref (eb E + r)), (2, .int x2)] 0 aX6_holds_242 rfl (by first | rfl | (congr 1; decide +kernel)) (by decide) rfl ?_
    refine J_goto aX6_holds_245 ?_
    refine J_pick [3, 4, 1, 0] rfl ?_
    exact h
theorem aX9_take_0 : decode mX9_take.2.1 0 = .ok (.aload_n 0, 1) ∧ 0 + 1 = 1 := ⟨by decide +kernel, rfl⟩
theorem aX9_take_1 : decode mX9_take.2.1 1 = .ok (.getfield 11, 3) ∧ 1 + 3 = 4 := ⟨by decide +kernel, rfl⟩
theorem aX9_take_4 : decode mX9_take.2.1 4 = .ok (.sipush 200, 3) ∧ 4 + 3 = 7 := ⟨by decide +kernel, rfl⟩
theorem aX9_take_7 : decode mX9_take.2.1 7 = .ok (.if_icmp .ge 23, 3) ∧ ((7 : Nat) : Int) + 23 = ((30 : Nat) : Int) ∧ 7 + 3 = 10 := ⟨by decide +kernel, by decide, rfl⟩
theorem aX9_take_10 : decode mX9_take.2.1 10 = .ok (.aload_n 0, 1) ∧ 10 + 1 = 11 := ⟨by decide +kernel, rfl⟩
theorem aX9_take_11 : decode mX9_take.2.1 11 = .ok (.getfield 15, 3) ∧ 11 + 3 = 14 := ⟨by decide +kernel, rfl⟩
theorem aX9_take_14 : decode mX9_take.2.1 14 = .ok (.aload_n 0, 1) ∧ 14 + 1 = 15 := ⟨by decide +kernel, rfl⟩
theorem aX9_take_15 : decode mX9_take.2.1 15 = .ok (.getfield 11, 3) ∧ 15 + 3 = 18 := ⟨by decide +kernel, rfl⟩
theorem aX9_take_18 : decode mX9_take.2.1 18 = .ok (.iload_n 1, 1) ∧ 18 + 1 = 19 := ⟨by decide +kernel, rfl⟩
theorem aX9_take_19 : decode mX9_take.2.1 19 = .ok (.bastore, 1) ∧ 19 + 1 = 20 := ⟨by decide +kernel, rfl⟩
theorem aX9_take_20 : decode mX9_take.2.1 20 = .ok (.aload_n 0, 1) ∧ 20 + 1 = 21 := ⟨by decide +kernel, rfl⟩
theorem aX9_take_21 : decode mX9_take.2.1 21 = .ok (.dup, 1) ∧ 21 + 1 = 22 := ⟨by decide +kernel, rfl⟩
theorem aX9_take_22 : decode mX9_take.2.1 22 = .ok (.getfield 11, 3) ∧ 22 + 3 = 25 := ⟨by decide +kernel, rfl⟩
theorem aX9_take_25 : decode mX9_take.2.1 25 = .ok (.iconst 1, 1) ∧ 25 + 1 = 26 := ⟨by decide +kernel, rfl⟩
theorem aX9_take_26 : decode mX9_take.2.1 26 = .ok (.iadd, 1) ∧ 26 + 1 = 27 := ⟨by decide +kernel, rfl⟩
theorem aX9_take_27 : decode mX9_take.2.1 27 = .ok (.putfield 11, 3) ∧ 27 + 3 = 30 := ⟨by decide +kernel, rfl⟩
theorem aX9_take_30 : decode mX9_take.2.1 30 = .ok (.return_, 1) := by decide +kernel
theorem S_X9_take {E : EE} {d : Nat} {I : IH} {Q : QT} (x1 : Int32) (h :
(((nI 200) ≤ (I 1 0) → Q none I) ∧
 (¬ (nI 200) ≤ (I 1 0) → (∃ j3 : Nat, (I 1 0) = nI j3 ∧ j3 < 200 ∧ (∀ I1 : IH, I1 = stI I 2 j3 (vp_nar .byte x1) →
 (∀ I6 : IH, I6 = stI I1 1 0 ((I1 1 0) + (nI 1)) →
 Q none I6)))))) : Mt E d mX9_take [.ref (eb E + 1), .int x1] I Q := by
  refine Mt_of [(0, .ref (eb E + 1)), (1, .int x1)] (by decide +kernel) (by simp [lg_sl, Value.category, mX9_take]) rfl ?_
  refine J_aload_n 0 aX9_take_0 rfl ?_
  refine J_getI aX9_take_1 flX9_11 sh1 rfl ?_
  refine J_sipush (nI 200) aX9_take_4 (by decide +kernel) ?_
  refine J_icmp_ge aX9_take_7 (fun q => ?_) (fun q => ?_)
  · replace h := h.1 q
    exact J_vret aX9_take_30 rfl h
  · replace h := h.2 q
    refine J_aload_n 0 aX9_take_10 rfl ?_
    refine J_getR aX9_take_11 flX9_15 sh1 rfl ?_
    refine J_aload_n 0 aX9_take_14 rfl ?_
    refine J_getI aX9_take_15 flX9_11 sh1 rfl ?_
    refine J_iload_n 1 aX9_take_18 rfl ?_
    obtain ⟨j3, e4, b5, h⟩ := h
    refine J_bastore j3 aX9_take_19 sh2 e4 b5 (by decide) (fun I1 e2 => ?_)
    replace h := h I1 e2
    refine J_aload_n 0 aX9_take_20 rfl ?_
    refine J_dup aX9_take_21 rfl ?_
    refine J_getI aX9_take_22 flX9_11 sh1 rfl ?_
    refine J_iconst (nI 1) aX9_take_25 (by decide +kernel) ?_
    refine J_iadd aX9_take_26 ?_
    refine J_putI aX9_take_27 fpX9_11 sh1 rfl (fun I6 e7 => ?_)
    replace h := h I6 e7
    exact J_vret aX9_take_30 rfl h
theorem aX9_tell_0 : decode mX9_tell.2.1 0 = .ok (.aload_n 0, 1) ∧ 0 + 1 = 1 := ⟨by decide +kernel, rfl⟩
theorem aX9_tell_1 : decode mX9_tell.2.1 1 = .ok (.invokevirtual 33, 3) ∧ 1 + 3 = 4 := ⟨by decide +kernel, rfl⟩
theorem aX9_tell_4 : decode mX9_tell.2.1 4 = .ok (.aload_n 0, 1) ∧ 4 + 1 = 5 := ⟨by decide +kernel, rfl⟩
theorem aX9_tell_5 : decode mX9_tell.2.1 5 = .ok (.iconst 0, 1) ∧ 5 + 1 = 6 := ⟨by decide +kernel, rfl⟩
theorem aX9_tell_6 : decode mX9_tell.2.1 6 = .ok (.putfield 11, 3) ∧ 6 + 3 = 9 := ⟨by decide +kernel, rfl⟩
theorem aX9_tell_9 : decode mX9_tell.2.1 9 = .ok (.aload_n 0, 1) ∧ 9 + 1 = 10 := ⟨by decide +kernel, rfl⟩
theorem aX9_tell_10 : decode mX9_tell.2.1 10 = .ok (.iconst 0, 1) ∧ 10 + 1 = 11 := ⟨by decide +kernel, rfl⟩
theorem aX9_tell_11 : decode mX9_tell.2.1 11 = .ok (.putfield 26, 3) ∧ 11 + 3 = 14 := ⟨by decide +kernel, rfl⟩
theorem aX9_tell_14 : decode mX9_tell.2.1 14 = .ok (.aload_n 0, 1) ∧ 14 + 1 = 15 := ⟨by decide +kernel, rfl⟩
theorem aX9_tell_15 : decode mX9_tell.2.1 15 = .ok (.iconst 0, 1) ∧ 15 + 1 = 16 := ⟨by decide +kernel, rfl⟩
theorem aX9_tell_16 : decode mX9_tell.2.1 16 = .ok (.putfield 29, 3) ∧ 16 + 3 = 19 := ⟨by decide +kernel, rfl⟩
theorem aX9_tell_19 : decode mX9_tell.2.1 19 = .ok (.aload_n 1, 1) ∧ 19 + 1 = 20 := ⟨by decide +kernel, rfl⟩
theorem aX9_tell_20 : decode mX9_tell.2.1 20 = .ok (.invokevirtual 36, 3) ∧ 20 + 3 = 23 := ⟨by decide +kernel, rfl⟩
theorem aX9_tell_23 : decode mX9_tell.2.1 23 = .ok (.iconst 0, 1) ∧ 23 + 1 = 24 := ⟨by decide +kernel, rfl⟩
theorem aX9_tell_24 : decode mX9_tell.2.1 24 = .ok (.istore_n 2, 1) ∧ 24 + 1 = 25 := ⟨by decide +kernel, rfl⟩
theorem aX9_tell_25 : decode mX9_tell.2.1 25 = .ok (.iload_n 2, 1) ∧ 25 + 1 = 26 := ⟨by decide +kernel, rfl⟩
theorem aX9_tell_26 : decode mX9_tell.2.1 26 = .ok (.bipush 8, 2) ∧ 26 + 2 = 28 := ⟨by decide +kernel, rfl⟩
theorem aX9_tell_28 : decode mX9_tell.2.1 28 = .ok (.if_icmp .gt 36, 3) ∧ ((28 : Nat) : Int) + 36 = ((64 : Nat) : Int) ∧ 28 + 3 = 31 := ⟨by decide +kernel, by decide, rfl⟩
theorem aX9_tell_31 : decode mX9_tell.2.1 31 = .ok (.aload_n 0, 1) ∧ 31 + 1 = 32 := ⟨by decide +kernel, rfl⟩
theorem aX9_tell_32 : decode mX9_tell.2.1 32 = .ok (.getfield 29, 3) ∧ 32 + 3 = 35 := ⟨by decide +kernel, rfl⟩
theorem aX9_tell_35 : decode mX9_tell.2.1 35 = .ok (.ifCond .ne 29, 3) ∧ ((35 : Nat) : Int) + 29 = ((64 : Nat) : Int) ∧ 35 + 3 = 38 := ⟨by decide +kernel, by decide, rfl⟩
theorem aX9_tell_38 : decode mX9_tell.2.1 38 = .ok (.aload_n 0, 1) ∧ 38 + 1 = 39 := ⟨by decide +kernel, rfl⟩
theorem aX9_tell_39 : decode mX9_tell.2.1 39 = .ok (.getfield 19, 3) ∧ 39 + 3 = 42 := ⟨by decide +kernel, rfl⟩
theorem aX9_tell_42 : decode mX9_tell.2.1 42 = .ok (.aload_n 0, 1) ∧ 42 + 1 = 43 := ⟨by decide +kernel, rfl⟩
theorem aX9_tell_43 : decode mX9_tell.2.1 43 = .ok (.getfield 26, 3) ∧ 43 + 3 = 46 := ⟨by decide +kernel, rfl⟩
theorem aX9_tell_46 : decode mX9_tell.2.1 46 = .ok (.iaload, 1) ∧ 46 + 1 = 47 := ⟨by decide +kernel, rfl⟩
theorem aX9_tell_47 : decode mX9_tell.2.1 47 = .ok (.sipush 301, 3) ∧ 47 + 3 = 50 := ⟨by decide +kernel, rfl⟩
theorem aX9_tell_50 : decode mX9_tell.2.1 50 = .ok (.if_icmp .eq 14, 3) ∧ ((50 : Nat) : Int) + 14 = ((64 : Nat) : Int) ∧ 50 + 3 = 53 := ⟨by decide +kernel, by decide, rfl⟩
theorem aX9_tell_53 : decode mX9_tell.2.1 53 = .ok (.aload_n 0, 1) ∧ 53 + 1 = 54 := ⟨by decide +kernel, rfl⟩
theorem aX9_tell_54 : decode mX9_tell.2.1 54 = .ok (.aload_n 1, 1) ∧ 54 + 1 = 55 := ⟨by decide +kernel, rfl⟩
theorem aX9_tell_55 : decode mX9_tell.2.1 55 = .ok (.invokevirtual 39, 3) ∧ 55 + 3 = 58 := ⟨by decide +kernel, rfl⟩
theorem aX9_tell_58 : decode mX9_tell.2.1 58 = .ok (.iinc 2 1, 3) ∧ 58 + 3 = 61 := ⟨by decide +kernel, rfl⟩
theorem aX9_tell_61 : decode mX9_tell.2.1 61 = .ok (.goto (-36), 3) ∧ ((61 : Nat) : Int) + (-36) = ((25 : Nat) : Int) := ⟨by decide +kernel, by decide⟩
theorem aX9_tell_64 : decode mX9_tell.2.1 64 = .ok (.aload_n 0, 1) ∧ 64 + 1 = 65 := ⟨by decide +kernel, rfl⟩
theorem aX9_tell_65 : decode mX9_tell.2.1 65 = .ok (.getfield 29, 3) ∧ 65 + 3 = 68 := ⟨by decide +kernel, rfl⟩
theorem aX9_tell_68 : decode mX9_tell.2.1 68 = .ok (.ifCond .eq 15, 3) ∧ ((68 : Nat) : Int) + 15 = ((83 : Nat) : Int) ∧ 68 + 3 = 71 := ⟨by decide +kernel, by decide, rfl⟩
theorem aX9_tell_71 : decode mX9_tell.2.1 71 = .ok (.aload_n 0, 1) ∧ 71 + 1 = 72 := ⟨by decide +kernel, rfl⟩
theorem aX9_tell_72 : decode mX9_tell.2.1 72 = .ok (.getfield 23, 3) ∧ 72 + 3 = 75 := ⟨by decide +kernel, rfl⟩
theorem aX9_tell_75 : decode mX9_tell.2.1 75 = .ok (.aload_n 0, 1) ∧ 75 + 1 = 76 := ⟨by decide +kernel, rfl⟩
theorem aX9_tell_76 : decode mX9_tell.2.1 76 = .ok (.getfield 26, 3) ∧ 76 + 3 = 79 := ⟨by decide +kernel, rfl⟩
theorem aX9_tell_79 : decode mX9_tell.2.1 79 = .ok (.iaload, 1) ∧ 79 + 1 = 80 := ⟨by decide +kernel, rfl⟩
theorem aX9_tell_80 : decode mX9_tell.2.1 80 = .ok (.goto 4, 3) ∧ ((80 : Nat) : Int) + 4 = ((84 : Nat) : Int) := ⟨by decide +kernel, by decide⟩
theorem aX9_tell_83 : decode mX9_tell.2.1 83 = .ok (.iconst (-1), 1) ∧ 83 + 1 = 84 := ⟨by decide +kernel, rfl⟩
theorem aX9_tell_84 : decode mX9_tell.2.1 84 = .ok (.ireturn, 1) := by decide +kernel
theorem S_X9_tell {E : EE} {d : Nat} {I : IH} {Q : QT} {r1 : Nat} (hR1 : isRu r1) (h :
(Mt E d mX9_part [.ref (eb E + 1)] I (fun rv I1 => rv = none ∧
 (∀ I2 : IH, I2 = stI I1 1 0 (nI 0) →
 (∀ I4 : IH, I4 = stI I2 1 4 (nI 0) →
 (∀ I6 : IH, I6 = stI I4 1 5 (nI 0) →
 (Mt E d mX6_clear [.ref (eb E + r1)] I6 (fun rv I8 => rv = none ∧
 J E (d + 1) mX9_tell 25 [(0, .ref (eb E + 1)), (1, .ref (eb E + r1)), (2, .int (nI 0))] [] I8 Q)))))))) : Mt E (d + 1) mX9_tell [.ref (eb E + 1), .ref (eb E + r1)] I Q := by
  refine Mt_of [(0, .ref (eb E + 1)), (1, .ref (eb E + r1))] (by decide +kernel) (by simp [lg_sl, Value.category, mX9_tell]) rfl ?_
  refine J_aload_n 0 aX9_tell_0 rfl ?_
  refine J_callV [] [] aX9_tell_1 lkX9_33_X9 okX9_part sh1 rfl rfl rfl (Nat.le_of_ble_eq_true rfl) (Nat.le_refl _) (Mt_mono h (fun rv I1 h => ?_))
  obtain ⟨rfl, h⟩ := h
  refine J_r0 ?_
  refine J_aload_n 0 aX9_tell_4 rfl ?_
  refine J_iconst (nI 0) aX9_tell_5 (by decide +kernel) ?_
  refine J_putI aX9_tell_6 fpX9_11 sh1 rfl (fun I2 e3 => ?_)
  replace h := h I2 e3
  refine J_aload_n 0 aX9_tell_9 rfl ?_
  refine J_iconst (nI 0) aX9_tell_10 (by decide +kernel) ?_
  refine J_putI aX9_tell_11 fpX9_26 sh1 rfl (fun I4 e5 => ?_)
  replace h := h I4 e5
  refine J_aload_n 0 aX9_tell_14 rfl ?_
  refine J_iconst (nI 0) aX9_tell_15 (by decide +kernel) ?_
  refine J_putZ aX9_tell_16 fpX9_29 sh1 rfl (by decide +kernel) (fun I6 e7 => ?_)
  replace h := h I6 e7
  refine J_aload_n 1 aX9_tell_19 rfl ?_
  refine J_callV [] [] aX9_tell_20 lkX9_36_X6 okX6_clear (shRu hR1) rfl rfl rfl (Nat.le_of_ble_eq_true rfl) (Nat.le_refl _) (Mt_mono h (fun rv I8 h => ?_))
  obtain ⟨rfl, h⟩ := h
  refine J_r0 ?_
  refine J_iconst (nI 0) aX9_tell_23 (by decide +kernel) ?_
  refine J_istore_n [(2, .int (nI 0)), (0, .ref (eb E + 1)), (1, .ref (eb E + r1))] aX9_tell_24 (by decide) rfl ?_
  refine J_pick [1, 2, 0] rfl ?_
  exact h
theorem S_X9_tell_25 {E : EE} {d : Nat} {I : IH} {Q : QT} {r1 : Nat} (hR1 : isRu r1) (x2 : Int32) (h :
(((nI 8) < x2 → (((I 1 5) = 0 → Q (some (.int (-1))) I) ∧
 (¬ (I 1 5) = 0 → (∃ j1 : Nat, (I 1 4) = nI j1 ∧ j1 < 201 ∧ Q (some (.int (I 4 j1))) I)))) ∧
 (¬ (nI 8) < x2 → ((¬ (I 1 5) = 0 → (((I 1 5) = 0 → Q (some (.int (-1))) I) ∧
 (¬ (I 1 5) = 0 → (∃ j4 : Nat, (I 1 4) = nI j4 ∧ j4 < 201 ∧ Q (some (.int (I 4 j4))) I)))) ∧
 ((I 1 5) = 0 → (∃ j7 : Nat, (I 1 4) = nI j7 ∧ j7 < 201 ∧ (((I 3 j7) = (nI 301) → (((I 1 5) = 0 → Q (some (.int (-1))) I) ∧
 (¬ (I 1 5) = 0 → (∃ j10 : Nat, (I 1 4) = nI j10 ∧ j10 < 201 ∧ Q (some (.int (I 4 j10))) I)))) ∧
 (¬ (I 3 j7) = (nI 301) → (Mt E d mX9_readRule [.ref (eb E + 1), .ref (eb E + r1)] I (fun rv I13 => rv = none ∧
 J E (d + 1) mX9_tell 25 [(0, .ref (eb E + 1)), (1, .ref (eb E + r1)), (2, .int (x2 + nI 1))] [] I13 Q)))))))))) : J E (d + 1) mX9_tell 25 [(0, .ref (eb E + 1)), (1, .ref (eb E + r1)), (2, .int x2)] [] I Q := by
  refine J_iload_n 2 aX9_tell_25 rfl ?_
  refine J_bipush (nI 8) aX9_tell_26 (by decide +kernel) ?_
  refine J_icmp_gt aX9_tell_28 (fun q => ?_) (fun q => ?_)
  · replace h := h.1 q
    refine J_aload_n 0 aX9_tell_64 rfl ?_
    refine J_getI aX9_tell_65 flX9_29 sh1 rfl ?_
    refine J_if_eq aX9_tell_68 (fun q => ?_) (fun q => ?_)
    · replace h := h.1 q
      refine J_iconst (-1) aX9_tell_83 (by decide +kernel) ?_
      exact J_iret aX9_tell_84 rfl h
    · replace h := h.2 q
      refine J_aload_n 0 aX9_tell_71 rfl ?_
      refine J_getR aX9_tell_72 flX9_23 sh1 rfl ?_
      refine J_aload_n 0 aX9_tell_75 rfl ?_
      refine J_getI aX9_tell_76 flX9_26 sh1 rfl ?_
      obtain ⟨j1, e2, b3, h⟩ := h
      refine J_iaload j1 aX9_tell_79 sh4 e2 b3 (by decide) ?_
      refine J_goto aX9_tell_80 ?_
      exact J_iret aX9_tell_84 rfl h
  · replace h := h.2 q
    refine J_aload_n 0 aX9_tell_31 rfl ?_
    refine J_getI aX9_tell_32 flX9_29 sh1 rfl ?_
    refine J_if_ne aX9_tell_35 (fun q => ?_) (fun q => ?_)
    · replace h := h.1 q
      refine J_aload_n 0 aX9_tell_64 rfl ?_
      refine J_getI aX9_tell_65 flX9_29 sh1 rfl ?_
      refine J_if_eq aX9_tell_68 (fun q => ?_) (fun q => ?_)
      · replace h := h.1 q
        refine J_iconst (-1) aX9_tell_83 (by decide +kernel) ?_
        exact J_iret aX9_tell_84 rfl h
      · replace h := h.2 q
        refine J_aload_n 0 aX9_tell_71 rfl ?_
        refine J_getR aX9_tell_72 flX9_23 sh1 rfl ?_
        refine J_aload_n 0 aX9_tell_75 rfl ?_
        refine J_getI aX9_tell_76 flX9_26 sh1 rfl ?_
        obtain ⟨j4, e5, b6, h⟩ := h
        refine J_iaload j4 aX9_tell_79 sh4 e5 b6 (by decide) ?_
        refine J_goto aX9_tell_80 ?_
        exact J_iret aX9_tell_84 rfl h
    · replace h := h.2 q
      refine J_aload_n 0 aX9_tell_38 rfl ?_
      refine J_getR aX9_tell_39 flX9_19 sh1 rfl ?_
      refine J_aload_n 0 aX9_tell_42 rfl ?_
      refine J_getI aX9_tell_43 flX9_26 sh1 rfl ?_
      obtain ⟨j7, e8, b9, h⟩ := h
      refine J_iaload j7 aX9_tell_46 sh3 e8 b9 (by decide) ?_
      refine J_sipush (nI 301) aX9_tell_47 (by decide +kernel) ?_
      refine J_icmp_eq aX9_tell_50 (fun q => ?_) (fun q => ?_)
      · replace h := h.1 q
        refine J_aload_n 0 aX9_tell_64 rfl ?_
        refine J_getI aX9_tell_65 flX9_29 sh1 rfl ?_
        refine J_if_eq aX9_tell_68 (fun q => ?_) (fun q => ?_)
        · replace h := h.1 q
          refine J_iconst (-1) aX9_tell_83 (by decide +kernel) ?_
          exact J_iret aX9_tell_84 rfl h
        · replace h := h.2 q
          refine J_aload_n 0 aX9_tell_71 rfl ?_
          refine J_getR aX9_tell_72 flX9_23 sh1 rfl ?_
          refine J_aload_n 0 aX9_tell_75 rfl ?_
          refine J_getI aX9_tell_76 flX9_26 sh1 rfl ?_
          obtain ⟨j10, e11, b12, h⟩ := h
          refine J_iaload j10 aX9_tell_79 sh4 e11 b12 (by decide) ?_
          refine J_goto aX9_tell_80 ?_
          exact J_iret aX9_tell_84 rfl h
      · replace h := h.2 q
        refine J_aload_n 0 aX9_tell_53 rfl ?_
        refine J_aload_n 1 aX9_tell_54 rfl ?_
        refine J_callV [.ref (eb E + r1)] [] aX9_tell_55 lkX9_39_X9 okX9_readRule sh1 rfl rfl rfl (Nat.le_of_ble_eq_true rfl) (Nat.le_refl _) (Mt_mono h (fun rv I13 h => ?_))
        obtain ⟨rfl, h⟩ := h
        refine J_r0 ?_
        refine J_iinc (x2 + nI 1) [(2, .int (x2 + nI 1)), (0, .ref (eb E + 1)), (1, .ref (eb E + r1))] 2 aX9_tell_58 rfl (by first | rfl | (congr 1; decide +kernel)) (by decide) rfl ?_
        refine J_goto aX9_tell_61 ?_
        refine J_pick [1, 2, 0] rfl ?_
        exact h
theorem aX9_part_0 : decode mX9_part.2.1 0 = .ok (.iconst 0, 1) ∧ 0 + 1 = 1 := ⟨by decide +kernel, rfl⟩
theorem aX9_part_1 : decode mX9_part.2.1 1 = .ok (.istore_n 1, 1) ∧ 1 + 1 = 2 := ⟨by decide +kernel, rfl⟩
theorem aX9_part_2 : decode mX9_part.2.1 2 = .ok (.iconst 0, 1) ∧ 2 + 1 = 3 := ⟨by decide +kernel, rfl⟩
theorem aX9_part_3 : decode mX9_part.2.1 3 = .ok (.istore_n 2, 1) ∧ 3 + 1 = 4 := ⟨by decide +kernel, rfl⟩
theorem aX9_part_4 : decode mX9_part.2.1 4 = .ok (.iconst 0, 1) ∧ 4 + 1 = 5 := ⟨by decide +kernel, rfl⟩
theorem aX9_part_5 : decode mX9_part.2.1 5 = .ok (.istore_n 3, 1) ∧ 5 + 1 = 6 := ⟨by decide +kernel, rfl⟩
theorem aX9_part_6 : decode mX9_part.2.1 6 = .ok (.iload_n 3, 1) ∧ 6 + 1 = 7 := ⟨by decide +kernel, rfl⟩
theorem aX9_part_7 : decode mX9_part.2.1 7 = .ok (.sipush 200, 3) ∧ 7 + 3 = 10 := ⟨by decide +kernel, rfl⟩
theorem aX9_part_10 : decode mX9_part.2.1 10 = .ok (.if_icmp .ge 61, 3) ∧ ((10 : Nat) : Int) + 61 = ((71 : Nat) : Int) ∧ 10 + 3 = 13 := ⟨by decide +kernel, by decide, rfl⟩
theorem aX9_part_13 : decode mX9_part.2.1 13 = .ok (.iload_n 2, 1) ∧ 13 + 1 = 14 := ⟨by decide +kernel, rfl⟩
theorem aX9_part_14 : decode mX9_part.2.1 14 = .ok (.aload_n 0, 1) ∧ 14 + 1 = 15 := ⟨by decide +kernel, rfl⟩
theorem aX9_part_15 : decode mX9_part.2.1 15 = .ok (.getfield 11, 3) ∧ 15 + 3 = 18 := ⟨by decide +kernel, rfl⟩
theorem aX9_part_18 : decode mX9_part.2.1 18 = .ok (.if_icmp .ge 53, 3) ∧ ((18 : Nat) : Int) + 53 = ((71 : Nat) : Int) ∧ 18 + 3 = 21 := ⟨by decide +kernel, by decide, rfl⟩
theorem aX9_part_21 : decode mX9_part.2.1 21 = .ok (.aload_n 0, 1) ∧ 21 + 1 = 22 := ⟨by decide +kernel, rfl⟩
theorem aX9_part_22 : decode mX9_part.2.1 22 = .ok (.iload_n 2, 1) ∧ 22 + 1 = 23 := ⟨by decide +kernel, rfl⟩
theorem aX9_part_23 : decode mX9_part.2.1 23 = .ok (.invokevirtual 43, 3) ∧ 23 + 3 = 26 := ⟨by decide +kernel, rfl⟩
theorem aX9_part_26 : decode mX9_part.2.1 26 = .ok (.istore 4, 2) ∧ 26 + 2 = 28 := ⟨by decide +kernel, rfl⟩
theorem aX9_part_28 : decode mX9_part.2.1 28 = .ok (.aload_n 0, 1) ∧ 28 + 1 = 29 := ⟨by decide +kernel, rfl⟩
theorem aX9_part_29 : decode mX9_part.2.1 29 = .ok (.getfield 15, 3) ∧ 29 + 3 = 32 := ⟨by decide +kernel, rfl⟩
theorem aX9_part_32 : decode mX9_part.2.1 32 = .ok (.iload_n 2, 1) ∧ 32 + 1 = 33 := ⟨by decide +kernel, rfl⟩
theorem aX9_part_33 : decode mX9_part.2.1 33 = .ok (.baload, 1) ∧ 33 + 1 = 34 := ⟨by decide +kernel, rfl⟩
theorem aX9_part_34 : decode mX9_part.2.1 34 = .ok (.bipush 32, 2) ∧ 34 + 2 = 36 := ⟨by decide +kernel, rfl⟩
theorem aX9_part_36 : decode mX9_part.2.1 36 = .ok (.if_icmp .eq 26, 3) ∧ ((36 : Nat) : Int) + 26 = ((62 : Nat) : Int) ∧ 36 + 3 = 39 := ⟨by decide +kernel, by decide, rfl⟩
theorem aX9_part_39 : decode mX9_part.2.1 39 = .ok (.aload_n 0, 1) ∧ 39 + 1 = 40 := ⟨by decide +kernel, rfl⟩
theorem aX9_part_40 : decode mX9_part.2.1 40 = .ok (.getfield 19, 3) ∧ 40 + 3 = 43 := ⟨by decide +kernel, rfl⟩
theorem aX9_part_43 : decode mX9_part.2.1 43 = .ok (.iload_n 1, 1) ∧ 43 + 1 = 44 := ⟨by decide +kernel, rfl⟩
theorem aX9_part_44 : decode mX9_part.2.1 44 = .ok (.aload_n 0, 1) ∧ 44 + 1 = 45 := ⟨by decide +kernel, rfl⟩
theorem aX9_part_45 : decode mX9_part.2.1 45 = .ok (.iload_n 2, 1) ∧ 45 + 1 = 46 := ⟨by decide +kernel, rfl⟩
theorem aX9_part_46 : decode mX9_part.2.1 46 = .ok (.iload 4, 2) ∧ 46 + 2 = 48 := ⟨by decide +kernel, rfl⟩
theorem aX9_part_48 : decode mX9_part.2.1 48 = .ok (.invokevirtual 47, 3) ∧ 48 + 3 = 51 := ⟨by decide +kernel, rfl⟩
theorem aX9_part_51 : decode mX9_part.2.1 51 = .ok (.iastore, 1) ∧ 51 + 1 = 52 := ⟨by decide +kernel, rfl⟩
theorem aX9_part_52 : decode mX9_part.2.1 52 = .ok (.aload_n 0, 1) ∧ 52 + 1 = 53 := ⟨by decide +kernel, rfl⟩
theorem aX9_part_53 : decode mX9_part.2.1 53 = .ok (.getfield 23, 3) ∧ 53 + 3 = 56 := ⟨by decide +kernel, rfl⟩
theorem aX9_part_56 : decode mX9_part.2.1 56 = .ok (.iload_n 1, 1) ∧ 56 + 1 = 57 := ⟨by decide +kernel, rfl⟩
theorem aX9_part_57 : decode mX9_part.2.1 57 = .ok (.iload_n 2, 1) ∧ 57 + 1 = 58 := ⟨by decide +kernel, rfl⟩
theorem aX9_part_58 : decode mX9_part.2.1 58 = .ok (.iastore, 1) ∧ 58 + 1 = 59 := ⟨by decide +kernel, rfl⟩
theorem aX9_part_59 : decode mX9_part.2.1 59 = .ok (.iinc 1 1, 3) ∧ 59 + 3 = 62 := ⟨by decide +kernel, rfl⟩
theorem aX9_part_62 : decode mX9_part.2.1 62 = .ok (.iload 4, 2) ∧ 62 + 2 = 64 := ⟨by decide +kernel, rfl⟩
theorem aX9_part_64 : decode mX9_part.2.1 64 = .ok (.istore_n 2, 1) ∧ 64 + 1 = 65 := ⟨by decide +kernel, rfl⟩
theorem aX9_part_65 : decode mX9_part.2.1 65 = .ok (.iinc 3 1, 3) ∧ 65 + 3 = 68 := ⟨by decide +kernel, rfl⟩
theorem aX9_part_68 : decode mX9_part.2.1 68 = .ok (.goto (-62), 3) ∧ ((68 : Nat) : Int) + (-62) = ((6 : Nat) : Int) := ⟨by decide +kernel, by decide⟩
theorem aX9_part_71 : decode mX9_part.2.1 71 = .ok (.aload_n 0, 1) ∧ 71 + 1 = 72 := ⟨by decide +kernel, rfl⟩
theorem aX9_part_72 : decode mX9_part.2.1 72 = .ok (.getfield 19, 3) ∧ 72 + 3 = 75 := ⟨by decide +kernel, rfl⟩
theorem aX9_part_75 : decode mX9_part.2.1 75 = .ok (.iload_n 1, 1) ∧ 75 + 1 = 76 := ⟨by decide +kernel, rfl⟩
theorem aX9_part_76 : decode mX9_part.2.1 76 = .ok (.sipush 301, 3) ∧ 76 + 3 = 79 := ⟨by decide +kernel, rfl⟩
theorem aX9_part_79 : decode mX9_part.2.1 79 = .ok (.iastore, 1) ∧ 79 + 1 = 80 := ⟨by decide +kernel, rfl⟩
theorem aX9_part_80 : decode mX9_part.2.1 80 = .ok (.aload_n 0, 1) ∧ 80 + 1 = 81 := ⟨by decide +kernel, rfl⟩
theorem aX9_part_81 : decode mX9_part.2.1 81 = .ok (.getfield 23, 3) ∧ 81 + 3 = 84 := ⟨by decide +kernel, rfl⟩
theorem aX9_part_84 : decode mX9_part.2.1 84 = .ok (.iload_n 1, 1) ∧ 84 + 1 = 85 := ⟨by decide +kernel, rfl⟩
theorem aX9_part_85 : decode mX9_part.2.1 85 = .ok (.aload_n 0, 1) ∧ 85 + 1 = 86 := ⟨by decide +kernel, rfl⟩
theorem aX9_part_86 : decode mX9_part.2.1 86 = .ok (.getfield 11, 3) ∧ 86 + 3 = 89 := ⟨by decide +kernel, rfl⟩
theorem aX9_part_89 : decode mX9_part.2.1 89 = .ok (.iastore, 1) ∧ 89 + 1 = 90 := ⟨by decide +kernel, rfl⟩
theorem aX9_part_90 : decode mX9_part.2.1 90 = .ok (.return_, 1) := by decide +kernel
theorem S_X9_part {E : EE} {d : Nat} {I : IH} {Q : QT}  (h :
J E (d + 1) mX9_part 6 [(0, .ref (eb E + 1)), (1, .int (nI 0)), (2, .int (nI 0)), (3, .int (nI 0))] [] I Q) : Mt E (d + 1) mX9_part [.ref (eb E + 1)] I Q := by
  refine Mt_of [(0, .ref (eb E + 1))] (by decide +kernel) (by simp [lg_sl, Value.category, mX9_part]) rfl ?_
  refine J_iconst (nI 0) aX9_part_0 (by decide +kernel) ?_
  refine J_istore_n [(1, .int (nI 0)), (0, .ref (eb E + 1))] aX9_part_1 (by decide) rfl ?_
  refine J_iconst (nI 0) aX9_part_2 (by decide +kernel) ?_
  refine J_istore_n [(2, .int (nI 0)), (1, .int (nI 0)), (0, .ref (eb E + 1))] aX9_part_3 (by decide) rfl ?_
  refine J_iconst (nI 0) aX9_part_4 (by decide +kernel) ?_
  refine J_istore_n [(3, .int (nI 0)), (2, .int (nI 0)), (1, .int (nI 0)), (0, .ref (eb E + 1))] aX9_part_5 (by decide) rfl ?_
  refine J_pick [3, 2, 1, 0] rfl ?_
  exact h
theorem S_X9_part_6 {E : EE} {d : Nat} {I : IH} {Q : QT} (x1 : Int32) (x2 : Int32) (x3 : Int32) (h :
(((nI 200) ≤ x3 → (∃ j3 : Nat, x1 = nI j3 ∧ j3 < 201 ∧ (∀ I1 : IH, I1 = stI I 3 j3 (nI 301) →
 (∃ j8 : Nat, x1 = nI j8 ∧ j8 < 201 ∧ (∀ I6 : IH, I6 = stI I1 4 j8 (I1 1 0) →
 Q none I6))))) ∧
 (¬ (nI 200) ≤ x3 → (((I 1 0) ≤ x2 → (∃ j13 : Nat, x1 = nI j13 ∧ j13 < 201 ∧ (∀ I11 : IH, I11 = stI I 3 j13 (nI 301) →
 (∃ j18 : Nat, x1 = nI j18 ∧ j18 < 201 ∧ (∀ I16 : IH, I16 = stI I11 4 j18 (I11 1 0) →
 Q none I16))))) ∧
 (¬ (I 1 0) ≤ x2 → (Mt E d mX9_rowEnd [.ref (eb E + 1), .int x2] I (fun rv I21 => ∃ v22 : Int32, rv = some (.int v22) ∧
 (∃ j23 : Nat, x2 = nI j23 ∧ j23 < 200 ∧ (((I21 2 j23) = (nI 32) → J E (d + 1) mX9_part 6 [(0, .ref (eb E + 1)), (1, .int x1), (2, .int v22), (3, .int (x3 + nI 1))] [] I21 Q) ∧
 (¬ (I21 2 j23) = (nI 32) → (Mt E d mX9_token [.ref (eb E + 1), .int x2, .int v22] I21 (fun rv I26 => ∃ v27 : Int32, rv = some (.int v27) ∧
 (∃ j30 : Nat, x1 = nI j30 ∧ j30 < 201 ∧ (∀ I28 : IH, I28 = stI I26 3 j30 v27 →
 (∃ j35 : Nat, x1 = nI j35 ∧ j35 < 201 ∧ (∀ I33 : IH, I33 = stI I28 4 j35 x2 →
 J E (d + 1) mX9_part 6 [(0, .ref (eb E + 1)), (1, .int (x1 + nI 1)), (2, .int v22), (3, .int (x3 + nI 1))] [] I33 Q)))))))))))))))) : J E (d + 1) mX9_part 6 [(0, .ref (eb E + 1)), (1, .int x1), (2, .int x2), (3, .int x3)] [] I Q := by
  refine J_iload_n 3 aX9_part_6 rfl ?_
  refine J_sipush (nI 200) aX9_part_7 (by decide +kernel) ?_
  refine J_icmp_ge aX9_part_10 (fun q => ?_) (fun q => ?_)
  · replace h := h.1 q
    refine J_aload_n 0 aX9_part_71 rfl ?_
    refine J_getR aX9_part_72 flX9_19 sh1 rfl ?_
    refine J_iload_n 1 aX9_part_75 rfl ?_
    refine J_sipush (nI 301) aX9_part_76 (by decide +kernel) ?_
    obtain ⟨j3, e4, b5, h⟩ := h
    refine J_iastore j3 aX9_part_79 sh3 e4 b5 (by decide) (fun I1 e2 => ?_)
    replace h := h I1 e2
    refine J_aload_n 0 aX9_part_80 rfl ?_
    refine J_getR aX9_part_81 flX9_23 sh1 rfl ?_
    refine J_iload_n 1 aX9_part_84 rfl ?_
    refine J_aload_n 0 aX9_part_85 rfl ?_
    refine J_getI aX9_part_86 flX9_11 sh1 rfl ?_
    obtain ⟨j8, e9, b10, h⟩ := h
    refine J_iastore j8 aX9_part_89 sh4 e9 b10 (by decide) (fun I6 e7 => ?_)
    replace h := h I6 e7
    exact J_vret aX9_part_90 rfl h
  · replace h := h.2 q
    refine J_iload_n 2 aX9_part_13 rfl ?_
    refine J_aload_n 0 aX9_part_14 rfl ?_
    refine J_getI aX9_part_15 flX9_11 sh1 rfl ?_
    refine J_icmp_ge aX9_part_18 (fun q => ?_) (fun q => ?_)
    · replace h := h.1 q
      refine J_aload_n 0 aX9_part_71 rfl ?_
      refine J_getR aX9_part_72 flX9_19 sh1 rfl ?_
      refine J_iload_n 1 aX9_part_75 rfl ?_
      refine J_sipush (nI 301) aX9_part_76 (by decide +kernel) ?_
      obtain ⟨j13, e14, b15, h⟩ := h
      refine J_iastore j13 aX9_part_79 sh3 e14 b15 (by decide) (fun I11 e12 => ?_)
      replace h := h I11 e12
      refine J_aload_n 0 aX9_part_80 rfl ?_
      refine J_getR aX9_part_81 flX9_23 sh1 rfl ?_
      refine J_iload_n 1 aX9_part_84 rfl ?_
      refine J_aload_n 0 aX9_part_85 rfl ?_
      refine J_getI aX9_part_86 flX9_11 sh1 rfl ?_
      obtain ⟨j18, e19, b20, h⟩ := h
      refine J_iastore j18 aX9_part_89 sh4 e19 b20 (by decide) (fun I16 e17 => ?_)
      replace h := h I16 e17
      exact J_vret aX9_part_90 rfl h
    · replace h := h.2 q
      refine J_aload_n 0 aX9_part_21 rfl ?_
      refine J_iload_n 2 aX9_part_22 rfl ?_
      refine J_callV [.int x2] [] aX9_part_23 lkX9_43_X9 okX9_rowEnd sh1 rfl rfl rfl (Nat.le_of_ble_eq_true rfl) (Nat.le_refl _) (Mt_mono h (fun rv I21 h => ?_))
      obtain ⟨v22, rfl, h⟩ := h
      refine J_r1 ?_
      refine J_istore [(4, .int v22), (0, .ref (eb E + 1)), (1, .int x1), (2, .int x2), (3, .int x3)] aX9_part_26 (by decide) rfl ?_
      refine J_aload_n 1 aX9_part_28 rfl ?_
      refine J_getR aX9_part_29 flX9_15 sh1 rfl ?_
      refine J_iload_n 3 aX9_part_32 rfl ?_
      obtain ⟨j23, e24, b25, h⟩ := h
      refine J_baload j23 aX9_part_33 sh2 e24 b25 (by decide) ?_
      refine J_bipush (nI 32) aX9_part_34 (by decide +kernel) ?_
      refine J_icmp_eq aX9_part_36 (fun q => ?_) (fun q => ?_)
      · replace h := h.1 q
        refine J_iload 0 aX9_part_62 rfl ?_
        refine J_istore_n [(2, .int v22), (4, .int v22), (0, .ref (eb E + 1)), (1, .int x1), (3, .int x3)] aX9_part_64 (by decide) rfl ?_
        refine J_iinc (x3 + nI 1) [(3, .int (x3 + nI 1)), (2, .int v22), (4, .int v22), (0, .ref (eb E + 1)), (1, .int x1)] 4 aX9_part_65 rfl (by first | rfl | (congr 1; decide +kernel)) (by decide) rfl ?_
        refine J_goto aX9_part_68 ?_
        refine J_pick [3, 4, 1, 0] rfl ?_
        exact h
      · replace h := h.2 q
        refine J_aload_n 1 aX9_part_39 rfl ?_
        refine J_getR aX9_part_40 flX9_19 sh1 rfl ?_
        refine J_iload_n 2 aX9_part_43 rfl ?_
        refine J_aload_n 1 aX9_part_44 rfl ?_
        refine J_iload_n 3 aX9_part_45 rfl ?_
        refine J_iload 0 aX9_part_46 rfl ?_
        refine J_callV [.int x2, .int v22] [.int x1, .ref (eb E + 3)] aX9_part_48 lkX9_47_X9 okX9_token sh1 rfl rfl rfl (Nat.le_of_ble_eq_true rfl) (Nat.le_refl _) (Mt_mono h (fun rv I26 h => ?_))
        obtain ⟨v27, rfl, h⟩ := h
        refine J_r1 ?_
        obtain ⟨j30, e31, b32, h⟩ := h
        refine J_iastore j30 aX9_part_51 sh3 e31 b32 (by decide) (fun I28 e29 => ?_)
        replace h := h I28 e29
        refine J_aload_n 1 aX9_part_52 rfl ?_
        refine J_getR aX9_part_53 flX9_23 sh1 rfl ?_
        refine J_iload_n 2 aX9_part_56 rfl ?_
        refine J_iload_n 3 aX9_part_57 rfl ?_
        obtain ⟨j35, e36, b37, h⟩ := h
        refine J_iastore j35 aX9_part_58 sh4 e36 b37 (by decide) (fun I33 e34 => ?_)
        replace h := h I33 e34
        refine J_iinc (x1 + nI 1) [(1, .int (x1 + nI 1)), (4, .int v22), (0, .ref (eb E + 1)), (2, .int x2), (3, .int x3)] 2 aX9_part_59 rfl (by first | rfl | (congr 1; decide +kernel)) (by decide) rfl ?_
        refine J_iload 1 aX9_part_62 rfl ?_
        refine J_istore_n [(2, .int v22), (1, .int (x1 + nI 1)), (4, .int v22), (0, .ref (eb E + 1)), (3, .int x3)] aX9_part_64 (by decide) rfl ?_
        refine J_iinc (x3 + nI 1) [(3, .int (x3 + nI 1)), (2, .int v22), (1, .int (x1 + nI 1)), (4, .int v22), (0, .ref (eb E + 1))] 4 aX9_part_65 rfl (by first | rfl | (congr 1; decide +kernel)) (by decide) rfl ?_
        refine J_goto aX9_part_68 ?_
        refine J_pick [4, 2, 1, 0] rfl ?_
        exact h
theorem aX9_rowEnd_0 : decode mX9_rowEnd.2.1 0 = .ok (.iload_n 1, 1) ∧ 0 + 1 = 1 := ⟨by decide +kernel, rfl⟩
theorem aX9_rowEnd_1 : decode mX9_rowEnd.2.1 1 = .ok (.iconst 1, 1) ∧ 1 + 1 = 2 := ⟨by decide +kernel, rfl⟩
theorem aX9_rowEnd_2 : decode mX9_rowEnd.2.1 2 = .ok (.iadd, 1) ∧ 2 + 1 = 3 := ⟨by decide +kernel, rfl⟩
theorem aX9_rowEnd_3 : decode mX9_rowEnd.2.1 3 = .ok (.istore_n 2, 1) ∧ 3 + 1 = 4 := ⟨by decide +kernel, rfl⟩
theorem aX9_rowEnd_4 : decode mX9_rowEnd.2.1 4 = .ok (.aload_n 0, 1) ∧ 4 + 1 = 5 := ⟨by decide +kernel, rfl⟩
theorem aX9_rowEnd_5 : decode mX9_rowEnd.2.1 5 = .ok (.getfield 15, 3) ∧ 5 + 3 = 8 := ⟨by decide +kernel, rfl⟩
theorem aX9_rowEnd_8 : decode mX9_rowEnd.2.1 8 = .ok (.iload_n 1, 1) ∧ 8 + 1 = 9 := ⟨by decide +kernel, rfl⟩
theorem aX9_rowEnd_9 : decode mX9_rowEnd.2.1 9 = .ok (.baload, 1) ∧ 9 + 1 = 10 := ⟨by decide +kernel, rfl⟩
theorem aX9_rowEnd_10 : decode mX9_rowEnd.2.1 10 = .ok (.invokestatic 51, 3) ∧ 10 + 3 = 13 := ⟨by decide +kernel, rfl⟩
theorem aX9_rowEnd_13 : decode mX9_rowEnd.2.1 13 = .ok (.ifCond .eq 29, 3) ∧ ((13 : Nat) : Int) + 29 = ((42 : Nat) : Int) ∧ 13 + 3 = 16 := ⟨by decide +kernel, by decide, rfl⟩
theorem aX9_rowEnd_16 : decode mX9_rowEnd.2.1 16 = .ok (.iload_n 2, 1) ∧ 16 + 1 = 17 := ⟨by decide +kernel, rfl⟩
theorem aX9_rowEnd_17 : decode mX9_rowEnd.2.1 17 = .ok (.aload_n 0, 1) ∧ 17 + 1 = 18 := ⟨by decide +kernel, rfl⟩
theorem aX9_rowEnd_18 : decode mX9_rowEnd.2.1 18 = .ok (.getfield 11, 3) ∧ 18 + 3 = 21 := ⟨by decide +kernel, rfl⟩
theorem aX9_rowEnd_21 : decode mX9_rowEnd.2.1 21 = .ok (.if_icmp .ge 59, 3) ∧ ((21 : Nat) : Int) + 59 = ((80 : Nat) : Int) ∧ 21 + 3 = 24 := ⟨by decide +kernel, by decide, rfl⟩
theorem aX9_rowEnd_24 : decode mX9_rowEnd.2.1 24 = .ok (.aload_n 0, 1) ∧ 24 + 1 = 25 := ⟨by decide +kernel, rfl⟩
theorem aX9_rowEnd_25 : decode mX9_rowEnd.2.1 25 = .ok (.getfield 15, 3) ∧ 25 + 3 = 28 := ⟨by decide +kernel, rfl⟩
theorem aX9_rowEnd_28 : decode mX9_rowEnd.2.1 28 = .ok (.iload_n 2, 1) ∧ 28 + 1 = 29 := ⟨by decide +kernel, rfl⟩
theorem aX9_rowEnd_29 : decode mX9_rowEnd.2.1 29 = .ok (.baload, 1) ∧ 29 + 1 = 30 := ⟨by decide +kernel, rfl⟩
theorem aX9_rowEnd_30 : decode mX9_rowEnd.2.1 30 = .ok (.invokestatic 51, 3) ∧ 30 + 3 = 33 := ⟨by decide +kernel, rfl⟩
theorem aX9_rowEnd_33 : decode mX9_rowEnd.2.1 33 = .ok (.ifCond .eq 47, 3) ∧ ((33 : Nat) : Int) + 47 = ((80 : Nat) : Int) ∧ 33 + 3 = 36 := ⟨by decide +kernel, by decide, rfl⟩
theorem aX9_rowEnd_36 : decode mX9_rowEnd.2.1 36 = .ok (.iinc 2 1, 3) ∧ 36 + 3 = 39 := ⟨by decide +kernel, rfl⟩
theorem aX9_rowEnd_39 : decode mX9_rowEnd.2.1 39 = .ok (.goto (-23), 3) ∧ ((39 : Nat) : Int) + (-23) = ((16 : Nat) : Int) := ⟨by decide +kernel, by decide⟩
theorem aX9_rowEnd_42 : decode mX9_rowEnd.2.1 42 = .ok (.aload_n 0, 1) ∧ 42 + 1 = 43 := ⟨by decide +kernel, rfl⟩
theorem aX9_rowEnd_43 : decode mX9_rowEnd.2.1 43 = .ok (.getfield 15, 3) ∧ 43 + 3 = 46 := ⟨by decide +kernel, rfl⟩
theorem aX9_rowEnd_46 : decode mX9_rowEnd.2.1 46 = .ok (.iload_n 1, 1) ∧ 46 + 1 = 47 := ⟨by decide +kernel, rfl⟩
theorem aX9_rowEnd_47 : decode mX9_rowEnd.2.1 47 = .ok (.baload, 1) ∧ 47 + 1 = 48 := ⟨by decide +kernel, rfl⟩
theorem aX9_rowEnd_48 : decode mX9_rowEnd.2.1 48 = .ok (.invokestatic 55, 3) ∧ 48 + 3 = 51 := ⟨by decide +kernel, rfl⟩
theorem aX9_rowEnd_51 : decode mX9_rowEnd.2.1 51 = .ok (.ifCond .eq 29, 3) ∧ ((51 : Nat) : Int) + 29 = ((80 : Nat) : Int) ∧ 51 + 3 = 54 := ⟨by decide +kernel, by decide, rfl⟩
theorem aX9_rowEnd_54 : decode mX9_rowEnd.2.1 54 = .ok (.iload_n 2, 1) ∧ 54 + 1 = 55 := ⟨by decide +kernel, rfl⟩
theorem aX9_rowEnd_55 : decode mX9_rowEnd.2.1 55 = .ok (.aload_n 0, 1) ∧ 55 + 1 = 56 := ⟨by decide +kernel, rfl⟩
theorem aX9_rowEnd_56 : decode mX9_rowEnd.2.1 56 = .ok (.getfield 11, 3) ∧ 56 + 3 = 59 := ⟨by decide +kernel, rfl⟩
theorem aX9_rowEnd_59 : decode mX9_rowEnd.2.1 59 = .ok (.if_icmp .ge 21, 3) ∧ ((59 : Nat) : Int) + 21 = ((80 : Nat) : Int) ∧ 59 + 3 = 62 := ⟨by decide +kernel, by decide, rfl⟩
theorem aX9_rowEnd_62 : decode mX9_rowEnd.2.1 62 = .ok (.aload_n 0, 1) ∧ 62 + 1 = 63 := ⟨by decide +kernel, rfl⟩
theorem aX9_rowEnd_63 : decode mX9_rowEnd.2.1 63 = .ok (.getfield 15, 3) ∧ 63 + 3 = 66 := ⟨by decide +kernel, rfl⟩
theorem aX9_rowEnd_66 : decode mX9_rowEnd.2.1 66 = .ok (.iload_n 2, 1) ∧ 66 + 1 = 67 := ⟨by decide +kernel, rfl⟩
theorem aX9_rowEnd_67 : decode mX9_rowEnd.2.1 67 = .ok (.baload, 1) ∧ 67 + 1 = 68 := ⟨by decide +kernel, rfl⟩
theorem aX9_rowEnd_68 : decode mX9_rowEnd.2.1 68 = .ok (.invokestatic 55, 3) ∧ 68 + 3 = 71 := ⟨by decide +kernel, rfl⟩
theorem aX9_rowEnd_71 : decode mX9_rowEnd.2.1 71 = .ok (.ifCond .eq 9, 3) ∧ ((71 : Nat) : Int) + 9 = ((80 : Nat) : Int) ∧ 71 + 3 = 74 := ⟨by decide +kernel, by decide, rfl⟩
theorem aX9_rowEnd_74 : decode mX9_rowEnd.2.1 74 = .ok (.iinc 2 1, 3) ∧ 74 + 3 = 77 := ⟨by decide +kernel, rfl⟩
theorem aX9_rowEnd_77 : decode mX9_rowEnd.2.1 77 = .ok (.goto (-23), 3) ∧ ((77 : Nat) : Int) + (-23) = ((54 : Nat) : Int) := ⟨by decide +kernel, by decide⟩
theorem aX9_rowEnd_80 : decode mX9_rowEnd.2.1 80 = .ok (.iload_n 2, 1) ∧ 80 + 1 = 81 := ⟨by decide +kernel, rfl⟩
theorem aX9_rowEnd_81 : decode mX9_rowEnd.2.1 81 = .ok (.ireturn, 1) := by decide +kernel
theorem S_X9_rowEnd {E : EE} {d : Nat} {I : IH} {Q : QT} (x1 : Int32) (h :
(∃ j1 : Nat, x1 = nI j1 ∧ j1 < 200 ∧ (Mt E d mX9_isLetter [.int (I 2 j1)] I (fun rv I4 => ∃ v5 : Int32, rv = some (.int v5) ∧
 ((v5 = 0 → (∃ j6 : Nat, x1 = nI j6 ∧ j6 < 200 ∧ (Mt E d mX9_isDigit [.int (I4 2 j6)] I4 (fun rv I9 => ∃ v10 : Int32, rv = some (.int v10) ∧
 ((v10 = 0 → Q (some (.int (x1 + (nI 1)))) I9) ∧
 (¬ v10 = 0 → J E (d + 1) mX9_rowEnd 54 [(0, .ref (eb E + 1)), (2, .int (x1 + (nI 1)))] [] I9 Q)))))) ∧
 (¬ v5 = 0 → J E (d + 1) mX9_rowEnd 16 [(0, .ref (eb E + 1)), (2, .int (x1 + (nI 1)))] [] I4 Q)))))) : Mt E (d + 1) mX9_rowEnd [.ref (eb E + 1), .int x1] I Q := by
  refine Mt_of [(0, .ref (eb E + 1)), (1, .int x1)] (by decide +kernel) (by simp [lg_sl, Value.category, mX9_rowEnd]) rfl ?_
  refine J_iload_n 1 aX9_rowEnd_0 rfl ?_
  refine J_iconst (nI 1) aX9_rowEnd_1 (by decide +kernel) ?_
  refine J_iadd aX9_rowEnd_2 ?_
  refine J_istore_n [(2, .int (x1 + (nI 1))), (0, .ref (eb E + 1)), (1, .int x1)] aX9_rowEnd_3 (by decide) rfl ?_
  refine J_aload_n 1 aX9_rowEnd_4 rfl ?_
  refine J_getR aX9_rowEnd_5 flX9_15 sh1 rfl ?_
  refine J_iload_n 2 aX9_rowEnd_8 rfl ?_
  obtain ⟨j1, e2, b3, h⟩ := h
  refine J_baload j1 aX9_rowEnd_9 sh2 e2 b3 (by decide) ?_
  refine J_callS [.int (I 2 j1)] [] aX9_rowEnd_10 lkX9_51 okX9_isLetter rfl rfl (Nat.le_of_ble_eq_true rfl) (Nat.le_refl _) (Mt_mono h (fun rv I4 h => ?_))
  obtain ⟨v5, rfl, h⟩ := h
  refine J_r1 ?_
  refine J_if_eq aX9_rowEnd_13 (fun q => ?_) (fun q => ?_)
  · replace h := h.1 q
    refine J_aload_n 1 aX9_rowEnd_42 rfl ?_
    refine J_getR aX9_rowEnd_43 flX9_15 sh1 rfl ?_
    refine J_iload_n 2 aX9_rowEnd_46 rfl ?_
    obtain ⟨j6, e7, b8, h⟩ := h
    refine J_baload j6 aX9_rowEnd_47 sh2 e7 b8 (by decide) ?_
    refine J_callS [.int (I4 2 j6)] [] aX9_rowEnd_48 lkX9_55 okX9_isDigit rfl rfl (Nat.le_of_ble_eq_true rfl) (Nat.le_refl _) (Mt_mono h (fun rv I9 h => ?_))
    obtain ⟨v10, rfl, h⟩ := h
    refine J_r1 ?_
    refine J_if_eq aX9_rowEnd_51 (fun q => ?_) (fun q => ?_)
    · replace h := h.1 q
      refine J_iload_n 0 aX9_rowEnd_80 rfl ?_
      exact J_iret aX9_rowEnd_81 rfl h
    · replace h := h.2 q
      refine J_pick [1, 0] rfl ?_
      exact h
  · replace h := h.2 q
    refine J_pick [1, 0] rfl ?_
    exact h
theorem S_X9_rowEnd_54 {E : EE} {d : Nat} {I : IH} {Q : QT} (x2 : Int32) (h :
(((I 1 0) ≤ x2 → Q (some (.int x2)) I) ∧
 (¬ (I 1 0) ≤ x2 → (∃ j1 : Nat, x2 = nI j1 ∧ j1 < 200 ∧ (Mt E d mX9_isDigit [.int (I 2 j1)] I (fun rv I4 => ∃ v5 : Int32, rv = some (.int v5) ∧
 ((v5 = 0 → Q (some (.int x2)) I4) ∧
 (¬ v5 = 0 → J E (d + 1) mX9_rowEnd 54 [(0, .ref (eb E + 1)), (2, .int (x2 + nI 1))] [] I4 Q)))))))) : J E (d + 1) mX9_rowEnd 54 [(0, .ref (eb E + 1)), (2, .int x2)] [] I Q := by
  refine J_iload_n 1 aX9_rowEnd_54 rfl ?_
  refine J_aload_n 0 aX9_rowEnd_55 rfl ?_
  refine J_getI aX9_rowEnd_56 flX9_11 sh1 rfl ?_
  refine J_icmp_ge aX9_rowEnd_59 (fun q => ?_) (fun q => ?_)
  · replace h := h.1 q
    refine J_iload_n 1 aX9_rowEnd_80 rfl ?_
    exact J_iret aX9_rowEnd_81 rfl h
  · replace h := h.2 q
    refine J_aload_n 0 aX9_rowEnd_62 rfl ?_
    refine J_getR aX9_rowEnd_63 flX9_15 sh1 rfl ?_
    refine J_iload_n 1 aX9_rowEnd_66 rfl ?_
    obtain ⟨j1, e2, b3, h⟩ := h
    refine J_baload j1 aX9_rowEnd_67 sh2 e2 b3 (by decide) ?_
    refine J_callS [.int (I 2 j1)] [] aX9_rowEnd_68 lkX9_55 okX9_isDigit rfl rfl (Nat.le_of_ble_eq_true rfl) (Nat.le_refl _) (Mt_mono h (fun rv I4 h => ?_))
    obtain ⟨v5, rfl, h⟩ := h
    refine J_r1 ?_
    refine J_if_eq aX9_rowEnd_71 (fun q => ?_) (fun q => ?_)
    · replace h := h.1 q
      refine J_iload_n 1 aX9_rowEnd_80 rfl ?_
      exact J_iret aX9_rowEnd_81 rfl h
    · replace h := h.2 q
      refine J_iinc (x2 + nI 1) [(2, .int (x2 + nI 1)), (0, .ref (eb E + 1))] 1 aX9_rowEnd_74 rfl (by first | rfl | (congr 1; decide +kernel)) (by decide) rfl ?_
      refine J_goto aX9_rowEnd_77 ?_
      refine J_pick [1, 0] rfl ?_
      exact h
theorem S_X9_rowEnd_16 {E : EE} {d : Nat} {I : IH} {Q : QT} (x2 : Int32) (h :
(((I 1 0) ≤ x2 → Q (some (.int x2)) I) ∧
 (¬ (I 1 0) ≤ x2 → (∃ j1 : Nat, x2 = nI j1 ∧ j1 < 200 ∧ (Mt E d mX9_isLetter [.int (I 2 j1)] I (fun rv I4 => ∃ v5 : Int32, rv = some (.int v5) ∧
 ((v5 = 0 → Q (some (.int x2)) I4) ∧
 (¬ v5 = 0 → J E (d + 1) mX9_rowEnd 16 [(0, .ref (eb E + 1)), (2, .int (x2 + nI 1))] [] I4 Q)))))))) : J E (d + 1) mX9_rowEnd 16 [(0, .ref (eb E + 1)), (2, .int x2)] [] I Q := by
  refine J_iload_n 1 aX9_rowEnd_16 rfl ?_
  refine J_aload_n 0 aX9_rowEnd_17 rfl ?_
  refine J_getI aX9_rowEnd_18 flX9_11 sh1 rfl ?_
  refine J_icmp_ge aX9_rowEnd_21 (fun q => ?_) (fun q => ?_)
  · replace h := h.1 q
    refine J_iload_n 1 aX9_rowEnd_80 rfl ?_
    exact J_iret aX9_rowEnd_81 rfl h
  · replace h := h.2 q
    refine J_aload_n 0 aX9_rowEnd_24 rfl ?_
    refine J_getR aX9_rowEnd_25 flX9_15 sh1 rfl ?_
    refine J_iload_n 1 aX9_rowEnd_28 rfl ?_
    obtain ⟨j1, e2, b3, h⟩ := h
    refine J_baload j1 aX9_rowEnd_29 sh2 e2 b3 (by decide) ?_
    refine J_callS [.int (I 2 j1)] [] aX9_rowEnd_30 lkX9_51 okX9_isLetter rfl rfl (Nat.le_of_ble_eq_true rfl) (Nat.le_refl _) (Mt_mono h (fun rv I4 h => ?_))
    obtain ⟨v5, rfl, h⟩ := h
    refine J_r1 ?_
    refine J_if_eq aX9_rowEnd_33 (fun q => ?_) (fun q => ?_)
    · replace h := h.1 q
      refine J_iload_n 1 aX9_rowEnd_80 rfl ?_
      exact J_iret aX9_rowEnd_81 rfl h
    · replace h := h.2 q
      refine J_iinc (x2 + nI 1) [(2, .int (x2 + nI 1)), (0, .ref (eb E + 1))] 1 aX9_rowEnd_36 rfl (by first | rfl | (congr 1; decide +kernel)) (by decide) rfl ?_
      refine J_goto aX9_rowEnd_39 ?_
      refine J_pick [1, 0] rfl ?_
      exact h
theorem aX9_token_0 : decode mX9_token.2.1 0 = .ok (.aload_n 0, 1) ∧ 0 + 1 = 1 := ⟨by decide +kernel, rfl⟩
theorem aX9_token_1 : decode mX9_token.2.1 1 = .ok (.getfield 15, 3) ∧ 1 + 3 = 4 := ⟨by decide +kernel, rfl⟩
theorem aX9_token_4 : decode mX9_token.2.1 4 = .ok (.iload_n 1, 1) ∧ 4 + 1 = 5 := ⟨by decide +kernel, rfl⟩
theorem aX9_token_5 : decode mX9_token.2.1 5 = .ok (.baload, 1) ∧ 5 + 1 = 6 := ⟨by decide +kernel, rfl⟩
theorem aX9_token_6 : decode mX9_token.2.1 6 = .ok (.invokestatic 51, 3) ∧ 6 + 3 = 9 := ⟨by decide +kernel, rfl⟩
theorem aX9_token_9 : decode mX9_token.2.1 9 = .ok (.ifCond .eq 10, 3) ∧ ((9 : Nat) : Int) + 10 = ((19 : Nat) : Int) ∧ 9 + 3 = 12 := ⟨by decide +kernel, by decide, rfl⟩
theorem aX9_token_12 : decode mX9_token.2.1 12 = .ok (.aload_n 0, 1) ∧ 12 + 1 = 13 := ⟨by decide +kernel, rfl⟩
theorem aX9_token_13 : decode mX9_token.2.1 13 = .ok (.iload_n 1, 1) ∧ 13 + 1 = 14 := ⟨by decide +kernel, rfl⟩
theorem aX9_token_14 : decode mX9_token.2.1 14 = .ok (.iload_n 2, 1) ∧ 14 + 1 = 15 := ⟨by decide +kernel, rfl⟩
theorem aX9_token_15 : decode mX9_token.2.1 15 = .ok (.invokevirtual 58, 3) ∧ 15 + 3 = 18 := ⟨by decide +kernel, rfl⟩
theorem aX9_token_18 : decode mX9_token.2.1 18 = .ok (.ireturn, 1) := by decide +kernel
theorem aX9_token_19 : decode mX9_token.2.1 19 = .ok (.aload_n 0, 1) ∧ 19 + 1 = 20 := ⟨by decide +kernel, rfl⟩
theorem aX9_token_20 : decode mX9_token.2.1 20 = .ok (.getfield 15, 3) ∧ 20 + 3 = 23 := ⟨by decide +kernel, rfl⟩
theorem aX9_token_23 : decode mX9_token.2.1 23 = .ok (.iload_n 1, 1) ∧ 23 + 1 = 24 := ⟨by decide +kernel, rfl⟩
theorem aX9_token_24 : decode mX9_token.2.1 24 = .ok (.baload, 1) ∧ 24 + 1 = 25 := ⟨by decide +kernel, rfl⟩
theorem aX9_token_25 : decode mX9_token.2.1 25 = .ok (.invokestatic 55, 3) ∧ 25 + 3 = 28 := ⟨by decide +kernel, rfl⟩
theorem aX9_token_28 : decode mX9_token.2.1 28 = .ok (.ifCond .eq 27, 3) ∧ ((28 : Nat) : Int) + 27 = ((55 : Nat) : Int) ∧ 28 + 3 = 31 := ⟨by decide +kernel, by decide, rfl⟩
theorem aX9_token_31 : decode mX9_token.2.1 31 = .ok (.iload_n 2, 1) ∧ 31 + 1 = 32 := ⟨by decide +kernel, rfl⟩
theorem aX9_token_32 : decode mX9_token.2.1 32 = .ok (.iload_n 1, 1) ∧ 32 + 1 = 33 := ⟨by decide +kernel, rfl⟩
theorem aX9_token_33 : decode mX9_token.2.1 33 = .ok (.isub, 1) ∧ 33 + 1 = 34 := ⟨by decide +kernel, rfl⟩
theorem aX9_token_34 : decode mX9_token.2.1 34 = .ok (.iconst 4, 1) ∧ 34 + 1 = 35 := ⟨by decide +kernel, rfl⟩
theorem aX9_token_35 : decode mX9_token.2.1 35 = .ok (.if_icmp .gt 16, 3) ∧ ((35 : Nat) : Int) + 16 = ((51 : Nat) : Int) ∧ 35 + 3 = 38 := ⟨by decide +kernel, by decide, rfl⟩
theorem aX9_token_38 : decode mX9_token.2.1 38 = .ok (.sipush 1000, 3) ∧ 38 + 3 = 41 := ⟨by decide +kernel, rfl⟩
theorem aX9_token_41 : decode mX9_token.2.1 41 = .ok (.aload_n 0, 1) ∧ 41 + 1 = 42 := ⟨by decide +kernel, rfl⟩
theorem aX9_token_42 : decode mX9_token.2.1 42 = .ok (.iload_n 1, 1) ∧ 42 + 1 = 43 := ⟨by decide +kernel, rfl⟩
theorem aX9_token_43 : decode mX9_token.2.1 43 = .ok (.iload_n 2, 1) ∧ 43 + 1 = 44 := ⟨by decide +kernel, rfl⟩
theorem aX9_token_44 : decode mX9_token.2.1 44 = .ok (.invokevirtual 61, 3) ∧ 44 + 3 = 47 := ⟨by decide +kernel, rfl⟩
theorem aX9_token_47 : decode mX9_token.2.1 47 = .ok (.iadd, 1) ∧ 47 + 1 = 48 := ⟨by decide +kernel, rfl⟩
theorem aX9_token_48 : decode mX9_token.2.1 48 = .ok (.goto 6, 3) ∧ ((48 : Nat) : Int) + 6 = ((54 : Nat) : Int) := ⟨by decide +kernel, by decide⟩
theorem aX9_token_51 : decode mX9_token.2.1 51 = .ok (.sipush 300, 3) ∧ 51 + 3 = 54 := ⟨by decide +kernel, rfl⟩
theorem aX9_token_54 : decode mX9_token.2.1 54 = .ok (.ireturn, 1) := by decide +kernel
theorem aX9_token_55 : decode mX9_token.2.1 55 = .ok (.aload_n 0, 1) ∧ 55 + 1 = 56 := ⟨by decide +kernel, rfl⟩
theorem aX9_token_56 : decode mX9_token.2.1 56 = .ok (.getfield 15, 3) ∧ 56 + 3 = 59 := ⟨by decide +kernel, rfl⟩
theorem aX9_token_59 : decode mX9_token.2.1 59 = .ok (.iload_n 1, 1) ∧ 59 + 1 = 60 := ⟨by decide +kernel, rfl⟩
theorem aX9_token_60 : decode mX9_token.2.1 60 = .ok (.baload, 1) ∧ 60 + 1 = 61 := ⟨by decide +kernel, rfl⟩
theorem aX9_token_61 : decode mX9_token.2.1 61 = .ok (.lookupswitch 66 #[(40, 59), (41, 59), (59, 59), (60, 59), (61, 59), (62, 59)], 59) := by decide +kernel
theorem aX9_token_120 : decode mX9_token.2.1 120 = .ok (.aload_n 0, 1) ∧ 120 + 1 = 121 := ⟨by decide +kernel, rfl⟩
theorem aX9_token_121 : decode mX9_token.2.1 121 = .ok (.getfield 15, 3) ∧ 121 + 3 = 124 := ⟨by decide +kernel, rfl⟩
theorem aX9_token_124 : decode mX9_token.2.1 124 = .ok (.iload_n 1, 1) ∧ 124 + 1 = 125 := ⟨by decide +kernel, rfl⟩
theorem aX9_token_125 : decode mX9_token.2.1 125 = .ok (.baload, 1) ∧ 125 + 1 = 126 := ⟨by decide +kernel, rfl⟩
theorem aX9_token_126 : decode mX9_token.2.1 126 = .ok (.ireturn, 1) := by decide +kernel
theorem aX9_token_127 : decode mX9_token.2.1 127 = .ok (.sipush 300, 3) ∧ 127 + 3 = 130 := ⟨by decide +kernel, rfl⟩
theorem aX9_token_130 : decode mX9_token.2.1 130 = .ok (.ireturn, 1) := by decide +kernel
theorem S_X9_token {E : EE} {d : Nat} {I : IH} {Q : QT} (x1 : Int32) (x2 : Int32) (h :
(∃ j1 : Nat, x1 = nI j1 ∧ j1 < 200 ∧ (Mt E d mX9_isLetter [.int (I 2 j1)] I (fun rv I4 => ∃ v5 : Int32, rv = some (.int v5) ∧
 ((v5 = 0 → (∃ j6 : Nat, x1 = nI j6 ∧ j6 < 200 ∧ (Mt E d mX9_isDigit [.int (I4 2 j6)] I4 (fun rv I9 => ∃ v10 : Int32, rv = some (.int v10) ∧
 ((v10 = 0 → (∃ j11 : Nat, x1 = nI j11 ∧ j11 < 200 ∧ (((I9 2 j11) = (nI 40) → (∃ j14 : Nat, x1 = nI j14 ∧ j14 < 200 ∧ Q (some (.int (I9 2 j14))) I9)) ∧
 (((I9 2 j11) = (nI 41) → (∃ j17 : Nat, x1 = nI j17 ∧ j17 < 200 ∧ Q (some (.int (I9 2 j17))) I9)) ∧
 (((I9 2 j11) = (nI 59) → (∃ j20 : Nat, x1 = nI j20 ∧ j20 < 200 ∧ Q (some (.int (I9 2 j20))) I9)) ∧
 (((I9 2 j11) = (nI 60) → (∃ j23 : Nat, x1 = nI j23 ∧ j23 < 200 ∧ Q (some (.int (I9 2 j23))) I9)) ∧
 (((I9 2 j11) = (nI 61) → (∃ j26 : Nat, x1 = nI j26 ∧ j26 < 200 ∧ Q (some (.int (I9 2 j26))) I9)) ∧
 (((I9 2 j11) = (nI 62) → (∃ j29 : Nat, x1 = nI j29 ∧ j29 < 200 ∧ Q (some (.int (I9 2 j29))) I9)) ∧
 (¬ (I9 2 j11) = (nI 40) ∧ ¬ (I9 2 j11) = (nI 41) ∧ ¬ (I9 2 j11) = (nI 59) ∧ ¬ (I9 2 j11) = (nI 60) ∧ ¬ (I9 2 j11) = (nI 61) ∧ ¬ (I9 2 j11) = (nI 62) → Q (some (.int (nI 300))) I9))))))))) ∧
 (¬ v10 = 0 → (((nI 4) < (x2 - x1) → Q (some (.int (nI 300))) I9) ∧
 (¬ (nI 4) < (x2 - x1) → (Mt E d mX9_number [.ref (eb E + 1), .int x1, .int x2] I9 (fun rv I32 => ∃ v33 : Int32, rv = some (.int v33) ∧
 Q (some (.int ((nI 1000) + v33))) I32)))))))))) ∧
 (¬ v5 = 0 → (Mt E d mX9_word [.ref (eb E + 1), .int x1, .int x2] I4 (fun rv I34 => ∃ v35 : Int32, rv = some (.int v35) ∧
 Q (some (.int v35)) I34)))))))) : Mt E (d + 1) mX9_token [.ref (eb E + 1), .int x1, .int x2] I Q := by
  refine Mt_of [(0, .ref (eb E + 1)), (1, .int x1), (2, .int x2)] (by decide +kernel) (by simp [lg_sl, Value.category, mX9_token]) rfl ?_
  refine J_aload_n 0 aX9_token_0 rfl ?_
  refine J_getR aX9_token_1 flX9_15 sh1 rfl ?_
  refine J_iload_n 1 aX9_token_4 rfl ?_
  obtain ⟨j1, e2, b3, h⟩ := h
  refine J_baload j1 aX9_token_5 sh2 e2 b3 (by decide) ?_
  refine J_callS [.int (I 2 j1)] [] aX9_token_6 lkX9_51 okX9_isLetter rfl rfl (Nat.le_of_ble_eq_true rfl) (Nat.le_refl _) (Mt_mono h (fun rv I4 h => ?_))
  obtain ⟨v5, rfl, h⟩ := h
  refine J_r1 ?_
  refine J_if_eq aX9_token_9 (fun q => ?_) (fun q => ?_)
  · replace h := h.1 q
    refine J_aload_n 0 aX9_token_19 rfl ?_
    refine J_getR aX9_token_20 flX9_15 sh1 rfl ?_
    refine J_iload_n 1 aX9_token_23 rfl ?_
    obtain ⟨j6, e7, b8, h⟩ := h
    refine J_baload j6 aX9_token_24 sh2 e7 b8 (by decide) ?_
    refine J_callS [.int (I4 2 j6)] [] aX9_token_25 lkX9_55 okX9_isDigit rfl rfl (Nat.le_of_ble_eq_true rfl) (Nat.le_refl _) (Mt_mono h (fun rv I9 h => ?_))
    obtain ⟨v10, rfl, h⟩ := h
    refine J_r1 ?_
    refine J_if_eq aX9_token_28 (fun q => ?_) (fun q => ?_)
    · replace h := h.1 q
      refine J_aload_n 0 aX9_token_55 rfl ?_
      refine J_getR aX9_token_56 flX9_15 sh1 rfl ?_
      refine J_iload_n 1 aX9_token_59 rfl ?_
      obtain ⟨j11, e12, b13, h⟩ := h
      refine J_baload j11 aX9_token_60 sh2 e12 b13 (by decide) ?_
      by_cases q40 : (I9 2 j11) = (nI 40)
      · replace h := h.1 q40
        refine J_lsw aX9_token_61 (off := 59) (tgt := 120) (by decide +kernel) (by rw [q40]; decide +kernel) (by decide) ?_
        refine J_aload_n 0 aX9_token_120 rfl ?_
        refine J_getR aX9_token_121 flX9_15 sh1 rfl ?_
        refine J_iload_n 1 aX9_token_124 rfl ?_
        obtain ⟨j14, e15, b16, h⟩ := h
        refine J_baload j14 aX9_token_125 sh2 e15 b16 (by decide) ?_
        exact J_iret aX9_token_126 rfl h
      replace h := h.2
      by_cases q41 : (I9 2 j11) = (nI 41)
      · replace h := h.1 q41
        refine J_lsw aX9_token_61 (off := 59) (tgt := 120) (by decide +kernel) (by rw [q41]; decide +kernel) (by decide) ?_
        refine J_aload_n 0 aX9_token_120 rfl ?_
        refine J_getR aX9_token_121 flX9_15 sh1 rfl ?_
        refine J_iload_n 1 aX9_token_124 rfl ?_
        obtain ⟨j17, e18, b19, h⟩ := h
        refine J_baload j17 aX9_token_125 sh2 e18 b19 (by decide) ?_
        exact J_iret aX9_token_126 rfl h
      replace h := h.2
      by_cases q59 : (I9 2 j11) = (nI 59)
      · replace h := h.1 q59
        refine J_lsw aX9_token_61 (off := 59) (tgt := 120) (by decide +kernel) (by rw [q59]; decide +kernel) (by decide) ?_
        refine J_aload_n 0 aX9_token_120 rfl ?_
        refine J_getR aX9_token_121 flX9_15 sh1 rfl ?_
        refine J_iload_n 1 aX9_token_124 rfl ?_
        obtain ⟨j20, e21, b22, h⟩ := h
        refine J_baload j20 aX9_token_125 sh2 e21 b22 (by decide) ?_
        exact J_iret aX9_token_126 rfl h
      replace h := h.2
      by_cases q60 : (I9 2 j11) = (nI 60)
      · replace h := h.1 q60
        refine J_lsw aX9_token_61 (off := 59) (tgt := 120) (by decide +kernel) (by rw [q60]; decide +kernel) (by decide) ?_
        refine J_aload_n 0 aX9_token_120 rfl ?_
        refine J_getR aX9_token_121 flX9_15 sh1 rfl ?_
        refine J_iload_n 1 aX9_token_124 rfl ?_
        obtain ⟨j23, e24, b25, h⟩ := h
        refine J_baload j23 aX9_token_125 sh2 e24 b25 (by decide) ?_
        exact J_iret aX9_token_126 rfl h
      replace h := h.2
      by_cases q61 : (I9 2 j11) = (nI 61)
      · replace h := h.1 q61
        refine J_lsw aX9_token_61 (off := 59) (tgt := 120) (by decide +kernel) (by rw [q61]; decide +kernel) (by decide) ?_
        refine J_aload_n 0 aX9_token_120 rfl ?_
        refine J_getR aX9_token_121 flX9_15 sh1 rfl ?_
        refine J_iload_n 1 aX9_token_124 rfl ?_
        obtain ⟨j26, e27, b28, h⟩ := h
        refine J_baload j26 aX9_token_125 sh2 e27 b28 (by decide) ?_
        exact J_iret aX9_token_126 rfl h
      replace h := h.2
      by_cases q62 : (I9 2 j11) = (nI 62)
      · replace h := h.1 q62
        refine J_lsw aX9_token_61 (off := 59) (tgt := 120) (by decide +kernel) (by rw [q62]; decide +kernel) (by decide) ?_
        refine J_aload_n 0 aX9_token_120 rfl ?_
        refine J_getR aX9_token_121 flX9_15 sh1 rfl ?_
        refine J_iload_n 1 aX9_token_124 rfl ?_
        obtain ⟨j29, e30, b31, h⟩ := h
        refine J_baload j29 aX9_token_125 sh2 e30 b31 (by decide) ?_
        exact J_iret aX9_token_126 rfl h
      replace h := h.2
      replace h := h ⟨q40, q41, q59, q60, q61, q62⟩
      refine J_lsw aX9_token_61 (off := 66) (tgt := 127) (by decide +kernel) (by rw [lv_osw q40 (k := (nI 40)) (by decide +kernel)]; rw [lv_osw q41 (k := (nI 41)) (by decide +kernel)]; rw [lv_osw q59 (k := (nI 59)) (by decide +kernel)]; rw [lv_osw q60 (k := (nI 60)) (by decide +kernel)]; rw [lv_osw q61 (k := (nI 61)) (by decide +kernel)]; rw [lv_osw q62 (k := (nI 62)) (by decide +kernel)]; rfl) (by decide) ?_
      refine J_sipush (nI 300) aX9_token_127 (by decide +kernel) ?_
      exact J_iret aX9_token_130 rfl h
    · replace h := h.2 q
      refine J_iload_n 2 aX9_token_31 rfl ?_
      refine J_iload_n 1 aX9_token_32 rfl ?_
      refine J_isub aX9_token_33 ?_
      refine J_iconst (nI 4) aX9_token_34 (by decide +kernel) ?_
      refine J_icmp_gt aX9_token_35 (fun q => ?_) (fun q => ?_)
      · replace h := h.1 q
        refine J_sipush (nI 300) aX9_token_51 (by decide +kernel) ?_
        exact J_iret aX9_token_54 rfl h
      · replace h := h.2 q
        refine J_sipush (nI 1000) aX9_token_38 (by decide +kernel) ?_
        refine J_aload_n 0 aX9_token_41 rfl ?_
        refine J_iload_n 1 aX9_token_42 rfl ?_
        refine J_iload_n 2 aX9_token_43 rfl ?_
        refine J_callV [.int x1, .int x2] [.int (nI 1000)] aX9_token_44 lkX9_61_X9 okX9_number sh1 rfl rfl rfl (Nat.le_of_ble_eq_true rfl) (Nat.le_refl _) (Mt_mono h (fun rv I32 h => ?_))
        obtain ⟨v33, rfl, h⟩ := h
        refine J_r1 ?_
        refine J_iadd aX9_token_47 ?_
        refine J_goto aX9_token_48 ?_
        exact J_iret aX9_token_54 rfl h
  · replace h := h.2 q
    refine J_aload_n 0 aX9_token_12 rfl ?_
    refine J_iload_n 1 aX9_token_13 rfl ?_
    refine J_iload_n 2 aX9_token_14 rfl ?_
    refine J_callV [.int x1, .int x2] [] aX9_token_15 lkX9_58_X9 okX9_word sh1 rfl rfl rfl (Nat.le_of_ble_eq_true rfl) (Nat.le_refl _) (Mt_mono h (fun rv I34 h => ?_))
    obtain ⟨v35, rfl, h⟩ := h
    refine J_r1 ?_
    exact J_iret aX9_token_18 rfl h
theorem aX9_number_0 : decode mX9_number.2.1 0 = .ok (.iconst 0, 1) ∧ 0 + 1 = 1 := ⟨by decide +kernel, rfl⟩
theorem aX9_number_1 : decode mX9_number.2.1 1 = .ok (.istore_n 3, 1) ∧ 1 + 1 = 2 := ⟨by decide +kernel, rfl⟩
theorem aX9_number_2 : decode mX9_number.2.1 2 = .ok (.iload_n 1, 1) ∧ 2 + 1 = 3 := ⟨by decide +kernel, rfl⟩
theorem aX9_number_3 : decode mX9_number.2.1 3 = .ok (.istore 4, 2) ∧ 3 + 2 = 5 := ⟨by decide +kernel, rfl⟩
theorem aX9_number_5 : decode mX9_number.2.1 5 = .ok (.iload 4, 2) ∧ 5 + 2 = 7 := ⟨by decide +kernel, rfl⟩
theorem aX9_number_7 : decode mX9_number.2.1 7 = .ok (.iload_n 2, 1) ∧ 7 + 1 = 8 := ⟨by decide +kernel, rfl⟩
theorem aX9_number_8 : decode mX9_number.2.1 8 = .ok (.if_icmp .ge 25, 3) ∧ ((8 : Nat) : Int) + 25 = ((33 : Nat) : Int) ∧ 8 + 3 = 11 := ⟨by decide +kernel, by decide, rfl⟩
theorem aX9_number_11 : decode mX9_number.2.1 11 = .ok (.iload_n 3, 1) ∧ 11 + 1 = 12 := ⟨by decide +kernel, rfl⟩
theorem aX9_number_12 : decode mX9_number.2.1 12 = .ok (.bipush 10, 2) ∧ 12 + 2 = 14 := ⟨by decide +kernel, rfl⟩
theorem aX9_number_14 : decode mX9_number.2.1 14 = .ok (.imul, 1) ∧ 14 + 1 = 15 := ⟨by decide +kernel, rfl⟩
theorem aX9_number_15 : decode mX9_number.2.1 15 = .ok (.aload_n 0, 1) ∧ 15 + 1 = 16 := ⟨by decide +kernel, rfl⟩
theorem aX9_number_16 : decode mX9_number.2.1 16 = .ok (.getfield 15, 3) ∧ 16 + 3 = 19 := ⟨by decide +kernel, rfl⟩
theorem aX9_number_19 : decode mX9_number.2.1 19 = .ok (.iload 4, 2) ∧ 19 + 2 = 21 := ⟨by decide +kernel, rfl⟩
theorem aX9_number_21 : decode mX9_number.2.1 21 = .ok (.baload, 1) ∧ 21 + 1 = 22 := ⟨by decide +kernel, rfl⟩
theorem aX9_number_22 : decode mX9_number.2.1 22 = .ok (.iadd, 1) ∧ 22 + 1 = 23 := ⟨by decide +kernel, rfl⟩
theorem aX9_number_23 : decode mX9_number.2.1 23 = .ok (.bipush 48, 2) ∧ 23 + 2 = 25 := ⟨by decide +kernel, rfl⟩
theorem aX9_number_25 : decode mX9_number.2.1 25 = .ok (.isub, 1) ∧ 25 + 1 = 26 := ⟨by decide +kernel, rfl⟩
theorem aX9_number_26 : decode mX9_number.2.1 26 = .ok (.istore_n 3, 1) ∧ 26 + 1 = 27 := ⟨by decide +kernel, rfl⟩
theorem aX9_number_27 : decode mX9_number.2.1 27 = .ok (.iinc 4 1, 3) ∧ 27 + 3 = 30 := ⟨by decide +kernel, rfl⟩
theorem aX9_number_30 : decode mX9_number.2.1 30 = .ok (.goto (-25), 3) ∧ ((30 : Nat) : Int) + (-25) = ((5 : Nat) : Int) := ⟨by decide +kernel, by decide⟩
theorem aX9_number_33 : decode mX9_number.2.1 33 = .ok (.iload_n 3, 1) ∧ 33 + 1 = 34 := ⟨by decide +kernel, rfl⟩
theorem aX9_number_34 : decode mX9_number.2.1 34 = .ok (.ireturn, 1) := by decide +kernel
theorem S_X9_number {E : EE} {d : Nat} {I : IH} {Q : QT} (x1 : Int32) (x2 : Int32) (h :
J E d mX9_number 5 [(0, .ref (eb E + 1)), (2, .int x2), (3, .int (nI 0)), (4, .int x1)] [] I Q) : Mt E d mX9_number [.ref (eb E + 1), .int x1, .int x2] I Q := by
  refine Mt_of [(0, .ref (eb E + 1)), (1, .int x1), (2, .int x2)] (by decide +kernel) (by simp [lg_sl, Value.category, mX9_number]) rfl ?_
  refine J_iconst (nI 0) aX9_number_0 (by decide +kernel) ?_
  refine J_istore_n [(3, .int (nI 0)), (0, .ref (eb E + 1)), (1, .int x1), (2, .int x2)] aX9_number_1 (by decide) rfl ?_
  refine J_iload_n 2 aX9_number_2 rfl ?_
  refine J_istore [(4, .int x1), (3, .int (nI 0)), (0, .ref (eb E + 1)), (1, .int x1), (2, .int x2)] aX9_number_3 (by decide) rfl ?_
  refine J_pick [2, 4, 1, 0] rfl ?_
  exact h
theorem S_X9_number_5 {E : EE} {d : Nat} {I : IH} {Q : QT} (x2 : Int32) (x3 : Int32) (x4 : Int32) (h :
((x2 ≤ x4 → Q (some (.int x3)) I) ∧
 (¬ x2 ≤ x4 → (∃ j1 : Nat, x4 = nI j1 ∧ j1 < 200 ∧ J E d mX9_number 5 [(0, .ref (eb E + 1)), (2, .int x2), (3, .int (((x3 * (nI 10)) + (I 2 j1)) - (nI 48))), (4, .int (x4 + nI 1))] [] I Q)))) : J E d mX9_number 5 [(0, .ref (eb E + 1)), (2, .int x2), (3, .int x3), (4, .int x4)] [] I Q := by
  refine J_iload 3 aX9_number_5 rfl ?_
  refine J_iload_n 1 aX9_number_7 rfl ?_
  refine J_icmp_ge aX9_number_8 (fun q => ?_) (fun q => ?_)
  · replace h := h.1 q
    refine J_iload_n 2 aX9_number_33 rfl ?_
    exact J_iret aX9_number_34 rfl h
  · replace h := h.2 q
    refine J_iload_n 2 aX9_number_11 rfl ?_
    refine J_bipush (nI 10) aX9_number_12 (by decide +kernel) ?_
    refine J_imul aX9_number_14 ?_
    refine J_aload_n 0 aX9_number_15 rfl ?_
    refine J_getR aX9_number_16 flX9_15 sh1 rfl ?_
    refine J_iload 3 aX9_number_19 rfl ?_
    obtain ⟨j1, e2, b3, h⟩ := h
    refine J_baload j1 aX9_number_21 sh2 e2 b3 (by decide) ?_
    refine J_iadd aX9_number_22 ?_
    refine J_bipush (nI 48) aX9_number_23 (by decide +kernel) ?_
    refine J_isub aX9_number_25 ?_
    refine J_istore_n [(3, .int (((x3 * (nI 10)) + (I 2 j1)) - (nI 48))), (0, .ref (eb E + 1)), (2, .int x2), (4, .int x4)] aX9_number_26 (by decide) rfl ?_
    refine J_iinc (x4 + nI 1) [(4, .int (x4 + nI 1)), (3, .int (((x3 * (nI 10)) + (I 2 j1)) - (nI 48))), (0, .ref (eb E + 1)), (2, .int x2)] 3 aX9_number_27 rfl (by first | rfl | (congr 1; decide +kernel)) (by decide) rfl ?_
    refine J_goto aX9_number_30 ?_
    refine J_pick [2, 3, 1, 0] rfl ?_
    exact h
theorem aX9_isLetter_0 : decode mX9_isLetter.2.1 0 = .ok (.iload_n 0, 1) ∧ 0 + 1 = 1 := ⟨by decide +kernel, rfl⟩
theorem aX9_isLetter_1 : decode mX9_isLetter.2.1 1 = .ok (.bipush 97, 2) ∧ 1 + 2 = 3 := ⟨by decide +kernel, rfl⟩
theorem aX9_isLetter_3 : decode mX9_isLetter.2.1 3 = .ok (.if_icmp .lt 13, 3) ∧ ((3 : Nat) : Int) + 13 = ((16 : Nat) : Int) ∧ 3 + 3 = 6 := ⟨by decide +kernel, by decide, rfl⟩
theorem aX9_isLetter_6 : decode mX9_isLetter.2.1 6 = .ok (.iload_n 0, 1) ∧ 6 + 1 = 7 := ⟨by decide +kernel, rfl⟩
theorem aX9_isLetter_7 : decode mX9_isLetter.2.1 7 = .ok (.bipush 122, 2) ∧ 7 + 2 = 9 := ⟨by decide +kernel, rfl⟩
theorem aX9_isLetter_9 : decode mX9_isLetter.2.1 9 = .ok (.if_icmp .gt 7, 3) ∧ ((9 : Nat) : Int) + 7 = ((16 : Nat) : Int) ∧ 9 + 3 = 12 := ⟨by decide +kernel, by decide, rfl⟩
theorem aX9_isLetter_12 : decode mX9_isLetter.2.1 12 = .ok (.iconst 1, 1) ∧ 12 + 1 = 13 := ⟨by decide +kernel, rfl⟩
theorem aX9_isLetter_13 : decode mX9_isLetter.2.1 13 = .ok (.goto 4, 3) ∧ ((13 : Nat) : Int) + 4 = ((17 : Nat) : Int) := ⟨by decide +kernel, by decide⟩
theorem aX9_isLetter_16 : decode mX9_isLetter.2.1 16 = .ok (.iconst 0, 1) ∧ 16 + 1 = 17 := ⟨by decide +kernel, rfl⟩
theorem aX9_isLetter_17 : decode mX9_isLetter.2.1 17 = .ok (.ireturn, 1) := by decide +kernel
theorem S_X9_isLetter {E : EE} {d : Nat} {I : IH} {Q : QT} (x0 : Int32) (h :
((x0 < (nI 97) → Q (some (.int (nI 0))) I) ∧
 (¬ x0 < (nI 97) → (((nI 122) < x0 → Q (some (.int (nI 0))) I) ∧
 (¬ (nI 122) < x0 → Q (some (.int (nI 1))) I))))) : Mt E d mX9_isLetter [.int x0] I Q := by
  refine Mt_of [(0, .int x0)] (by decide +kernel) (by simp [lg_sl, Value.category, mX9_isLetter]) rfl ?_
  refine J_iload_n 0 aX9_isLetter_0 rfl ?_
  refine J_bipush (nI 97) aX9_isLetter_1 (by decide +kernel) ?_
  refine J_icmp_lt aX9_isLetter_3 (fun q => ?_) (fun q => ?_)
  · replace h := h.1 q
    refine J_iconst (nI 0) aX9_isLetter_16 (by decide +kernel) ?_
    exact J_zret aX9_isLetter_17 rfl (by decide +kernel) h
  · replace h := h.2 q
    refine J_iload_n 0 aX9_isLetter_6 rfl ?_
    refine J_bipush (nI 122) aX9_isLetter_7 (by decide +kernel) ?_
    refine J_icmp_gt aX9_isLetter_9 (fun q => ?_) (fun q => ?_)
    · replace h := h.1 q
      refine J_iconst (nI 0) aX9_isLetter_16 (by decide +kernel) ?_
      exact J_zret aX9_isLetter_17 rfl (by decide +kernel) h
    · replace h := h.2 q
      refine J_iconst (nI 1) aX9_isLetter_12 (by decide +kernel) ?_
      refine J_goto aX9_isLetter_13 ?_
      exact J_zret aX9_isLetter_17 rfl (by decide +kernel) h
theorem aX9_isDigit_0 : decode mX9_isDigit.2.1 0 = .ok (.iload_n 0, 1) ∧ 0 + 1 = 1 := ⟨by decide +kernel, rfl⟩
theorem aX9_isDigit_1 : decode mX9_isDigit.2.1 1 = .ok (.bipush 48, 2) ∧ 1 + 2 = 3 := ⟨by decide +kernel, rfl⟩
theorem aX9_isDigit_3 : decode mX9_isDigit.2.1 3 = .ok (.if_icmp .lt 13, 3) ∧ ((3 : Nat) : Int) + 13 = ((16 : Nat) : Int) ∧ 3 + 3 = 6 := ⟨by decide +kernel, by decide, rfl⟩
theorem aX9_isDigit_6 : decode mX9_isDigit.2.1 6 = .ok (.iload_n 0, 1) ∧ 6 + 1 = 7 := ⟨by decide +kernel, rfl⟩
theorem aX9_isDigit_7 : decode mX9_isDigit.2.1 7 = .ok (.bipush 57, 2) ∧ 7 + 2 = 9 := ⟨by decide +kernel, rfl⟩
theorem aX9_isDigit_9 : decode mX9_isDigit.2.1 9 = .ok (.if_icmp .gt 7, 3) ∧ ((9 : Nat) : Int) + 7 = ((16 : Nat) : Int) ∧ 9 + 3 = 12 := ⟨by decide +kernel, by decide, rfl⟩
theorem aX9_isDigit_12 : decode mX9_isDigit.2.1 12 = .ok (.iconst 1, 1) ∧ 12 + 1 = 13 := ⟨by decide +kernel, rfl⟩
theorem aX9_isDigit_13 : decode mX9_isDigit.2.1 13 = .ok (.goto 4, 3) ∧ ((13 : Nat) : Int) + 4 = ((17 : Nat) : Int) := ⟨by decide +kernel, by decide⟩
theorem aX9_isDigit_16 : decode mX9_isDigit.2.1 16 = .ok (.iconst 0, 1) ∧ 16 + 1 = 17 := ⟨by decide +kernel, rfl⟩
theorem aX9_isDigit_17 : decode mX9_isDigit.2.1 17 = .ok (.ireturn, 1) := by decide +kernel
theorem S_X9_isDigit {E : EE} {d : Nat} {I : IH} {Q : QT} (x0 : Int32) (h :
((x0 < (nI 48) → Q (some (.int (nI 0))) I) ∧
 (¬ x0 < (nI 48) → (((nI 57) < x0 → Q (some (.int (nI 0))) I) ∧
 (¬ (nI 57) < x0 → Q (some (.int (nI 1))) I))))) : Mt E d mX9_isDigit [.int x0] I Q := by
  refine Mt_of [(0, .int x0)] (by decide +kernel) (by simp [lg_sl, Value.category, mX9_isDigit]) rfl ?_
  refine J_iload_n 0 aX9_isDigit_0 rfl ?_
  refine J_bipush (nI 48) aX9_isDigit_1 (by decide +kernel) ?_
  refine J_icmp_lt aX9_isDigit_3 (fun q => ?_) (fun q => ?_)
  · replace h := h.1 q
    refine J_iconst (nI 0) aX9_isDigit_16 (by decide +kernel) ?_
    exact J_zret aX9_isDigit_17 rfl (by decide +kernel) h
  · replace h := h.2 q
    refine J_iload_n 0 aX9_isDigit_6 rfl ?_
    refine J_bipush (nI 57) aX9_isDigit_7 (by decide +kernel) ?_
    refine J_icmp_gt aX9_isDigit_9 (fun q => ?_) (fun q => ?_)
    · replace h := h.1 q
      refine J_iconst (nI 0) aX9_isDigit_16 (by decide +kernel) ?_
      exact J_zret aX9_isDigit_17 rfl (by decide +kernel) h
    · replace h := h.2 q
      refine J_iconst (nI 1) aX9_isDigit_12 (by decide +kernel) ?_
      refine J_goto aX9_isDigit_13 ?_
      exact J_zret aX9_isDigit_17 rfl (by decide +kernel) h
theorem aX9_expect_0 : decode mX9_expect.2.1 0 = .ok (.aload_n 0, 1) ∧ 0 + 1 = 1 := ⟨by decide +kernel, rfl⟩
theorem aX9_expect_1 : decode mX9_expect.2.1 1 = .ok (.getfield 29, 3) ∧ 1 + 3 = 4 := ⟨by decide +kernel, rfl⟩
theorem aX9_expect_4 : decode mX9_expect.2.1 4 = .ok (.ifCond .ne 29, 3) ∧ ((4 : Nat) : Int) + 29 = ((33 : Nat) : Int) ∧ 4 + 3 = 7 := ⟨by decide +kernel, by decide, rfl⟩
theorem aX9_expect_7 : decode mX9_expect.2.1 7 = .ok (.aload_n 0, 1) ∧ 7 + 1 = 8 := ⟨by decide +kernel, rfl⟩
theorem aX9_expect_8 : decode mX9_expect.2.1 8 = .ok (.getfield 19, 3) ∧ 8 + 3 = 11 := ⟨by decide +kernel, rfl⟩
theorem aX9_expect_11 : decode mX9_expect.2.1 11 = .ok (.aload_n 0, 1) ∧ 11 + 1 = 12 := ⟨by decide +kernel, rfl⟩
theorem aX9_expect_12 : decode mX9_expect.2.1 12 = .ok (.getfield 26, 3) ∧ 12 + 3 = 15 := ⟨by decide +kernel, rfl⟩
theorem aX9_expect_15 : decode mX9_expect.2.1 15 = .ok (.iaload, 1) ∧ 15 + 1 = 16 := ⟨by decide +kernel, rfl⟩
theorem aX9_expect_16 : decode mX9_expect.2.1 16 = .ok (.iload_n 1, 1) ∧ 16 + 1 = 17 := ⟨by decide +kernel, rfl⟩
theorem aX9_expect_17 : decode mX9_expect.2.1 17 = .ok (.if_icmp .lt 16, 3) ∧ ((17 : Nat) : Int) + 16 = ((33 : Nat) : Int) ∧ 17 + 3 = 20 := ⟨by decide +kernel, by decide, rfl⟩
theorem aX9_expect_20 : decode mX9_expect.2.1 20 = .ok (.aload_n 0, 1) ∧ 20 + 1 = 21 := ⟨by decide +kernel, rfl⟩
theorem aX9_expect_21 : decode mX9_expect.2.1 21 = .ok (.getfield 19, 3) ∧ 21 + 3 = 24 := ⟨by decide +kernel, rfl⟩
theorem aX9_expect_24 : decode mX9_expect.2.1 24 = .ok (.aload_n 0, 1) ∧ 24 + 1 = 25 := ⟨by decide +kernel, rfl⟩
theorem aX9_expect_25 : decode mX9_expect.2.1 25 = .ok (.getfield 26, 3) ∧ 25 + 3 = 28 := ⟨by decide +kernel, rfl⟩
theorem aX9_expect_28 : decode mX9_expect.2.1 28 = .ok (.iaload, 1) ∧ 28 + 1 = 29 := ⟨by decide +kernel, rfl⟩
theorem aX9_expect_29 : decode mX9_expect.2.1 29 = .ok (.iload_n 2, 1) ∧ 29 + 1 = 30 := ⟨by decide +kernel, rfl⟩
theorem aX9_expect_30 : decode mX9_expect.2.1 30 = .ok (.if_icmp .le 10, 3) ∧ ((30 : Nat) : Int) + 10 = ((40 : Nat) : Int) ∧ 30 + 3 = 33 := ⟨by decide +kernel, by decide, rfl⟩
theorem aX9_expect_33 : decode mX9_expect.2.1 33 = .ok (.aload_n 0, 1) ∧ 33 + 1 = 34 := ⟨by decide +kernel, rfl⟩
theorem aX9_expect_34 : decode mX9_expect.2.1 34 = .ok (.iconst 1, 1) ∧ 34 + 1 = 35 := ⟨by decide +kernel, rfl⟩
theorem aX9_expect_35 : decode mX9_expect.2.1 35 = .ok (.putfield 29, 3) ∧ 35 + 3 = 38 := ⟨by decide +kernel, rfl⟩
theorem aX9_expect_38 : decode mX9_expect.2.1 38 = .ok (.iload_n 1, 1) ∧ 38 + 1 = 39 := ⟨by decide +kernel, rfl⟩
theorem aX9_expect_39 : decode mX9_expect.2.1 39 = .ok (.ireturn, 1) := by decide +kernel
theorem aX9_expect_40 : decode mX9_expect.2.1 40 = .ok (.aload_n 0, 1) ∧ 40 + 1 = 41 := ⟨by decide +kernel, rfl⟩
theorem aX9_expect_41 : decode mX9_expect.2.1 41 = .ok (.getfield 19, 3) ∧ 41 + 3 = 44 := ⟨by decide +kernel, rfl⟩
theorem aX9_expect_44 : decode mX9_expect.2.1 44 = .ok (.aload_n 0, 1) ∧ 44 + 1 = 45 := ⟨by decide +kernel, rfl⟩
theorem aX9_expect_45 : decode mX9_expect.2.1 45 = .ok (.getfield 26, 3) ∧ 45 + 3 = 48 := ⟨by decide +kernel, rfl⟩
theorem aX9_expect_48 : decode mX9_expect.2.1 48 = .ok (.iaload, 1) ∧ 48 + 1 = 49 := ⟨by decide +kernel, rfl⟩
theorem aX9_expect_49 : decode mX9_expect.2.1 49 = .ok (.istore_n 3, 1) ∧ 49 + 1 = 50 := ⟨by decide +kernel, rfl⟩
theorem aX9_expect_50 : decode mX9_expect.2.1 50 = .ok (.aload_n 0, 1) ∧ 50 + 1 = 51 := ⟨by decide +kernel, rfl⟩
theorem aX9_expect_51 : decode mX9_expect.2.1 51 = .ok (.dup, 1) ∧ 51 + 1 = 52 := ⟨by decide +kernel, rfl⟩
theorem aX9_expect_52 : decode mX9_expect.2.1 52 = .ok (.getfield 26, 3) ∧ 52 + 3 = 55 := ⟨by decide +kernel, rfl⟩
theorem aX9_expect_55 : decode mX9_expect.2.1 55 = .ok (.iconst 1, 1) ∧ 55 + 1 = 56 := ⟨by decide +kernel, rfl⟩
theorem aX9_expect_56 : decode mX9_expect.2.1 56 = .ok (.iadd, 1) ∧ 56 + 1 = 57 := ⟨by decide +kernel, rfl⟩
theorem aX9_expect_57 : decode mX9_expect.2.1 57 = .ok (.putfield 26, 3) ∧ 57 + 3 = 60 := ⟨by decide +kernel, rfl⟩
theorem aX9_expect_60 : decode mX9_expect.2.1 60 = .ok (.iload_n 3, 1) ∧ 60 + 1 = 61 := ⟨by decide +kernel, rfl⟩
theorem aX9_expect_61 : decode mX9_expect.2.1 61 = .ok (.ireturn, 1) := by decide +kernel
theorem S_X9_expect {E : EE} {d : Nat} {I : IH} {Q : QT} (x1 : Int32) (x2 : Int32) (h :
((¬ (I 1 5) = 0 → (∀ I1 : IH, I1 = stI I 1 5 (nI 1) →
 Q (some (.int x1)) I1)) ∧
 ((I 1 5) = 0 → (∃ j3 : Nat, (I 1 4) = nI j3 ∧ j3 < 201 ∧ (((I 3 j3) < x1 → (∀ I6 : IH, I6 = stI I 1 5 (nI 1) →
 Q (some (.int x1)) I6)) ∧
 (¬ (I 3 j3) < x1 → (∃ j8 : Nat, (I 1 4) = nI j8 ∧ j8 < 201 ∧ (((I 3 j8) ≤ x2 → (∃ j11 : Nat, (I 1 4) = nI j11 ∧ j11 < 201 ∧ (∀ I14 : IH, I14 = stI I 1 4 ((I 1 4) + (nI 1)) →
 Q (some (.int (I 3 j11))) I14))) ∧
 (¬ (I 3 j8) ≤ x2 → (∀ I16 : IH, I16 = stI I 1 5 (nI 1) →
 Q (some (.int x1)) I16)))))))))) : Mt E d mX9_expect [.ref (eb E + 1), .int x1, .int x2] I Q := by
  refine Mt_of [(0, .ref (eb E + 1)), (1, .int x1), (2, .int x2)] (by decide +kernel) (by simp [lg_sl, Value.category, mX9_expect]) rfl ?_
  refine J_aload_n 0 aX9_expect_0 rfl ?_
  refine J_getI aX9_expect_1 flX9_29 sh1 rfl ?_
  refine J_if_ne aX9_expect_4 (fun q => ?_) (fun q => ?_)
  · replace h := h.1 q
    refine J_aload_n 0 aX9_expect_33 rfl ?_
    refine J_iconst (nI 1) aX9_expect_34 (by decide +kernel) ?_
    refine J_putZ aX9_expect_35 fpX9_29 sh1 rfl (by decide +kernel) (fun I1 e2 => ?_)
    replace h := h I1 e2
    refine J_iload_n 1 aX9_expect_38 rfl ?_
    exact J_iret aX9_expect_39 rfl h
  · replace h := h.2 q
    refine J_aload_n 0 aX9_expect_7 rfl ?_
    refine J_getR aX9_expect_8 flX9_19 sh1 rfl ?_
    refine J_aload_n 0 aX9_expect_11 rfl ?_
    refine J_getI aX9_expect_12 flX9_26 sh1 rfl ?_
    obtain ⟨j3, e4, b5, h⟩ := h
    refine J_iaload j3 aX9_expect_15 sh3 e4 b5 (by decide) ?_
    refine J_iload_n 1 aX9_expect_16 rfl ?_
    refine J_icmp_lt aX9_expect_17 (fun q => ?_) (fun q => ?_)
    · replace h := h.1 q
      refine J_aload_n 0 aX9_expect_33 rfl ?_
      refine J_iconst (nI 1) aX9_expect_34 (by decide +kernel) ?_
      refine J_putZ aX9_expect_35 fpX9_29 sh1 rfl (by decide +kernel) (fun I6 e7 => ?_)
      replace h := h I6 e7
      refine J_iload_n 1 aX9_expect_38 rfl ?_
      exact J_iret aX9_expect_39 rfl h
    · replace h := h.2 q
      refine J_aload_n 0 aX9_expect_20 rfl ?_
      refine J_getR aX9_expect_21 flX9_19 sh1 rfl ?_
      refine J_aload_n 0 aX9_expect_24 rfl ?_
      refine J_getI aX9_expect_25 flX9_26 sh1 rfl ?_
      obtain ⟨j8, e9, b10, h⟩ := h
      refine J_iaload j8 aX9_expect_28 sh3 e9 b10 (by decide) ?_
      refine J_iload_n 2 aX9_expect_29 rfl ?_
      refine J_icmp_le aX9_expect_30 (fun q => ?_) (fun q => ?_)
      · replace h := h.1 q
        refine J_aload_n 0 aX9_expect_40 rfl ?_
        refine J_getR aX9_expect_41 flX9_19 sh1 rfl ?_
        refine J_aload_n 0 aX9_expect_44 rfl ?_
        refine J_getI aX9_expect_45 flX9_26 sh1 rfl ?_
        obtain ⟨j11, e12, b13, h⟩ := h
        refine J_iaload j11 aX9_expect_48 sh3 e12 b13 (by decide) ?_
        refine J_istore_n [(3, .int (I 3 j11)), (0, .ref (eb E + 1)), (1, .int x1), (2, .int x2)] aX9_expect_49 (by decide) rfl ?_
        refine J_aload_n 1 aX9_expect_50 rfl ?_
        refine J_dup aX9_expect_51 rfl ?_
        refine J_getI aX9_expect_52 flX9_26 sh1 rfl ?_
        refine J_iconst (nI 1) aX9_expect_55 (by decide +kernel) ?_
        refine J_iadd aX9_expect_56 ?_
        refine J_putI aX9_expect_57 fpX9_26 sh1 rfl (fun I14 e15 => ?_)
        replace h := h I14 e15
        refine J_iload_n 0 aX9_expect_60 rfl ?_
        exact J_iret aX9_expect_61 rfl h
      · replace h := h.2 q
        refine J_aload_n 0 aX9_expect_33 rfl ?_
        refine J_iconst (nI 1) aX9_expect_34 (by decide +kernel) ?_
        refine J_putZ aX9_expect_35 fpX9_29 sh1 rfl (by decide +kernel) (fun I16 e17 => ?_)
        replace h := h I16 e17
        refine J_iload_n 1 aX9_expect_38 rfl ?_
        exact J_iret aX9_expect_39 rfl h
theorem aX9_passes_0 : decode mX9_passes.2.1 0 = .ok (.aload_n 0, 1) ∧ 0 + 1 = 1 := ⟨by decide +kernel, rfl⟩
theorem aX9_passes_1 : decode mX9_passes.2.1 1 = .ok (.getfield 29, 3) ∧ 1 + 3 = 4 := ⟨by decide +kernel, rfl⟩
theorem aX9_passes_4 : decode mX9_passes.2.1 4 = .ok (.ifCond .ne 16, 3) ∧ ((4 : Nat) : Int) + 16 = ((20 : Nat) : Int) ∧ 4 + 3 = 7 := ⟨by decide +kernel, by decide, rfl⟩
theorem aX9_passes_7 : decode mX9_passes.2.1 7 = .ok (.aload_n 0, 1) ∧ 7 + 1 = 8 := ⟨by decide +kernel, rfl⟩
theorem aX9_passes_8 : decode mX9_passes.2.1 8 = .ok (.getfield 19, 3) ∧ 8 + 3 = 11 := ⟨by decide +kernel, rfl⟩
theorem aX9_passes_11 : decode mX9_passes.2.1 11 = .ok (.aload_n 0, 1) ∧ 11 + 1 = 12 := ⟨by decide +kernel, rfl⟩
theorem aX9_passes_12 : decode mX9_passes.2.1 12 = .ok (.getfield 26, 3) ∧ 12 + 3 = 15 := ⟨by decide +kernel, rfl⟩
theorem aX9_passes_15 : decode mX9_passes.2.1 15 = .ok (.iaload, 1) ∧ 15 + 1 = 16 := ⟨by decide +kernel, rfl⟩
theorem aX9_passes_16 : decode mX9_passes.2.1 16 = .ok (.iload_n 1, 1) ∧ 16 + 1 = 17 := ⟨by decide +kernel, rfl⟩
theorem aX9_passes_17 : decode mX9_passes.2.1 17 = .ok (.if_icmp .eq 5, 3) ∧ ((17 : Nat) : Int) + 5 = ((22 : Nat) : Int) ∧ 17 + 3 = 20 := ⟨by decide +kernel, by decide, rfl⟩
theorem aX9_passes_20 : decode mX9_passes.2.1 20 = .ok (.iconst 0, 1) ∧ 20 + 1 = 21 := ⟨by decide +kernel, rfl⟩
theorem aX9_passes_21 : decode mX9_passes.2.1 21 = .ok (.ireturn, 1) := by decide +kernel
theorem aX9_passes_22 : decode mX9_passes.2.1 22 = .ok (.aload_n 0, 1) ∧ 22 + 1 = 23 := ⟨by decide +kernel, rfl⟩
theorem aX9_passes_23 : decode mX9_passes.2.1 23 = .ok (.dup, 1) ∧ 23 + 1 = 24 := ⟨by decide +kernel, rfl⟩
theorem aX9_passes_24 : decode mX9_passes.2.1 24 = .ok (.getfield 26, 3) ∧ 24 + 3 = 27 := ⟨by decide +kernel, rfl⟩
theorem aX9_passes_27 : decode mX9_passes.2.1 27 = .ok (.iconst 1, 1) ∧ 27 + 1 = 28 := ⟨by decide +kernel, rfl⟩
theorem aX9_passes_28 : decode mX9_passes.2.1 28 = .ok (.iadd, 1) ∧ 28 + 1 = 29 := ⟨by decide +kernel, rfl⟩
theorem aX9_passes_29 : decode mX9_passes.2.1 29 = .ok (.putfield 26, 3) ∧ 29 + 3 = 32 := ⟨by decide +kernel, rfl⟩
theorem aX9_passes_32 : decode mX9_passes.2.1 32 = .ok (.iconst 1, 1) ∧ 32 + 1 = 33 := ⟨by decide +kernel, rfl⟩
theorem aX9_passes_33 : decode mX9_passes.2.1 33 = .ok (.ireturn, 1) := by decide +kernel
theorem S_X9_passes {E : EE} {d : Nat} {I : IH} {Q : QT} (x1 : Int32) (h :
((¬ (I 1 5) = 0 → Q (some (.int (nI 0))) I) ∧
 ((I 1 5) = 0 → (∃ j1 : Nat, (I 1 4) = nI j1 ∧ j1 < 201 ∧ (((I 3 j1) = x1 → (∀ I4 : IH, I4 = stI I 1 4 ((I 1 4) + (nI 1)) →
 Q (some (.int (nI 1))) I4)) ∧
 (¬ (I 3 j1) = x1 → Q (some (.int (nI 0))) I)))))) : Mt E d mX9_passes [.ref (eb E + 1), .int x1] I Q := by
  refine Mt_of [(0, .ref (eb E + 1)), (1, .int x1)] (by decide +kernel) (by simp [lg_sl, Value.category, mX9_passes]) rfl ?_
  refine J_aload_n 0 aX9_passes_0 rfl ?_
  refine J_getI aX9_passes_1 flX9_29 sh1 rfl ?_
  refine J_if_ne aX9_passes_4 (fun q => ?_) (fun q => ?_)
  · replace h := h.1 q
    refine J_iconst (nI 0) aX9_passes_20 (by decide +kernel) ?_
    exact J_zret aX9_passes_21 rfl (by decide +kernel) h
  · replace h := h.2 q
    refine J_aload_n 0 aX9_passes_7 rfl ?_
    refine J_getR aX9_passes_8 flX9_19 sh1 rfl ?_
    refine J_aload_n 0 aX9_passes_11 rfl ?_
    refine J_getI aX9_passes_12 flX9_26 sh1 rfl ?_
    obtain ⟨j1, e2, b3, h⟩ := h
    refine J_iaload j1 aX9_passes_15 sh3 e2 b3 (by decide) ?_
    refine J_iload_n 1 aX9_passes_16 rfl ?_
    refine J_icmp_eq aX9_passes_17 (fun q => ?_) (fun q => ?_)
    · replace h := h.1 q
      refine J_aload_n 0 aX9_passes_22 rfl ?_
      refine J_dup aX9_passes_23 rfl ?_
      refine J_getI aX9_passes_24 flX9_26 sh1 rfl ?_
      refine J_iconst (nI 1) aX9_passes_27 (by decide +kernel) ?_
      refine J_iadd aX9_passes_28 ?_
      refine J_putI aX9_passes_29 fpX9_26 sh1 rfl (fun I4 e5 => ?_)
      replace h := h I4 e5
      refine J_iconst (nI 1) aX9_passes_32 (by decide +kernel) ?_
      exact J_zret aX9_passes_33 rfl (by decide +kernel) h
    · replace h := h.2 q
      refine J_iconst (nI 0) aX9_passes_20 (by decide +kernel) ?_
      exact J_zret aX9_passes_21 rfl (by decide +kernel) h
theorem aX9_readRule_0 : decode mX9_readRule.2.1 0 = .ok (.aload_n 1, 1) ∧ 0 + 1 = 1 := ⟨by decide +kernel, rfl⟩
theorem aX9_readRule_1 : decode mX9_readRule.2.1 1 = .ok (.getfield 80, 3) ∧ 1 + 3 = 4 := ⟨by decide +kernel, rfl⟩
theorem aX9_readRule_4 : decode mX9_readRule.2.1 4 = .ok (.bipush 8, 2) ∧ 4 + 2 = 6 := ⟨by decide +kernel, rfl⟩
theorem aX9_readRule_6 : decode mX9_readRule.2.1 6 = .ok (.if_icmp .ne 9, 3) ∧ ((6 : Nat) : Int) + 9 = ((15 : Nat) : Int) ∧ 6 + 3 = 9 := ⟨by decide +kernel, by decide, rfl⟩
theorem aX9_readRule_9 : decode mX9_readRule.2.1 9 = .ok (.aload_n 0, 1) ∧ 9 + 1 = 10 := ⟨by decide +kernel, rfl⟩
theorem aX9_readRule_10 : decode mX9_readRule.2.1 10 = .ok (.iconst 1, 1) ∧ 10 + 1 = 11 := ⟨by decide +kernel, rfl⟩
theorem aX9_readRule_11 : decode mX9_readRule.2.1 11 = .ok (.putfield 29, 3) ∧ 11 + 3 = 14 := ⟨by decide +kernel, rfl⟩
theorem aX9_readRule_14 : decode mX9_readRule.2.1 14 = .ok (.return_, 1) := by decide +kernel
theorem aX9_readRule_15 : decode mX9_readRule.2.1 15 = .ok (.aload_n 0, 1) ∧ 15 + 1 = 16 := ⟨by decide +kernel, rfl⟩
theorem aX9_readRule_16 : decode mX9_readRule.2.1 16 = .ok (.iconst 0, 1) ∧ 16 + 1 = 17 := ⟨by decide +kernel, rfl⟩
theorem aX9_readRule_17 : decode mX9_readRule.2.1 17 = .ok (.iconst 5, 1) ∧ 17 + 1 = 18 := ⟨by decide +kernel, rfl⟩
theorem aX9_readRule_18 : decode mX9_readRule.2.1 18 = .ok (.invokevirtual 81, 3) ∧ 18 + 3 = 21 := ⟨by decide +kernel, rfl⟩
theorem aX9_readRule_21 : decode mX9_readRule.2.1 21 = .ok (.istore_n 2, 1) ∧ 21 + 1 = 22 := ⟨by decide +kernel, rfl⟩
theorem aX9_readRule_22 : decode mX9_readRule.2.1 22 = .ok (.aload_n 0, 1) ∧ 22 + 1 = 23 := ⟨by decide +kernel, rfl⟩
theorem aX9_readRule_23 : decode mX9_readRule.2.1 23 = .ok (.bipush 9, 2) ∧ 23 + 2 = 25 := ⟨by decide +kernel, rfl⟩
theorem aX9_readRule_25 : decode mX9_readRule.2.1 25 = .ok (.invokevirtual 84, 3) ∧ 25 + 3 = 28 := ⟨by decide +kernel, rfl⟩
theorem aX9_readRule_28 : decode mX9_readRule.2.1 28 = .ok (.ifCond .eq 9, 3) ∧ ((28 : Nat) : Int) + 9 = ((37 : Nat) : Int) ∧ 28 + 3 = 31 := ⟨by decide +kernel, by decide, rfl⟩
theorem aX9_readRule_31 : decode mX9_readRule.2.1 31 = .ok (.aload_n 0, 1) ∧ 31 + 1 = 32 := ⟨by decide +kernel, rfl⟩
theorem aX9_readRule_32 : decode mX9_readRule.2.1 32 = .ok (.aload_n 1, 1) ∧ 32 + 1 = 33 := ⟨by decide +kernel, rfl⟩
theorem aX9_readRule_33 : decode mX9_readRule.2.1 33 = .ok (.iconst 0, 1) ∧ 33 + 1 = 34 := ⟨by decide +kernel, rfl⟩
theorem aX9_readRule_34 : decode mX9_readRule.2.1 34 = .ok (.invokevirtual 88, 3) ∧ 34 + 3 = 37 := ⟨by decide +kernel, rfl⟩
theorem aX9_readRule_37 : decode mX9_readRule.2.1 37 = .ok (.aload_n 0, 1) ∧ 37 + 1 = 38 := ⟨by decide +kernel, rfl⟩
theorem aX9_readRule_38 : decode mX9_readRule.2.1 38 = .ok (.bipush 6, 2) ∧ 38 + 2 = 40 := ⟨by decide +kernel, rfl⟩
theorem aX9_readRule_40 : decode mX9_readRule.2.1 40 = .ok (.bipush 8, 2) ∧ 40 + 2 = 42 := ⟨by decide +kernel, rfl⟩
theorem aX9_readRule_42 : decode mX9_readRule.2.1 42 = .ok (.invokevirtual 81, 3) ∧ 42 + 3 = 45 := ⟨by decide +kernel, rfl⟩
theorem aX9_readRule_45 : decode mX9_readRule.2.1 45 = .ok (.bipush 6, 2) ∧ 45 + 2 = 47 := ⟨by decide +kernel, rfl⟩
theorem aX9_readRule_47 : decode mX9_readRule.2.1 47 = .ok (.isub, 1) ∧ 47 + 1 = 48 := ⟨by decide +kernel, rfl⟩
theorem aX9_readRule_48 : decode mX9_readRule.2.1 48 = .ok (.istore_n 3, 1) ∧ 48 + 1 = 49 := ⟨by decide +kernel, rfl⟩
theorem aX9_readRule_49 : decode mX9_readRule.2.1 49 = .ok (.aload_n 0, 1) ∧ 49 + 1 = 50 := ⟨by decide +kernel, rfl⟩
theorem aX9_readRule_50 : decode mX9_readRule.2.1 50 = .ok (.bipush 59, 2) ∧ 50 + 2 = 52 := ⟨by decide +kernel, rfl⟩
theorem aX9_readRule_52 : decode mX9_readRule.2.1 52 = .ok (.bipush 59, 2) ∧ 52 + 2 = 54 := ⟨by decide +kernel, rfl⟩
theorem aX9_readRule_54 : decode mX9_readRule.2.1 54 = .ok (.invokevirtual 81, 3) ∧ 54 + 3 = 57 := ⟨by decide +kernel, rfl⟩
theorem aX9_readRule_57 : decode mX9_readRule.2.1 57 = .ok (.pop, 1) ∧ 57 + 1 = 58 := ⟨by decide +kernel, rfl⟩
theorem aX9_readRule_58 : decode mX9_readRule.2.1 58 = .ok (.aload_n 1, 1) ∧ 58 + 1 = 59 := ⟨by decide +kernel, rfl⟩
theorem aX9_readRule_59 : decode mX9_readRule.2.1 59 = .ok (.iload_n 2, 1) ∧ 59 + 1 = 60 := ⟨by decide +kernel, rfl⟩
theorem aX9_readRule_60 : decode mX9_readRule.2.1 60 = .ok (.iload_n 3, 1) ∧ 60 + 1 = 61 := ⟨by decide +kernel, rfl⟩
theorem aX9_readRule_61 : decode mX9_readRule.2.1 61 = .ok (.invokevirtual 92, 3) ∧ 61 + 3 = 64 := ⟨by decide +kernel, rfl⟩
theorem aX9_readRule_64 : decode mX9_readRule.2.1 64 = .ok (.return_, 1) := by decide +kernel
theorem S_X9_readRule {E : EE} {d : Nat} {I : IH} {Q : QT} {r1 : Nat} (hR1 : isRu r1) (h :
((¬ (I r1 0) = (nI 8) → (Mt E d mX9_expect [.ref (eb E + 1), .int (nI 0), .int (nI 5)] I (fun rv I1 => ∃ v2 : Int32, rv = some (.int v2) ∧
 (Mt E d mX9_passes [.ref (eb E + 1), .int (nI 9)] I1 (fun rv I3 => ∃ v4 : Int32, rv = some (.int v4) ∧
 ((v4 = 0 → J E (d + 1) mX9_readRule 37 [(0, .ref (eb E + 1)), (1, .ref (eb E + r1)), (2, .int v2)] [] I3 Q) ∧
 (¬ v4 = 0 → (Mt E d mX9_readCondition [.ref (eb E + 1), .ref (eb E + r1), .int (nI 0)] I3 (fun rv I5 => rv = none ∧
 J E (d + 1) mX9_readRule 37 [(0, .ref (eb E + 1)), (1, .ref (eb E + r1)), (2, .int v2)] [] I5 Q))))))))) ∧
 ((I r1 0) = (nI 8) → (∀ I6 : IH, I6 = stI I 1 5 (nI 1) →
 Q none I6)))) : Mt E (d + 1) mX9_readRule [.ref (eb E + 1), .ref (eb E + r1)] I Q := by
  refine Mt_of [(0, .ref (eb E + 1)), (1, .ref (eb E + r1))] (by decide +kernel) (by simp [lg_sl, Value.category, mX9_readRule]) rfl ?_
  refine J_aload_n 1 aX9_readRule_0 rfl ?_
  refine J_getI aX9_readRule_1 flX9_80 (shRu hR1) rfl ?_
  refine J_bipush (nI 8) aX9_readRule_4 (by decide +kernel) ?_
  refine J_icmp_ne aX9_readRule_6 (fun q => ?_) (fun q => ?_)
  · replace h := h.1 q
    refine J_aload_n 0 aX9_readRule_15 rfl ?_
    refine J_iconst (nI 0) aX9_readRule_16 (by decide +kernel) ?_
    refine J_iconst (nI 5) aX9_readRule_17 (by decide +kernel) ?_
    refine J_callV [.int (nI 0), .int (nI 5)] [] aX9_readRule_18 lkX9_81_X9 okX9_expect sh1 rfl rfl rfl (Nat.le_of_ble_eq_true rfl) (Nat.le_refl _) (Mt_mono h (fun rv I1 h => ?_))
    obtain ⟨v2, rfl, h⟩ := h
    refine J_r1 ?_
    refine J_istore_n [(2, .int v2), (0, .ref (eb E + 1)), (1, .ref (eb E + r1))] aX9_readRule_21 (by decide) rfl ?_
    refine J_aload_n 1 aX9_readRule_22 rfl ?_
    refine J_bipush (nI 9) aX9_readRule_23 (by decide +kernel) ?_
    refine J_callV [.int (nI 9)] [] aX9_readRule_25 lkX9_84_X9 okX9_passes sh1 rfl rfl rfl (Nat.le_of_ble_eq_true rfl) (Nat.le_refl _) (Mt_mono h (fun rv I3 h => ?_))
    obtain ⟨v4, rfl, h⟩ := h
    refine J_r1 ?_
    refine J_if_eq aX9_readRule_28 (fun q => ?_) (fun q => ?_)
    · replace h := h.1 q
      refine J_pick [1, 2, 0] rfl ?_
      exact h
    · replace h := h.2 q
      refine J_aload_n 1 aX9_readRule_31 rfl ?_
      refine J_aload_n 2 aX9_readRule_32 rfl ?_
      refine J_iconst (nI 0) aX9_readRule_33 (by decide +kernel) ?_
      refine J_callV [.ref (eb E + r1), .int (nI 0)] [] aX9_readRule_34 lkX9_88_X9 okX9_readCondition sh1 rfl rfl rfl (Nat.le_of_ble_eq_true rfl) (Nat.le_refl _) (Mt_mono h (fun rv I5 h => ?_))
      obtain ⟨rfl, h⟩ := h
      refine J_r0 ?_
      refine J_pick [1, 2, 0] rfl ?_
      exact h
  · replace h := h.2 q
    refine J_aload_n 0 aX9_readRule_9 rfl ?_
    refine J_iconst (nI 1) aX9_readRule_10 (by decide +kernel) ?_
    refine J_putZ aX9_readRule_11 fpX9_29 sh1 rfl (by decide +kernel) (fun I6 e7 => ?_)
    replace h := h I6 e7
    exact J_vret aX9_readRule_14 rfl h
theorem S_X9_readRule_37 {E : EE} {d : Nat} {I : IH} {Q : QT} {r1 : Nat} (hR1 : isRu r1) (x2 : Int32) (h :
(Mt E d mX9_expect [.ref (eb E + 1), .int (nI 6), .int (nI 8)] I (fun rv I1 => ∃ v2 : Int32, rv = some (.int v2) ∧
 (Mt E d mX9_expect [.ref (eb E + 1), .int (nI 59), .int (nI 59)] I1 (fun rv I3 => ∃ v4 : Int32, rv = some (.int v4) ∧
 (Mt E d mX6_add [.ref (eb E + r1), .int x2, .int (v2 - (nI 6))] I3 (fun rv I5 => rv = none ∧
 Q none I5))))))) : J E (d + 1) mX9_readRule 37 [(0, .ref (eb E + 1)), (1, .ref (eb E + r1)), (2, .int x2)] [] I Q := by
  refine J_aload_n 0 aX9_readRule_37 rfl ?_
  refine J_bipush (nI 6) aX9_readRule_38 (by decide +kernel) ?_
  refine J_bipush (nI 8) aX9_readRule_40 (by decide +kernel) ?_
  refine J_callV [.int (nI 6), .int (nI 8)] [] aX9_readRule_42 lkX9_81_X9 okX9_expect sh1 rfl rfl rfl (Nat.le_of_ble_eq_true rfl) (Nat.le_refl _) (Mt_mono h (fun rv I1 h => ?_))
  obtain ⟨v2, rfl, h⟩ := h
  refine J_r1 ?_
  refine J_bipush (nI 6) aX9_readRule_45 (by decide +kernel) ?_
  refine J_isub aX9_readRule_47 ?_
  refine J_istore_n [(3, .int (v2 - (nI 6))), (0, .ref (eb E + 1)), (1, .ref (eb E + r1)), (2, .int x2)] aX9_readRule_48 (by decide) rfl ?_
  refine J_aload_n 1 aX9_readRule_49 rfl ?_
  refine J_bipush (nI 59) aX9_readRule_50 (by decide +kernel) ?_
  refine J_bipush (nI 59) aX9_readRule_52 (by decide +kernel) ?_
  refine J_callV [.int (nI 59), .int (nI 59)] [] aX9_readRule_54 lkX9_81_X9 okX9_expect sh1 rfl rfl rfl (Nat.le_of_ble_eq_true rfl) (Nat.le_refl _) (Mt_mono h (fun rv I3 h => ?_))
  obtain ⟨v4, rfl, h⟩ := h
  refine J_r1 ?_
  refine J_pop aX9_readRule_57 rfl ?_
  refine J_aload_n 2 aX9_readRule_58 rfl ?_
  refine J_iload_n 3 aX9_readRule_59 rfl ?_
  refine J_iload_n 0 aX9_readRule_60 rfl ?_
  refine J_callV [.int x2, .int (v2 - (nI 6))] [] aX9_readRule_61 lkX9_92_X6 okX6_add (shRu hR1) rfl rfl rfl (Nat.le_of_ble_eq_true rfl) (Nat.le_refl _) (Mt_mono h (fun rv I5 h => ?_))
  obtain ⟨rfl, h⟩ := h
  refine J_r0 ?_
  exact J_vret aX9_readRule_64 rfl h
theorem aX9_readCondition_0 : decode mX9_readCondition.2.1 0 = .ok (.aload_n 0, 1) ∧ 0 + 1 = 1 := ⟨by decide +kernel, rfl⟩
theorem aX9_readCondition_1 : decode mX9_readCondition.2.1 1 = .ok (.aload_n 1, 1) ∧ 1 + 1 = 2 := ⟨by decide +kernel, rfl⟩
theorem aX9_readCondition_2 : decode mX9_readCondition.2.1 2 = .ok (.iload_n 2, 1) ∧ 2 + 1 = 3 := ⟨by decide +kernel, rfl⟩
theorem aX9_readCondition_3 : decode mX9_readCondition.2.1 3 = .ok (.invokevirtual 96, 3) ∧ 3 + 3 = 6 := ⟨by decide +kernel, rfl⟩
theorem aX9_readCondition_6 : decode mX9_readCondition.2.1 6 = .ok (.iconst 0, 1) ∧ 6 + 1 = 7 := ⟨by decide +kernel, rfl⟩
theorem aX9_readCondition_7 : decode mX9_readCondition.2.1 7 = .ok (.istore_n 3, 1) ∧ 7 + 1 = 8 := ⟨by decide +kernel, rfl⟩
theorem aX9_readCondition_8 : decode mX9_readCondition.2.1 8 = .ok (.iload_n 3, 1) ∧ 8 + 1 = 9 := ⟨by decide +kernel, rfl⟩
theorem aX9_readCondition_9 : decode mX9_readCondition.2.1 9 = .ok (.sipush 200, 3) ∧ 9 + 3 = 12 := ⟨by decide +kernel, rfl⟩
theorem aX9_readCondition_12 : decode mX9_readCondition.2.1 12 = .ok (.if_icmp .ge 29, 3) ∧ ((12 : Nat) : Int) + 29 = ((41 : Nat) : Int) ∧ 12 + 3 = 15 := ⟨by decide +kernel, by decide, rfl⟩
theorem aX9_readCondition_15 : decode mX9_readCondition.2.1 15 = .ok (.aload_n 0, 1) ∧ 15 + 1 = 16 := ⟨by decide +kernel, rfl⟩
theorem aX9_readCondition_16 : decode mX9_readCondition.2.1 16 = .ok (.bipush 10, 2) ∧ 16 + 2 = 18 := ⟨by decide +kernel, rfl⟩
theorem aX9_readCondition_18 : decode mX9_readCondition.2.1 18 = .ok (.invokevirtual 84, 3) ∧ 18 + 3 = 21 := ⟨by decide +kernel, rfl⟩
theorem aX9_readCondition_21 : decode mX9_readCondition.2.1 21 = .ok (.ifCond .eq 20, 3) ∧ ((21 : Nat) : Int) + 20 = ((41 : Nat) : Int) ∧ 21 + 3 = 24 := ⟨by decide +kernel, by decide, rfl⟩
theorem aX9_readCondition_24 : decode mX9_readCondition.2.1 24 = .ok (.aload_n 0, 1) ∧ 24 + 1 = 25 := ⟨by decide +kernel, rfl⟩
theorem aX9_readCondition_25 : decode mX9_readCondition.2.1 25 = .ok (.aload_n 1, 1) ∧ 25 + 1 = 26 := ⟨by decide +kernel, rfl⟩
theorem aX9_readCondition_26 : decode mX9_readCondition.2.1 26 = .ok (.iload_n 2, 1) ∧ 26 + 1 = 27 := ⟨by decide +kernel, rfl⟩
theorem aX9_readCondition_27 : decode mX9_readCondition.2.1 27 = .ok (.invokevirtual 96, 3) ∧ 27 + 3 = 30 := ⟨by decide +kernel, rfl⟩
theorem aX9_readCondition_30 : decode mX9_readCondition.2.1 30 = .ok (.aload_n 1, 1) ∧ 30 + 1 = 31 := ⟨by decide +kernel, rfl⟩
theorem aX9_readCondition_31 : decode mX9_readCondition.2.1 31 = .ok (.iconst 5, 1) ∧ 31 + 1 = 32 := ⟨by decide +kernel, rfl⟩
theorem aX9_readCondition_32 : decode mX9_readCondition.2.1 32 = .ok (.invokevirtual 99, 3) ∧ 32 + 3 = 35 := ⟨by decide +kernel, rfl⟩
theorem aX9_readCondition_35 : decode mX9_readCondition.2.1 35 = .ok (.iinc 3 1, 3) ∧ 35 + 3 = 38 := ⟨by decide +kernel, rfl⟩
theorem aX9_readCondition_38 : decode mX9_readCondition.2.1 38 = .ok (.goto (-30), 3) ∧ ((38 : Nat) : Int) + (-30) = ((8 : Nat) : Int) := ⟨by decide +kernel, by decide⟩
theorem aX9_readCondition_41 : decode mX9_readCondition.2.1 41 = .ok (.return_, 1) := by decide +kernel
theorem S_X9_readCondition {E : EE} {d : Nat} {I : IH} {Q : QT} {r1 : Nat} (hR1 : isRu r1) (x2 : Int32) (h :
(Mt E d mX9_readAll [.ref (eb E + 1), .ref (eb E + r1), .int x2] I (fun rv I1 => rv = none ∧
 J E (d + 1) mX9_readCondition 8 [(0, .ref (eb E + 1)), (1, .ref (eb E + r1)), (2, .int x2), (3, .int (nI 0))] [] I1 Q))) : Mt E (d + 1) mX9_readCondition [.ref (eb E + 1), .ref (eb E + r1), .int x2] I Q := by
  refine Mt_of [(0, .ref (eb E + 1)), (1, .ref (eb E + r1)), (2, .int x2)] (by decide +kernel) (by simp [lg_sl, Value.category, mX9_readCondition]) rfl ?_
  refine J_aload_n 0 aX9_readCondition_0 rfl ?_
  refine J_aload_n 1 aX9_readCondition_1 rfl ?_
  refine J_iload_n 2 aX9_readCondition_2 rfl ?_
  refine J_callV [.ref (eb E + r1), .int x2] [] aX9_readCondition_3 lkX9_96_X9 okX9_readAll sh1 rfl rfl rfl (Nat.le_of_ble_eq_true rfl) (Nat.le_refl _) (Mt_mono h (fun rv I1 h => ?_))
  obtain ⟨rfl, h⟩ := h
  refine J_r0 ?_
  refine J_iconst (nI 0) aX9_readCondition_6 (by decide +kernel) ?_
  refine J_istore_n [(3, .int (nI 0)), (0, .ref (eb E + 1)), (1, .ref (eb E + r1)), (2, .int x2)] aX9_readCondition_7 (by decide) rfl ?_
  refine J_pick [1, 2, 3, 0] rfl ?_
  exact h
theorem S_X9_readCondition_8 {E : EE} {d : Nat} {I : IH} {Q : QT} {r1 : Nat} (hR1 : isRu r1) (x2 : Int32) (x3 : Int32) (h :
(((nI 200) ≤ x3 → Q none I) ∧
 (¬ (nI 200) ≤ x3 → (Mt E d mX9_passes [.ref (eb E + 1), .int (nI 10)] I (fun rv I1 => ∃ v2 : Int32, rv = some (.int v2) ∧
 ((v2 = 0 → Q none I1) ∧
 (¬ v2 = 0 → (Mt E d mX9_readAll [.ref (eb E + 1), .ref (eb E + r1), .int x2] I1 (fun rv I3 => rv = none ∧
 (Mt E d mX6_emit [.ref (eb E + r1), .int (nI 5)] I3 (fun rv I4 => rv = none ∧
 J E (d + 1) mX9_readCondition 8 [(0, .ref (eb E + 1)), (1, .ref (eb E + r1)), (2, .int x2), (3, .int (x3 + nI 1))] [] I4 Q))))))))))) : J E (d + 1) mX9_readCondition 8 [(0, .ref (eb E + 1)), (1, .ref (eb E + r1)), (2, .int x2), (3, .int x3)] [] I Q := by
  refine J_iload_n 3 aX9_readCondition_8 rfl ?_
  refine J_sipush (nI 200) aX9_readCondition_9 (by decide +kernel) ?_
  refine J_icmp_ge aX9_readCondition_12 (fun q => ?_) (fun q => ?_)
  · replace h := h.1 q
    exact J_vret aX9_readCondition_41 rfl h
  · replace h := h.2 q
    refine J_aload_n 0 aX9_readCondition_15 rfl ?_
    refine J_bipush (nI 10) aX9_readCondition_16 (by decide +kernel) ?_
    refine J_callV [.int (nI 10)] [] aX9_readCondition_18 lkX9_84_X9 okX9_passes sh1 rfl rfl rfl (Nat.le_of_ble_eq_true rfl) (Nat.le_refl _) (Mt_mono h (fun rv I1 h => ?_))
    obtain ⟨v2, rfl, h⟩ := h
    refine J_r1 ?_
    refine J_if_eq aX9_readCondition_21 (fun q => ?_) (fun q => ?_)
    · replace h := h.1 q
      exact J_vret aX9_readCondition_41 rfl h
    · replace h := h.2 q
      refine J_aload_n 0 aX9_readCondition_24 rfl ?_
      refine J_aload_n 1 aX9_readCondition_25 rfl ?_
      refine J_iload_n 2 aX9_readCondition_26 rfl ?_
      refine J_callV [.ref (eb E + r1), .int x2] [] aX9_readCondition_27 lkX9_96_X9 okX9_readAll sh1 rfl rfl rfl (Nat.le_of_ble_eq_true rfl) (Nat.le_refl _) (Mt_mono h (fun rv I3 h => ?_))
      obtain ⟨rfl, h⟩ := h
      refine J_r0 ?_
      refine J_aload_n 1 aX9_readCondition_30 rfl ?_
      refine J_iconst (nI 5) aX9_readCondition_31 (by decide +kernel) ?_
      refine J_callV [.int (nI 5)] [] aX9_readCondition_32 lkX9_99_X6 okX6_emit (shRu hR1) rfl rfl rfl (Nat.le_of_ble_eq_true rfl) (Nat.le_refl _) (Mt_mono h (fun rv I4 h => ?_))
      obtain ⟨rfl, h⟩ := h
      refine J_r0 ?_
      refine J_iinc (x3 + nI 1) [(3, .int (x3 + nI 1)), (0, .ref (eb E + 1)), (1, .ref (eb E + r1)), (2, .int x2)] 3 aX9_readCondition_35 rfl (by first | rfl | (congr 1; decide +kernel)) (by decide) rfl ?_
      refine J_goto aX9_readCondition_38 ?_
      refine J_pick [1, 2, 3, 0] rfl ?_
      exact h
theorem aX9_readAll_0 : decode mX9_readAll.2.1 0 = .ok (.aload_n 0, 1) ∧ 0 + 1 = 1 := ⟨by decide +kernel, rfl⟩
theorem aX9_readAll_1 : decode mX9_readAll.2.1 1 = .ok (.aload_n 1, 1) ∧ 1 + 1 = 2 := ⟨by decide +kernel, rfl⟩
theorem aX9_readAll_2 : decode mX9_readAll.2.1 2 = .ok (.iload_n 2, 1) ∧ 2 + 1 = 3 := ⟨by decide +kernel, rfl⟩
theorem aX9_readAll_3 : decode mX9_readAll.2.1 3 = .ok (.invokevirtual 103, 3) ∧ 3 + 3 = 6 := ⟨by decide +kernel, rfl⟩
theorem aX9_readAll_6 : decode mX9_readAll.2.1 6 = .ok (.iconst 0, 1) ∧ 6 + 1 = 7 := ⟨by decide +kernel, rfl⟩
theorem aX9_readAll_7 : decode mX9_readAll.2.1 7 = .ok (.istore_n 3, 1) ∧ 7 + 1 = 8 := ⟨by decide +kernel, rfl⟩
theorem aX9_readAll_8 : decode mX9_readAll.2.1 8 = .ok (.iload_n 3, 1) ∧ 8 + 1 = 9 := ⟨by decide +kernel, rfl⟩
theorem aX9_readAll_9 : decode mX9_readAll.2.1 9 = .ok (.sipush 200, 3) ∧ 9 + 3 = 12 := ⟨by decide +kernel, rfl⟩
theorem aX9_readAll_12 : decode mX9_readAll.2.1 12 = .ok (.if_icmp .ge 29, 3) ∧ ((12 : Nat) : Int) + 29 = ((41 : Nat) : Int) ∧ 12 + 3 = 15 := ⟨by decide +kernel, by decide, rfl⟩
theorem aX9_readAll_15 : decode mX9_readAll.2.1 15 = .ok (.aload_n 0, 1) ∧ 15 + 1 = 16 := ⟨by decide +kernel, rfl⟩
theorem aX9_readAll_16 : decode mX9_readAll.2.1 16 = .ok (.bipush 11, 2) ∧ 16 + 2 = 18 := ⟨by decide +kernel, rfl⟩
theorem aX9_readAll_18 : decode mX9_readAll.2.1 18 = .ok (.invokevirtual 84, 3) ∧ 18 + 3 = 21 := ⟨by decide +kernel, rfl⟩
theorem aX9_readAll_21 : decode mX9_readAll.2.1 21 = .ok (.ifCond .eq 20, 3) ∧ ((21 : Nat) : Int) + 20 = ((41 : Nat) : Int) ∧ 21 + 3 = 24 := ⟨by decide +kernel, by decide, rfl⟩
theorem aX9_readAll_24 : decode mX9_readAll.2.1 24 = .ok (.aload_n 0, 1) ∧ 24 + 1 = 25 := ⟨by decide +kernel, rfl⟩
theorem aX9_readAll_25 : decode mX9_readAll.2.1 25 = .ok (.aload_n 1, 1) ∧ 25 + 1 = 26 := ⟨by decide +kernel, rfl⟩
theorem aX9_readAll_26 : decode mX9_readAll.2.1 26 = .ok (.iload_n 2, 1) ∧ 26 + 1 = 27 := ⟨by decide +kernel, rfl⟩
theorem aX9_readAll_27 : decode mX9_readAll.2.1 27 = .ok (.invokevirtual 103, 3) ∧ 27 + 3 = 30 := ⟨by decide +kernel, rfl⟩
theorem aX9_readAll_30 : decode mX9_readAll.2.1 30 = .ok (.aload_n 1, 1) ∧ 30 + 1 = 31 := ⟨by decide +kernel, rfl⟩
theorem aX9_readAll_31 : decode mX9_readAll.2.1 31 = .ok (.iconst 4, 1) ∧ 31 + 1 = 32 := ⟨by decide +kernel, rfl⟩
theorem aX9_readAll_32 : decode mX9_readAll.2.1 32 = .ok (.invokevirtual 99, 3) ∧ 32 + 3 = 35 := ⟨by decide +kernel, rfl⟩
theorem aX9_readAll_35 : decode mX9_readAll.2.1 35 = .ok (.iinc 3 1, 3) ∧ 35 + 3 = 38 := ⟨by decide +kernel, rfl⟩
theorem aX9_readAll_38 : decode mX9_readAll.2.1 38 = .ok (.goto (-30), 3) ∧ ((38 : Nat) : Int) + (-30) = ((8 : Nat) : Int) := ⟨by decide +kernel, by decide⟩
theorem aX9_readAll_41 : decode mX9_readAll.2.1 41 = .ok (.return_, 1) := by decide +kernel
theorem S_X9_readAll {E : EE} {d : Nat} {I : IH} {Q : QT} {r1 : Nat} (hR1 : isRu r1) (x2 : Int32) (h :
(Mt E d mX9_readOne [.ref (eb E + 1), .ref (eb E + r1), .int x2] I (fun rv I1 => rv = none ∧
 J E (d + 1) mX9_readAll 8 [(0, .ref (eb E + 1)), (1, .ref (eb E + r1)), (2, .int x2), (3, .int (nI 0))] [] I1 Q))) : Mt E (d + 1) mX9_readAll [.ref (eb E + 1), .ref (eb E + r1), .int x2] I Q := by
  refine Mt_of [(0, .ref (eb E + 1)), (1, .ref (eb E + r1)), (2, .int x2)] (by decide +kernel) (by simp [lg_sl, Value.category, mX9_readAll]) rfl ?_
  refine J_aload_n 0 aX9_readAll_0 rfl ?_
  refine J_aload_n 1 aX9_readAll_1 rfl ?_
  refine J_iload_n 2 aX9_readAll_2 rfl ?_
  refine J_callV [.ref (eb E + r1), .int x2] [] aX9_readAll_3 lkX9_103_X9 okX9_readOne sh1 rfl rfl rfl (Nat.le_of_ble_eq_true rfl) (Nat.le_refl _) (Mt_mono h (fun rv I1 h => ?_))
  obtain ⟨rfl, h⟩ := h
  refine J_r0 ?_
  refine J_iconst (nI 0) aX9_readAll_6 (by decide +kernel) ?_
  refine J_istore_n [(3, .int (nI 0)), (0, .ref (eb E + 1)), (1, .ref (eb E + r1)), (2, .int x2)] aX9_readAll_7 (by decide) rfl ?_
  refine J_pick [1, 2, 3, 0] rfl ?_
  exact h
theorem S_X9_readAll_8 {E : EE} {d : Nat} {I : IH} {Q : QT} {r1 : Nat} (hR1 : isRu r1) (x2 : Int32) (x3 : Int32) (h :
(((nI 200) ≤ x3 → Q none I) ∧
 (¬ (nI 200) ≤ x3 → (Mt E d mX9_passes [.ref (eb E + 1), .int (nI 11)] I (fun rv I1 => ∃ v2 : Int32, rv = some (.int v2) ∧
 ((v2 = 0 → Q none I1) ∧
 (¬ v2 = 0 → (Mt E d mX9_readOne [.ref (eb E + 1), .ref (eb E + r1), .int x2] I1 (fun rv I3 => rv = none ∧
 (Mt E d mX6_emit [.ref (eb E + r1), .int (nI 4)] I3 (fun rv I4 => rv = none ∧
 J E (d + 1) mX9_readAll 8 [(0, .ref (eb E + 1)), (1, .ref (eb E + r1)), (2, .int x2), (3, .int (x3 + nI 1))] [] I4 Q))))))))))) : J E (d + 1) mX9_readAll 8 [(0, .ref (eb E + 1)), (1, .ref (eb E + r1)), (2, .int x2), (3, .int x3)] [] I Q := by
  refine J_iload_n 3 aX9_readAll_8 rfl ?_
  refine J_sipush (nI 200) aX9_readAll_9 (by decide +kernel) ?_
  refine J_icmp_ge aX9_readAll_12 (fun q => ?_) (fun q => ?_)
  · replace h := h.1 q
    exact J_vret aX9_readAll_41 rfl h
  · replace h := h.2 q
    refine J_aload_n 0 aX9_readAll_15 rfl ?_
    refine J_bipush (nI 11) aX9_readAll_16 (by decide +kernel) ?_
    refine J_callV [.int (nI 11)] [] aX9_readAll_18 lkX9_84_X9 okX9_passes sh1 rfl rfl rfl (Nat.le_of_ble_eq_true rfl) (Nat.le_refl _) (Mt_mono h (fun rv I1 h => ?_))
    obtain ⟨v2, rfl, h⟩ := h
    refine J_r1 ?_
    refine J_if_eq aX9_readAll_21 (fun q => ?_) (fun q => ?_)
    · replace h := h.1 q
      exact J_vret aX9_readAll_41 rfl h
    · replace h := h.2 q
      refine J_aload_n 0 aX9_readAll_24 rfl ?_
      refine J_aload_n 1 aX9_readAll_25 rfl ?_
      refine J_iload_n 2 aX9_readAll_26 rfl ?_
      refine J_callV [.ref (eb E + r1), .int x2] [] aX9_readAll_27 lkX9_103_X9 okX9_readOne sh1 rfl rfl rfl (Nat.le_of_ble_eq_true rfl) (Nat.le_refl _) (Mt_mono h (fun rv I3 h => ?_))
      obtain ⟨rfl, h⟩ := h
      refine J_r0 ?_
      refine J_aload_n 1 aX9_readAll_30 rfl ?_
      refine J_iconst (nI 4) aX9_readAll_31 (by decide +kernel) ?_
      refine J_callV [.int (nI 4)] [] aX9_readAll_32 lkX9_99_X6 okX6_emit (shRu hR1) rfl rfl rfl (Nat.le_of_ble_eq_true rfl) (Nat.le_refl _) (Mt_mono h (fun rv I4 h => ?_))
      obtain ⟨rfl, h⟩ := h
      refine J_r0 ?_
      refine J_iinc (x3 + nI 1) [(3, .int (x3 + nI 1)), (0, .ref (eb E + 1)), (1, .ref (eb E + r1)), (2, .int x2)] 3 aX9_readAll_35 rfl (by first | rfl | (congr 1; decide +kernel)) (by decide) rfl ?_
      refine J_goto aX9_readAll_38 ?_
      refine J_pick [1, 2, 3, 0] rfl ?_
      exact h
