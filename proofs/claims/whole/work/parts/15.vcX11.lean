theorem aX11_pane_0 : decode mX11_pane.2.1 0 = .ok (.iload_n 1, 1) ∧ 0 + 1 = 1 := ⟨by decide +kernel, rfl⟩
theorem aX11_pane_1 : decode mX11_pane.2.1 1 = .ok (.invokestatic 106, 3) ∧ 1 + 3 = 4 := ⟨by decide +kernel, rfl⟩
theorem aX11_pane_4 : decode mX11_pane.2.1 4 = .ok (.ifCond .eq 20, 3) ∧ ((4 : Nat) : Int) + 20 = ((24 : Nat) : Int) ∧ 4 + 3 = 7 := ⟨by decide +kernel, by decide, rfl⟩
theorem aX11_pane_7 : decode mX11_pane.2.1 7 = .ok (.iload_n 2, 1) ∧ 7 + 1 = 8 := ⟨by decide +kernel, rfl⟩
theorem aX11_pane_8 : decode mX11_pane.2.1 8 = .ok (.sipush 255, 3) ∧ 8 + 3 = 11 := ⟨by decide +kernel, rfl⟩
theorem aX11_pane_11 : decode mX11_pane.2.1 11 = .ok (.invokestatic 110, 3) ∧ 11 + 3 = 14 := ⟨by decide +kernel, rfl⟩
theorem aX11_pane_14 : decode mX11_pane.2.1 14 = .ok (.ifCond .eq 10, 3) ∧ ((14 : Nat) : Int) + 10 = ((24 : Nat) : Int) ∧ 14 + 3 = 17 := ⟨by decide +kernel, by decide, rfl⟩
theorem aX11_pane_17 : decode mX11_pane.2.1 17 = .ok (.iload_n 3, 1) ∧ 17 + 1 = 18 := ⟨by decide +kernel, rfl⟩
theorem aX11_pane_18 : decode mX11_pane.2.1 18 = .ok (.invokestatic 114, 3) ∧ 18 + 3 = 21 := ⟨by decide +kernel, rfl⟩
theorem aX11_pane_21 : decode mX11_pane.2.1 21 = .ok (.ifCond .ne 5, 3) ∧ ((21 : Nat) : Int) + 5 = ((26 : Nat) : Int) ∧ 21 + 3 = 24 := ⟨by decide +kernel, by decide, rfl⟩
theorem aX11_pane_24 : decode mX11_pane.2.1 24 = .ok (.iconst (-1), 1) ∧ 24 + 1 = 25 := ⟨by decide +kernel, rfl⟩
theorem aX11_pane_25 : decode mX11_pane.2.1 25 = .ok (.ireturn, 1) := by decide +kernel
theorem aX11_pane_26 : decode mX11_pane.2.1 26 = .ok (.aload_n 0, 1) ∧ 26 + 1 = 27 := ⟨by decide +kernel, rfl⟩
theorem aX11_pane_27 : decode mX11_pane.2.1 27 = .ok (.getfield 83, 3) ∧ 27 + 3 = 30 := ⟨by decide +kernel, rfl⟩
theorem aX11_pane_30 : decode mX11_pane.2.1 30 = .ok (.getfield 117, 3) ∧ 30 + 3 = 33 := ⟨by decide +kernel, rfl⟩
theorem aX11_pane_33 : decode mX11_pane.2.1 33 = .ok (.bipush 6, 2) ∧ 33 + 2 = 35 := ⟨by decide +kernel, rfl⟩
theorem aX11_pane_35 : decode mX11_pane.2.1 35 = .ok (.if_icmp .lt 6, 3) ∧ ((35 : Nat) : Int) + 6 = ((41 : Nat) : Int) ∧ 35 + 3 = 38 := ⟨by decide +kernel, by decide, rfl⟩
theorem aX11_pane_38 : decode mX11_pane.2.1 38 = .ok (.bipush (-2), 2) ∧ 38 + 2 = 40 := ⟨by decide +kernel, rfl⟩
theorem aX11_pane_40 : decode mX11_pane.2.1 40 = .ok (.ireturn, 1) := by decide +kernel
theorem aX11_pane_41 : decode mX11_pane.2.1 41 = .ok (.aload_n 0, 1) ∧ 41 + 1 = 42 := ⟨by decide +kernel, rfl⟩
theorem aX11_pane_42 : decode mX11_pane.2.1 42 = .ok (.getfield 83, 3) ∧ 42 + 3 = 45 := ⟨by decide +kernel, rfl⟩
theorem aX11_pane_45 : decode mX11_pane.2.1 45 = .ok (.iload_n 1, 1) ∧ 45 + 1 = 46 := ⟨by decide +kernel, rfl⟩
theorem aX11_pane_46 : decode mX11_pane.2.1 46 = .ok (.iload_n 2, 1) ∧ 46 + 1 = 47 := ⟨by decide +kernel, rfl⟩
theorem aX11_pane_47 : decode mX11_pane.2.1 47 = .ok (.iload_n 3, 1) ∧ 47 + 1 = 48 := ⟨by decide +kernel, rfl⟩
theorem aX11_pane_48 : decode mX11_pane.2.1 48 = .ok (.invokevirtual 120, 3) ∧ 48 + 3 = 51 := ⟨by decide +kernel, rfl⟩
theorem aX11_pane_51 : decode mX11_pane.2.1 51 = .ok (.ireturn, 1) := by decide +kernel
theorem S_X11_pane {E : EE} {d : Nat} {I : IH} {Q : QT} (x1 : Int32) (x2 : Int32) (x3 : Int32) (h :
(Mt E d mX11_isPaneKind [.int x1] I (fun rv I1 => ∃ v2 : Int32, rv = some (.int v2) ∧
 ((v2 = 0 → Q (some (.int (-1))) I1) ∧
 (¬ v2 = 0 → (Mt E d mX11_isWithin [.int x2, .int (nI 255)] I1 (fun rv I3 => ∃ v4 : Int32, rv = some (.int v4) ∧
 ((v4 = 0 → Q (some (.int (-1))) I3) ∧
 (¬ v4 = 0 → (Mt E d mX11_isWard [.int x3] I3 (fun rv I5 => ∃ v6 : Int32, rv = some (.int v6) ∧
 ((¬ v6 = 0 → (((I5 33 7) < (nI 6) → (Mt E d mX1_add [.ref (eb E + 33), .int x1, .int x2, .int x3] I5 (fun rv I7 => ∃ v8 : Int32, rv = some (.int v8) ∧
 Q (some (.int v8)) I7))) ∧
 (¬ (I5 33 7) < (nI 6) → Q (some (.int (-2))) I5))) ∧
 (v6 = 0 → Q (some (.int (-1))) I5))))))))))))) : Mt E (d + 1) mX11_pane [.ref (eb E + 0), .int x1, .int x2, .int x3] I Q := by
  refine Mt_of [(0, .ref (eb E + 0)), (1, .int x1), (2, .int x2), (3, .int x3)] (by decide +kernel) (by simp [lg_sl, Value.category, mX11_pane]) rfl ?_
  refine J_iload_n 1 aX11_pane_0 rfl ?_
  refine J_callS [.int x1] [] aX11_pane_1 lkX11_106 okX11_isPaneKind rfl rfl (Nat.le_of_ble_eq_true rfl) (Nat.le_refl _) (Mt_mono h (fun rv I1 h => ?_))
  obtain ⟨v2, rfl, h⟩ := h
  refine J_r1 ?_
  refine J_if_eq aX11_pane_4 (fun q => ?_) (fun q => ?_)
  · replace h := h.1 q
    refine J_iconst (-1) aX11_pane_24 (by decide +kernel) ?_
    exact J_iret aX11_pane_25 rfl h
  · replace h := h.2 q
    refine J_iload_n 2 aX11_pane_7 rfl ?_
    refine J_sipush (nI 255) aX11_pane_8 (by decide +kernel) ?_
    refine J_callS [.int x2, .int (nI 255)] [] aX11_pane_11 lkX11_110 okX11_isWithin rfl rfl (Nat.le_of_ble_eq_true rfl) (Nat.le_refl _) (Mt_mono h (fun rv I3 h => ?_))
    obtain ⟨v4, rfl, h⟩ := h
    refine J_r1 ?_
    refine J_if_eq aX11_pane_14 (fun q => ?_) (fun q => ?_)
    · replace h := h.1 q
      refine J_iconst (-1) aX11_pane_24 (by decide +kernel) ?_
      exact J_iret aX11_pane_25 rfl h
    · replace h := h.2 q
      refine J_iload_n 3 aX11_pane_17 rfl ?_
      refine J_callS [.int x3] [] aX11_pane_18 lkX11_114 okX11_isWard rfl rfl (Nat.le_of_ble_eq_true rfl) (Nat.le_refl _) (Mt_mono h (fun rv I5 h => ?_))
      obtain ⟨v6, rfl, h⟩ := h
      refine J_r1 ?_
      refine J_if_ne aX11_pane_21 (fun q => ?_) (fun q => ?_)
      · replace h := h.1 q
        refine J_aload_n 0 aX11_pane_26 rfl ?_
        refine J_getR aX11_pane_27 flX11_83 sh0 rfl ?_
        refine J_getI aX11_pane_30 flX11_117 sh33 rfl ?_
        refine J_bipush (nI 6) aX11_pane_33 (by decide +kernel) ?_
        refine J_icmp_lt aX11_pane_35 (fun q => ?_) (fun q => ?_)
        · replace h := h.1 q
          refine J_aload_n 0 aX11_pane_41 rfl ?_
          refine J_getR aX11_pane_42 flX11_83 sh0 rfl ?_
          refine J_iload_n 1 aX11_pane_45 rfl ?_
          refine J_iload_n 2 aX11_pane_46 rfl ?_
          refine J_iload_n 3 aX11_pane_47 rfl ?_
          refine J_callV [.int x1, .int x2, .int x3] [] aX11_pane_48 lkX11_120_X1 okX1_add sh33 rfl rfl rfl (Nat.le_of_ble_eq_true rfl) (Nat.le_refl _) (Mt_mono h (fun rv I7 h => ?_))
          obtain ⟨v8, rfl, h⟩ := h
          refine J_r1 ?_
          exact J_iret aX11_pane_51 rfl h
        · replace h := h.2 q
          refine J_bipush (-2) aX11_pane_38 (by decide +kernel) ?_
          exact J_iret aX11_pane_40 rfl h
      · replace h := h.2 q
        refine J_iconst (-1) aX11_pane_24 (by decide +kernel) ?_
        exact J_iret aX11_pane_25 rfl h
theorem aX11_paneOf_0 : decode mX11_paneOf.2.1 0 = .ok (.aload_n 0, 1) ∧ 0 + 1 = 1 := ⟨by decide +kernel, rfl⟩
theorem aX11_paneOf_1 : decode mX11_paneOf.2.1 1 = .ok (.iload_n 1, 1) ∧ 1 + 1 = 2 := ⟨by decide +kernel, rfl⟩
theorem aX11_paneOf_2 : decode mX11_paneOf.2.1 2 = .ok (.invokevirtual 124, 3) ∧ 2 + 3 = 5 := ⟨by decide +kernel, rfl⟩
theorem aX11_paneOf_5 : decode mX11_paneOf.2.1 5 = .ok (.ifCond .ne 5, 3) ∧ ((5 : Nat) : Int) + 5 = ((10 : Nat) : Int) ∧ 5 + 3 = 8 := ⟨by decide +kernel, by decide, rfl⟩
theorem aX11_paneOf_8 : decode mX11_paneOf.2.1 8 = .ok (.iconst (-1), 1) ∧ 8 + 1 = 9 := ⟨by decide +kernel, rfl⟩
theorem aX11_paneOf_9 : decode mX11_paneOf.2.1 9 = .ok (.ireturn, 1) := by decide +kernel
theorem aX11_paneOf_10 : decode mX11_paneOf.2.1 10 = .ok (.aload_n 0, 1) ∧ 10 + 1 = 11 := ⟨by decide +kernel, rfl⟩
theorem aX11_paneOf_11 : decode mX11_paneOf.2.1 11 = .ok (.getfield 83, 3) ∧ 11 + 3 = 14 := ⟨by decide +kernel, rfl⟩
theorem aX11_paneOf_14 : decode mX11_paneOf.2.1 14 = .ok (.iload_n 1, 1) ∧ 14 + 1 = 15 := ⟨by decide +kernel, rfl⟩
theorem aX11_paneOf_15 : decode mX11_paneOf.2.1 15 = .ok (.invokevirtual 127, 3) ∧ 15 + 3 = 18 := ⟨by decide +kernel, rfl⟩
theorem aX11_paneOf_18 : decode mX11_paneOf.2.1 18 = .ok (.istore_n 3, 1) ∧ 18 + 1 = 19 := ⟨by decide +kernel, rfl⟩
theorem aX11_paneOf_19 : decode mX11_paneOf.2.1 19 = .ok (.iload_n 2, 1) ∧ 19 + 1 = 20 := ⟨by decide +kernel, rfl⟩
theorem aX11_paneOf_20 : decode mX11_paneOf.2.1 20 = .ok (.tableswitch 192 0 9 #[56, 66, 76, 86, 96, 108, 110, 124, 152, 162], 56) := by decide +kernel
theorem aX11_paneOf_76 : decode mX11_paneOf.2.1 76 = .ok (.aload_n 0, 1) ∧ 76 + 1 = 77 := ⟨by decide +kernel, rfl⟩
theorem aX11_paneOf_77 : decode mX11_paneOf.2.1 77 = .ok (.getfield 83, 3) ∧ 77 + 3 = 80 := ⟨by decide +kernel, rfl⟩
theorem aX11_paneOf_80 : decode mX11_paneOf.2.1 80 = .ok (.getfield 131, 3) ∧ 80 + 3 = 83 := ⟨by decide +kernel, rfl⟩
theorem aX11_paneOf_83 : decode mX11_paneOf.2.1 83 = .ok (.iload_n 1, 1) ∧ 83 + 1 = 84 := ⟨by decide +kernel, rfl⟩
theorem aX11_paneOf_84 : decode mX11_paneOf.2.1 84 = .ok (.iaload, 1) ∧ 84 + 1 = 85 := ⟨by decide +kernel, rfl⟩
theorem aX11_paneOf_85 : decode mX11_paneOf.2.1 85 = .ok (.ireturn, 1) := by decide +kernel
theorem aX11_paneOf_86 : decode mX11_paneOf.2.1 86 = .ok (.aload_n 0, 1) ∧ 86 + 1 = 87 := ⟨by decide +kernel, rfl⟩
theorem aX11_paneOf_87 : decode mX11_paneOf.2.1 87 = .ok (.getfield 83, 3) ∧ 87 + 3 = 90 := ⟨by decide +kernel, rfl⟩
theorem aX11_paneOf_90 : decode mX11_paneOf.2.1 90 = .ok (.getfield 134, 3) ∧ 90 + 3 = 93 := ⟨by decide +kernel, rfl⟩
theorem aX11_paneOf_93 : decode mX11_paneOf.2.1 93 = .ok (.iload_n 1, 1) ∧ 93 + 1 = 94 := ⟨by decide +kernel, rfl⟩
theorem aX11_paneOf_94 : decode mX11_paneOf.2.1 94 = .ok (.iaload, 1) ∧ 94 + 1 = 95 := ⟨by decide +kernel, rfl⟩
theorem aX11_paneOf_95 : decode mX11_paneOf.2.1 95 = .ok (.ireturn, 1) := by decide +kernel
theorem aX11_paneOf_96 : decode mX11_paneOf.2.1 96 = .ok (.aload_n 0, 1) ∧ 96 + 1 = 97 := ⟨by decide +kernel, rfl⟩
theorem aX11_paneOf_97 : decode mX11_paneOf.2.1 97 = .ok (.getfield 83, 3) ∧ 97 + 3 = 100 := ⟨by decide +kernel, rfl⟩
theorem aX11_paneOf_100 : decode mX11_paneOf.2.1 100 = .ok (.getfield 137, 3) ∧ 100 + 3 = 103 := ⟨by decide +kernel, rfl⟩
theorem aX11_paneOf_103 : decode mX11_paneOf.2.1 103 = .ok (.iload_n 1, 1) ∧ 103 + 1 = 104 := ⟨by decide +kernel, rfl⟩
theorem aX11_paneOf_104 : decode mX11_paneOf.2.1 104 = .ok (.iaload, 1) ∧ 104 + 1 = 105 := ⟨by decide +kernel, rfl⟩
theorem aX11_paneOf_105 : decode mX11_paneOf.2.1 105 = .ok (.ireturn, 1) := by decide +kernel
theorem aX11_paneOf_106 : decode mX11_paneOf.2.1 106 = .ok (.aload_n 0, 1) ∧ 106 + 1 = 107 := ⟨by decide +kernel, rfl⟩
theorem aX11_paneOf_107 : decode mX11_paneOf.2.1 107 = .ok (.getfield 83, 3) ∧ 107 + 3 = 110 := ⟨by decide +kernel, rfl⟩
theorem aX11_paneOf_110 : decode mX11_paneOf.2.1 110 = .ok (.getfield 140, 3) ∧ 110 + 3 = 113 := ⟨by decide +kernel, rfl⟩
theorem aX11_paneOf_113 : decode mX11_paneOf.2.1 113 = .ok (.iload_n 1, 1) ∧ 113 + 1 = 114 := ⟨by decide +kernel, rfl⟩
theorem aX11_paneOf_114 : decode mX11_paneOf.2.1 114 = .ok (.iaload, 1) ∧ 114 + 1 = 115 := ⟨by decide +kernel, rfl⟩
theorem aX11_paneOf_115 : decode mX11_paneOf.2.1 115 = .ok (.ireturn, 1) := by decide +kernel
theorem aX11_paneOf_116 : decode mX11_paneOf.2.1 116 = .ok (.aload_n 0, 1) ∧ 116 + 1 = 117 := ⟨by decide +kernel, rfl⟩
theorem aX11_paneOf_117 : decode mX11_paneOf.2.1 117 = .ok (.getfield 83, 3) ∧ 117 + 3 = 120 := ⟨by decide +kernel, rfl⟩
theorem aX11_paneOf_120 : decode mX11_paneOf.2.1 120 = .ok (.getfield 143, 3) ∧ 120 + 3 = 123 := ⟨by decide +kernel, rfl⟩
theorem aX11_paneOf_123 : decode mX11_paneOf.2.1 123 = .ok (.iload_n 1, 1) ∧ 123 + 1 = 124 := ⟨by decide +kernel, rfl⟩
theorem aX11_paneOf_124 : decode mX11_paneOf.2.1 124 = .ok (.ishr, 1) ∧ 124 + 1 = 125 := ⟨by decide +kernel, rfl⟩
theorem aX11_paneOf_125 : decode mX11_paneOf.2.1 125 = .ok (.iconst 1, 1) ∧ 125 + 1 = 126 := ⟨by decide +kernel, rfl⟩
theorem aX11_paneOf_126 : decode mX11_paneOf.2.1 126 = .ok (.iand, 1) ∧ 126 + 1 = 127 := ⟨by decide +kernel, rfl⟩
theorem aX11_paneOf_127 : decode mX11_paneOf.2.1 127 = .ok (.ireturn, 1) := by decide +kernel
theorem aX11_paneOf_128 : decode mX11_paneOf.2.1 128 = .ok (.iload_n 3, 1) ∧ 128 + 1 = 129 := ⟨by decide +kernel, rfl⟩
theorem aX11_paneOf_129 : decode mX11_paneOf.2.1 129 = .ok (.ireturn, 1) := by decide +kernel
theorem aX11_paneOf_130 : decode mX11_paneOf.2.1 130 = .ok (.aload_n 0, 1) ∧ 130 + 1 = 131 := ⟨by decide +kernel, rfl⟩
theorem aX11_paneOf_131 : decode mX11_paneOf.2.1 131 = .ok (.getfield 83, 3) ∧ 131 + 3 = 134 := ⟨by decide +kernel, rfl⟩
theorem aX11_paneOf_134 : decode mX11_paneOf.2.1 134 = .ok (.iload_n 1, 1) ∧ 134 + 1 = 135 := ⟨by decide +kernel, rfl⟩
theorem aX11_paneOf_135 : decode mX11_paneOf.2.1 135 = .ok (.invokevirtual 146, 3) ∧ 135 + 3 = 138 := ⟨by decide +kernel, rfl⟩
theorem aX11_paneOf_138 : decode mX11_paneOf.2.1 138 = .ok (.iload_n 3, 1) ∧ 138 + 1 = 139 := ⟨by decide +kernel, rfl⟩
theorem aX11_paneOf_139 : decode mX11_paneOf.2.1 139 = .ok (.iload_n 1, 1) ∧ 139 + 1 = 140 := ⟨by decide +kernel, rfl⟩
theorem aX11_paneOf_140 : decode mX11_paneOf.2.1 140 = .ok (.invokevirtual 150, 3) ∧ 140 + 3 = 143 := ⟨by decide +kernel, rfl⟩
theorem aX11_paneOf_143 : decode mX11_paneOf.2.1 143 = .ok (.ireturn, 1) := by decide +kernel
theorem aX11_paneOf_144 : decode mX11_paneOf.2.1 144 = .ok (.aload_n 0, 1) ∧ 144 + 1 = 145 := ⟨by decide +kernel, rfl⟩
theorem aX11_paneOf_145 : decode mX11_paneOf.2.1 145 = .ok (.getfield 83, 3) ∧ 145 + 3 = 148 := ⟨by decide +kernel, rfl⟩
theorem aX11_paneOf_148 : decode mX11_paneOf.2.1 148 = .ok (.iload_n 1, 1) ∧ 148 + 1 = 149 := ⟨by decide +kernel, rfl⟩
theorem aX11_paneOf_149 : decode mX11_paneOf.2.1 149 = .ok (.invokevirtual 146, 3) ∧ 149 + 3 = 152 := ⟨by decide +kernel, rfl⟩
theorem aX11_paneOf_152 : decode mX11_paneOf.2.1 152 = .ok (.aload_n 0, 1) ∧ 152 + 1 = 153 := ⟨by decide +kernel, rfl⟩
theorem aX11_paneOf_153 : decode mX11_paneOf.2.1 153 = .ok (.getfield 83, 3) ∧ 153 + 3 = 156 := ⟨by decide +kernel, rfl⟩
theorem aX11_paneOf_156 : decode mX11_paneOf.2.1 156 = .ok (.getfield 134, 3) ∧ 156 + 3 = 159 := ⟨by decide +kernel, rfl⟩
theorem aX11_paneOf_159 : decode mX11_paneOf.2.1 159 = .ok (.iload_n 1, 1) ∧ 159 + 1 = 160 := ⟨by decide +kernel, rfl⟩
theorem aX11_paneOf_160 : decode mX11_paneOf.2.1 160 = .ok (.iaload, 1) ∧ 160 + 1 = 161 := ⟨by decide +kernel, rfl⟩
theorem aX11_paneOf_161 : decode mX11_paneOf.2.1 161 = .ok (.aload_n 0, 1) ∧ 161 + 1 = 162 := ⟨by decide +kernel, rfl⟩
theorem aX11_paneOf_162 : decode mX11_paneOf.2.1 162 = .ok (.getfield 83, 3) ∧ 162 + 3 = 165 := ⟨by decide +kernel, rfl⟩
theorem aX11_paneOf_165 : decode mX11_paneOf.2.1 165 = .ok (.getfield 154, 3) ∧ 165 + 3 = 168 := ⟨by decide +kernel, rfl⟩
theorem aX11_paneOf_168 : decode mX11_paneOf.2.1 168 = .ok (.invokevirtual 157, 3) ∧ 168 + 3 = 171 := ⟨by decide +kernel, rfl⟩
theorem aX11_paneOf_171 : decode mX11_paneOf.2.1 171 = .ok (.ireturn, 1) := by decide +kernel
theorem aX11_paneOf_172 : decode mX11_paneOf.2.1 172 = .ok (.aload_n 0, 1) ∧ 172 + 1 = 173 := ⟨by decide +kernel, rfl⟩
theorem aX11_paneOf_173 : decode mX11_paneOf.2.1 173 = .ok (.getfield 83, 3) ∧ 173 + 3 = 176 := ⟨by decide +kernel, rfl⟩
theorem aX11_paneOf_176 : decode mX11_paneOf.2.1 176 = .ok (.iload_n 1, 1) ∧ 176 + 1 = 177 := ⟨by decide +kernel, rfl⟩
theorem aX11_paneOf_177 : decode mX11_paneOf.2.1 177 = .ok (.iload_n 3, 1) ∧ 177 + 1 = 178 := ⟨by decide +kernel, rfl⟩
theorem aX11_paneOf_178 : decode mX11_paneOf.2.1 178 = .ok (.invokevirtual 160, 3) ∧ 178 + 3 = 181 := ⟨by decide +kernel, rfl⟩
theorem aX11_paneOf_181 : decode mX11_paneOf.2.1 181 = .ok (.ireturn, 1) := by decide +kernel
theorem aX11_paneOf_182 : decode mX11_paneOf.2.1 182 = .ok (.aload_n 0, 1) ∧ 182 + 1 = 183 := ⟨by decide +kernel, rfl⟩
theorem aX11_paneOf_183 : decode mX11_paneOf.2.1 183 = .ok (.getfield 83, 3) ∧ 183 + 3 = 186 := ⟨by decide +kernel, rfl⟩
theorem aX11_paneOf_186 : decode mX11_paneOf.2.1 186 = .ok (.iload_n 1, 1) ∧ 186 + 1 = 187 := ⟨by decide +kernel, rfl⟩
theorem aX11_paneOf_187 : decode mX11_paneOf.2.1 187 = .ok (.aload_n 0, 1) ∧ 187 + 1 = 188 := ⟨by decide +kernel, rfl⟩
theorem aX11_paneOf_188 : decode mX11_paneOf.2.1 188 = .ok (.getfield 83, 3) ∧ 188 + 3 = 191 := ⟨by decide +kernel, rfl⟩
theorem aX11_paneOf_191 : decode mX11_paneOf.2.1 191 = .ok (.iload_n 1, 1) ∧ 191 + 1 = 192 := ⟨by decide +kernel, rfl⟩
theorem aX11_paneOf_192 : decode mX11_paneOf.2.1 192 = .ok (.invokevirtual 146, 3) ∧ 192 + 3 = 195 := ⟨by decide +kernel, rfl⟩
theorem aX11_paneOf_195 : decode mX11_paneOf.2.1 195 = .ok (.iload_n 3, 1) ∧ 195 + 1 = 196 := ⟨by decide +kernel, rfl⟩
theorem aX11_paneOf_196 : decode mX11_paneOf.2.1 196 = .ok (.iload_n 1, 1) ∧ 196 + 1 = 197 := ⟨by decide +kernel, rfl⟩
theorem aX11_paneOf_197 : decode mX11_paneOf.2.1 197 = .ok (.invokevirtual 150, 3) ∧ 197 + 3 = 200 := ⟨by decide +kernel, rfl⟩
theorem aX11_paneOf_200 : decode mX11_paneOf.2.1 200 = .ok (.invokevirtual 163, 3) ∧ 200 + 3 = 203 := ⟨by decide +kernel, rfl⟩
theorem aX11_paneOf_203 : decode mX11_paneOf.2.1 203 = .ok (.ifCond .eq 7, 3) ∧ ((203 : Nat) : Int) + 7 = ((210 : Nat) : Int) ∧ 203 + 3 = 206 := ⟨by decide +kernel, by decide, rfl⟩
theorem aX11_paneOf_206 : decode mX11_paneOf.2.1 206 = .ok (.iconst 1, 1) ∧ 206 + 1 = 207 := ⟨by decide +kernel, rfl⟩
theorem aX11_paneOf_207 : decode mX11_paneOf.2.1 207 = .ok (.goto 4, 3) ∧ ((207 : Nat) : Int) + 4 = ((211 : Nat) : Int) := ⟨by decide +kernel, by decide⟩
theorem aX11_paneOf_210 : decode mX11_paneOf.2.1 210 = .ok (.iconst 0, 1) ∧ 210 + 1 = 211 := ⟨by decide +kernel, rfl⟩
theorem aX11_paneOf_211 : decode mX11_paneOf.2.1 211 = .ok (.ireturn, 1) := by decide +kernel
theorem aX11_paneOf_212 : decode mX11_paneOf.2.1 212 = .ok (.iconst (-1), 1) ∧ 212 + 1 = 213 := ⟨by decide +kernel, rfl⟩
theorem aX11_paneOf_213 : decode mX11_paneOf.2.1 213 = .ok (.ireturn, 1) := by decide +kernel
theorem S_X11_paneOf {E : EE} {d : Nat} {I : IH} {Q : QT} (x1 : Int32) (x2 : Int32) (h :
(Mt E d mX11_isPane [.ref (eb E + 0), .int x1] I (fun rv I1 => ∃ v2 : Int32, rv = some (.int v2) ∧
 ((¬ v2 = 0 → (Mt E d mX1_lights [.ref (eb E + 33), .int x1] I1 (fun rv I3 => ∃ v4 : Int32, rv = some (.int v4) ∧
 ((x2 = (nI 0) → (∃ j5 : Nat, x1 = nI j5 ∧ j5 < 6 ∧ Q (some (.int (I3 37 j5))) I3)) ∧
 ((x2 = (nI 1) → (∃ j8 : Nat, x1 = nI j8 ∧ j8 < 6 ∧ Q (some (.int (I3 38 j8))) I3)) ∧
 ((x2 = (nI 2) → (∃ j11 : Nat, x1 = nI j11 ∧ j11 < 6 ∧ Q (some (.int (I3 40 j11))) I3)) ∧
 ((x2 = (nI 3) → (∃ j14 : Nat, x1 = nI j14 ∧ j14 < 6 ∧ Q (some (.int (I3 39 j14))) I3)) ∧
 ((x2 = (nI 4) → Q (some (.int (((I3 33 8) >>> (x1 &&& 31)) &&& (nI 1)))) I3) ∧
 ((x2 = (nI 5) → Q (some (.int v4)) I3) ∧
 ((x2 = (nI 6) → (Mt E d mX1_thing [.ref (eb E + 33), .int x1] I3 (fun rv I17 => ∃ j18 : Nat, j18 < 6 ∧ rv = some (.ref (eb E + (21 + j18))) ∧
 (Mt E d (sel_price j18) [.ref (eb E + (21 + j18)), .int v4, .int x1] I17 (fun rv I20 => ∃ v21 : Int32, rv = some (.int v21) ∧
 Q (some (.int v21)) I20))))) ∧
 ((x2 = (nI 7) → (Mt E d mX1_thing [.ref (eb E + 33), .int x1] I3 (fun rv I22 => ∃ j23 : Nat, j23 < 6 ∧ rv = some (.ref (eb E + (21 + j23))) ∧
 (∃ j25 : Nat, x1 = nI j25 ∧ j25 < 6 ∧ (Mt E d (sel_next j23) [.ref (eb E + (21 + j23)), .int (I22 38 j25), .int (I22 33 3)] I22 (fun rv I28 => ∃ v29 : Int32, rv = some (.int v29) ∧
 Q (some (.int v29)) I28)))))) ∧
 ((x2 = (nI 8) → (Mt E d mX1_will [.ref (eb E + 33), .int x1, .int v4] I3 (fun rv I30 => ∃ v31 : Int32, rv = some (.int v31) ∧
 Q (some (.int v31)) I30))) ∧
 ((x2 = (nI 9) → (Mt E d mX1_thing [.ref (eb E + 33), .int x1] I3 (fun rv I32 => ∃ j33 : Nat, j33 < 6 ∧ rv = some (.ref (eb E + (21 + j33))) ∧
 (Mt E d (sel_price j33) [.ref (eb E + (21 + j33)), .int v4, .int x1] I32 (fun rv I35 => ∃ v36 : Int32, rv = some (.int v36) ∧
 (Mt E d mX1_isOpen [.ref (eb E + 33), .int x1, .int v36] I35 (fun rv I37 => ∃ v38 : Int32, rv = some (.int v38) ∧
 ((v38 = 0 → Q (some (.int (nI 0))) I37) ∧
 (¬ v38 = 0 → Q (some (.int (nI 1))) I37))))))))) ∧
 (¬ x2 = (nI 0) ∧ ¬ x2 = (nI 1) ∧ ¬ x2 = (nI 2) ∧ ¬ x2 = (nI 3) ∧ ¬ x2 = (nI 4) ∧ ¬ x2 = (nI 5) ∧ ¬ x2 = (nI 6) ∧ ¬ x2 = (nI 7) ∧ ¬ x2 = (nI 8) ∧ ¬ x2 = (nI 9) → Q (some (.int (-1))) I3)))))))))))))) ∧
 (v2 = 0 → Q (some (.int (-1))) I1))))) : Mt E (d + 1) mX11_paneOf [.ref (eb E + 0), .int x1, .int x2] I Q := by
  refine Mt_of [(0, .ref (eb E + 0)), (1, .int x1), (2, .int x2)] (by decide +kernel) (by simp [lg_sl, Value.category, mX11_paneOf]) rfl ?_
  refine J_aload_n 0 aX11_paneOf_0 rfl ?_
  refine J_iload_n 1 aX11_paneOf_1 rfl ?_
  refine J_callV [.int x1] [] aX11_paneOf_2 lkX11_124_X11 okX11_isPane sh0 rfl rfl rfl (Nat.le_of_ble_eq_true rfl) (Nat.le_refl _) (Mt_mono h (fun rv I1 h => ?_))
  obtain ⟨v2, rfl, h⟩ := h
  refine J_r1 ?_
  refine J_if_ne aX11_paneOf_5 (fun q => ?_) (fun q => ?_)
  · replace h := h.1 q
    refine J_aload_n 0 aX11_paneOf_10 rfl ?_
    refine J_getR aX11_paneOf_11 flX11_83 sh0 rfl ?_
    refine J_iload_n 1 aX11_paneOf_14 rfl ?_
    refine J_callV [.int x1] [] aX11_paneOf_15 lkX11_127_X1 okX1_lights sh33 rfl rfl rfl (Nat.le_of_ble_eq_true rfl) (Nat.le_refl _) (Mt_mono h (fun rv I3 h => ?_))
    obtain ⟨v4, rfl, h⟩ := h
    refine J_r1 ?_
    refine J_istore_n [(3, .int v4), (0, .ref (eb E + 0)), (1, .int x1), (2, .int x2)] aX11_paneOf_18 (by decide) rfl ?_
    refine J_iload_n 3 aX11_paneOf_19 rfl ?_
    by_cases q0 : x2 = (nI 0)
    · replace h := h.1 q0
      refine J_tswIn (nI 0) aX11_paneOf_20 (off := 56) (tgt := 76) (by decide +kernel) q0 ?_
      refine J_aload_n 1 aX11_paneOf_76 rfl ?_
      refine J_getR aX11_paneOf_77 flX11_83 sh0 rfl ?_
      refine J_getR aX11_paneOf_80 flX11_131 sh33 rfl ?_
      refine J_iload_n 2 aX11_paneOf_83 rfl ?_
      obtain ⟨j5, e6, b7, h⟩ := h
      refine J_iaload j5 aX11_paneOf_84 sh37 e6 b7 (by decide) ?_
      exact J_iret aX11_paneOf_85 rfl h
    replace h := h.2
    by_cases q1 : x2 = (nI 1)
    · replace h := h.1 q1
      refine J_tswIn (nI 1) aX11_paneOf_20 (off := 66) (tgt := 86) (by decide +kernel) q1 ?_
      refine J_aload_n 1 aX11_paneOf_86 rfl ?_
      refine J_getR aX11_paneOf_87 flX11_83 sh0 rfl ?_
      refine J_getR aX11_paneOf_90 flX11_134 sh33 rfl ?_
      refine J_iload_n 2 aX11_paneOf_93 rfl ?_
      obtain ⟨j8, e9, b10, h⟩ := h
      refine J_iaload j8 aX11_paneOf_94 sh38 e9 b10 (by decide) ?_
      exact J_iret aX11_paneOf_95 rfl h
    replace h := h.2
    by_cases q2 : x2 = (nI 2)
    · replace h := h.1 q2
      refine J_tswIn (nI 2) aX11_paneOf_20 (off := 76) (tgt := 96) (by decide +kernel) q2 ?_
      refine J_aload_n 1 aX11_paneOf_96 rfl ?_
      refine J_getR aX11_paneOf_97 flX11_83 sh0 rfl ?_
      refine J_getR aX11_paneOf_100 flX11_137 sh33 rfl ?_
      refine J_iload_n 2 aX11_paneOf_103 rfl ?_
      obtain ⟨j11, e12, b13, h⟩ := h
      refine J_iaload j11 aX11_paneOf_104 sh40 e12 b13 (by decide) ?_
      exact J_iret aX11_paneOf_105 rfl h
    replace h := h.2
    by_cases q3 : x2 = (nI 3)
    · replace h := h.1 q3
      refine J_tswIn (nI 3) aX11_paneOf_20 (off := 86) (tgt := 106) (by decide +kernel) q3 ?_
      refine J_aload_n 1 aX11_paneOf_106 rfl ?_
      refine J_getR aX11_paneOf_107 flX11_83 sh0 rfl ?_
      refine J_getR aX11_paneOf_110 flX11_140 sh33 rfl ?_
      refine J_iload_n 2 aX11_paneOf_113 rfl ?_
      obtain ⟨j14, e15, b16, h⟩ := h
      refine J_iaload j14 aX11_paneOf_114 sh39 e15 b16 (by decide) ?_
      exact J_iret aX11_paneOf_115 rfl h
    replace h := h.2
    by_cases q4 : x2 = (nI 4)
    · replace h := h.1 q4
      refine J_tswIn (nI 4) aX11_paneOf_20 (off := 96) (tgt := 116) (by decide +kernel) q4 ?_
      refine J_aload_n 1 aX11_paneOf_116 rfl ?_
      refine J_getR aX11_paneOf_117 flX11_83 sh0 rfl ?_
      refine J_getI aX11_paneOf_120 flX11_143 sh33 rfl ?_
      refine J_iload_n 2 aX11_paneOf_123 rfl ?_
      refine J_ishr aX11_paneOf_124 ?_
      refine J_iconst (nI 1) aX11_paneOf_125 (by decide +kernel) ?_
      refine J_iand aX11_paneOf_126 ?_
      exact J_iret aX11_paneOf_127 rfl h
    replace h := h.2
    by_cases q5 : x2 = (nI 5)
    · replace h := h.1 q5
      refine J_tswIn (nI 5) aX11_paneOf_20 (off := 108) (tgt := 128) (by decide +kernel) q5 ?_
      refine J_iload_n 0 aX11_paneOf_128 rfl ?_
      exact J_iret aX11_paneOf_129 rfl h
    replace h := h.2
    by_cases q6 : x2 = (nI 6)
    · replace h := h.1 q6
      refine J_tswIn (nI 6) aX11_paneOf_20 (off := 110) (tgt := 130) (by decide +kernel) q6 ?_
      refine J_aload_n 1 aX11_paneOf_130 rfl ?_
      refine J_getR aX11_paneOf_131 flX11_83 sh0 rfl ?_
      refine J_iload_n 2 aX11_paneOf_134 rfl ?_
      refine J_callV [.int x1] [] aX11_paneOf_135 lkX11_146_X1 okX1_thing sh33 rfl rfl rfl (Nat.le_of_ble_eq_true rfl) (Nat.le_refl _) (Mt_mono h (fun rv I17 h => ?_))
      obtain ⟨j18, b19, rfl, h⟩ := h
      refine J_r1 ?_
      refine J_iload_n 0 aX11_paneOf_138 rfl ?_
      refine J_iload_n 2 aX11_paneOf_139 rfl ?_
      refine dspX11_150 [.int v4, .int x1] [] b19 aX11_paneOf_140 rfl rfl rfl (Nat.le_of_ble_eq_true rfl) (Nat.le_refl _) (Mt_mono h (fun rv I20 h => ?_))
      obtain ⟨v21, rfl, h⟩ := h
      refine J_r1 ?_
      exact J_iret aX11_paneOf_143 rfl h
    replace h := h.2
    by_cases q7 : x2 = (nI 7)
    · replace h := h.1 q7
      refine J_tswIn (nI 7) aX11_paneOf_20 (off := 124) (tgt := 144) (by decide +kernel) q7 ?_
      refine J_aload_n 1 aX11_paneOf_144 rfl ?_
      refine J_getR aX11_paneOf_145 flX11_83 sh0 rfl ?_
      refine J_iload_n 2 aX11_paneOf_148 rfl ?_
      refine J_callV [.int x1] [] aX11_paneOf_149 lkX11_146_X1 okX1_thing sh33 rfl rfl rfl (Nat.le_of_ble_eq_true rfl) (Nat.le_refl _) (Mt_mono h (fun rv I22 h => ?_))
      obtain ⟨j23, b24, rfl, h⟩ := h
      refine J_r1 ?_
      refine J_aload_n 1 aX11_paneOf_152 rfl ?_
      refine J_getR aX11_paneOf_153 flX11_83 sh0 rfl ?_
      refine J_getR aX11_paneOf_156 flX11_134 sh33 rfl ?_
      refine J_iload_n 2 aX11_paneOf_159 rfl ?_
      obtain ⟨j25, e26, b27, h⟩ := h
      refine J_iaload j25 aX11_paneOf_160 sh38 e26 b27 (by decide) ?_
      refine J_aload_n 1 aX11_paneOf_161 rfl ?_
      refine J_getR aX11_paneOf_162 flX11_83 sh0 rfl ?_
      refine J_getI aX11_paneOf_165 flX11_154 sh33 rfl ?_
      refine dspX11_157 [.int (I22 38 j25), .int (I22 33 3)] [] b24 aX11_paneOf_168 rfl rfl rfl (Nat.le_of_ble_eq_true rfl) (Nat.le_refl _) (Mt_mono h (fun rv I28 h => ?_))
      obtain ⟨v29, rfl, h⟩ := h
      refine J_r1 ?_
      exact J_iret aX11_paneOf_171 rfl h
    replace h := h.2
    by_cases q8 : x2 = (nI 8)
    · replace h := h.1 q8
      refine J_tswIn (nI 8) aX11_paneOf_20 (off := 152) (tgt := 172) (by decide +kernel) q8 ?_
      refine J_aload_n 1 aX11_paneOf_172 rfl ?_
      refine J_getR aX11_paneOf_173 flX11_83 sh0 rfl ?_
      refine J_iload_n 2 aX11_paneOf_176 rfl ?_
      refine J_iload_n 0 aX11_paneOf_177 rfl ?_
      refine J_callV [.int x1, .int v4] [] aX11_paneOf_178 lkX11_160_X1 okX1_will sh33 rfl rfl rfl (Nat.le_of_ble_eq_true rfl) (Nat.le_refl _) (Mt_mono h (fun rv I30 h => ?_))
      obtain ⟨v31, rfl, h⟩ := h
      refine J_r1 ?_
      exact J_iret aX11_paneOf_181 rfl h
    replace h := h.2
    by_cases q9 : x2 = (nI 9)
    · replace h := h.1 q9
      refine J_tswIn (nI 9) aX11_paneOf_20 (off := 162) (tgt := 182) (by decide +kernel) q9 ?_
      refine J_aload_n 1 aX11_paneOf_182 rfl ?_
      refine J_getR aX11_paneOf_183 flX11_83 sh0 rfl ?_
      refine J_iload_n 2 aX11_paneOf_186 rfl ?_
      refine J_aload_n 1 aX11_paneOf_187 rfl ?_
      refine J_getR aX11_paneOf_188 flX11_83 sh0 rfl ?_
      refine J_iload_n 2 aX11_paneOf_191 rfl ?_
      refine J_callV [.int x1] [.int x1, .ref (eb E + 33)] aX11_paneOf_192 lkX11_146_X1 okX1_thing sh33 rfl rfl rfl (Nat.le_of_ble_eq_true rfl) (Nat.le_refl _) (Mt_mono h (fun rv I32 h => ?_))
      obtain ⟨j33, b34, rfl, h⟩ := h
      refine J_r1 ?_
      refine J_iload_n 0 aX11_paneOf_195 rfl ?_
      refine J_iload_n 2 aX11_paneOf_196 rfl ?_
      refine dspX11_150 [.int v4, .int x1] [.int x1, .ref (eb E + 33)] b34 aX11_paneOf_197 rfl rfl rfl (Nat.le_of_ble_eq_true rfl) (Nat.le_refl _) (Mt_mono h (fun rv I35 h => ?_))
      obtain ⟨v36, rfl, h⟩ := h
      refine J_r1 ?_
      refine J_callV [.int x1, .int v36] [] aX11_paneOf_200 lkX11_163_X1 okX1_isOpen sh33 rfl rfl rfl (Nat.le_of_ble_eq_true rfl) (Nat.le_refl _) (Mt_mono h (fun rv I37 h => ?_))
      obtain ⟨v38, rfl, h⟩ := h
      refine J_r1 ?_
      refine J_if_eq aX11_paneOf_203 (fun q => ?_) (fun q => ?_)
      · replace h := h.1 q
        refine J_iconst (nI 0) aX11_paneOf_210 (by decide +kernel) ?_
        exact J_iret aX11_paneOf_211 rfl h
      · replace h := h.2 q
        refine J_iconst (nI 1) aX11_paneOf_206 (by decide +kernel) ?_
        refine J_goto aX11_paneOf_207 ?_
        exact J_iret aX11_paneOf_211 rfl h
    replace h := h.2
    replace h := h ⟨q0, q1, q2, q3, q4, q5, q6, q7, q8, q9⟩
    refine J_tswOut aX11_paneOf_20 (tgt := 212) (by decide) (tsw_out (fun k h1 h2 hk => by
      have hh : k = 0 ∨ k = 1 ∨ k = 2 ∨ k = 3 ∨ k = 4 ∨ k = 5 ∨ k = 6 ∨ k = 7 ∨ k = 8 ∨ k = 9 := by omega
      rcases hh with rfl | rfl | rfl | rfl | rfl | rfl | rfl | rfl | rfl | rfl
      · exact q0 (Int32.toInt_inj.mp (hk.trans (by decide +kernel)))
      · exact q1 (Int32.toInt_inj.mp (hk.trans (by decide +kernel)))
      · exact q2 (Int32.toInt_inj.mp (hk.trans (by decide +kernel)))
      · exact q3 (Int32.toInt_inj.mp (hk.trans (by decide +kernel)))
      · exact q4 (Int32.toInt_inj.mp (hk.trans (by decide +kernel)))
      · exact q5 (Int32.toInt_inj.mp (hk.trans (by decide +kernel)))
      · exact q6 (Int32.toInt_inj.mp (hk.trans (by decide +kernel)))
      · exact q7 (Int32.toInt_inj.mp (hk.trans (by decide +kernel)))
      · exact q8 (Int32.toInt_inj.mp (hk.trans (by decide +kernel)))
      · exact q9 (Int32.toInt_inj.mp (hk.trans (by decide +kernel)))
      )) ?_
    refine J_iconst (-1) aX11_paneOf_212 (by decide +kernel) ?_
    exact J_iret aX11_paneOf_213 rfl h
  · replace h := h.2 q
    refine J_iconst (-1) aX11_paneOf_8 (by decide +kernel) ?_
    exact J_iret aX11_paneOf_9 rfl h
theorem aX11_change_0 : decode mX11_change.2.1 0 = .ok (.aload_n 0, 1) ∧ 0 + 1 = 1 := ⟨by decide +kernel, rfl⟩
theorem aX11_change_1 : decode mX11_change.2.1 1 = .ok (.iload_n 1, 1) ∧ 1 + 1 = 2 := ⟨by decide +kernel, rfl⟩
theorem aX11_change_2 : decode mX11_change.2.1 2 = .ok (.invokevirtual 124, 3) ∧ 2 + 3 = 5 := ⟨by decide +kernel, rfl⟩
theorem aX11_change_5 : decode mX11_change.2.1 5 = .ok (.ifCond .ne 5, 3) ∧ ((5 : Nat) : Int) + 5 = ((10 : Nat) : Int) ∧ 5 + 3 = 8 := ⟨by decide +kernel, by decide, rfl⟩
theorem aX11_change_8 : decode mX11_change.2.1 8 = .ok (.iconst (-1), 1) ∧ 8 + 1 = 9 := ⟨by decide +kernel, rfl⟩
theorem aX11_change_9 : decode mX11_change.2.1 9 = .ok (.ireturn, 1) := by decide +kernel
theorem aX11_change_10 : decode mX11_change.2.1 10 = .ok (.iload_n 2, 1) ∧ 10 + 1 = 11 := ⟨by decide +kernel, rfl⟩
theorem aX11_change_11 : decode mX11_change.2.1 11 = .ok (.tableswitch 81 1 4 #[29, 45, 60, 74], 29) := by decide +kernel
theorem aX11_change_40 : decode mX11_change.2.1 40 = .ok (.aload_n 0, 1) ∧ 40 + 1 = 41 := ⟨by decide +kernel, rfl⟩
theorem aX11_change_41 : decode mX11_change.2.1 41 = .ok (.getfield 83, 3) ∧ 41 + 3 = 44 := ⟨by decide +kernel, rfl⟩
theorem aX11_change_44 : decode mX11_change.2.1 44 = .ok (.getfield 134, 3) ∧ 44 + 3 = 47 := ⟨by decide +kernel, rfl⟩
theorem aX11_change_47 : decode mX11_change.2.1 47 = .ok (.iload_n 1, 1) ∧ 47 + 1 = 48 := ⟨by decide +kernel, rfl⟩
theorem aX11_change_48 : decode mX11_change.2.1 48 = .ok (.iload_n 3, 1) ∧ 48 + 1 = 49 := ⟨by decide +kernel, rfl⟩
theorem aX11_change_49 : decode mX11_change.2.1 49 = .ok (.sipush 255, 3) ∧ 49 + 3 = 52 := ⟨by decide +kernel, rfl⟩
theorem aX11_change_52 : decode mX11_change.2.1 52 = .ok (.invokestatic 166, 3) ∧ 52 + 3 = 55 := ⟨by decide +kernel, rfl⟩
theorem aX11_change_55 : decode mX11_change.2.1 55 = .ok (.ireturn, 1) := by decide +kernel
theorem aX11_change_56 : decode mX11_change.2.1 56 = .ok (.aload_n 0, 1) ∧ 56 + 1 = 57 := ⟨by decide +kernel, rfl⟩
theorem aX11_change_57 : decode mX11_change.2.1 57 = .ok (.getfield 83, 3) ∧ 57 + 3 = 60 := ⟨by decide +kernel, rfl⟩
theorem aX11_change_60 : decode mX11_change.2.1 60 = .ok (.getfield 137, 3) ∧ 60 + 3 = 63 := ⟨by decide +kernel, rfl⟩
theorem aX11_change_63 : decode mX11_change.2.1 63 = .ok (.iload_n 1, 1) ∧ 63 + 1 = 64 := ⟨by decide +kernel, rfl⟩
theorem aX11_change_64 : decode mX11_change.2.1 64 = .ok (.iload_n 3, 1) ∧ 64 + 1 = 65 := ⟨by decide +kernel, rfl⟩
theorem aX11_change_65 : decode mX11_change.2.1 65 = .ok (.bipush 9, 2) ∧ 65 + 2 = 67 := ⟨by decide +kernel, rfl⟩
theorem aX11_change_67 : decode mX11_change.2.1 67 = .ok (.invokestatic 166, 3) ∧ 67 + 3 = 70 := ⟨by decide +kernel, rfl⟩
theorem aX11_change_70 : decode mX11_change.2.1 70 = .ok (.ireturn, 1) := by decide +kernel
theorem aX11_change_71 : decode mX11_change.2.1 71 = .ok (.aload_n 0, 1) ∧ 71 + 1 = 72 := ⟨by decide +kernel, rfl⟩
theorem aX11_change_72 : decode mX11_change.2.1 72 = .ok (.getfield 83, 3) ∧ 72 + 3 = 75 := ⟨by decide +kernel, rfl⟩
theorem aX11_change_75 : decode mX11_change.2.1 75 = .ok (.getfield 140, 3) ∧ 75 + 3 = 78 := ⟨by decide +kernel, rfl⟩
theorem aX11_change_78 : decode mX11_change.2.1 78 = .ok (.iload_n 1, 1) ∧ 78 + 1 = 79 := ⟨by decide +kernel, rfl⟩
theorem aX11_change_79 : decode mX11_change.2.1 79 = .ok (.iload_n 3, 1) ∧ 79 + 1 = 80 := ⟨by decide +kernel, rfl⟩
theorem aX11_change_80 : decode mX11_change.2.1 80 = .ok (.iconst 5, 1) ∧ 80 + 1 = 81 := ⟨by decide +kernel, rfl⟩
theorem aX11_change_81 : decode mX11_change.2.1 81 = .ok (.invokestatic 166, 3) ∧ 81 + 3 = 84 := ⟨by decide +kernel, rfl⟩
theorem aX11_change_84 : decode mX11_change.2.1 84 = .ok (.ireturn, 1) := by decide +kernel
theorem aX11_change_85 : decode mX11_change.2.1 85 = .ok (.aload_n 0, 1) ∧ 85 + 1 = 86 := ⟨by decide +kernel, rfl⟩
theorem aX11_change_86 : decode mX11_change.2.1 86 = .ok (.iload_n 1, 1) ∧ 86 + 1 = 87 := ⟨by decide +kernel, rfl⟩
theorem aX11_change_87 : decode mX11_change.2.1 87 = .ok (.iload_n 3, 1) ∧ 87 + 1 = 88 := ⟨by decide +kernel, rfl⟩
theorem aX11_change_88 : decode mX11_change.2.1 88 = .ok (.invokevirtual 170, 3) ∧ 88 + 3 = 91 := ⟨by decide +kernel, rfl⟩
theorem aX11_change_91 : decode mX11_change.2.1 91 = .ok (.ireturn, 1) := by decide +kernel
theorem aX11_change_92 : decode mX11_change.2.1 92 = .ok (.iconst (-1), 1) ∧ 92 + 1 = 93 := ⟨by decide +kernel, rfl⟩
theorem aX11_change_93 : decode mX11_change.2.1 93 = .ok (.ireturn, 1) := by decide +kernel
theorem S_X11_change {E : EE} {d : Nat} {I : IH} {Q : QT} (x1 : Int32) (x2 : Int32) (x3 : Int32) (h :
(Mt E d mX11_isPane [.ref (eb E + 0), .int x1] I (fun rv I1 => ∃ v2 : Int32, rv = some (.int v2) ∧
 ((¬ v2 = 0 → ((x2 = (nI 1) → (Mt E d mX11_put [.ref (eb E + 38), .int x1, .int x3, .int (nI 255)] I1 (fun rv I3 => ∃ v4 : Int32, rv = some (.int v4) ∧
 Q (some (.int v4)) I3))) ∧
 ((x2 = (nI 2) → (Mt E d mX11_put [.ref (eb E + 40), .int x1, .int x3, .int (nI 9)] I1 (fun rv I5 => ∃ v6 : Int32, rv = some (.int v6) ∧
 Q (some (.int v6)) I5))) ∧
 ((x2 = (nI 3) → (Mt E d mX11_put [.ref (eb E + 39), .int x1, .int x3, .int (nI 5)] I1 (fun rv I7 => ∃ v8 : Int32, rv = some (.int v8) ∧
 Q (some (.int v8)) I7))) ∧
 ((x2 = (nI 4) → (Mt E d mX11_changeShown [.ref (eb E + 0), .int x1, .int x3] I1 (fun rv I9 => ∃ v10 : Int32, rv = some (.int v10) ∧
 Q (some (.int v10)) I9))) ∧
 (¬ x2 = (nI 1) ∧ ¬ x2 = (nI 2) ∧ ¬ x2 = (nI 3) ∧ ¬ x2 = (nI 4) → Q (some (.int (-1))) I1)))))) ∧
 (v2 = 0 → Q (some (.int (-1))) I1))))) : Mt E (d + 1) mX11_change [.ref (eb E + 0), .int x1, .int x2, .int x3] I Q := by
  refine Mt_of [(0, .ref (eb E + 0)), (1, .int x1), (2, .int x2), (3, .int x3)] (by decide +kernel) (by simp [lg_sl, Value.category, mX11_change]) rfl ?_
  refine J_aload_n 0 aX11_change_0 rfl ?_
  refine J_iload_n 1 aX11_change_1 rfl ?_
  refine J_callV [.int x1] [] aX11_change_2 lkX11_124_X11 okX11_isPane sh0 rfl rfl rfl (Nat.le_of_ble_eq_true rfl) (Nat.le_refl _) (Mt_mono h (fun rv I1 h => ?_))
  obtain ⟨v2, rfl, h⟩ := h
  refine J_r1 ?_
  refine J_if_ne aX11_change_5 (fun q => ?_) (fun q => ?_)
  · replace h := h.1 q
    refine J_iload_n 2 aX11_change_10 rfl ?_
    by_cases q1 : x2 = (nI 1)
    · replace h := h.1 q1
      refine J_tswIn (nI 1) aX11_change_11 (off := 29) (tgt := 40) (by decide +kernel) q1 ?_
      refine J_aload_n 0 aX11_change_40 rfl ?_
      refine J_getR aX11_change_41 flX11_83 sh0 rfl ?_
      refine J_getR aX11_change_44 flX11_134 sh33 rfl ?_
      refine J_iload_n 1 aX11_change_47 rfl ?_
      refine J_iload_n 3 aX11_change_48 rfl ?_
      refine J_sipush (nI 255) aX11_change_49 (by decide +kernel) ?_
      refine J_callS [.ref (eb E + 38), .int x1, .int x3, .int (nI 255)] [] aX11_change_52 lkX11_166 okX11_put rfl rfl (Nat.le_of_ble_eq_true rfl) (Nat.le_refl _) (Mt_mono h (fun rv I3 h => ?_))
      obtain ⟨v4, rfl, h⟩ := h
      refine J_r1 ?_
      exact J_iret aX11_change_55 rfl h
    replace h := h.2
    by_cases q2 : x2 = (nI 2)
    · replace h := h.1 q2
      refine J_tswIn (nI 2) aX11_change_11 (off := 45) (tgt := 56) (by decide +kernel) q2 ?_
      refine J_aload_n 0 aX11_change_56 rfl ?_
      refine J_getR aX11_change_57 flX11_83 sh0 rfl ?_
      refine J_getR aX11_change_60 flX11_137 sh33 rfl ?_
      refine J_iload_n 1 aX11_change_63 rfl ?_
      refine J_iload_n 3 aX11_change_64 rfl ?_
      refine J_bipush (nI 9) aX11_change_65 (by decide +kernel) ?_
      refine J_callS [.ref (eb E + 40), .int x1, .int x3, .int (nI 9)] [] aX11_change_67 lkX11_166 okX11_put rfl rfl (Nat.le_of_ble_eq_true rfl) (Nat.le_refl _) (Mt_mono h (fun rv I5 h => ?_))
      obtain ⟨v6, rfl, h⟩ := h
      refine J_r1 ?_
      exact J_iret aX11_change_70 rfl h
    replace h := h.2
    by_cases q3 : x2 = (nI 3)
    · replace h := h.1 q3
      refine J_tswIn (nI 3) aX11_change_11 (off := 60) (tgt := 71) (by decide +kernel) q3 ?_
      refine J_aload_n 0 aX11_change_71 rfl ?_
      refine J_getR aX11_change_72 flX11_83 sh0 rfl ?_
      refine J_getR aX11_change_75 flX11_140 sh33 rfl ?_
      refine J_iload_n 1 aX11_change_78 rfl ?_
      refine J_iload_n 3 aX11_change_79 rfl ?_
      refine J_iconst (nI 5) aX11_change_80 (by decide +kernel) ?_
      refine J_callS [.ref (eb E + 39), .int x1, .int x3, .int (nI 5)] [] aX11_change_81 lkX11_166 okX11_put rfl rfl (Nat.le_of_ble_eq_true rfl) (Nat.le_refl _) (Mt_mono h (fun rv I7 h => ?_))
      obtain ⟨v8, rfl, h⟩ := h
      refine J_r1 ?_
      exact J_iret aX11_change_84 rfl h
    replace h := h.2
    by_cases q4 : x2 = (nI 4)
    · replace h := h.1 q4
      refine J_tswIn (nI 4) aX11_change_11 (off := 74) (tgt := 85) (by decide +kernel) q4 ?_
      refine J_aload_n 0 aX11_change_85 rfl ?_
      refine J_iload_n 1 aX11_change_86 rfl ?_
      refine J_iload_n 3 aX11_change_87 rfl ?_
      refine J_callV [.int x1, .int x3] [] aX11_change_88 lkX11_170_X11 okX11_changeShown sh0 rfl rfl rfl (Nat.le_of_ble_eq_true rfl) (Nat.le_refl _) (Mt_mono h (fun rv I9 h => ?_))
      obtain ⟨v10, rfl, h⟩ := h
      refine J_r1 ?_
      exact J_iret aX11_change_91 rfl h
    replace h := h.2
    replace h := h ⟨q1, q2, q3, q4⟩
    refine J_tswOut aX11_change_11 (tgt := 92) (by decide) (tsw_out (fun k h1 h2 hk => by
      have hh : k = 1 ∨ k = 2 ∨ k = 3 ∨ k = 4 := by omega
      rcases hh with rfl | rfl | rfl | rfl
      · exact q1 (Int32.toInt_inj.mp (hk.trans (by decide +kernel)))
      · exact q2 (Int32.toInt_inj.mp (hk.trans (by decide +kernel)))
      · exact q3 (Int32.toInt_inj.mp (hk.trans (by decide +kernel)))
      · exact q4 (Int32.toInt_inj.mp (hk.trans (by decide +kernel)))
      )) ?_
    refine J_iconst (-1) aX11_change_92 (by decide +kernel) ?_
    exact J_iret aX11_change_93 rfl h
  · replace h := h.2 q
    refine J_iconst (-1) aX11_change_8 (by decide +kernel) ?_
    exact J_iret aX11_change_9 rfl h
theorem aX11_changeShown_0 : decode mX11_changeShown.2.1 0 = .ok (.iload_n 2, 1) ∧ 0 + 1 = 1 := ⟨by decide +kernel, rfl⟩
theorem aX11_changeShown_1 : decode mX11_changeShown.2.1 1 = .ok (.iconst 1, 1) ∧ 1 + 1 = 2 := ⟨by decide +kernel, rfl⟩
theorem aX11_changeShown_2 : decode mX11_changeShown.2.1 2 = .ok (.invokestatic 110, 3) ∧ 2 + 3 = 5 := ⟨by decide +kernel, rfl⟩
theorem aX11_changeShown_5 : decode mX11_changeShown.2.1 5 = .ok (.ifCond .ne 5, 3) ∧ ((5 : Nat) : Int) + 5 = ((10 : Nat) : Int) ∧ 5 + 3 = 8 := ⟨by decide +kernel, by decide, rfl⟩
theorem aX11_changeShown_8 : decode mX11_changeShown.2.1 8 = .ok (.iconst (-1), 1) ∧ 8 + 1 = 9 := ⟨by decide +kernel, rfl⟩
theorem aX11_changeShown_9 : decode mX11_changeShown.2.1 9 = .ok (.ireturn, 1) := by decide +kernel
theorem aX11_changeShown_10 : decode mX11_changeShown.2.1 10 = .ok (.aload_n 0, 1) ∧ 10 + 1 = 11 := ⟨by decide +kernel, rfl⟩
theorem aX11_changeShown_11 : decode mX11_changeShown.2.1 11 = .ok (.getfield 83, 3) ∧ 11 + 3 = 14 := ⟨by decide +kernel, rfl⟩
theorem aX11_changeShown_14 : decode mX11_changeShown.2.1 14 = .ok (.getfield 143, 3) ∧ 14 + 3 = 17 := ⟨by decide +kernel, rfl⟩
theorem aX11_changeShown_17 : decode mX11_changeShown.2.1 17 = .ok (.iload_n 1, 1) ∧ 17 + 1 = 18 := ⟨by decide +kernel, rfl⟩
theorem aX11_changeShown_18 : decode mX11_changeShown.2.1 18 = .ok (.ishr, 1) ∧ 18 + 1 = 19 := ⟨by decide +kernel, rfl⟩
theorem aX11_changeShown_19 : decode mX11_changeShown.2.1 19 = .ok (.iconst 1, 1) ∧ 19 + 1 = 20 := ⟨by decide +kernel, rfl⟩
theorem aX11_changeShown_20 : decode mX11_changeShown.2.1 20 = .ok (.iand, 1) ∧ 20 + 1 = 21 := ⟨by decide +kernel, rfl⟩
theorem aX11_changeShown_21 : decode mX11_changeShown.2.1 21 = .ok (.istore_n 3, 1) ∧ 21 + 1 = 22 := ⟨by decide +kernel, rfl⟩
theorem aX11_changeShown_22 : decode mX11_changeShown.2.1 22 = .ok (.aload_n 0, 1) ∧ 22 + 1 = 23 := ⟨by decide +kernel, rfl⟩
theorem aX11_changeShown_23 : decode mX11_changeShown.2.1 23 = .ok (.getfield 83, 3) ∧ 23 + 3 = 26 := ⟨by decide +kernel, rfl⟩
theorem aX11_changeShown_26 : decode mX11_changeShown.2.1 26 = .ok (.aload_n 0, 1) ∧ 26 + 1 = 27 := ⟨by decide +kernel, rfl⟩
theorem aX11_changeShown_27 : decode mX11_changeShown.2.1 27 = .ok (.getfield 83, 3) ∧ 27 + 3 = 30 := ⟨by decide +kernel, rfl⟩
theorem aX11_changeShown_30 : decode mX11_changeShown.2.1 30 = .ok (.getfield 143, 3) ∧ 30 + 3 = 33 := ⟨by decide +kernel, rfl⟩
theorem aX11_changeShown_33 : decode mX11_changeShown.2.1 33 = .ok (.iconst 1, 1) ∧ 33 + 1 = 34 := ⟨by decide +kernel, rfl⟩
theorem aX11_changeShown_34 : decode mX11_changeShown.2.1 34 = .ok (.iload_n 1, 1) ∧ 34 + 1 = 35 := ⟨by decide +kernel, rfl⟩
theorem aX11_changeShown_35 : decode mX11_changeShown.2.1 35 = .ok (.ishl, 1) ∧ 35 + 1 = 36 := ⟨by decide +kernel, rfl⟩
theorem aX11_changeShown_36 : decode mX11_changeShown.2.1 36 = .ok (.iconst (-1), 1) ∧ 36 + 1 = 37 := ⟨by decide +kernel, rfl⟩
theorem aX11_changeShown_37 : decode mX11_changeShown.2.1 37 = .ok (.ixor, 1) ∧ 37 + 1 = 38 := ⟨by decide +kernel, rfl⟩
theorem aX11_changeShown_38 : decode mX11_changeShown.2.1 38 = .ok (.iand, 1) ∧ 38 + 1 = 39 := ⟨by decide +kernel, rfl⟩
theorem aX11_changeShown_39 : decode mX11_changeShown.2.1 39 = .ok (.iload_n 2, 1) ∧ 39 + 1 = 40 := ⟨by decide +kernel, rfl⟩
theorem aX11_changeShown_40 : decode mX11_changeShown.2.1 40 = .ok (.iload_n 1, 1) ∧ 40 + 1 = 41 := ⟨by decide +kernel, rfl⟩
theorem aX11_changeShown_41 : decode mX11_changeShown.2.1 41 = .ok (.ishl, 1) ∧ 41 + 1 = 42 := ⟨by decide +kernel, rfl⟩
theorem aX11_changeShown_42 : decode mX11_changeShown.2.1 42 = .ok (.ior, 1) ∧ 42 + 1 = 43 := ⟨by decide +kernel, rfl⟩
theorem aX11_changeShown_43 : decode mX11_changeShown.2.1 43 = .ok (.putfield 143, 3) ∧ 43 + 3 = 46 := ⟨by decide +kernel, rfl⟩
theorem aX11_changeShown_46 : decode mX11_changeShown.2.1 46 = .ok (.iload_n 3, 1) ∧ 46 + 1 = 47 := ⟨by decide +kernel, rfl⟩
theorem aX11_changeShown_47 : decode mX11_changeShown.2.1 47 = .ok (.ireturn, 1) := by decide +kernel
theorem S_X11_changeShown {E : EE} {d : Nat} {I : IH} {Q : QT} (x1 : Int32) (x2 : Int32) (h :
(Mt E d mX11_isWithin [.int x2, .int (nI 1)] I (fun rv I1 => ∃ v2 : Int32, rv = some (.int v2) ∧
 ((¬ v2 = 0 → (∀ I3 : IH, I3 = stI I1 33 8 (((I1 33 8) &&& (((nI 1) <<< (x1 &&& 31)) ^^^ (-1))) ||| (x2 <<< (x1 &&& 31))) →
 Q (some (.int (((I1 33 8) >>> (x1 &&& 31)) &&& (nI 1)))) I3)) ∧
 (v2 = 0 → Q (some (.int (-1))) I1))))) : Mt E (d + 1) mX11_changeShown [.ref (eb E + 0), .int x1, .int x2] I Q := by
  refine Mt_of [(0, .ref (eb E + 0)), (1, .int x1), (2, .int x2)] (by decide +kernel) (by simp [lg_sl, Value.category, mX11_changeShown]) rfl ?_
  refine J_iload_n 2 aX11_changeShown_0 rfl ?_
  refine J_iconst (nI 1) aX11_changeShown_1 (by decide +kernel) ?_
  refine J_callS [.int x2, .int (nI 1)] [] aX11_changeShown_2 lkX11_110 okX11_isWithin rfl rfl (Nat.le_of_ble_eq_true rfl) (Nat.le_refl _) (Mt_mono h (fun rv I1 h => ?_))
  obtain ⟨v2, rfl, h⟩ := h
  refine J_r1 ?_
  refine J_if_ne aX11_changeShown_5 (fun q => ?_) (fun q => ?_)
  · replace h := h.1 q
    refine J_aload_n 0 aX11_changeShown_10 rfl ?_
    refine J_getR aX11_changeShown_11 flX11_83 sh0 rfl ?_
    refine J_getI aX11_changeShown_14 flX11_143 sh33 rfl ?_
    refine J_iload_n 1 aX11_changeShown_17 rfl ?_
    refine J_ishr aX11_changeShown_18 ?_
    refine J_iconst (nI 1) aX11_changeShown_19 (by decide +kernel) ?_
    refine J_iand aX11_changeShown_20 ?_
    refine J_istore_n [(3, .int (((I1 33 8) >>> (x1 &&& 31)) &&& (nI 1))), (0, .ref (eb E + 0)), (1, .int x1), (2, .int x2)] aX11_changeShown_21 (by decide) rfl ?_
    refine J_aload_n 1 aX11_changeShown_22 rfl ?_
    refine J_getR aX11_changeShown_23 flX11_83 sh0 rfl ?_
    refine J_aload_n 1 aX11_changeShown_26 rfl ?_
    refine J_getR aX11_changeShown_27 flX11_83 sh0 rfl ?_
    refine J_getI aX11_changeShown_30 flX11_143 sh33 rfl ?_
    refine J_iconst (nI 1) aX11_changeShown_33 (by decide +kernel) ?_
    refine J_iload_n 2 aX11_changeShown_34 rfl ?_
    refine J_ishl aX11_changeShown_35 ?_
    refine J_iconst (-1) aX11_changeShown_36 (by decide +kernel) ?_
    refine J_ixor aX11_changeShown_37 ?_
    refine J_iand aX11_changeShown_38 ?_
    refine J_iload_n 3 aX11_changeShown_39 rfl ?_
    refine J_iload_n 2 aX11_changeShown_40 rfl ?_
    refine J_ishl aX11_changeShown_41 ?_
    refine J_ior aX11_changeShown_42 ?_
    refine J_putI aX11_changeShown_43 fpX11_143 sh33 rfl (fun I3 e4 => ?_)
    replace h := h I3 e4
    refine J_iload_n 0 aX11_changeShown_46 rfl ?_
    exact J_iret aX11_changeShown_47 rfl h
  · replace h := h.2 q
    refine J_iconst (-1) aX11_changeShown_8 (by decide +kernel) ?_
    exact J_iret aX11_changeShown_9 rfl h
theorem aX11_remake_0 : decode mX11_remake.2.1 0 = .ok (.aload_n 0, 1) ∧ 0 + 1 = 1 := ⟨by decide +kernel, rfl⟩
theorem aX11_remake_1 : decode mX11_remake.2.1 1 = .ok (.iload_n 1, 1) ∧ 1 + 1 = 2 := ⟨by decide +kernel, rfl⟩
theorem aX11_remake_2 : decode mX11_remake.2.1 2 = .ok (.invokevirtual 124, 3) ∧ 2 + 3 = 5 := ⟨by decide +kernel, rfl⟩
theorem aX11_remake_5 : decode mX11_remake.2.1 5 = .ok (.ifCond .eq 10, 3) ∧ ((5 : Nat) : Int) + 10 = ((15 : Nat) : Int) ∧ 5 + 3 = 8 := ⟨by decide +kernel, by decide, rfl⟩
theorem aX11_remake_8 : decode mX11_remake.2.1 8 = .ok (.iload_n 2, 1) ∧ 8 + 1 = 9 := ⟨by decide +kernel, rfl⟩
theorem aX11_remake_9 : decode mX11_remake.2.1 9 = .ok (.invokestatic 106, 3) ∧ 9 + 3 = 12 := ⟨by decide +kernel, rfl⟩
theorem aX11_remake_12 : decode mX11_remake.2.1 12 = .ok (.ifCond .ne 5, 3) ∧ ((12 : Nat) : Int) + 5 = ((17 : Nat) : Int) ∧ 12 + 3 = 15 := ⟨by decide +kernel, by decide, rfl⟩
theorem aX11_remake_15 : decode mX11_remake.2.1 15 = .ok (.iconst (-1), 1) ∧ 15 + 1 = 16 := ⟨by decide +kernel, rfl⟩
theorem aX11_remake_16 : decode mX11_remake.2.1 16 = .ok (.ireturn, 1) := by decide +kernel
theorem aX11_remake_17 : decode mX11_remake.2.1 17 = .ok (.aload_n 0, 1) ∧ 17 + 1 = 18 := ⟨by decide +kernel, rfl⟩
theorem aX11_remake_18 : decode mX11_remake.2.1 18 = .ok (.getfield 83, 3) ∧ 18 + 3 = 21 := ⟨by decide +kernel, rfl⟩
theorem aX11_remake_21 : decode mX11_remake.2.1 21 = .ok (.getfield 131, 3) ∧ 21 + 3 = 24 := ⟨by decide +kernel, rfl⟩
theorem aX11_remake_24 : decode mX11_remake.2.1 24 = .ok (.iload_n 1, 1) ∧ 24 + 1 = 25 := ⟨by decide +kernel, rfl⟩
theorem aX11_remake_25 : decode mX11_remake.2.1 25 = .ok (.iaload, 1) ∧ 25 + 1 = 26 := ⟨by decide +kernel, rfl⟩
theorem aX11_remake_26 : decode mX11_remake.2.1 26 = .ok (.istore_n 3, 1) ∧ 26 + 1 = 27 := ⟨by decide +kernel, rfl⟩
theorem aX11_remake_27 : decode mX11_remake.2.1 27 = .ok (.aload_n 0, 1) ∧ 27 + 1 = 28 := ⟨by decide +kernel, rfl⟩
theorem aX11_remake_28 : decode mX11_remake.2.1 28 = .ok (.getfield 83, 3) ∧ 28 + 3 = 31 := ⟨by decide +kernel, rfl⟩
theorem aX11_remake_31 : decode mX11_remake.2.1 31 = .ok (.getfield 131, 3) ∧ 31 + 3 = 34 := ⟨by decide +kernel, rfl⟩
theorem aX11_remake_34 : decode mX11_remake.2.1 34 = .ok (.iload_n 1, 1) ∧ 34 + 1 = 35 := ⟨by decide +kernel, rfl⟩
theorem aX11_remake_35 : decode mX11_remake.2.1 35 = .ok (.iload_n 2, 1) ∧ 35 + 1 = 36 := ⟨by decide +kernel, rfl⟩
theorem aX11_remake_36 : decode mX11_remake.2.1 36 = .ok (.iastore, 1) ∧ 36 + 1 = 37 := ⟨by decide +kernel, rfl⟩
theorem aX11_remake_37 : decode mX11_remake.2.1 37 = .ok (.iload_n 3, 1) ∧ 37 + 1 = 38 := ⟨by decide +kernel, rfl⟩
theorem aX11_remake_38 : decode mX11_remake.2.1 38 = .ok (.ireturn, 1) := by decide +kernel
theorem S_X11_remake {E : EE} {d : Nat} {I : IH} {Q : QT} (x1 : Int32) (x2 : Int32) (h :
(Mt E d mX11_isPane [.ref (eb E + 0), .int x1] I (fun rv I1 => ∃ v2 : Int32, rv = some (.int v2) ∧
 ((v2 = 0 → Q (some (.int (-1))) I1) ∧
 (¬ v2 = 0 → (Mt E d mX11_isPaneKind [.int x2] I1 (fun rv I3 => ∃ v4 : Int32, rv = some (.int v4) ∧
 ((¬ v4 = 0 → (∃ j5 : Nat, x1 = nI j5 ∧ j5 < 6 ∧ (∃ j10 : Nat, x1 = nI j10 ∧ j10 < 6 ∧ (∀ I8 : IH, I8 = stI I3 37 j10 x2 →
 Q (some (.int (I3 37 j5))) I8)))) ∧
 (v4 = 0 → Q (some (.int (-1))) I3))))))))) : Mt E (d + 1) mX11_remake [.ref (eb E + 0), .int x1, .int x2] I Q := by
  refine Mt_of [(0, .ref (eb E + 0)), (1, .int x1), (2, .int x2)] (by decide +kernel) (by simp [lg_sl, Value.category, mX11_remake]) rfl ?_
  refine J_aload_n 0 aX11_remake_0 rfl ?_
  refine J_iload_n 1 aX11_remake_1 rfl ?_
  refine J_callV [.int x1] [] aX11_remake_2 lkX11_124_X11 okX11_isPane sh0 rfl rfl rfl (Nat.le_of_ble_eq_true rfl) (Nat.le_refl _) (Mt_mono h (fun rv I1 h => ?_))
  obtain ⟨v2, rfl, h⟩ := h
  refine J_r1 ?_
  refine J_if_eq aX11_remake_5 (fun q => ?_) (fun q => ?_)
  · replace h := h.1 q
    refine J_iconst (-1) aX11_remake_15 (by decide +kernel) ?_
    exact J_iret aX11_remake_16 rfl h
  · replace h := h.2 q
    refine J_iload_n 2 aX11_remake_8 rfl ?_
    refine J_callS [.int x2] [] aX11_remake_9 lkX11_106 okX11_isPaneKind rfl rfl (Nat.le_of_ble_eq_true rfl) (Nat.le_refl _) (Mt_mono h (fun rv I3 h => ?_))
    obtain ⟨v4, rfl, h⟩ := h
    refine J_r1 ?_
    refine J_if_ne aX11_remake_12 (fun q => ?_) (fun q => ?_)
    · replace h := h.1 q
      refine J_aload_n 0 aX11_remake_17 rfl ?_
      refine J_getR aX11_remake_18 flX11_83 sh0 rfl ?_
      refine J_getR aX11_remake_21 flX11_131 sh33 rfl ?_
      refine J_iload_n 1 aX11_remake_24 rfl ?_
      obtain ⟨j5, e6, b7, h⟩ := h
      refine J_iaload j5 aX11_remake_25 sh37 e6 b7 (by decide) ?_
      refine J_istore_n [(3, .int (I3 37 j5)), (0, .ref (eb E + 0)), (1, .int x1), (2, .int x2)] aX11_remake_26 (by decide) rfl ?_
      refine J_aload_n 1 aX11_remake_27 rfl ?_
      refine J_getR aX11_remake_28 flX11_83 sh0 rfl ?_
      refine J_getR aX11_remake_31 flX11_131 sh33 rfl ?_
      refine J_iload_n 2 aX11_remake_34 rfl ?_
      refine J_iload_n 3 aX11_remake_35 rfl ?_
      obtain ⟨j10, e11, b12, h⟩ := h
      refine J_iastore j10 aX11_remake_36 sh37 e11 b12 (by decide) (fun I8 e9 => ?_)
      replace h := h I8 e9
      refine J_iload_n 0 aX11_remake_37 rfl ?_
      exact J_iret aX11_remake_38 rfl h
    · replace h := h.2 q
      refine J_iconst (-1) aX11_remake_15 (by decide +kernel) ?_
      exact J_iret aX11_remake_16 rfl h
theorem aX11_news_0 : decode mX11_news.2.1 0 = .ok (.aload_n 0, 1) ∧ 0 + 1 = 1 := ⟨by decide +kernel, rfl⟩
theorem aX11_news_1 : decode mX11_news.2.1 1 = .ok (.getfield 83, 3) ∧ 1 + 3 = 4 := ⟨by decide +kernel, rfl⟩
theorem aX11_news_4 : decode mX11_news.2.1 4 = .ok (.getfield 173, 3) ∧ 4 + 3 = 7 := ⟨by decide +kernel, rfl⟩
theorem aX11_news_7 : decode mX11_news.2.1 7 = .ok (.iload_n 1, 1) ∧ 7 + 1 = 8 := ⟨by decide +kernel, rfl⟩
theorem aX11_news_8 : decode mX11_news.2.1 8 = .ok (.iload_n 2, 1) ∧ 8 + 1 = 9 := ⟨by decide +kernel, rfl⟩
theorem aX11_news_9 : decode mX11_news.2.1 9 = .ok (.bipush 15, 2) ∧ 9 + 2 = 11 := ⟨by decide +kernel, rfl⟩
theorem aX11_news_11 : decode mX11_news.2.1 11 = .ok (.invokestatic 166, 3) ∧ 11 + 3 = 14 := ⟨by decide +kernel, rfl⟩
theorem aX11_news_14 : decode mX11_news.2.1 14 = .ok (.ireturn, 1) := by decide +kernel
theorem S_X11_news {E : EE} {d : Nat} {I : IH} {Q : QT} (x1 : Int32) (x2 : Int32) (h :
(Mt E d mX11_put [.ref (eb E + 34), .int x1, .int x2, .int (nI 15)] I (fun rv I1 => ∃ v2 : Int32, rv = some (.int v2) ∧
 Q (some (.int v2)) I1))) : Mt E (d + 1) mX11_news [.ref (eb E + 0), .int x1, .int x2] I Q := by
  refine Mt_of [(0, .ref (eb E + 0)), (1, .int x1), (2, .int x2)] (by decide +kernel) (by simp [lg_sl, Value.category, mX11_news]) rfl ?_
  refine J_aload_n 0 aX11_news_0 rfl ?_
  refine J_getR aX11_news_1 flX11_83 sh0 rfl ?_
  refine J_getR aX11_news_4 flX11_173 sh33 rfl ?_
  refine J_iload_n 1 aX11_news_7 rfl ?_
  refine J_iload_n 2 aX11_news_8 rfl ?_
  refine J_bipush (nI 15) aX11_news_9 (by decide +kernel) ?_
  refine J_callS [.ref (eb E + 34), .int x1, .int x2, .int (nI 15)] [] aX11_news_11 lkX11_166 okX11_put rfl rfl (Nat.le_of_ble_eq_true rfl) (Nat.le_refl _) (Mt_mono h (fun rv I1 h => ?_))
  obtain ⟨v2, rfl, h⟩ := h
  refine J_r1 ?_
  exact J_iret aX11_news_14 rfl h
theorem aX11_ward_0 : decode mX11_ward.2.1 0 = .ok (.iload_n 2, 1) ∧ 0 + 1 = 1 := ⟨by decide +kernel, rfl⟩
theorem aX11_ward_1 : decode mX11_ward.2.1 1 = .ok (.lookupswitch 57 #[(0, 27), (1, 42)], 27) := by decide +kernel
theorem aX11_ward_28 : decode mX11_ward.2.1 28 = .ok (.aload_n 0, 1) ∧ 28 + 1 = 29 := ⟨by decide +kernel, rfl⟩
theorem aX11_ward_29 : decode mX11_ward.2.1 29 = .ok (.getfield 83, 3) ∧ 29 + 3 = 32 := ⟨by decide +kernel, rfl⟩
theorem aX11_ward_32 : decode mX11_ward.2.1 32 = .ok (.getfield 176, 3) ∧ 32 + 3 = 35 := ⟨by decide +kernel, rfl⟩
theorem aX11_ward_35 : decode mX11_ward.2.1 35 = .ok (.iload_n 1, 1) ∧ 35 + 1 = 36 := ⟨by decide +kernel, rfl⟩
theorem aX11_ward_36 : decode mX11_ward.2.1 36 = .ok (.iload_n 3, 1) ∧ 36 + 1 = 37 := ⟨by decide +kernel, rfl⟩
theorem aX11_ward_37 : decode mX11_ward.2.1 37 = .ok (.bipush 9, 2) ∧ 37 + 2 = 39 := ⟨by decide +kernel, rfl⟩
theorem aX11_ward_39 : decode mX11_ward.2.1 39 = .ok (.invokestatic 166, 3) ∧ 39 + 3 = 42 := ⟨by decide +kernel, rfl⟩
theorem aX11_ward_42 : decode mX11_ward.2.1 42 = .ok (.ireturn, 1) := by decide +kernel
theorem aX11_ward_43 : decode mX11_ward.2.1 43 = .ok (.aload_n 0, 1) ∧ 43 + 1 = 44 := ⟨by decide +kernel, rfl⟩
theorem aX11_ward_44 : decode mX11_ward.2.1 44 = .ok (.getfield 83, 3) ∧ 44 + 3 = 47 := ⟨by decide +kernel, rfl⟩
theorem aX11_ward_47 : decode mX11_ward.2.1 47 = .ok (.getfield 179, 3) ∧ 47 + 3 = 50 := ⟨by decide +kernel, rfl⟩
theorem aX11_ward_50 : decode mX11_ward.2.1 50 = .ok (.iload_n 1, 1) ∧ 50 + 1 = 51 := ⟨by decide +kernel, rfl⟩
theorem aX11_ward_51 : decode mX11_ward.2.1 51 = .ok (.iload_n 3, 1) ∧ 51 + 1 = 52 := ⟨by decide +kernel, rfl⟩
theorem aX11_ward_52 : decode mX11_ward.2.1 52 = .ok (.bipush 9, 2) ∧ 52 + 2 = 54 := ⟨by decide +kernel, rfl⟩
theorem aX11_ward_54 : decode mX11_ward.2.1 54 = .ok (.invokestatic 166, 3) ∧ 54 + 3 = 57 := ⟨by decide +kernel, rfl⟩
theorem aX11_ward_57 : decode mX11_ward.2.1 57 = .ok (.ireturn, 1) := by decide +kernel
theorem aX11_ward_58 : decode mX11_ward.2.1 58 = .ok (.iconst (-1), 1) ∧ 58 + 1 = 59 := ⟨by decide +kernel, rfl⟩
theorem aX11_ward_59 : decode mX11_ward.2.1 59 = .ok (.ireturn, 1) := by decide +kernel
theorem S_X11_ward {E : EE} {d : Nat} {I : IH} {Q : QT} (x1 : Int32) (x2 : Int32) (x3 : Int32) (h :
((x2 = (nI 0) → (Mt E d mX11_put [.ref (eb E + 35), .int x1, .int x3, .int (nI 9)] I (fun rv I1 => ∃ v2 : Int32, rv = some (.int v2) ∧
 Q (some (.int v2)) I1))) ∧
 ((x2 = (nI 1) → (Mt E d mX11_put [.ref (eb E + 36), .int x1, .int x3, .int (nI 9)] I (fun rv I3 => ∃ v4 : Int32, rv = some (.int v4) ∧
 Q (some (.int v4)) I3))) ∧
 (¬ x2 = (nI 0) ∧ ¬ x2 = (nI 1) → Q (some (.int (-1))) I)))) : Mt E (d + 1) mX11_ward [.ref (eb E + 0), .int x1, .int x2, .int x3] I Q := by
  refine Mt_of [(0, .ref (eb E + 0)), (1, .int x1), (2, .int x2), (3, .int x3)] (by decide +kernel) (by simp [lg_sl, Value.category, mX11_ward]) rfl ?_
  refine J_iload_n 2 aX11_ward_0 rfl ?_
  by_cases q0 : x2 = (nI 0)
  · replace h := h.1 q0
    refine J_lsw aX11_ward_1 (off := 27) (tgt := 28) (by decide +kernel) (by rw [q0]; decide +kernel) (by decide) ?_
    refine J_aload_n 0 aX11_ward_28 rfl ?_
    refine J_getR aX11_ward_29 flX11_83 sh0 rfl ?_
    refine J_getR aX11_ward_32 flX11_176 sh33 rfl ?_
    refine J_iload_n 1 aX11_ward_35 rfl ?_
    refine J_iload_n 3 aX11_ward_36 rfl ?_
    refine J_bipush (nI 9) aX11_ward_37 (by decide +kernel) ?_
    refine J_callS [.ref (eb E + 35), .int x1, .int x3, .int (nI 9)] [] aX11_ward_39 lkX11_166 okX11_put rfl rfl (Nat.le_of_ble_eq_true rfl) (Nat.le_refl _) (Mt_mono h (fun rv I1 h => ?_))
    obtain ⟨v2, rfl, h⟩ := h
    refine J_r1 ?_
    exact J_iret aX11_ward_42 rfl h
  replace h := h.2
  by_cases q1 : x2 = (nI 1)
  · replace h := h.1 q1
    refine J_lsw aX11_ward_1 (off := 42) (tgt := 43) (by decide +kernel) (by rw [q1]; decide +kernel) (by decide) ?_
    refine J_aload_n 0 aX11_ward_43 rfl ?_
    refine J_getR aX11_ward_44 flX11_83 sh0 rfl ?_
    refine J_getR aX11_ward_47 flX11_179 sh33 rfl ?_
    refine J_iload_n 1 aX11_ward_50 rfl ?_
    refine J_iload_n 3 aX11_ward_51 rfl ?_
    refine J_bipush (nI 9) aX11_ward_52 (by decide +kernel) ?_
    refine J_callS [.ref (eb E + 36), .int x1, .int x3, .int (nI 9)] [] aX11_ward_54 lkX11_166 okX11_put rfl rfl (Nat.le_of_ble_eq_true rfl) (Nat.le_refl _) (Mt_mono h (fun rv I3 h => ?_))
    obtain ⟨v4, rfl, h⟩ := h
    refine J_r1 ?_
    exact J_iret aX11_ward_57 rfl h
  replace h := h.2
  replace h := h ⟨q0, q1⟩
  refine J_lsw aX11_ward_1 (off := 57) (tgt := 58) (by decide +kernel) (by rw [lv_osw q0 (k := (nI 0)) (by decide +kernel)]; rw [lv_osw q1 (k := (nI 1)) (by decide +kernel)]; rfl) (by decide) ?_
  refine J_iconst (-1) aX11_ward_58 (by decide +kernel) ?_
  exact J_iret aX11_ward_59 rfl h
theorem aX11_wardOf_0 : decode mX11_wardOf.2.1 0 = .ok (.iload_n 1, 1) ∧ 0 + 1 = 1 := ⟨by decide +kernel, rfl⟩
theorem aX11_wardOf_1 : decode mX11_wardOf.2.1 1 = .ok (.invokestatic 114, 3) ∧ 1 + 3 = 4 := ⟨by decide +kernel, rfl⟩
theorem aX11_wardOf_4 : decode mX11_wardOf.2.1 4 = .ok (.ifCond .ne 5, 3) ∧ ((4 : Nat) : Int) + 5 = ((9 : Nat) : Int) ∧ 4 + 3 = 7 := ⟨by decide +kernel, by decide, rfl⟩
theorem aX11_wardOf_7 : decode mX11_wardOf.2.1 7 = .ok (.iconst (-1), 1) ∧ 7 + 1 = 8 := ⟨by decide +kernel, rfl⟩
theorem aX11_wardOf_8 : decode mX11_wardOf.2.1 8 = .ok (.ireturn, 1) := by decide +kernel
theorem aX11_wardOf_9 : decode mX11_wardOf.2.1 9 = .ok (.iload_n 2, 1) ∧ 9 + 1 = 10 := ⟨by decide +kernel, rfl⟩
theorem aX11_wardOf_10 : decode mX11_wardOf.2.1 10 = .ok (.lookupswitch 46 #[(0, 26), (1, 36)], 26) := by decide +kernel
theorem aX11_wardOf_36 : decode mX11_wardOf.2.1 36 = .ok (.aload_n 0, 1) ∧ 36 + 1 = 37 := ⟨by decide +kernel, rfl⟩
theorem aX11_wardOf_37 : decode mX11_wardOf.2.1 37 = .ok (.getfield 83, 3) ∧ 37 + 3 = 40 := ⟨by decide +kernel, rfl⟩
theorem aX11_wardOf_40 : decode mX11_wardOf.2.1 40 = .ok (.getfield 176, 3) ∧ 40 + 3 = 43 := ⟨by decide +kernel, rfl⟩
theorem aX11_wardOf_43 : decode mX11_wardOf.2.1 43 = .ok (.iload_n 1, 1) ∧ 43 + 1 = 44 := ⟨by decide +kernel, rfl⟩
theorem aX11_wardOf_44 : decode mX11_wardOf.2.1 44 = .ok (.iaload, 1) ∧ 44 + 1 = 45 := ⟨by decide +kernel, rfl⟩
theorem aX11_wardOf_45 : decode mX11_wardOf.2.1 45 = .ok (.ireturn, 1) := by decide +kernel
theorem aX11_wardOf_46 : decode mX11_wardOf.2.1 46 = .ok (.aload_n 0, 1) ∧ 46 + 1 = 47 := ⟨by decide +kernel, rfl⟩
theorem aX11_wardOf_47 : decode mX11_wardOf.2.1 47 = .ok (.getfield 83, 3) ∧ 47 + 3 = 50 := ⟨by decide +kernel, rfl⟩
theorem aX11_wardOf_50 : decode mX11_wardOf.2.1 50 = .ok (.getfield 179, 3) ∧ 50 + 3 = 53 := ⟨by decide +kernel, rfl⟩
theorem aX11_wardOf_53 : decode mX11_wardOf.2.1 53 = .ok (.iload_n 1, 1) ∧ 53 + 1 = 54 := ⟨by decide +kernel, rfl⟩
theorem aX11_wardOf_54 : decode mX11_wardOf.2.1 54 = .ok (.iaload, 1) ∧ 54 + 1 = 55 := ⟨by decide +kernel, rfl⟩
theorem aX11_wardOf_55 : decode mX11_wardOf.2.1 55 = .ok (.ireturn, 1) := by decide +kernel
theorem aX11_wardOf_56 : decode mX11_wardOf.2.1 56 = .ok (.iconst (-1), 1) ∧ 56 + 1 = 57 := ⟨by decide +kernel, rfl⟩
theorem aX11_wardOf_57 : decode mX11_wardOf.2.1 57 = .ok (.ireturn, 1) := by decide +kernel
theorem S_X11_wardOf {E : EE} {d : Nat} {I : IH} {Q : QT} (x1 : Int32) (x2 : Int32) (h :
(Mt E d mX11_isWard [.int x1] I (fun rv I1 => ∃ v2 : Int32, rv = some (.int v2) ∧
 ((¬ v2 = 0 → ((x2 = (nI 0) → (∃ j3 : Nat, x1 = nI j3 ∧ j3 < 6 ∧ Q (some (.int (I1 35 j3))) I1)) ∧
 ((x2 = (nI 1) → (∃ j6 : Nat, x1 = nI j6 ∧ j6 < 6 ∧ Q (some (.int (I1 36 j6))) I1)) ∧
 (¬ x2 = (nI 0) ∧ ¬ x2 = (nI 1) → Q (some (.int (-1))) I1)))) ∧
 (v2 = 0 → Q (some (.int (-1))) I1))))) : Mt E (d + 1) mX11_wardOf [.ref (eb E + 0), .int x1, .int x2] I Q := by
  refine Mt_of [(0, .ref (eb E + 0)), (1, .int x1), (2, .int x2)] (by decide +kernel) (by simp [lg_sl, Value.category, mX11_wardOf]) rfl ?_
  refine J_iload_n 1 aX11_wardOf_0 rfl ?_
  refine J_callS [.int x1] [] aX11_wardOf_1 lkX11_114 okX11_isWard rfl rfl (Nat.le_of_ble_eq_true rfl) (Nat.le_refl _) (Mt_mono h (fun rv I1 h => ?_))
  obtain ⟨v2, rfl, h⟩ := h
  refine J_r1 ?_
  refine J_if_ne aX11_wardOf_4 (fun q => ?_) (fun q => ?_)
  · replace h := h.1 q
    refine J_iload_n 2 aX11_wardOf_9 rfl ?_
    by_cases q0 : x2 = (nI 0)
    · replace h := h.1 q0
      refine J_lsw aX11_wardOf_10 (off := 26) (tgt := 36) (by decide +kernel) (by rw [q0]; decide +kernel) (by decide) ?_
      refine J_aload_n 0 aX11_wardOf_36 rfl ?_
      refine J_getR aX11_wardOf_37 flX11_83 sh0 rfl ?_
      refine J_getR aX11_wardOf_40 flX11_176 sh33 rfl ?_
      refine J_iload_n 1 aX11_wardOf_43 rfl ?_
      obtain ⟨j3, e4, b5, h⟩ := h
      refine J_iaload j3 aX11_wardOf_44 sh35 e4 b5 (by decide) ?_
      exact J_iret aX11_wardOf_45 rfl h
    replace h := h.2
    by_cases q1 : x2 = (nI 1)
    · replace h := h.1 q1
      refine J_lsw aX11_wardOf_10 (off := 36) (tgt := 46) (by decide +kernel) (by rw [q1]; decide +kernel) (by decide) ?_
      refine J_aload_n 0 aX11_wardOf_46 rfl ?_
      refine J_getR aX11_wardOf_47 flX11_83 sh0 rfl ?_
      refine J_getR aX11_wardOf_50 flX11_179 sh33 rfl ?_
      refine J_iload_n 1 aX11_wardOf_53 rfl ?_
      obtain ⟨j6, e7, b8, h⟩ := h
      refine J_iaload j6 aX11_wardOf_54 sh36 e7 b8 (by decide) ?_
      exact J_iret aX11_wardOf_55 rfl h
    replace h := h.2
    replace h := h ⟨q0, q1⟩
    refine J_lsw aX11_wardOf_10 (off := 46) (tgt := 56) (by decide +kernel) (by rw [lv_osw q0 (k := (nI 0)) (by decide +kernel)]; rw [lv_osw q1 (k := (nI 1)) (by decide +kernel)]; rfl) (by decide) ?_
    refine J_iconst (-1) aX11_wardOf_56 (by decide +kernel) ?_
    exact J_iret aX11_wardOf_57 rfl h
  · replace h := h.2 q
    refine J_iconst (-1) aX11_wardOf_7 (by decide +kernel) ?_
    exact J_iret aX11_wardOf_8 rfl h
theorem aX11_lord_0 : decode mX11_lord.2.1 0 = .ok (.iload_n 1, 1) ∧ 0 + 1 = 1 := ⟨by decide +kernel, rfl⟩
theorem aX11_lord_1 : decode mX11_lord.2.1 1 = .ok (.ifCond .ne 30, 3) ∧ ((1 : Nat) : Int) + 30 = ((31 : Nat) : Int) ∧ 1 + 3 = 4 := ⟨by decide +kernel, by decide, rfl⟩
theorem aX11_lord_4 : decode mX11_lord.2.1 4 = .ok (.iload_n 2, 1) ∧ 4 + 1 = 5 := ⟨by decide +kernel, rfl⟩
theorem aX11_lord_5 : decode mX11_lord.2.1 5 = .ok (.bipush 9, 2) ∧ 5 + 2 = 7 := ⟨by decide +kernel, rfl⟩
theorem aX11_lord_7 : decode mX11_lord.2.1 7 = .ok (.invokestatic 110, 3) ∧ 7 + 3 = 10 := ⟨by decide +kernel, rfl⟩
theorem aX11_lord_10 : decode mX11_lord.2.1 10 = .ok (.ifCond .eq 21, 3) ∧ ((10 : Nat) : Int) + 21 = ((31 : Nat) : Int) ∧ 10 + 3 = 13 := ⟨by decide +kernel, by decide, rfl⟩
theorem aX11_lord_13 : decode mX11_lord.2.1 13 = .ok (.aload_n 0, 1) ∧ 13 + 1 = 14 := ⟨by decide +kernel, rfl⟩
theorem aX11_lord_14 : decode mX11_lord.2.1 14 = .ok (.getfield 83, 3) ∧ 14 + 3 = 17 := ⟨by decide +kernel, rfl⟩
theorem aX11_lord_17 : decode mX11_lord.2.1 17 = .ok (.getfield 182, 3) ∧ 17 + 3 = 20 := ⟨by decide +kernel, rfl⟩
theorem aX11_lord_20 : decode mX11_lord.2.1 20 = .ok (.istore_n 3, 1) ∧ 20 + 1 = 21 := ⟨by decide +kernel, rfl⟩
theorem aX11_lord_21 : decode mX11_lord.2.1 21 = .ok (.aload_n 0, 1) ∧ 21 + 1 = 22 := ⟨by decide +kernel, rfl⟩
theorem aX11_lord_22 : decode mX11_lord.2.1 22 = .ok (.getfield 83, 3) ∧ 22 + 3 = 25 := ⟨by decide +kernel, rfl⟩
theorem aX11_lord_25 : decode mX11_lord.2.1 25 = .ok (.iload_n 2, 1) ∧ 25 + 1 = 26 := ⟨by decide +kernel, rfl⟩
theorem aX11_lord_26 : decode mX11_lord.2.1 26 = .ok (.putfield 182, 3) ∧ 26 + 3 = 29 := ⟨by decide +kernel, rfl⟩
theorem aX11_lord_29 : decode mX11_lord.2.1 29 = .ok (.iload_n 3, 1) ∧ 29 + 1 = 30 := ⟨by decide +kernel, rfl⟩
theorem aX11_lord_30 : decode mX11_lord.2.1 30 = .ok (.ireturn, 1) := by decide +kernel
theorem aX11_lord_31 : decode mX11_lord.2.1 31 = .ok (.iload_n 1, 1) ∧ 31 + 1 = 32 := ⟨by decide +kernel, rfl⟩
theorem aX11_lord_32 : decode mX11_lord.2.1 32 = .ok (.iconst 1, 1) ∧ 32 + 1 = 33 := ⟨by decide +kernel, rfl⟩
theorem aX11_lord_33 : decode mX11_lord.2.1 33 = .ok (.if_icmp .ne 31, 3) ∧ ((33 : Nat) : Int) + 31 = ((64 : Nat) : Int) ∧ 33 + 3 = 36 := ⟨by decide +kernel, by decide, rfl⟩
theorem aX11_lord_36 : decode mX11_lord.2.1 36 = .ok (.iload_n 2, 1) ∧ 36 + 1 = 37 := ⟨by decide +kernel, rfl⟩
theorem aX11_lord_37 : decode mX11_lord.2.1 37 = .ok (.sipush 999, 3) ∧ 37 + 3 = 40 := ⟨by decide +kernel, rfl⟩
theorem aX11_lord_40 : decode mX11_lord.2.1 40 = .ok (.invokestatic 110, 3) ∧ 40 + 3 = 43 := ⟨by decide +kernel, rfl⟩
theorem aX11_lord_43 : decode mX11_lord.2.1 43 = .ok (.ifCond .eq 21, 3) ∧ ((43 : Nat) : Int) + 21 = ((64 : Nat) : Int) ∧ 43 + 3 = 46 := ⟨by decide +kernel, by decide, rfl⟩
theorem aX11_lord_46 : decode mX11_lord.2.1 46 = .ok (.aload_n 0, 1) ∧ 46 + 1 = 47 := ⟨by decide +kernel, rfl⟩
theorem aX11_lord_47 : decode mX11_lord.2.1 47 = .ok (.getfield 83, 3) ∧ 47 + 3 = 50 := ⟨by decide +kernel, rfl⟩
theorem aX11_lord_50 : decode mX11_lord.2.1 50 = .ok (.getfield 185, 3) ∧ 50 + 3 = 53 := ⟨by decide +kernel, rfl⟩
theorem aX11_lord_53 : decode mX11_lord.2.1 53 = .ok (.istore_n 3, 1) ∧ 53 + 1 = 54 := ⟨by decide +kernel, rfl⟩
theorem aX11_lord_54 : decode mX11_lord.2.1 54 = .ok (.aload_n 0, 1) ∧ 54 + 1 = 55 := ⟨by decide +kernel, rfl⟩
theorem aX11_lord_55 : decode mX11_lord.2.1 55 = .ok (.getfield 83, 3) ∧ 55 + 3 = 58 := ⟨by decide +kernel, rfl⟩
theorem aX11_lord_58 : decode mX11_lord.2.1 58 = .ok (.iload_n 2, 1) ∧ 58 + 1 = 59 := ⟨by decide +kernel, rfl⟩
theorem aX11_lord_59 : decode mX11_lord.2.1 59 = .ok (.putfield 185, 3) ∧ 59 + 3 = 62 := ⟨by decide +kernel, rfl⟩
theorem aX11_lord_62 : decode mX11_lord.2.1 62 = .ok (.iload_n 3, 1) ∧ 62 + 1 = 63 := ⟨by decide +kernel, rfl⟩
theorem aX11_lord_63 : decode mX11_lord.2.1 63 = .ok (.ireturn, 1) := by decide +kernel
theorem aX11_lord_64 : decode mX11_lord.2.1 64 = .ok (.iconst (-1), 1) ∧ 64 + 1 = 65 := ⟨by decide +kernel, rfl⟩
theorem aX11_lord_65 : decode mX11_lord.2.1 65 = .ok (.ireturn, 1) := by decide +kernel
theorem S_X11_lord {E : EE} {d : Nat} {I : IH} {Q : QT} (x1 : Int32) (x2 : Int32) (h :
((¬ x1 = 0 → J E (d + 1) mX11_lord 31 [(0, .ref (eb E + 0)), (1, .int x1), (2, .int x2)] [] I Q) ∧
 (x1 = 0 → (Mt E d mX11_isWithin [.int x2, .int (nI 9)] I (fun rv I1 => ∃ v2 : Int32, rv = some (.int v2) ∧
 ((v2 = 0 → J E (d + 1) mX11_lord 31 [(0, .ref (eb E + 0)), (1, .int x1), (2, .int x2)] [] I1 Q) ∧
 (¬ v2 = 0 → (∀ I3 : IH, I3 = stI I1 33 4 x2 →
 Q (some (.int (I1 33 4))) I3)))))))) : Mt E (d + 1) mX11_lord [.ref (eb E + 0), .int x1, .int x2] I Q := by
  refine Mt_of [(0, .ref (eb E + 0)), (1, .int x1), (2, .int x2)] (by decide +kernel) (by simp [lg_sl, Value.category, mX11_lord]) rfl ?_
  refine J_iload_n 1 aX11_lord_0 rfl ?_
  refine J_if_ne aX11_lord_1 (fun q => ?_) (fun q => ?_)
  · replace h := h.1 q
    refine J_pick [0, 1, 2] rfl ?_
    exact h
  · replace h := h.2 q
    refine J_iload_n 2 aX11_lord_4 rfl ?_
    refine J_bipush (nI 9) aX11_lord_5 (by decide +kernel) ?_
    refine J_callS [.int x2, .int (nI 9)] [] aX11_lord_7 lkX11_110 okX11_isWithin rfl rfl (Nat.le_of_ble_eq_true rfl) (Nat.le_refl _) (Mt_mono h (fun rv I1 h => ?_))
    obtain ⟨v2, rfl, h⟩ := h
    refine J_r1 ?_
    refine J_if_eq aX11_lord_10 (fun q => ?_) (fun q => ?_)
    · replace h := h.1 q
      refine J_pick [0, 1, 2] rfl ?_
      exact h
    · replace h := h.2 q
      refine J_aload_n 0 aX11_lord_13 rfl ?_
      refine J_getR aX11_lord_14 flX11_83 sh0 rfl ?_
      refine J_getI aX11_lord_17 flX11_182 sh33 rfl ?_
      refine J_istore_n [(3, .int (I1 33 4)), (0, .ref (eb E + 0)), (1, .int x1), (2, .int x2)] aX11_lord_20 (by decide) rfl ?_
      refine J_aload_n 1 aX11_lord_21 rfl ?_
      refine J_getR aX11_lord_22 flX11_83 sh0 rfl ?_
      refine J_iload_n 3 aX11_lord_25 rfl ?_
      refine J_putI aX11_lord_26 fpX11_182 sh33 rfl (fun I3 e4 => ?_)
      replace h := h I3 e4
      refine J_iload_n 0 aX11_lord_29 rfl ?_
      exact J_iret aX11_lord_30 rfl h
theorem S_X11_lord_31 {E : EE} {d : Nat} {I : IH} {Q : QT} (x1 : Int32) (x2 : Int32) (h :
((¬ x1 = (nI 1) → Q (some (.int (-1))) I) ∧
 (x1 = (nI 1) → (Mt E d mX11_isWithin [.int x2, .int (nI 999)] I (fun rv I1 => ∃ v2 : Int32, rv = some (.int v2) ∧
 ((v2 = 0 → Q (some (.int (-1))) I1) ∧
 (¬ v2 = 0 → (∀ I3 : IH, I3 = stI I1 33 5 x2 →
 Q (some (.int (I1 33 5))) I3)))))))) : J E (d + 1) mX11_lord 31 [(0, .ref (eb E + 0)), (1, .int x1), (2, .int x2)] [] I Q := by
  refine J_iload_n 1 aX11_lord_31 rfl ?_
  refine J_iconst (nI 1) aX11_lord_32 (by decide +kernel) ?_
  refine J_icmp_ne aX11_lord_33 (fun q => ?_) (fun q => ?_)
  · replace h := h.1 q
    refine J_iconst (-1) aX11_lord_64 (by decide +kernel) ?_
    exact J_iret aX11_lord_65 rfl h
  · replace h := h.2 q
    refine J_iload_n 2 aX11_lord_36 rfl ?_
    refine J_sipush (nI 999) aX11_lord_37 (by decide +kernel) ?_
    refine J_callS [.int x2, .int (nI 999)] [] aX11_lord_40 lkX11_110 okX11_isWithin rfl rfl (Nat.le_of_ble_eq_true rfl) (Nat.le_refl _) (Mt_mono h (fun rv I1 h => ?_))
    obtain ⟨v2, rfl, h⟩ := h
    refine J_r1 ?_
    refine J_if_eq aX11_lord_43 (fun q => ?_) (fun q => ?_)
    · replace h := h.1 q
      refine J_iconst (-1) aX11_lord_64 (by decide +kernel) ?_
      exact J_iret aX11_lord_65 rfl h
    · replace h := h.2 q
      refine J_aload_n 0 aX11_lord_46 rfl ?_
      refine J_getR aX11_lord_47 flX11_83 sh0 rfl ?_
      refine J_getI aX11_lord_50 flX11_185 sh33 rfl ?_
      refine J_istore_n [(3, .int (I1 33 5)), (0, .ref (eb E + 0)), (1, .int x1), (2, .int x2)] aX11_lord_53 (by decide) rfl ?_
      refine J_aload_n 1 aX11_lord_54 rfl ?_
      refine J_getR aX11_lord_55 flX11_83 sh0 rfl ?_
      refine J_iload_n 3 aX11_lord_58 rfl ?_
      refine J_putI aX11_lord_59 fpX11_185 sh33 rfl (fun I3 e4 => ?_)
      replace h := h I3 e4
      refine J_iload_n 0 aX11_lord_62 rfl ?_
      exact J_iret aX11_lord_63 rfl h
theorem aX11_ends_0 : decode mX11_ends.2.1 0 = .ok (.iload_n 1, 1) ∧ 0 + 1 = 1 := ⟨by decide +kernel, rfl⟩
theorem aX11_ends_1 : decode mX11_ends.2.1 1 = .ok (.iconst 1, 1) ∧ 1 + 1 = 2 := ⟨by decide +kernel, rfl⟩
theorem aX11_ends_2 : decode mX11_ends.2.1 2 = .ok (.if_icmp .lt 9, 3) ∧ ((2 : Nat) : Int) + 9 = ((11 : Nat) : Int) ∧ 2 + 3 = 5 := ⟨by decide +kernel, by decide, rfl⟩
theorem aX11_ends_5 : decode mX11_ends.2.1 5 = .ok (.iload_n 1, 1) ∧ 5 + 1 = 6 := ⟨by decide +kernel, rfl⟩
theorem aX11_ends_6 : decode mX11_ends.2.1 6 = .ok (.bipush 16, 2) ∧ 6 + 2 = 8 := ⟨by decide +kernel, rfl⟩
theorem aX11_ends_8 : decode mX11_ends.2.1 8 = .ok (.if_icmp .le 5, 3) ∧ ((8 : Nat) : Int) + 5 = ((13 : Nat) : Int) ∧ 8 + 3 = 11 := ⟨by decide +kernel, by decide, rfl⟩
theorem aX11_ends_11 : decode mX11_ends.2.1 11 = .ok (.iconst (-1), 1) ∧ 11 + 1 = 12 := ⟨by decide +kernel, rfl⟩
theorem aX11_ends_12 : decode mX11_ends.2.1 12 = .ok (.ireturn, 1) := by decide +kernel
theorem aX11_ends_13 : decode mX11_ends.2.1 13 = .ok (.iload_n 1, 1) ∧ 13 + 1 = 14 := ⟨by decide +kernel, rfl⟩
theorem aX11_ends_14 : decode mX11_ends.2.1 14 = .ok (.aload_n 0, 1) ∧ 14 + 1 = 15 := ⟨by decide +kernel, rfl⟩
theorem aX11_ends_15 : decode mX11_ends.2.1 15 = .ok (.getfield 83, 3) ∧ 15 + 3 = 18 := ⟨by decide +kernel, rfl⟩
theorem aX11_ends_18 : decode mX11_ends.2.1 18 = .ok (.getfield 154, 3) ∧ 18 + 3 = 21 := ⟨by decide +kernel, rfl⟩
theorem aX11_ends_21 : decode mX11_ends.2.1 21 = .ok (.if_icmp .ge 6, 3) ∧ ((21 : Nat) : Int) + 6 = ((27 : Nat) : Int) ∧ 21 + 3 = 24 := ⟨by decide +kernel, by decide, rfl⟩
theorem aX11_ends_24 : decode mX11_ends.2.1 24 = .ok (.bipush (-4), 2) ∧ 24 + 2 = 26 := ⟨by decide +kernel, rfl⟩
theorem aX11_ends_26 : decode mX11_ends.2.1 26 = .ok (.ireturn, 1) := by decide +kernel
theorem aX11_ends_27 : decode mX11_ends.2.1 27 = .ok (.aload_n 0, 1) ∧ 27 + 1 = 28 := ⟨by decide +kernel, rfl⟩
theorem aX11_ends_28 : decode mX11_ends.2.1 28 = .ok (.getfield 83, 3) ∧ 28 + 3 = 31 := ⟨by decide +kernel, rfl⟩
theorem aX11_ends_31 : decode mX11_ends.2.1 31 = .ok (.getfield 188, 3) ∧ 31 + 3 = 34 := ⟨by decide +kernel, rfl⟩
theorem aX11_ends_34 : decode mX11_ends.2.1 34 = .ok (.istore_n 2, 1) ∧ 34 + 1 = 35 := ⟨by decide +kernel, rfl⟩
theorem aX11_ends_35 : decode mX11_ends.2.1 35 = .ok (.aload_n 0, 1) ∧ 35 + 1 = 36 := ⟨by decide +kernel, rfl⟩
theorem aX11_ends_36 : decode mX11_ends.2.1 36 = .ok (.getfield 83, 3) ∧ 36 + 3 = 39 := ⟨by decide +kernel, rfl⟩
theorem aX11_ends_39 : decode mX11_ends.2.1 39 = .ok (.iload_n 1, 1) ∧ 39 + 1 = 40 := ⟨by decide +kernel, rfl⟩
theorem aX11_ends_40 : decode mX11_ends.2.1 40 = .ok (.putfield 188, 3) ∧ 40 + 3 = 43 := ⟨by decide +kernel, rfl⟩
theorem aX11_ends_43 : decode mX11_ends.2.1 43 = .ok (.iload_n 2, 1) ∧ 43 + 1 = 44 := ⟨by decide +kernel, rfl⟩
theorem aX11_ends_44 : decode mX11_ends.2.1 44 = .ok (.ireturn, 1) := by decide +kernel
theorem S_X11_ends {E : EE} {d : Nat} {I : IH} {Q : QT} (x1 : Int32) (h :
((x1 < (nI 1) → Q (some (.int (-1))) I) ∧
 (¬ x1 < (nI 1) → ((x1 ≤ (nI 16) → (((I 33 3) ≤ x1 → (∀ I1 : IH, I1 = stI I 33 2 x1 →
 Q (some (.int (I 33 2))) I1)) ∧
 (¬ (I 33 3) ≤ x1 → Q (some (.int (-4))) I))) ∧
 (¬ x1 ≤ (nI 16) → Q (some (.int (-1))) I))))) : Mt E d mX11_ends [.ref (eb E + 0), .int x1] I Q := by
  refine Mt_of [(0, .ref (eb E + 0)), (1, .int x1)] (by decide +kernel) (by simp [lg_sl, Value.category, mX11_ends]) rfl ?_
  refine J_iload_n 1 aX11_ends_0 rfl ?_
  refine J_iconst (nI 1) aX11_ends_1 (by decide +kernel) ?_
  refine J_icmp_lt aX11_ends_2 (fun q => ?_) (fun q => ?_)
  · replace h := h.1 q
    refine J_iconst (-1) aX11_ends_11 (by decide +kernel) ?_
    exact J_iret aX11_ends_12 rfl h
  · replace h := h.2 q
    refine J_iload_n 1 aX11_ends_5 rfl ?_
    refine J_bipush (nI 16) aX11_ends_6 (by decide +kernel) ?_
    refine J_icmp_le aX11_ends_8 (fun q => ?_) (fun q => ?_)
    · replace h := h.1 q
      refine J_iload_n 1 aX11_ends_13 rfl ?_
      refine J_aload_n 0 aX11_ends_14 rfl ?_
      refine J_getR aX11_ends_15 flX11_83 sh0 rfl ?_
      refine J_getI aX11_ends_18 flX11_154 sh33 rfl ?_
      refine J_icmp_ge aX11_ends_21 (fun q => ?_) (fun q => ?_)
      · replace h := h.1 q
        refine J_aload_n 0 aX11_ends_27 rfl ?_
        refine J_getR aX11_ends_28 flX11_83 sh0 rfl ?_
        refine J_getI aX11_ends_31 flX11_188 sh33 rfl ?_
        refine J_istore_n [(2, .int (I 33 2)), (0, .ref (eb E + 0)), (1, .int x1)] aX11_ends_34 (by decide) rfl ?_
        refine J_aload_n 1 aX11_ends_35 rfl ?_
        refine J_getR aX11_ends_36 flX11_83 sh0 rfl ?_
        refine J_iload_n 2 aX11_ends_39 rfl ?_
        refine J_putI aX11_ends_40 fpX11_188 sh33 rfl (fun I1 e2 => ?_)
        replace h := h I1 e2
        refine J_iload_n 0 aX11_ends_43 rfl ?_
        exact J_iret aX11_ends_44 rfl h
      · replace h := h.2 q
        refine J_bipush (-4) aX11_ends_24 (by decide +kernel) ?_
        exact J_iret aX11_ends_26 rfl h
    · replace h := h.2 q
      refine J_iconst (-1) aX11_ends_11 (by decide +kernel) ?_
      exact J_iret aX11_ends_12 rfl h
theorem aX11_anew_0 : decode mX11_anew.2.1 0 = .ok (.aload_n 0, 1) ∧ 0 + 1 = 1 := ⟨by decide +kernel, rfl⟩
theorem aX11_anew_1 : decode mX11_anew.2.1 1 = .ok (.getfield 83, 3) ∧ 1 + 3 = 4 := ⟨by decide +kernel, rfl⟩
theorem aX11_anew_4 : decode mX11_anew.2.1 4 = .ok (.getfield 154, 3) ∧ 4 + 3 = 7 := ⟨by decide +kernel, rfl⟩
theorem aX11_anew_7 : decode mX11_anew.2.1 7 = .ok (.istore_n 1, 1) ∧ 7 + 1 = 8 := ⟨by decide +kernel, rfl⟩
theorem aX11_anew_8 : decode mX11_anew.2.1 8 = .ok (.aload_n 0, 1) ∧ 8 + 1 = 9 := ⟨by decide +kernel, rfl⟩
theorem aX11_anew_9 : decode mX11_anew.2.1 9 = .ok (.getfield 83, 3) ∧ 9 + 3 = 12 := ⟨by decide +kernel, rfl⟩
theorem aX11_anew_12 : decode mX11_anew.2.1 12 = .ok (.invokevirtual 191, 3) ∧ 12 + 3 = 15 := ⟨by decide +kernel, rfl⟩
theorem aX11_anew_15 : decode mX11_anew.2.1 15 = .ok (.iload_n 1, 1) ∧ 15 + 1 = 16 := ⟨by decide +kernel, rfl⟩
theorem aX11_anew_16 : decode mX11_anew.2.1 16 = .ok (.ireturn, 1) := by decide +kernel
theorem S_X11_anew {E : EE} {d : Nat} {I : IH} {Q : QT}  (h :
(Mt E d mX1_beginAgain [.ref (eb E + 33)] I (fun rv I1 => rv = none ∧
 Q (some (.int (I 33 3))) I1))) : Mt E (d + 1) mX11_anew [.ref (eb E + 0)] I Q := by
  refine Mt_of [(0, .ref (eb E + 0))] (by decide +kernel) (by simp [lg_sl, Value.category, mX11_anew]) rfl ?_
  refine J_aload_n 0 aX11_anew_0 rfl ?_
  refine J_getR aX11_anew_1 flX11_83 sh0 rfl ?_
  refine J_getI aX11_anew_4 flX11_154 sh33 rfl ?_
  refine J_istore_n [(1, .int (I 33 3)), (0, .ref (eb E + 0))] aX11_anew_7 (by decide) rfl ?_
  refine J_aload_n 1 aX11_anew_8 rfl ?_
  refine J_getR aX11_anew_9 flX11_83 sh0 rfl ?_
  refine J_callV [] [] aX11_anew_12 lkX11_191_X1 okX1_beginAgain sh33 rfl rfl rfl (Nat.le_of_ble_eq_true rfl) (Nat.le_refl _) (Mt_mono h (fun rv I1 h => ?_))
  obtain ⟨rfl, h⟩ := h
  refine J_r0 ?_
  refine J_iload_n 0 aX11_anew_15 rfl ?_
  exact J_iret aX11_anew_16 rfl h
theorem aX11_state_0 : decode mX11_state.2.1 0 = .ok (.iload_n 1, 1) ∧ 0 + 1 = 1 := ⟨by decide +kernel, rfl⟩
theorem aX11_state_1 : decode mX11_state.2.1 1 = .ok (.tableswitch 119 0 7 #[47, 55, 63, 71, 87, 95, 103, 111], 47) := by decide +kernel
theorem aX11_state_48 : decode mX11_state.2.1 48 = .ok (.aload_n 0, 1) ∧ 48 + 1 = 49 := ⟨by decide +kernel, rfl⟩
theorem aX11_state_49 : decode mX11_state.2.1 49 = .ok (.getfield 83, 3) ∧ 49 + 3 = 52 := ⟨by decide +kernel, rfl⟩
theorem aX11_state_52 : decode mX11_state.2.1 52 = .ok (.getfield 154, 3) ∧ 52 + 3 = 55 := ⟨by decide +kernel, rfl⟩
theorem aX11_state_55 : decode mX11_state.2.1 55 = .ok (.ireturn, 1) := by decide +kernel
theorem aX11_state_56 : decode mX11_state.2.1 56 = .ok (.aload_n 0, 1) ∧ 56 + 1 = 57 := ⟨by decide +kernel, rfl⟩
theorem aX11_state_57 : decode mX11_state.2.1 57 = .ok (.getfield 83, 3) ∧ 57 + 3 = 60 := ⟨by decide +kernel, rfl⟩
theorem aX11_state_60 : decode mX11_state.2.1 60 = .ok (.getfield 188, 3) ∧ 60 + 3 = 63 := ⟨by decide +kernel, rfl⟩
theorem aX11_state_63 : decode mX11_state.2.1 63 = .ok (.ireturn, 1) := by decide +kernel
theorem aX11_state_64 : decode mX11_state.2.1 64 = .ok (.aload_n 0, 1) ∧ 64 + 1 = 65 := ⟨by decide +kernel, rfl⟩
theorem aX11_state_65 : decode mX11_state.2.1 65 = .ok (.getfield 83, 3) ∧ 65 + 3 = 68 := ⟨by decide +kernel, rfl⟩
theorem aX11_state_68 : decode mX11_state.2.1 68 = .ok (.getfield 194, 3) ∧ 68 + 3 = 71 := ⟨by decide +kernel, rfl⟩
theorem aX11_state_71 : decode mX11_state.2.1 71 = .ok (.ireturn, 1) := by decide +kernel
theorem aX11_state_72 : decode mX11_state.2.1 72 = .ok (.aload_n 0, 1) ∧ 72 + 1 = 73 := ⟨by decide +kernel, rfl⟩
theorem aX11_state_73 : decode mX11_state.2.1 73 = .ok (.getfield 83, 3) ∧ 73 + 3 = 76 := ⟨by decide +kernel, rfl⟩
theorem aX11_state_76 : decode mX11_state.2.1 76 = .ok (.invokevirtual 197, 3) ∧ 76 + 3 = 79 := ⟨by decide +kernel, rfl⟩
theorem aX11_state_79 : decode mX11_state.2.1 79 = .ok (.ifCond .eq 7, 3) ∧ ((79 : Nat) : Int) + 7 = ((86 : Nat) : Int) ∧ 79 + 3 = 82 := ⟨by decide +kernel, by decide, rfl⟩
theorem aX11_state_82 : decode mX11_state.2.1 82 = .ok (.iconst 1, 1) ∧ 82 + 1 = 83 := ⟨by decide +kernel, rfl⟩
theorem aX11_state_83 : decode mX11_state.2.1 83 = .ok (.goto 4, 3) ∧ ((83 : Nat) : Int) + 4 = ((87 : Nat) : Int) := ⟨by decide +kernel, by decide⟩
theorem aX11_state_86 : decode mX11_state.2.1 86 = .ok (.iconst 0, 1) ∧ 86 + 1 = 87 := ⟨by decide +kernel, rfl⟩
theorem aX11_state_87 : decode mX11_state.2.1 87 = .ok (.ireturn, 1) := by decide +kernel
theorem aX11_state_88 : decode mX11_state.2.1 88 = .ok (.aload_n 0, 1) ∧ 88 + 1 = 89 := ⟨by decide +kernel, rfl⟩
theorem aX11_state_89 : decode mX11_state.2.1 89 = .ok (.getfield 83, 3) ∧ 89 + 3 = 92 := ⟨by decide +kernel, rfl⟩
theorem aX11_state_92 : decode mX11_state.2.1 92 = .ok (.getfield 143, 3) ∧ 92 + 3 = 95 := ⟨by decide +kernel, rfl⟩
theorem aX11_state_95 : decode mX11_state.2.1 95 = .ok (.ireturn, 1) := by decide +kernel
theorem aX11_state_96 : decode mX11_state.2.1 96 = .ok (.aload_n 0, 1) ∧ 96 + 1 = 97 := ⟨by decide +kernel, rfl⟩
theorem aX11_state_97 : decode mX11_state.2.1 97 = .ok (.getfield 83, 3) ∧ 97 + 3 = 100 := ⟨by decide +kernel, rfl⟩
theorem aX11_state_100 : decode mX11_state.2.1 100 = .ok (.invokevirtual 201, 3) ∧ 100 + 3 = 103 := ⟨by decide +kernel, rfl⟩
theorem aX11_state_103 : decode mX11_state.2.1 103 = .ok (.ireturn, 1) := by decide +kernel
theorem aX11_state_104 : decode mX11_state.2.1 104 = .ok (.aload_n 0, 1) ∧ 104 + 1 = 105 := ⟨by decide +kernel, rfl⟩
theorem aX11_state_105 : decode mX11_state.2.1 105 = .ok (.getfield 83, 3) ∧ 105 + 3 = 108 := ⟨by decide +kernel, rfl⟩
theorem aX11_state_108 : decode mX11_state.2.1 108 = .ok (.getfield 182, 3) ∧ 108 + 3 = 111 := ⟨by decide +kernel, rfl⟩
theorem aX11_state_111 : decode mX11_state.2.1 111 = .ok (.ireturn, 1) := by decide +kernel
theorem aX11_state_112 : decode mX11_state.2.1 112 = .ok (.aload_n 0, 1) ∧ 112 + 1 = 113 := ⟨by decide +kernel, rfl⟩
theorem aX11_state_113 : decode mX11_state.2.1 113 = .ok (.getfield 83, 3) ∧ 113 + 3 = 116 := ⟨by decide +kernel, rfl⟩
theorem aX11_state_116 : decode mX11_state.2.1 116 = .ok (.getfield 185, 3) ∧ 116 + 3 = 119 := ⟨by decide +kernel, rfl⟩
theorem aX11_state_119 : decode mX11_state.2.1 119 = .ok (.ireturn, 1) := by decide +kernel
theorem aX11_state_120 : decode mX11_state.2.1 120 = .ok (.iconst (-1), 1) ∧ 120 + 1 = 121 := ⟨by decide +kernel, rfl⟩
theorem aX11_state_121 : decode mX11_state.2.1 121 = .ok (.ireturn, 1) := by decide +kernel
theorem S_X11_state {E : EE} {d : Nat} {I : IH} {Q : QT} (x1 : Int32) (h :
((x1 = (nI 0) → Q (some (.int (I 33 3))) I) ∧
 ((x1 = (nI 1) → Q (some (.int (I 33 2))) I) ∧
 ((x1 = (nI 2) → Q (some (.int (I 33 6))) I) ∧
 ((x1 = (nI 3) → (Mt E d mX1_isOver [.ref (eb E + 33)] I (fun rv I1 => ∃ v2 : Int32, rv = some (.int v2) ∧
 ((v2 = 0 → Q (some (.int (nI 0))) I1) ∧
 (¬ v2 = 0 → Q (some (.int (nI 1))) I1))))) ∧
 ((x1 = (nI 4) → Q (some (.int (I 33 8))) I) ∧
 ((x1 = (nI 5) → (Mt E d mX1_newsNow [.ref (eb E + 33)] I (fun rv I3 => ∃ v4 : Int32, rv = some (.int v4) ∧
 Q (some (.int v4)) I3))) ∧
 ((x1 = (nI 6) → Q (some (.int (I 33 4))) I) ∧
 ((x1 = (nI 7) → Q (some (.int (I 33 5))) I) ∧
 (¬ x1 = (nI 0) ∧ ¬ x1 = (nI 1) ∧ ¬ x1 = (nI 2) ∧ ¬ x1 = (nI 3) ∧ ¬ x1 = (nI 4) ∧ ¬ x1 = (nI 5) ∧ ¬ x1 = (nI 6) ∧ ¬ x1 = (nI 7) → Q (some (.int (-1))) I)))))))))) : Mt E (d + 1) mX11_state [.ref (eb E + 0), .int x1] I Q := by
  refine Mt_of [(0, .ref (eb E + 0)), (1, .int x1)] (by decide +kernel) (by simp [lg_sl, Value.category, mX11_state]) rfl ?_
  refine J_iload_n 1 aX11_state_0 rfl ?_
  by_cases q0 : x1 = (nI 0)
  · replace h := h.1 q0
    refine J_tswIn (nI 0) aX11_state_1 (off := 47) (tgt := 48) (by decide +kernel) q0 ?_
    refine J_aload_n 0 aX11_state_48 rfl ?_
    refine J_getR aX11_state_49 flX11_83 sh0 rfl ?_
    refine J_getI aX11_state_52 flX11_154 sh33 rfl ?_
    exact J_iret aX11_state_55 rfl h
  replace h := h.2
  by_cases q1 : x1 = (nI 1)
  · replace h := h.1 q1
    refine J_tswIn (nI 1) aX11_state_1 (off := 55) (tgt := 56) (by decide +kernel) q1 ?_
    refine J_aload_n 0 aX11_state_56 rfl ?_
    refine J_getR aX11_state_57 flX11_83 sh0 rfl ?_
    refine J_getI aX11_state_60 flX11_188 sh33 rfl ?_
    exact J_iret aX11_state_63 rfl h
  replace h := h.2
  by_cases q2 : x1 = (nI 2)
  · replace h := h.1 q2
    refine J_tswIn (nI 2) aX11_state_1 (off := 63) (tgt := 64) (by decide +kernel) q2 ?_
    refine J_aload_n 0 aX11_state_64 rfl ?_
    refine J_getR aX11_state_65 flX11_83 sh0 rfl ?_
    refine J_getI aX11_state_68 flX11_194 sh33 rfl ?_
    exact J_iret aX11_state_71 rfl h
  replace h := h.2
  by_cases q3 : x1 = (nI 3)
  · replace h := h.1 q3
    refine J_tswIn (nI 3) aX11_state_1 (off := 71) (tgt := 72) (by decide +kernel) q3 ?_
    refine J_aload_n 0 aX11_state_72 rfl ?_
    refine J_getR aX11_state_73 flX11_83 sh0 rfl ?_
    refine J_callV [] [] aX11_state_76 lkX11_197_X1 okX1_isOver sh33 rfl rfl rfl (Nat.le_of_ble_eq_true rfl) (Nat.le_refl _) (Mt_mono h (fun rv I1 h => ?_))
    obtain ⟨v2, rfl, h⟩ := h
    refine J_r1 ?_
    refine J_if_eq aX11_state_79 (fun q => ?_) (fun q => ?_)
    · replace h := h.1 q
      refine J_iconst (nI 0) aX11_state_86 (by decide +kernel) ?_
      exact J_iret aX11_state_87 rfl h
    · replace h := h.2 q
      refine J_iconst (nI 1) aX11_state_82 (by decide +kernel) ?_
      refine J_goto aX11_state_83 ?_
      exact J_iret aX11_state_87 rfl h
  replace h := h.2
  by_cases q4 : x1 = (nI 4)
  · replace h := h.1 q4
    refine J_tswIn (nI 4) aX11_state_1 (off := 87) (tgt := 88) (by decide +kernel) q4 ?_
    refine J_aload_n 0 aX11_state_88 rfl ?_
    refine J_getR aX11_state_89 flX11_83 sh0 rfl ?_
    refine J_getI aX11_state_92 flX11_143 sh33 rfl ?_
    exact J_iret aX11_state_95 rfl h
  replace h := h.2
  by_cases q5 : x1 = (nI 5)
  · replace h := h.1 q5
    refine J_tswIn (nI 5) aX11_state_1 (off := 95) (tgt := 96) (by decide +kernel) q5 ?_
    refine J_aload_n 0 aX11_state_96 rfl ?_
    refine J_getR aX11_state_97 flX11_83 sh0 rfl ?_
    refine J_callV [] [] aX11_state_100 lkX11_201_X1 okX1_newsNow sh33 rfl rfl rfl (Nat.le_of_ble_eq_true rfl) (Nat.le_refl _) (Mt_mono h (fun rv I3 h => ?_))
    obtain ⟨v4, rfl, h⟩ := h
    refine J_r1 ?_
    exact J_iret aX11_state_103 rfl h
  replace h := h.2
  by_cases q6 : x1 = (nI 6)
  · replace h := h.1 q6
    refine J_tswIn (nI 6) aX11_state_1 (off := 103) (tgt := 104) (by decide +kernel) q6 ?_
    refine J_aload_n 0 aX11_state_104 rfl ?_
    refine J_getR aX11_state_105 flX11_83 sh0 rfl ?_
    refine J_getI aX11_state_108 flX11_182 sh33 rfl ?_
    exact J_iret aX11_state_111 rfl h
  replace h := h.2
  by_cases q7 : x1 = (nI 7)
  · replace h := h.1 q7
    refine J_tswIn (nI 7) aX11_state_1 (off := 111) (tgt := 112) (by decide +kernel) q7 ?_
    refine J_aload_n 0 aX11_state_112 rfl ?_
    refine J_getR aX11_state_113 flX11_83 sh0 rfl ?_
    refine J_getI aX11_state_116 flX11_185 sh33 rfl ?_
    exact J_iret aX11_state_119 rfl h
  replace h := h.2
  replace h := h ⟨q0, q1, q2, q3, q4, q5, q6, q7⟩
  refine J_tswOut aX11_state_1 (tgt := 120) (by decide) (tsw_out (fun k h1 h2 hk => by
    have hh : k = 0 ∨ k = 1 ∨ k = 2 ∨ k = 3 ∨ k = 4 ∨ k = 5 ∨ k = 6 ∨ k = 7 := by omega
    rcases hh with rfl | rfl | rfl | rfl | rfl | rfl | rfl | rfl
    · exact q0 (Int32.toInt_inj.mp (hk.trans (by decide +kernel)))
    · exact q1 (Int32.toInt_inj.mp (hk.trans (by decide +kernel)))
    · exact q2 (Int32.toInt_inj.mp (hk.trans (by decide +kernel)))
    · exact q3 (Int32.toInt_inj.mp (hk.trans (by decide +kernel)))
    · exact q4 (Int32.toInt_inj.mp (hk.trans (by decide +kernel)))
    · exact q5 (Int32.toInt_inj.mp (hk.trans (by decide +kernel)))
    · exact q6 (Int32.toInt_inj.mp (hk.trans (by decide +kernel)))
    · exact q7 (Int32.toInt_inj.mp (hk.trans (by decide +kernel)))
    )) ?_
  refine J_iconst (-1) aX11_state_120 (by decide +kernel) ?_
  exact J_iret aX11_state_121 rfl h
theorem aX11_isPane_0 : decode mX11_isPane.2.1 0 = .ok (.iload_n 1, 1) ∧ 0 + 1 = 1 := ⟨by decide +kernel, rfl⟩
theorem aX11_isPane_1 : decode mX11_isPane.2.1 1 = .ok (.ifCond .lt 18, 3) ∧ ((1 : Nat) : Int) + 18 = ((19 : Nat) : Int) ∧ 1 + 3 = 4 := ⟨by decide +kernel, by decide, rfl⟩
theorem aX11_isPane_4 : decode mX11_isPane.2.1 4 = .ok (.iload_n 1, 1) ∧ 4 + 1 = 5 := ⟨by decide +kernel, rfl⟩
theorem aX11_isPane_5 : decode mX11_isPane.2.1 5 = .ok (.aload_n 0, 1) ∧ 5 + 1 = 6 := ⟨by decide +kernel, rfl⟩
theorem aX11_isPane_6 : decode mX11_isPane.2.1 6 = .ok (.getfield 83, 3) ∧ 6 + 3 = 9 := ⟨by decide +kernel, rfl⟩
theorem aX11_isPane_9 : decode mX11_isPane.2.1 9 = .ok (.getfield 117, 3) ∧ 9 + 3 = 12 := ⟨by decide +kernel, rfl⟩
theorem aX11_isPane_12 : decode mX11_isPane.2.1 12 = .ok (.if_icmp .ge 7, 3) ∧ ((12 : Nat) : Int) + 7 = ((19 : Nat) : Int) ∧ 12 + 3 = 15 := ⟨by decide +kernel, by decide, rfl⟩
theorem aX11_isPane_15 : decode mX11_isPane.2.1 15 = .ok (.iconst 1, 1) ∧ 15 + 1 = 16 := ⟨by decide +kernel, rfl⟩
theorem aX11_isPane_16 : decode mX11_isPane.2.1 16 = .ok (.goto 4, 3) ∧ ((16 : Nat) : Int) + 4 = ((20 : Nat) : Int) := ⟨by decide +kernel, by decide⟩
theorem aX11_isPane_19 : decode mX11_isPane.2.1 19 = .ok (.iconst 0, 1) ∧ 19 + 1 = 20 := ⟨by decide +kernel, rfl⟩
theorem aX11_isPane_20 : decode mX11_isPane.2.1 20 = .ok (.ireturn, 1) := by decide +kernel
theorem S_X11_isPane {E : EE} {d : Nat} {I : IH} {Q : QT} (x1 : Int32) (h :
((x1 < 0 → Q (some (.int (nI 0))) I) ∧
 (¬ x1 < 0 → (((I 33 7) ≤ x1 → Q (some (.int (nI 0))) I) ∧
 (¬ (I 33 7) ≤ x1 → Q (some (.int (nI 1))) I))))) : Mt E d mX11_isPane [.ref (eb E + 0), .int x1] I Q := by
  refine Mt_of [(0, .ref (eb E + 0)), (1, .int x1)] (by decide +kernel) (by simp [lg_sl, Value.category, mX11_isPane]) rfl ?_
  refine J_iload_n 1 aX11_isPane_0 rfl ?_
  refine J_if_lt aX11_isPane_1 (fun q => ?_) (fun q => ?_)
  · replace h := h.1 q
    refine J_iconst (nI 0) aX11_isPane_19 (by decide +kernel) ?_
    exact J_zret aX11_isPane_20 rfl (by decide +kernel) h
  · replace h := h.2 q
    refine J_iload_n 1 aX11_isPane_4 rfl ?_
    refine J_aload_n 0 aX11_isPane_5 rfl ?_
    refine J_getR aX11_isPane_6 flX11_83 sh0 rfl ?_
    refine J_getI aX11_isPane_9 flX11_117 sh33 rfl ?_
    refine J_icmp_ge aX11_isPane_12 (fun q => ?_) (fun q => ?_)
    · replace h := h.1 q
      refine J_iconst (nI 0) aX11_isPane_19 (by decide +kernel) ?_
      exact J_zret aX11_isPane_20 rfl (by decide +kernel) h
    · replace h := h.2 q
      refine J_iconst (nI 1) aX11_isPane_15 (by decide +kernel) ?_
      refine J_goto aX11_isPane_16 ?_
      exact J_zret aX11_isPane_20 rfl (by decide +kernel) h
theorem aX11_isPaneKind_0 : decode mX11_isPaneKind.2.1 0 = .ok (.iload_n 0, 1) ∧ 0 + 1 = 1 := ⟨by decide +kernel, rfl⟩
theorem aX11_isPaneKind_1 : decode mX11_isPaneKind.2.1 1 = .ok (.iconst 1, 1) ∧ 1 + 1 = 2 := ⟨by decide +kernel, rfl⟩
theorem aX11_isPaneKind_2 : decode mX11_isPaneKind.2.1 2 = .ok (.if_icmp .lt 12, 3) ∧ ((2 : Nat) : Int) + 12 = ((14 : Nat) : Int) ∧ 2 + 3 = 5 := ⟨by decide +kernel, by decide, rfl⟩
theorem aX11_isPaneKind_5 : decode mX11_isPaneKind.2.1 5 = .ok (.iload_n 0, 1) ∧ 5 + 1 = 6 := ⟨by decide +kernel, rfl⟩
theorem aX11_isPaneKind_6 : decode mX11_isPaneKind.2.1 6 = .ok (.iconst 5, 1) ∧ 6 + 1 = 7 := ⟨by decide +kernel, rfl⟩
theorem aX11_isPaneKind_7 : decode mX11_isPaneKind.2.1 7 = .ok (.if_icmp .gt 7, 3) ∧ ((7 : Nat) : Int) + 7 = ((14 : Nat) : Int) ∧ 7 + 3 = 10 := ⟨by decide +kernel, by decide, rfl⟩
theorem aX11_isPaneKind_10 : decode mX11_isPaneKind.2.1 10 = .ok (.iconst 1, 1) ∧ 10 + 1 = 11 := ⟨by decide +kernel, rfl⟩
theorem aX11_isPaneKind_11 : decode mX11_isPaneKind.2.1 11 = .ok (.goto 4, 3) ∧ ((11 : Nat) : Int) + 4 = ((15 : Nat) : Int) := ⟨by decide +kernel, by decide⟩
theorem aX11_isPaneKind_14 : decode mX11_isPaneKind.2.1 14 = .ok (.iconst 0, 1) ∧ 14 + 1 = 15 := ⟨by decide +kernel, rfl⟩
theorem aX11_isPaneKind_15 : decode mX11_isPaneKind.2.1 15 = .ok (.ireturn, 1) := by decide +kernel
theorem S_X11_isPaneKind {E : EE} {d : Nat} {I : IH} {Q : QT} (x0 : Int32) (h :
((x0 < (nI 1) → Q (some (.int (nI 0))) I) ∧
 (¬ x0 < (nI 1) → (((nI 5) < x0 → Q (some (.int (nI 0))) I) ∧
 (¬ (nI 5) < x0 → Q (some (.int (nI 1))) I))))) : Mt E d mX11_isPaneKind [.int x0] I Q := by
  refine Mt_of [(0, .int x0)] (by decide +kernel) (by simp [lg_sl, Value.category, mX11_isPaneKind]) rfl ?_
  refine J_iload_n 0 aX11_isPaneKind_0 rfl ?_
  refine J_iconst (nI 1) aX11_isPaneKind_1 (by decide +kernel) ?_
  refine J_icmp_lt aX11_isPaneKind_2 (fun q => ?_) (fun q => ?_)
  · replace h := h.1 q
    refine J_iconst (nI 0) aX11_isPaneKind_14 (by decide +kernel) ?_
    exact J_zret aX11_isPaneKind_15 rfl (by decide +kernel) h
  · replace h := h.2 q
    refine J_iload_n 0 aX11_isPaneKind_5 rfl ?_
    refine J_iconst (nI 5) aX11_isPaneKind_6 (by decide +kernel) ?_
    refine J_icmp_gt aX11_isPaneKind_7 (fun q => ?_) (fun q => ?_)
    · replace h := h.1 q
      refine J_iconst (nI 0) aX11_isPaneKind_14 (by decide +kernel) ?_
      exact J_zret aX11_isPaneKind_15 rfl (by decide +kernel) h
    · replace h := h.2 q
      refine J_iconst (nI 1) aX11_isPaneKind_10 (by decide +kernel) ?_
      refine J_goto aX11_isPaneKind_11 ?_
      exact J_zret aX11_isPaneKind_15 rfl (by decide +kernel) h
theorem aX11_isWard_0 : decode mX11_isWard.2.1 0 = .ok (.iload_n 0, 1) ∧ 0 + 1 = 1 := ⟨by decide +kernel, rfl⟩
theorem aX11_isWard_1 : decode mX11_isWard.2.1 1 = .ok (.ifCond .lt 13, 3) ∧ ((1 : Nat) : Int) + 13 = ((14 : Nat) : Int) ∧ 1 + 3 = 4 := ⟨by decide +kernel, by decide, rfl⟩
theorem aX11_isWard_4 : decode mX11_isWard.2.1 4 = .ok (.iload_n 0, 1) ∧ 4 + 1 = 5 := ⟨by decide +kernel, rfl⟩
theorem aX11_isWard_5 : decode mX11_isWard.2.1 5 = .ok (.bipush 6, 2) ∧ 5 + 2 = 7 := ⟨by decide +kernel, rfl⟩
theorem aX11_isWard_7 : decode mX11_isWard.2.1 7 = .ok (.if_icmp .ge 7, 3) ∧ ((7 : Nat) : Int) + 7 = ((14 : Nat) : Int) ∧ 7 + 3 = 10 := ⟨by decide +kernel, by decide, rfl⟩
theorem aX11_isWard_10 : decode mX11_isWard.2.1 10 = .ok (.iconst 1, 1) ∧ 10 + 1 = 11 := ⟨by decide +kernel, rfl⟩
theorem aX11_isWard_11 : decode mX11_isWard.2.1 11 = .ok (.goto 4, 3) ∧ ((11 : Nat) : Int) + 4 = ((15 : Nat) : Int) := ⟨by decide +kernel, by decide⟩
theorem aX11_isWard_14 : decode mX11_isWard.2.1 14 = .ok (.iconst 0, 1) ∧ 14 + 1 = 15 := ⟨by decide +kernel, rfl⟩
theorem aX11_isWard_15 : decode mX11_isWard.2.1 15 = .ok (.ireturn, 1) := by decide +kernel
theorem S_X11_isWard {E : EE} {d : Nat} {I : IH} {Q : QT} (x0 : Int32) (h :
((x0 < 0 → Q (some (.int (nI 0))) I) ∧
 (¬ x0 < 0 → (((nI 6) ≤ x0 → Q (some (.int (nI 0))) I) ∧
 (¬ (nI 6) ≤ x0 → Q (some (.int (nI 1))) I))))) : Mt E d mX11_isWard [.int x0] I Q := by
  refine Mt_of [(0, .int x0)] (by decide +kernel) (by simp [lg_sl, Value.category, mX11_isWard]) rfl ?_
  refine J_iload_n 0 aX11_isWard_0 rfl ?_
  refine J_if_lt aX11_isWard_1 (fun q => ?_) (fun q => ?_)
  · replace h := h.1 q
    refine J_iconst (nI 0) aX11_isWard_14 (by decide +kernel) ?_
    exact J_zret aX11_isWard_15 rfl (by decide +kernel) h
  · replace h := h.2 q
    refine J_iload_n 0 aX11_isWard_4 rfl ?_
    refine J_bipush (nI 6) aX11_isWard_5 (by decide +kernel) ?_
    refine J_icmp_ge aX11_isWard_7 (fun q => ?_) (fun q => ?_)
    · replace h := h.1 q
      refine J_iconst (nI 0) aX11_isWard_14 (by decide +kernel) ?_
      exact J_zret aX11_isWard_15 rfl (by decide +kernel) h
    · replace h := h.2 q
      refine J_iconst (nI 1) aX11_isWard_10 (by decide +kernel) ?_
      refine J_goto aX11_isWard_11 ?_
      exact J_zret aX11_isWard_15 rfl (by decide +kernel) h
theorem aX11_isWithin_0 : decode mX11_isWithin.2.1 0 = .ok (.iload_n 0, 1) ∧ 0 + 1 = 1 := ⟨by decide +kernel, rfl⟩
theorem aX11_isWithin_1 : decode mX11_isWithin.2.1 1 = .ok (.ifCond .lt 12, 3) ∧ ((1 : Nat) : Int) + 12 = ((13 : Nat) : Int) ∧ 1 + 3 = 4 := ⟨by decide +kernel, by decide, rfl⟩
theorem aX11_isWithin_4 : decode mX11_isWithin.2.1 4 = .ok (.iload_n 0, 1) ∧ 4 + 1 = 5 := ⟨by decide +kernel, rfl⟩
theorem aX11_isWithin_5 : decode mX11_isWithin.2.1 5 = .ok (.iload_n 1, 1) ∧ 5 + 1 = 6 := ⟨by decide +kernel, rfl⟩
theorem aX11_isWithin_6 : decode mX11_isWithin.2.1 6 = .ok (.if_icmp .gt 7, 3) ∧ ((6 : Nat) : Int) + 7 = ((13 : Nat) : Int) ∧ 6 + 3 = 9 := ⟨by decide +kernel, by decide, rfl⟩
theorem aX11_isWithin_9 : decode mX11_isWithin.2.1 9 = .ok (.iconst 1, 1) ∧ 9 + 1 = 10 := ⟨by decide +kernel, rfl⟩
theorem aX11_isWithin_10 : decode mX11_isWithin.2.1 10 = .ok (.goto 4, 3) ∧ ((10 : Nat) : Int) + 4 = ((14 : Nat) : Int) := ⟨by decide +kernel, by decide⟩
theorem aX11_isWithin_13 : decode mX11_isWithin.2.1 13 = .ok (.iconst 0, 1) ∧ 13 + 1 = 14 := ⟨by decide +kernel, rfl⟩
theorem aX11_isWithin_14 : decode mX11_isWithin.2.1 14 = .ok (.ireturn, 1) := by decide +kernel
theorem S_X11_isWithin {E : EE} {d : Nat} {I : IH} {Q : QT} (x0 : Int32) (x1 : Int32) (h :
((x0 < 0 → Q (some (.int (nI 0))) I) ∧
 (¬ x0 < 0 → ((x1 < x0 → Q (some (.int (nI 0))) I) ∧
 (¬ x1 < x0 → Q (some (.int (nI 1))) I))))) : Mt E d mX11_isWithin [.int x0, .int x1] I Q := by
  refine Mt_of [(0, .int x0), (1, .int x1)] (by decide +kernel) (by simp [lg_sl, Value.category, mX11_isWithin]) rfl ?_
  refine J_iload_n 0 aX11_isWithin_0 rfl ?_
  refine J_if_lt aX11_isWithin_1 (fun q => ?_) (fun q => ?_)
  · replace h := h.1 q
    refine J_iconst (nI 0) aX11_isWithin_13 (by decide +kernel) ?_
    exact J_zret aX11_isWithin_14 rfl (by decide +kernel) h
  · replace h := h.2 q
    refine J_iload_n 0 aX11_isWithin_4 rfl ?_
    refine J_iload_n 1 aX11_isWithin_5 rfl ?_
    refine J_icmp_gt aX11_isWithin_6 (fun q => ?_) (fun q => ?_)
    · replace h := h.1 q
      refine J_iconst (nI 0) aX11_isWithin_13 (by decide +kernel) ?_
      exact J_zret aX11_isWithin_14 rfl (by decide +kernel) h
    · replace h := h.2 q
      refine J_iconst (nI 1) aX11_isWithin_9 (by decide +kernel) ?_
      refine J_goto aX11_isWithin_10 ?_
      exact J_zret aX11_isWithin_14 rfl (by decide +kernel) h
theorem aX11_put_0 : decode mX11_put.2.1 0 = .ok (.iload_n 1, 1) ∧ 0 + 1 = 1 := ⟨by decide +kernel, rfl⟩
theorem aX11_put_1 : decode mX11_put.2.1 1 = .ok (.ifCond .lt 17, 3) ∧ ((1 : Nat) : Int) + 17 = ((18 : Nat) : Int) ∧ 1 + 3 = 4 := ⟨by decide +kernel, by decide, rfl⟩
theorem aX11_put_4 : decode mX11_put.2.1 4 = .ok (.iload_n 1, 1) ∧ 4 + 1 = 5 := ⟨by decide +kernel, rfl⟩
theorem aX11_put_5 : decode mX11_put.2.1 5 = .ok (.aload_n 0, 1) ∧ 5 + 1 = 6 := ⟨by decide +kernel, rfl⟩
theorem aX11_put_6 : decode mX11_put.2.1 6 = .ok (.arraylength, 1) ∧ 6 + 1 = 7 := ⟨by decide +kernel, rfl⟩
theorem aX11_put_7 : decode mX11_put.2.1 7 = .ok (.if_icmp .ge 11, 3) ∧ ((7 : Nat) : Int) + 11 = ((18 : Nat) : Int) ∧ 7 + 3 = 10 := ⟨by decide +kernel, by decide, rfl⟩
theorem aX11_put_10 : decode mX11_put.2.1 10 = .ok (.iload_n 2, 1) ∧ 10 + 1 = 11 := ⟨by decide +kernel, rfl⟩
theorem aX11_put_11 : decode mX11_put.2.1 11 = .ok (.iload_n 3, 1) ∧ 11 + 1 = 12 := ⟨by decide +kernel, rfl⟩
theorem aX11_put_12 : decode mX11_put.2.1 12 = .ok (.invokestatic 110, 3) ∧ 12 + 3 = 15 := ⟨by decide +kernel, rfl⟩
theorem aX11_put_15 : decode mX11_put.2.1 15 = .ok (.ifCond .ne 5, 3) ∧ ((15 : Nat) : Int) + 5 = ((20 : Nat) : Int) ∧ 15 + 3 = 18 := ⟨by decide +kernel, by decide, rfl⟩
theorem aX11_put_18 : decode mX11_put.2.1 18 = .ok (.iconst (-1), 1) ∧ 18 + 1 = 19 := ⟨by decide +kernel, rfl⟩
theorem aX11_put_19 : decode mX11_put.2.1 19 = .ok (.ireturn, 1) := by decide +kernel
theorem aX11_put_20 : decode mX11_put.2.1 20 = .ok (.aload_n 0, 1) ∧ 20 + 1 = 21 := ⟨by decide +kernel, rfl⟩
theorem aX11_put_21 : decode mX11_put.2.1 21 = .ok (.iload_n 1, 1) ∧ 21 + 1 = 22 := ⟨by decide +kernel, rfl⟩
theorem aX11_put_22 : decode mX11_put.2.1 22 = .ok (.iaload, 1) ∧ 22 + 1 = 23 := ⟨by decide +kernel, rfl⟩
theorem aX11_put_23 : decode mX11_put.2.1 23 = .ok (.istore 4, 2) ∧ 23 + 2 = 25 := ⟨by decide +kernel, rfl⟩
theorem aX11_put_25 : decode mX11_put.2.1 25 = .ok (.aload_n 0, 1) ∧ 25 + 1 = 26 := ⟨by decide +kernel, rfl⟩
theorem aX11_put_26 : decode mX11_put.2.1 26 = .ok (.iload_n 1, 1) ∧ 26 + 1 = 27 := ⟨by decide +kernel, rfl⟩
theorem aX11_put_27 : decode mX11_put.2.1 27 = .ok (.iload_n 2, 1) ∧ 27 + 1 = 28 := ⟨by decide +kernel, rfl⟩
theorem aX11_put_28 : decode mX11_put.2.1 28 = .ok (.iastore, 1) ∧ 28 + 1 = 29 := ⟨by decide +kernel, rfl⟩
theorem aX11_put_29 : decode mX11_put.2.1 29 = .ok (.iload 4, 2) ∧ 29 + 2 = 31 := ⟨by decide +kernel, rfl⟩
theorem aX11_put_31 : decode mX11_put.2.1 31 = .ok (.ireturn, 1) := by decide +kernel
theorem S_X11_put {E : EE} {d : Nat} {I : IH} {Q : QT} {o0 n0 : Nat} (hs0 : shape[o0]? = some (.inr (0, n0, []))) (hn0 : n0 < 2 ^ 30) (x1 : Int32) (x2 : Int32) (x3 : Int32) (h :
((x1 < 0 → Q (some (.int (-1))) I) ∧
 (¬ x1 < 0 → (((nI n0) ≤ x1 → Q (some (.int (-1))) I) ∧
 (¬ (nI n0) ≤ x1 → (Mt E d mX11_isWithin [.int x2, .int x3] I (fun rv I1 => ∃ v2 : Int32, rv = some (.int v2) ∧
 ((¬ v2 = 0 → (∃ j3 : Nat, x1 = nI j3 ∧ j3 < n0 ∧ (∃ j8 : Nat, x1 = nI j8 ∧ j8 < n0 ∧ (∀ I6 : IH, I6 = stI I1 o0 j8 x2 →
 Q (some (.int (I1 o0 j3))) I6)))) ∧
 (v2 = 0 → Q (some (.int (-1))) I1))))))))) : Mt E (d + 1) mX11_put [.ref (eb E + o0), .int x1, .int x2, .int x3] I Q := by
  refine Mt_of [(0, .ref (eb E + o0)), (1, .int x1), (2, .int x2), (3, .int x3)] (by decide +kernel) (by simp [lg_sl, Value.category, mX11_put]) rfl ?_
  refine J_iload_n 1 aX11_put_0 rfl ?_
  refine J_if_lt aX11_put_1 (fun q => ?_) (fun q => ?_)
  · replace h := h.1 q
    refine J_iconst (-1) aX11_put_18 (by decide +kernel) ?_
    exact J_iret aX11_put_19 rfl h
  · replace h := h.2 q
    refine J_iload_n 1 aX11_put_4 rfl ?_
    refine J_aload_n 0 aX11_put_5 rfl ?_
    refine J_alen (v := nI n0) aX11_put_6 hs0 (by decide) rfl ?_
    refine J_icmp_ge aX11_put_7 (fun q => ?_) (fun q => ?_)
    · replace h := h.1 q
      refine J_iconst (-1) aX11_put_18 (by decide +kernel) ?_
      exact J_iret aX11_put_19 rfl h
    · replace h := h.2 q
      refine J_iload_n 2 aX11_put_10 rfl ?_
      refine J_iload_n 3 aX11_put_11 rfl ?_
      refine J_callS [.int x2, .int x3] [] aX11_put_12 lkX11_110 okX11_isWithin rfl rfl (Nat.le_of_ble_eq_true rfl) (Nat.le_refl _) (Mt_mono h (fun rv I1 h => ?_))
      obtain ⟨v2, rfl, h⟩ := h
      refine J_r1 ?_
      refine J_if_ne aX11_put_15 (fun q => ?_) (fun q => ?_)
      · replace h := h.1 q
        refine J_aload_n 0 aX11_put_20 rfl ?_
        refine J_iload_n 1 aX11_put_21 rfl ?_
        obtain ⟨j3, e4, b5, h⟩ := h
        refine J_iaload j3 aX11_put_22 hs0 e4 b5 (by omega) ?_
        refine J_istore [(4, .int (I1 o0 j3)), (0, .ref (eb E + o0)), (1, .int x1), (2, .int x2), (3, .int x3)] aX11_put_23 (by decide) rfl ?_
        refine J_aload_n 1 aX11_put_25 rfl ?_
        refine J_iload_n 2 aX11_put_26 rfl ?_
        refine J_iload_n 3 aX11_put_27 rfl ?_
        obtain ⟨j8, e9, b10, h⟩ := h
        refine J_iastore j8 aX11_put_28 hs0 e9 b10 (by omega) (fun I6 e7 => ?_)
        replace h := h I6 e7
        refine J_iload 0 aX11_put_29 rfl ?_
        exact J_iret aX11_put_31 rfl h
      · replace h := h.2 q
        refine J_iconst (-1) aX11_put_18 (by decide +kernel) ?_
        exact J_iret aX11_put_19 rfl h
theorem aX11_feed_0 : decode mX11_feed.2.1 0 = .ok (.iload_n 3, 1) ∧ 0 + 1 = 1 := ⟨by decide +kernel, rfl⟩
theorem aX11_feed_1 : decode mX11_feed.2.1 1 = .ok (.iconst 1, 1) ∧ 1 + 1 = 2 := ⟨by decide +kernel, rfl⟩
theorem aX11_feed_2 : decode mX11_feed.2.1 2 = .ok (.if_icmp .lt 9, 3) ∧ ((2 : Nat) : Int) + 9 = ((11 : Nat) : Int) ∧ 2 + 3 = 5 := ⟨by decide +kernel, by decide, rfl⟩
theorem aX11_feed_5 : decode mX11_feed.2.1 5 = .ok (.iload_n 3, 1) ∧ 5 + 1 = 6 := ⟨by decide +kernel, rfl⟩
theorem aX11_feed_6 : decode mX11_feed.2.1 6 = .ok (.bipush 8, 2) ∧ 6 + 2 = 8 := ⟨by decide +kernel, rfl⟩
theorem aX11_feed_8 : decode mX11_feed.2.1 8 = .ok (.if_icmp .le 5, 3) ∧ ((8 : Nat) : Int) + 5 = ((13 : Nat) : Int) ∧ 8 + 3 = 11 := ⟨by decide +kernel, by decide, rfl⟩
theorem aX11_feed_11 : decode mX11_feed.2.1 11 = .ok (.iconst (-1), 1) ∧ 11 + 1 = 12 := ⟨by decide +kernel, rfl⟩
theorem aX11_feed_12 : decode mX11_feed.2.1 12 = .ok (.ireturn, 1) := by decide +kernel
theorem aX11_feed_13 : decode mX11_feed.2.1 13 = .ok (.aload_n 0, 1) ∧ 13 + 1 = 14 := ⟨by decide +kernel, rfl⟩
theorem aX11_feed_14 : decode mX11_feed.2.1 14 = .ok (.getfield 16, 3) ∧ 14 + 3 = 17 := ⟨by decide +kernel, rfl⟩
theorem aX11_feed_17 : decode mX11_feed.2.1 17 = .ok (.getfield 205, 3) ∧ 17 + 3 = 20 := ⟨by decide +kernel, rfl⟩
theorem aX11_feed_20 : decode mX11_feed.2.1 20 = .ok (.iload_n 3, 1) ∧ 20 + 1 = 21 := ⟨by decide +kernel, rfl⟩
theorem aX11_feed_21 : decode mX11_feed.2.1 21 = .ok (.iadd, 1) ∧ 21 + 1 = 22 := ⟨by decide +kernel, rfl⟩
theorem aX11_feed_22 : decode mX11_feed.2.1 22 = .ok (.sipush 200, 3) ∧ 22 + 3 = 25 := ⟨by decide +kernel, rfl⟩
theorem aX11_feed_25 : decode mX11_feed.2.1 25 = .ok (.if_icmp .le 6, 3) ∧ ((25 : Nat) : Int) + 6 = ((31 : Nat) : Int) ∧ 25 + 3 = 28 := ⟨by decide +kernel, by decide, rfl⟩
theorem aX11_feed_28 : decode mX11_feed.2.1 28 = .ok (.bipush (-2), 2) ∧ 28 + 2 = 30 := ⟨by decide +kernel, rfl⟩
theorem aX11_feed_30 : decode mX11_feed.2.1 30 = .ok (.ireturn, 1) := by decide +kernel
theorem aX11_feed_31 : decode mX11_feed.2.1 31 = .ok (.iconst 0, 1) ∧ 31 + 1 = 32 := ⟨by decide +kernel, rfl⟩
theorem aX11_feed_32 : decode mX11_feed.2.1 32 = .ok (.istore 4, 2) ∧ 32 + 2 = 34 := ⟨by decide +kernel, rfl⟩
theorem aX11_feed_34 : decode mX11_feed.2.1 34 = .ok (.iload 4, 2) ∧ 34 + 2 = 36 := ⟨by decide +kernel, rfl⟩
theorem aX11_feed_36 : decode mX11_feed.2.1 36 = .ok (.iload_n 3, 1) ∧ 36 + 1 = 37 := ⟨by decide +kernel, rfl⟩
theorem aX11_feed_37 : decode mX11_feed.2.1 37 = .ok (.if_icmp .ge 25, 3) ∧ ((37 : Nat) : Int) + 25 = ((62 : Nat) : Int) ∧ 37 + 3 = 40 := ⟨by decide +kernel, by decide, rfl⟩
theorem aX11_feed_40 : decode mX11_feed.2.1 40 = .ok (.aload_n 0, 1) ∧ 40 + 1 = 41 := ⟨by decide +kernel, rfl⟩
theorem aX11_feed_41 : decode mX11_feed.2.1 41 = .ok (.getfield 16, 3) ∧ 41 + 3 = 44 := ⟨by decide +kernel, rfl⟩
theorem aX11_feed_44 : decode mX11_feed.2.1 44 = .ok (.lload_n 1, 1) ∧ 44 + 1 = 45 := ⟨by decide +kernel, rfl⟩
theorem aX11_feed_45 : decode mX11_feed.2.1 45 = .ok (.bipush 8, 2) ∧ 45 + 2 = 47 := ⟨by decide +kernel, rfl⟩
theorem aX11_feed_47 : decode mX11_feed.2.1 47 = .ok (.iload 4, 2) ∧ 47 + 2 = 49 := ⟨by decide +kernel, rfl⟩
theorem aX11_feed_49 : decode mX11_feed.2.1 49 = .ok (.imul, 1) ∧ 49 + 1 = 50 := ⟨by decide +kernel, rfl⟩
theorem aX11_feed_50 : decode mX11_feed.2.1 50 = .ok (.lushr, 1) ∧ 50 + 1 = 51 := ⟨by decide +kernel, rfl⟩
theorem aX11_feed_51 : decode mX11_feed.2.1 51 = .ok (.l2i, 1) ∧ 51 + 1 = 52 := ⟨by decide +kernel, rfl⟩
theorem aX11_feed_52 : decode mX11_feed.2.1 52 = .ok (.i2b, 1) ∧ 52 + 1 = 53 := ⟨by decide +kernel, rfl⟩
theorem aX11_feed_53 : decode mX11_feed.2.1 53 = .ok (.invokevirtual 208, 3) ∧ 53 + 3 = 56 := ⟨by decide +kernel, rfl⟩
theorem aX11_feed_56 : decode mX11_feed.2.1 56 = .ok (.iinc 4 1, 3) ∧ 56 + 3 = 59 := ⟨by decide +kernel, rfl⟩
theorem aX11_feed_59 : decode mX11_feed.2.1 59 = .ok (.goto (-25), 3) ∧ ((59 : Nat) : Int) + (-25) = ((34 : Nat) : Int) := ⟨by decide +kernel, by decide⟩
theorem aX11_feed_62 : decode mX11_feed.2.1 62 = .ok (.aload_n 0, 1) ∧ 62 + 1 = 63 := ⟨by decide +kernel, rfl⟩
theorem aX11_feed_63 : decode mX11_feed.2.1 63 = .ok (.getfield 16, 3) ∧ 63 + 3 = 66 := ⟨by decide +kernel, rfl⟩
theorem aX11_feed_66 : decode mX11_feed.2.1 66 = .ok (.getfield 205, 3) ∧ 66 + 3 = 69 := ⟨by decide +kernel, rfl⟩
theorem aX11_feed_69 : decode mX11_feed.2.1 69 = .ok (.ireturn, 1) := by decide +kernel
theorem S_X11_feed {E : EE} {d : Nat} {I : IH} {Q : QT} (x1 : Int64) (x3 : Int32) (h :
((x3 < (nI 1) → Q (some (.int (-1))) I) ∧
 (¬ x3 < (nI 1) → ((x3 ≤ (nI 8) → ((((I 1 0) + x3) ≤ (nI 200) → J E (d + 1) mX11_feed 34 [(0, .ref (eb E + 0)), (1, .long x1), (3, .int x3), (4, .int (nI 0))] [] I Q) ∧
 (¬ ((I 1 0) + x3) ≤ (nI 200) → Q (some (.int (-2))) I))) ∧
 (¬ x3 ≤ (nI 8) → Q (some (.int (-1))) I))))) : Mt E (d + 1) mX11_feed [.ref (eb E + 0), .long x1, .int x3] I Q := by
  refine Mt_of [(0, .ref (eb E + 0)), (1, .long x1), (3, .int x3)] (by decide +kernel) (by simp [lg_sl, Value.category, mX11_feed]) rfl ?_
  refine J_iload_n 2 aX11_feed_0 rfl ?_
  refine J_iconst (nI 1) aX11_feed_1 (by decide +kernel) ?_
  refine J_icmp_lt aX11_feed_2 (fun q => ?_) (fun q => ?_)
  · replace h := h.1 q
    refine J_iconst (-1) aX11_feed_11 (by decide +kernel) ?_
    exact J_iret aX11_feed_12 rfl h
  · replace h := h.2 q
    refine J_iload_n 2 aX11_feed_5 rfl ?_
    refine J_bipush (nI 8) aX11_feed_6 (by decide +kernel) ?_
    refine J_icmp_le aX11_feed_8 (fun q => ?_) (fun q => ?_)
    · replace h := h.1 q
      refine J_aload_n 0 aX11_feed_13 rfl ?_
      refine J_getR aX11_feed_14 flX11_16 sh0 rfl ?_
      refine J_getI aX11_feed_17 flX11_205 sh1 rfl ?_
      refine J_iload_n 2 aX11_feed_20 rfl ?_
      refine J_iadd aX11_feed_21 ?_
      refine J_sipush (nI 200) aX11_feed_22 (by decide +kernel) ?_
      refine J_icmp_le aX11_feed_25 (fun q => ?_) (fun q => ?_)
      · replace h := h.1 q
        refine J_iconst (nI 0) aX11_feed_31 (by decide +kernel) ?_
        refine J_istore [(4, .int (nI 0)), (0, .ref (eb E + 0)), (1, .long x1), (3, .int x3)] aX11_feed_32 (by decide) rfl ?_
        refine J_pick [1, 2, 3, 0] rfl ?_
        exact h
      · replace h := h.2 q
        refine J_bipush (-2) aX11_feed_28 (by decide +kernel) ?_
        exact J_iret aX11_feed_30 rfl h
    · replace h := h.2 q
      refine J_iconst (-1) aX11_feed_11 (by decide +kernel) ?_
      exact J_iret aX11_feed_12 rfl h
theorem S_X11_feed_34 {E : EE} {d : Nat} {I : IH} {Q : QT} (x1 : Int64) (x3 : Int32) (x4 : Int32) (h :
((x3 ≤ x4 → Q (some (.int (I 1 0))) I) ∧
 (¬ x3 ≤ x4 → (Mt E d mX9_take [.ref (eb E + 1), .int (((x1.toUInt64 >>> (((nI 8) * x4).toInt64.toUInt64 &&& Int64.toUInt64 63)).toInt64.toInt32).toInt8.toInt32)] I (fun rv I1 => rv = none ∧
 J E (d + 1) mX11_feed 34 [(0, .ref (eb E + 0)), (1, .long x1), (3, .int x3), (4, .int (x4 + nI 1))] [] I1 Q))))) : J E (d + 1) mX11_feed 34 [(0, .ref (eb E + 0)), (1, .long x1), (3, .int x3), (4, .int x4)] [] I Q := by
  refine J_iload 3 aX11_feed_34 rfl ?_
  refine J_iload_n 2 aX11_feed_36 rfl ?_
  refine J_icmp_ge aX11_feed_37 (fun q => ?_) (fun q => ?_)
  · replace h := h.1 q
    refine J_aload_n 0 aX11_feed_62 rfl ?_
    refine J_getR aX11_feed_63 flX11_16 sh0 rfl ?_
    refine J_getI aX11_feed_66 flX11_205 sh1 rfl ?_
    exact J_iret aX11_feed_69 rfl h
  · replace h := h.2 q
    refine J_aload_n 0 aX11_feed_40 rfl ?_
    refine J_getR aX11_feed_41 flX11_16 sh0 rfl ?_
    refine J_lload_n 1 aX11_feed_44 rfl ?_
    refine J_bipush (nI 8) aX11_feed_45 (by decide +kernel) ?_
    refine J_iload 3 aX11_feed_47 rfl ?_
    refine J_imul aX11_feed_49 ?_
    refine J_lushr aX11_feed_50 ?_
    refine J_l2i aX11_feed_51 ?_
    refine J_i2b aX11_feed_52 ?_
    refine J_callV [.int (((x1.toUInt64 >>> (((nI 8) * x4).toInt64.toUInt64 &&& Int64.toUInt64 63)).toInt64.toInt32).toInt8.toInt32)] [] aX11_feed_53 lkX11_208_X9 okX9_take sh1 rfl rfl rfl (Nat.le_of_ble_eq_true rfl) (Nat.le_refl _) (Mt_mono h (fun rv I1 h => ?_))
    obtain ⟨rfl, h⟩ := h
    refine J_r0 ?_
    refine J_iinc (x4 + nI 1) [(4, .int (x4 + nI 1)), (0, .ref (eb E + 0)), (1, .long x1), (3, .int x3)] 3 aX11_feed_56 rfl (by first | rfl | (congr 1; decide +kernel)) (by decide) rfl ?_
    refine J_goto aX11_feed_59 ?_
    refine J_pick [1, 2, 3, 0] rfl ?_
    exact h
theorem aX11_rules_0 : decode mX11_rules.2.1 0 = .ok (.aload_n 0, 1) ∧ 0 + 1 = 1 := ⟨by decide +kernel, rfl⟩
theorem aX11_rules_1 : decode mX11_rules.2.1 1 = .ok (.getfield 16, 3) ∧ 1 + 3 = 4 := ⟨by decide +kernel, rfl⟩
theorem aX11_rules_4 : decode mX11_rules.2.1 4 = .ok (.aload_n 0, 1) ∧ 4 + 1 = 5 := ⟨by decide +kernel, rfl⟩
theorem aX11_rules_5 : decode mX11_rules.2.1 5 = .ok (.getfield 23, 3) ∧ 5 + 3 = 8 := ⟨by decide +kernel, rfl⟩
theorem aX11_rules_8 : decode mX11_rules.2.1 8 = .ok (.invokevirtual 212, 3) ∧ 8 + 3 = 11 := ⟨by decide +kernel, rfl⟩
theorem aX11_rules_11 : decode mX11_rules.2.1 11 = .ok (.istore_n 1, 1) ∧ 11 + 1 = 12 := ⟨by decide +kernel, rfl⟩
theorem aX11_rules_12 : decode mX11_rules.2.1 12 = .ok (.iload_n 1, 1) ∧ 12 + 1 = 13 := ⟨by decide +kernel, rfl⟩
theorem aX11_rules_13 : decode mX11_rules.2.1 13 = .ok (.ifCond .lt 8, 3) ∧ ((13 : Nat) : Int) + 8 = ((21 : Nat) : Int) ∧ 13 + 3 = 16 := ⟨by decide +kernel, by decide, rfl⟩
theorem aX11_rules_16 : decode mX11_rules.2.1 16 = .ok (.bipush (-100), 2) ∧ 16 + 2 = 18 := ⟨by decide +kernel, rfl⟩
theorem aX11_rules_18 : decode mX11_rules.2.1 18 = .ok (.iload_n 1, 1) ∧ 18 + 1 = 19 := ⟨by decide +kernel, rfl⟩
theorem aX11_rules_19 : decode mX11_rules.2.1 19 = .ok (.isub, 1) ∧ 19 + 1 = 20 := ⟨by decide +kernel, rfl⟩
theorem aX11_rules_20 : decode mX11_rules.2.1 20 = .ok (.ireturn, 1) := by decide +kernel
theorem aX11_rules_21 : decode mX11_rules.2.1 21 = .ok (.aload_n 0, 1) ∧ 21 + 1 = 22 := ⟨by decide +kernel, rfl⟩
theorem aX11_rules_22 : decode mX11_rules.2.1 22 = .ok (.getfield 83, 3) ∧ 22 + 3 = 25 := ⟨by decide +kernel, rfl⟩
theorem aX11_rules_25 : decode mX11_rules.2.1 25 = .ok (.getfield 216, 3) ∧ 25 + 3 = 28 := ⟨by decide +kernel, rfl⟩
theorem aX11_rules_28 : decode mX11_rules.2.1 28 = .ok (.aload_n 0, 1) ∧ 28 + 1 = 29 := ⟨by decide +kernel, rfl⟩
theorem aX11_rules_29 : decode mX11_rules.2.1 29 = .ok (.getfield 23, 3) ∧ 29 + 3 = 32 := ⟨by decide +kernel, rfl⟩
theorem aX11_rules_32 : decode mX11_rules.2.1 32 = .ok (.invokevirtual 219, 3) ∧ 32 + 3 = 35 := ⟨by decide +kernel, rfl⟩
theorem aX11_rules_35 : decode mX11_rules.2.1 35 = .ok (.aload_n 0, 1) ∧ 35 + 1 = 36 := ⟨by decide +kernel, rfl⟩
theorem aX11_rules_36 : decode mX11_rules.2.1 36 = .ok (.getfield 23, 3) ∧ 36 + 3 = 39 := ⟨by decide +kernel, rfl⟩
theorem aX11_rules_39 : decode mX11_rules.2.1 39 = .ok (.getfield 223, 3) ∧ 39 + 3 = 42 := ⟨by decide +kernel, rfl⟩
theorem aX11_rules_42 : decode mX11_rules.2.1 42 = .ok (.ireturn, 1) := by decide +kernel
theorem S_X11_rules {E : EE} {d : Nat} {I : IH} {Q : QT}  (h :
(Mt E d mX9_tell [.ref (eb E + 1), .ref (eb E + 5)] I (fun rv I1 => ∃ v2 : Int32, rv = some (.int v2) ∧
 ((v2 < 0 → (Mt E d mX6_become [.ref (eb E + 27), .ref (eb E + 5)] I1 (fun rv I3 => rv = none ∧
 Q (some (.int (I3 5 0))) I3))) ∧
 (¬ v2 < 0 → Q (some (.int ((-100) - v2))) I1))))) : Mt E (d + 1) mX11_rules [.ref (eb E + 0)] I Q := by
  refine Mt_of [(0, .ref (eb E + 0))] (by decide +kernel) (by simp [lg_sl, Value.category, mX11_rules]) rfl ?_
  refine J_aload_n 0 aX11_rules_0 rfl ?_
  refine J_getR aX11_rules_1 flX11_16 sh0 rfl ?_
  refine J_aload_n 0 aX11_rules_4 rfl ?_
  refine J_getR aX11_rules_5 flX11_23 sh0 rfl ?_
  refine J_callV [.ref (eb E + 5)] [] aX11_rules_8 lkX11_212_X9 okX9_tell sh1 rfl rfl rfl (Nat.le_of_ble_eq_true rfl) (Nat.le_refl _) (Mt_mono h (fun rv I1 h => ?_))
  obtain ⟨v2, rfl, h⟩ := h
  refine J_r1 ?_
  refine J_istore_n [(1, .int v2), (0, .ref (eb E + 0))] aX11_rules_11 (by decide) rfl ?_
  refine J_iload_n 0 aX11_rules_12 rfl ?_
  refine J_if_lt aX11_rules_13 (fun q => ?_) (fun q => ?_)
  · replace h := h.1 q
    refine J_aload_n 1 aX11_rules_21 rfl ?_
    refine J_getR aX11_rules_22 flX11_83 sh0 rfl ?_
    refine J_getR aX11_rules_25 flX11_216 sh33 rfl ?_
    refine J_aload_n 1 aX11_rules_28 rfl ?_
    refine J_getR aX11_rules_29 flX11_23 sh0 rfl ?_
    refine J_callV [.ref (eb E + 5)] [] aX11_rules_32 lkX11_219_X6 okX6_become sh27 rfl rfl rfl (Nat.le_of_ble_eq_true rfl) (Nat.le_refl _) (Mt_mono h (fun rv I3 h => ?_))
    obtain ⟨rfl, h⟩ := h
    refine J_r0 ?_
    refine J_aload_n 1 aX11_rules_35 rfl ?_
    refine J_getR aX11_rules_36 flX11_23 sh0 rfl ?_
    refine J_getI aX11_rules_39 flX11_223 sh5 rfl ?_
    exact J_iret aX11_rules_42 rfl h
  · replace h := h.2 q
    refine J_bipush (-100) aX11_rules_16 (by decide +kernel) ?_
    refine J_iload_n 0 aX11_rules_18 rfl ?_
    refine J_isub aX11_rules_19 ?_
    exact J_iret aX11_rules_20 rfl h
theorem aX11_minute_0 : decode mX11_minute.2.1 0 = .ok (.aload_n 0, 1) ∧ 0 + 1 = 1 := ⟨by decide +kernel, rfl⟩
theorem aX11_minute_1 : decode mX11_minute.2.1 1 = .ok (.getfield 83, 3) ∧ 1 + 3 = 4 := ⟨by decide +kernel, rfl⟩
theorem aX11_minute_4 : decode mX11_minute.2.1 4 = .ok (.invokevirtual 197, 3) ∧ 4 + 3 = 7 := ⟨by decide +kernel, rfl⟩
theorem aX11_minute_7 : decode mX11_minute.2.1 7 = .ok (.ifCond .eq 6, 3) ∧ ((7 : Nat) : Int) + 6 = ((13 : Nat) : Int) ∧ 7 + 3 = 10 := ⟨by decide +kernel, by decide, rfl⟩
theorem aX11_minute_10 : decode mX11_minute.2.1 10 = .ok (.bipush (-4), 2) ∧ 10 + 2 = 12 := ⟨by decide +kernel, rfl⟩
theorem aX11_minute_12 : decode mX11_minute.2.1 12 = .ok (.ireturn, 1) := by decide +kernel
theorem aX11_minute_13 : decode mX11_minute.2.1 13 = .ok (.aload_n 0, 1) ∧ 13 + 1 = 14 := ⟨by decide +kernel, rfl⟩
theorem aX11_minute_14 : decode mX11_minute.2.1 14 = .ok (.getfield 83, 3) ∧ 14 + 3 = 17 := ⟨by decide +kernel, rfl⟩
theorem aX11_minute_17 : decode mX11_minute.2.1 17 = .ok (.invokevirtual 224, 3) ∧ 17 + 3 = 20 := ⟨by decide +kernel, rfl⟩
theorem aX11_minute_20 : decode mX11_minute.2.1 20 = .ok (.ireturn, 1) := by decide +kernel
theorem S_X11_minute {E : EE} {d : Nat} {I : IH} {Q : QT}  (h :
(Mt E d mX1_isOver [.ref (eb E + 33)] I (fun rv I1 => ∃ v2 : Int32, rv = some (.int v2) ∧
 ((v2 = 0 → (Mt E d mX1_goRest [.ref (eb E + 33)] I1 (fun rv I3 => ∃ v4 : Int32, rv = some (.int v4) ∧
 Q (some (.int v4)) I3))) ∧
 (¬ v2 = 0 → Q (some (.int (-4))) I1))))) : Mt E (d + 1) mX11_minute [.ref (eb E + 0)] I Q := by
  refine Mt_of [(0, .ref (eb E + 0))] (by decide +kernel) (by simp [lg_sl, Value.category, mX11_minute]) rfl ?_
  refine J_aload_n 0 aX11_minute_0 rfl ?_
  refine J_getR aX11_minute_1 flX11_83 sh0 rfl ?_
  refine J_callV [] [] aX11_minute_4 lkX11_197_X1 okX1_isOver sh33 rfl rfl rfl (Nat.le_of_ble_eq_true rfl) (Nat.le_refl _) (Mt_mono h (fun rv I1 h => ?_))
  obtain ⟨v2, rfl, h⟩ := h
  refine J_r1 ?_
  refine J_if_eq aX11_minute_7 (fun q => ?_) (fun q => ?_)
  · replace h := h.1 q
    refine J_aload_n 0 aX11_minute_13 rfl ?_
    refine J_getR aX11_minute_14 flX11_83 sh0 rfl ?_
    refine J_callV [] [] aX11_minute_17 lkX11_224_X1 okX1_goRest sh33 rfl rfl rfl (Nat.le_of_ble_eq_true rfl) (Nat.le_refl _) (Mt_mono h (fun rv I3 h => ?_))
    obtain ⟨v4, rfl, h⟩ := h
    refine J_r1 ?_
    exact J_iret aX11_minute_20 rfl h
  · replace h := h.2 q
    refine J_bipush (-4) aX11_minute_10 (by decide +kernel) ?_
    exact J_iret aX11_minute_12 rfl h
theorem aX11_on_0 : decode mX11_on.2.1 0 = .ok (.iload_n 1, 1) ∧ 0 + 1 = 1 := ⟨by decide +kernel, rfl⟩
theorem aX11_on_1 : decode mX11_on.2.1 1 = .ok (.bipush 16, 2) ∧ 1 + 2 = 3 := ⟨by decide +kernel, rfl⟩
theorem aX11_on_3 : decode mX11_on.2.1 3 = .ok (.invokestatic 110, 3) ∧ 3 + 3 = 6 := ⟨by decide +kernel, rfl⟩
theorem aX11_on_6 : decode mX11_on.2.1 6 = .ok (.ifCond .ne 5, 3) ∧ ((6 : Nat) : Int) + 5 = ((11 : Nat) : Int) ∧ 6 + 3 = 9 := ⟨by decide +kernel, by decide, rfl⟩
theorem aX11_on_9 : decode mX11_on.2.1 9 = .ok (.iconst (-1), 1) ∧ 9 + 1 = 10 := ⟨by decide +kernel, rfl⟩
theorem aX11_on_10 : decode mX11_on.2.1 10 = .ok (.ireturn, 1) := by decide +kernel
theorem aX11_on_11 : decode mX11_on.2.1 11 = .ok (.aload_n 0, 1) ∧ 11 + 1 = 12 := ⟨by decide +kernel, rfl⟩
theorem aX11_on_12 : decode mX11_on.2.1 12 = .ok (.getfield 90, 3) ∧ 12 + 3 = 15 := ⟨by decide +kernel, rfl⟩
theorem aX11_on_15 : decode mX11_on.2.1 15 = .ok (.aload_n 0, 1) ∧ 15 + 1 = 16 := ⟨by decide +kernel, rfl⟩
theorem aX11_on_16 : decode mX11_on.2.1 16 = .ok (.getfield 83, 3) ∧ 16 + 3 = 19 := ⟨by decide +kernel, rfl⟩
theorem aX11_on_19 : decode mX11_on.2.1 19 = .ok (.invokevirtual 227, 3) ∧ 19 + 3 = 22 := ⟨by decide +kernel, rfl⟩
theorem aX11_on_22 : decode mX11_on.2.1 22 = .ok (.aload_n 0, 1) ∧ 22 + 1 = 23 := ⟨by decide +kernel, rfl⟩
theorem aX11_on_23 : decode mX11_on.2.1 23 = .ok (.getfield 90, 3) ∧ 23 + 3 = 26 := ⟨by decide +kernel, rfl⟩
theorem aX11_on_26 : decode mX11_on.2.1 26 = .ok (.iload_n 1, 1) ∧ 26 + 1 = 27 := ⟨by decide +kernel, rfl⟩
theorem aX11_on_27 : decode mX11_on.2.1 27 = .ok (.invokevirtual 230, 3) ∧ 27 + 3 = 30 := ⟨by decide +kernel, rfl⟩
theorem aX11_on_30 : decode mX11_on.2.1 30 = .ok (.ireturn, 1) := by decide +kernel
theorem S_X11_on {E : EE} {d : Nat} {I : IH} {Q : QT} (x1 : Int32) (h :
(Mt E d mX11_isWithin [.int x1, .int (nI 16)] I (fun rv I1 => ∃ v2 : Int32, rv = some (.int v2) ∧
 ((¬ v2 = 0 → (Mt E d mX1_become [.ref (eb E + 57), .ref (eb E + 33)] I1 (fun rv I3 => rv = none ∧
 (Mt E d mX1_goRestFor [.ref (eb E + 57), .int x1] I3 (fun rv I4 => ∃ v5 : Int32, rv = some (.int v5) ∧
 Q (some (.int v5)) I4))))) ∧
 (v2 = 0 → Q (some (.int (-1))) I1))))) : Mt E (d + 1) mX11_on [.ref (eb E + 0), .int x1] I Q := by
  refine Mt_of [(0, .ref (eb E + 0)), (1, .int x1)] (by decide +kernel) (by simp [lg_sl, Value.category, mX11_on]) rfl ?_
  refine J_iload_n 1 aX11_on_0 rfl ?_
  refine J_bipush (nI 16) aX11_on_1 (by decide +kernel) ?_
  refine J_callS [.int x1, .int (nI 16)] [] aX11_on_3 lkX11_110 okX11_isWithin rfl rfl (Nat.le_of_ble_eq_true rfl) (Nat.le_refl _) (Mt_mono h (fun rv I1 h => ?_))
  obtain ⟨v2, rfl, h⟩ := h
  refine J_r1 ?_
  refine J_if_ne aX11_on_6 (fun q => ?_) (fun q => ?_)
  · replace h := h.1 q
    refine J_aload_n 0 aX11_on_11 rfl ?_
    refine J_getR aX11_on_12 flX11_90 sh0 rfl ?_
    refine J_aload_n 0 aX11_on_15 rfl ?_
    refine J_getR aX11_on_16 flX11_83 sh0 rfl ?_
    refine J_callV [.ref (eb E + 33)] [] aX11_on_19 lkX11_227_X1 okX1_become sh57 rfl rfl rfl (Nat.le_of_ble_eq_true rfl) (Nat.le_refl _) (Mt_mono h (fun rv I3 h => ?_))
    obtain ⟨rfl, h⟩ := h
    refine J_r0 ?_
    refine J_aload_n 0 aX11_on_22 rfl ?_
    refine J_getR aX11_on_23 flX11_90 sh0 rfl ?_
    refine J_iload_n 1 aX11_on_26 rfl ?_
    refine J_callV [.int x1] [] aX11_on_27 lkX11_230_X1 okX1_goRestFor sh57 rfl rfl rfl (Nat.le_of_ble_eq_true rfl) (Nat.le_refl _) (Mt_mono h (fun rv I4 h => ?_))
    obtain ⟨v5, rfl, h⟩ := h
    refine J_r1 ?_
    exact J_iret aX11_on_30 rfl h
  · replace h := h.2 q
    refine J_iconst (-1) aX11_on_9 (by decide +kernel) ?_
    exact J_iret aX11_on_10 rfl h
theorem aX11_when_0 : decode mX11_when.2.1 0 = .ok (.aload_n 0, 1) ∧ 0 + 1 = 1 := ⟨by decide +kernel, rfl⟩
theorem aX11_when_1 : decode mX11_when.2.1 1 = .ok (.iload_n 1, 1) ∧ 1 + 1 = 2 := ⟨by decide +kernel, rfl⟩
theorem aX11_when_2 : decode mX11_when.2.1 2 = .ok (.invokevirtual 124, 3) ∧ 2 + 3 = 5 := ⟨by decide +kernel, rfl⟩
theorem aX11_when_5 : decode mX11_when.2.1 5 = .ok (.ifCond .ne 5, 3) ∧ ((5 : Nat) : Int) + 5 = ((10 : Nat) : Int) ∧ 5 + 3 = 8 := ⟨by decide +kernel, by decide, rfl⟩
theorem aX11_when_8 : decode mX11_when.2.1 8 = .ok (.iconst (-1), 1) ∧ 8 + 1 = 9 := ⟨by decide +kernel, rfl⟩
theorem aX11_when_9 : decode mX11_when.2.1 9 = .ok (.ireturn, 1) := by decide +kernel
theorem aX11_when_10 : decode mX11_when.2.1 10 = .ok (.aload_n 0, 1) ∧ 10 + 1 = 11 := ⟨by decide +kernel, rfl⟩
theorem aX11_when_11 : decode mX11_when.2.1 11 = .ok (.getfield 83, 3) ∧ 11 + 3 = 14 := ⟨by decide +kernel, rfl⟩
theorem aX11_when_14 : decode mX11_when.2.1 14 = .ok (.getfield 143, 3) ∧ 14 + 3 = 17 := ⟨by decide +kernel, rfl⟩
theorem aX11_when_17 : decode mX11_when.2.1 17 = .ok (.iload_n 1, 1) ∧ 17 + 1 = 18 := ⟨by decide +kernel, rfl⟩
theorem aX11_when_18 : decode mX11_when.2.1 18 = .ok (.ishr, 1) ∧ 18 + 1 = 19 := ⟨by decide +kernel, rfl⟩
theorem aX11_when_19 : decode mX11_when.2.1 19 = .ok (.iconst 1, 1) ∧ 19 + 1 = 20 := ⟨by decide +kernel, rfl⟩
theorem aX11_when_20 : decode mX11_when.2.1 20 = .ok (.iand, 1) ∧ 20 + 1 = 21 := ⟨by decide +kernel, rfl⟩
theorem aX11_when_21 : decode mX11_when.2.1 21 = .ok (.iconst 1, 1) ∧ 21 + 1 = 22 := ⟨by decide +kernel, rfl⟩
theorem aX11_when_22 : decode mX11_when.2.1 22 = .ok (.if_icmp .ne 6, 3) ∧ ((22 : Nat) : Int) + 6 = ((28 : Nat) : Int) ∧ 22 + 3 = 25 := ⟨by decide +kernel, by decide, rfl⟩
theorem aX11_when_25 : decode mX11_when.2.1 25 = .ok (.bipush (-3), 2) ∧ 25 + 2 = 27 := ⟨by decide +kernel, rfl⟩
theorem aX11_when_27 : decode mX11_when.2.1 27 = .ok (.ireturn, 1) := by decide +kernel
theorem aX11_when_28 : decode mX11_when.2.1 28 = .ok (.aload_n 0, 1) ∧ 28 + 1 = 29 := ⟨by decide +kernel, rfl⟩
theorem aX11_when_29 : decode mX11_when.2.1 29 = .ok (.getfield 90, 3) ∧ 29 + 3 = 32 := ⟨by decide +kernel, rfl⟩
theorem aX11_when_32 : decode mX11_when.2.1 32 = .ok (.aload_n 0, 1) ∧ 32 + 1 = 33 := ⟨by decide +kernel, rfl⟩
theorem aX11_when_33 : decode mX11_when.2.1 33 = .ok (.getfield 83, 3) ∧ 33 + 3 = 36 := ⟨by decide +kernel, rfl⟩
theorem aX11_when_36 : decode mX11_when.2.1 36 = .ok (.invokevirtual 227, 3) ∧ 36 + 3 = 39 := ⟨by decide +kernel, rfl⟩
theorem aX11_when_39 : decode mX11_when.2.1 39 = .ok (.aload_n 0, 1) ∧ 39 + 1 = 40 := ⟨by decide +kernel, rfl⟩
theorem aX11_when_40 : decode mX11_when.2.1 40 = .ok (.getfield 83, 3) ∧ 40 + 3 = 43 := ⟨by decide +kernel, rfl⟩
theorem aX11_when_43 : decode mX11_when.2.1 43 = .ok (.getfield 154, 3) ∧ 43 + 3 = 46 := ⟨by decide +kernel, rfl⟩
theorem aX11_when_46 : decode mX11_when.2.1 46 = .ok (.istore_n 2, 1) ∧ 46 + 1 = 47 := ⟨by decide +kernel, rfl⟩
theorem aX11_when_47 : decode mX11_when.2.1 47 = .ok (.iload_n 2, 1) ∧ 47 + 1 = 48 := ⟨by decide +kernel, rfl⟩
theorem aX11_when_48 : decode mX11_when.2.1 48 = .ok (.aload_n 0, 1) ∧ 48 + 1 = 49 := ⟨by decide +kernel, rfl⟩
theorem aX11_when_49 : decode mX11_when.2.1 49 = .ok (.getfield 83, 3) ∧ 49 + 3 = 52 := ⟨by decide +kernel, rfl⟩
theorem aX11_when_52 : decode mX11_when.2.1 52 = .ok (.getfield 188, 3) ∧ 52 + 3 = 55 := ⟨by decide +kernel, rfl⟩
theorem aX11_when_55 : decode mX11_when.2.1 55 = .ok (.if_icmp .ge 34, 3) ∧ ((55 : Nat) : Int) + 34 = ((89 : Nat) : Int) ∧ 55 + 3 = 58 := ⟨by decide +kernel, by decide, rfl⟩
theorem aX11_when_58 : decode mX11_when.2.1 58 = .ok (.aload_n 0, 1) ∧ 58 + 1 = 59 := ⟨by decide +kernel, rfl⟩
theorem aX11_when_59 : decode mX11_when.2.1 59 = .ok (.getfield 90, 3) ∧ 59 + 3 = 62 := ⟨by decide +kernel, rfl⟩
theorem aX11_when_62 : decode mX11_when.2.1 62 = .ok (.invokevirtual 224, 3) ∧ 62 + 3 = 65 := ⟨by decide +kernel, rfl⟩
theorem aX11_when_65 : decode mX11_when.2.1 65 = .ok (.pop, 1) ∧ 65 + 1 = 66 := ⟨by decide +kernel, rfl⟩
theorem aX11_when_66 : decode mX11_when.2.1 66 = .ok (.aload_n 0, 1) ∧ 66 + 1 = 67 := ⟨by decide +kernel, rfl⟩
theorem aX11_when_67 : decode mX11_when.2.1 67 = .ok (.getfield 90, 3) ∧ 67 + 3 = 70 := ⟨by decide +kernel, rfl⟩
theorem aX11_when_70 : decode mX11_when.2.1 70 = .ok (.getfield 143, 3) ∧ 70 + 3 = 73 := ⟨by decide +kernel, rfl⟩
theorem aX11_when_73 : decode mX11_when.2.1 73 = .ok (.iload_n 1, 1) ∧ 73 + 1 = 74 := ⟨by decide +kernel, rfl⟩
theorem aX11_when_74 : decode mX11_when.2.1 74 = .ok (.ishr, 1) ∧ 74 + 1 = 75 := ⟨by decide +kernel, rfl⟩
theorem aX11_when_75 : decode mX11_when.2.1 75 = .ok (.iconst 1, 1) ∧ 75 + 1 = 76 := ⟨by decide +kernel, rfl⟩
theorem aX11_when_76 : decode mX11_when.2.1 76 = .ok (.iand, 1) ∧ 76 + 1 = 77 := ⟨by decide +kernel, rfl⟩
theorem aX11_when_77 : decode mX11_when.2.1 77 = .ok (.iconst 1, 1) ∧ 77 + 1 = 78 := ⟨by decide +kernel, rfl⟩
theorem aX11_when_78 : decode mX11_when.2.1 78 = .ok (.if_icmp .ne 5, 3) ∧ ((78 : Nat) : Int) + 5 = ((83 : Nat) : Int) ∧ 78 + 3 = 81 := ⟨by decide +kernel, by decide, rfl⟩
theorem aX11_when_81 : decode mX11_when.2.1 81 = .ok (.iload_n 2, 1) ∧ 81 + 1 = 82 := ⟨by decide +kernel, rfl⟩
theorem aX11_when_82 : decode mX11_when.2.1 82 = .ok (.ireturn, 1) := by decide +kernel
theorem aX11_when_83 : decode mX11_when.2.1 83 = .ok (.iinc 2 1, 3) ∧ 83 + 3 = 86 := ⟨by decide +kernel, rfl⟩
theorem aX11_when_86 : decode mX11_when.2.1 86 = .ok (.goto (-39), 3) ∧ ((86 : Nat) : Int) + (-39) = ((47 : Nat) : Int) := ⟨by decide +kernel, by decide⟩
theorem aX11_when_89 : decode mX11_when.2.1 89 = .ok (.bipush (-3), 2) ∧ 89 + 2 = 91 := ⟨by decide +kernel, rfl⟩
theorem aX11_when_91 : decode mX11_when.2.1 91 = .ok (.ireturn, 1) := by decide +kernel
theorem S_X11_when {E : EE} {d : Nat} {I : IH} {Q : QT} (x1 : Int32) (h :
(Mt E d mX11_isPane [.ref (eb E + 0), .int x1] I (fun rv I1 => ∃ v2 : Int32, rv = some (.int v2) ∧
 ((¬ v2 = 0 → ((¬ (((I1 33 8) >>> (x1 &&& 31)) &&& (nI 1)) = (nI 1) → (Mt E d mX1_become [.ref (eb E + 57), .ref (eb E + 33)] I1 (fun rv I3 => rv = none ∧
 J E (d + 1) mX11_when 47 [(0, .ref (eb E + 0)), (1, .int x1), (2, .int (I3 33 3))] [] I3 Q))) ∧
 ((((I1 33 8) >>> (x1 &&& 31)) &&& (nI 1)) = (nI 1) → Q (some (.int (-3))) I1))) ∧
 (v2 = 0 → Q (some (.int (-1))) I1))))) : Mt E (d + 1) mX11_when [.ref (eb E + 0), .int x1] I Q := by
  refine Mt_of [(0, .ref (eb E + 0)), (1, .int x1)] (by decide +kernel) (by simp [lg_sl, Value.category, mX11_when]) rfl ?_
  refine J_aload_n 0 aX11_when_0 rfl ?_
  refine J_iload_n 1 aX11_when_1 rfl ?_
  refine J_callV [.int x1] [] aX11_when_2 lkX11_124_X11 okX11_isPane sh0 rfl rfl rfl (Nat.le_of_ble_eq_true rfl) (Nat.le_refl _) (Mt_mono h (fun rv I1 h => ?_))
  obtain ⟨v2, rfl, h⟩ := h
  refine J_r1 ?_
  refine J_if_ne aX11_when_5 (fun q => ?_) (fun q => ?_)
  · replace h := h.1 q
    refine J_aload_n 0 aX11_when_10 rfl ?_
    refine J_getR aX11_when_11 flX11_83 sh0 rfl ?_
    refine J_getI aX11_when_14 flX11_143 sh33 rfl ?_
    refine J_iload_n 1 aX11_when_17 rfl ?_
    refine J_ishr aX11_when_18 ?_
    refine J_iconst (nI 1) aX11_when_19 (by decide +kernel) ?_
    refine J_iand aX11_when_20 ?_
    refine J_iconst (nI 1) aX11_when_21 (by decide +kernel) ?_
    refine J_icmp_ne aX11_when_22 (fun q => ?_) (fun q => ?_)
    · replace h := h.1 q
      refine J_aload_n 0 aX11_when_28 rfl ?_
      refine J_getR aX11_when_29 flX11_90 sh0 rfl ?_
      refine J_aload_n 0 aX11_when_32 rfl ?_
      refine J_getR aX11_when_33 flX11_83 sh0 rfl ?_
      refine J_callV [.ref (eb E + 33)] [] aX11_when_36 lkX11_227_X1 okX1_become sh57 rfl rfl rfl (Nat.le_of_ble_eq_true rfl) (Nat.le_refl _) (Mt_mono h (fun rv I3 h => ?_))
      obtain ⟨rfl, h⟩ := h
      refine J_r0 ?_
      refine J_aload_n 0 aX11_when_39 rfl ?_
      refine J_getR aX11_when_40 flX11_83 sh0 rfl ?_
      refine J_getI aX11_when_43 flX11_154 sh33 rfl ?_
      refine J_istore_n [(2, .int (I3 33 3)), (0, .ref (eb E + 0)), (1, .int x1)] aX11_when_46 (by decide) rfl ?_
      refine J_pick [1, 2, 0] rfl ?_
      exact h
    · replace h := h.2 q
      refine J_bipush (-3) aX11_when_25 (by decide +kernel) ?_
      exact J_iret aX11_when_27 rfl h
  · replace h := h.2 q
    refine J_iconst (-1) aX11_when_8 (by decide +kernel) ?_
    exact J_iret aX11_when_9 rfl h
theorem S_X11_when_47 {E : EE} {d : Nat} {I : IH} {Q : QT} (x1 : Int32) (x2 : Int32) (h :
(((I 33 2) ≤ x2 → Q (some (.int (-3))) I) ∧
 (¬ (I 33 2) ≤ x2 → (Mt E d mX1_goRest [.ref (eb E + 57)] I (fun rv I1 => ∃ v2 : Int32, rv = some (.int v2) ∧
 ((¬ (((I1 57 8) >>> (x1 &&& 31)) &&& (nI 1)) = (nI 1) → J E (d + 1) mX11_when 47 [(0, .ref (eb E + 0)), (1, .int x1), (2, .int (x2 + nI 1))] [] I1 Q) ∧
 ((((I1 57 8) >>> (x1 &&& 31)) &&& (nI 1)) = (nI 1) → Q (some (.int x2)) I1))))))) : J E (d + 1) mX11_when 47 [(0, .ref (eb E + 0)), (1, .int x1), (2, .int x2)] [] I Q := by
  refine J_iload_n 2 aX11_when_47 rfl ?_
  refine J_aload_n 0 aX11_when_48 rfl ?_
  refine J_getR aX11_when_49 flX11_83 sh0 rfl ?_
  refine J_getI aX11_when_52 flX11_188 sh33 rfl ?_
  refine J_icmp_ge aX11_when_55 (fun q => ?_) (fun q => ?_)
  · replace h := h.1 q
    refine J_bipush (-3) aX11_when_89 (by decide +kernel) ?_
    exact J_iret aX11_when_91 rfl h
  · replace h := h.2 q
    refine J_aload_n 0 aX11_when_58 rfl ?_
    refine J_getR aX11_when_59 flX11_90 sh0 rfl ?_
    refine J_callV [] [] aX11_when_62 lkX11_224_X1 okX1_goRest sh57 rfl rfl rfl (Nat.le_of_ble_eq_true rfl) (Nat.le_refl _) (Mt_mono h (fun rv I1 h => ?_))
    obtain ⟨v2, rfl, h⟩ := h
    refine J_r1 ?_
    refine J_pop aX11_when_65 rfl ?_
    refine J_aload_n 0 aX11_when_66 rfl ?_
    refine J_getR aX11_when_67 flX11_90 sh0 rfl ?_
    refine J_getI aX11_when_70 flX11_143 sh57 rfl ?_
    refine J_iload_n 1 aX11_when_73 rfl ?_
    refine J_ishr aX11_when_74 ?_
    refine J_iconst (nI 1) aX11_when_75 (by decide +kernel) ?_
    refine J_iand aX11_when_76 ?_
    refine J_iconst (nI 1) aX11_when_77 (by decide +kernel) ?_
    refine J_icmp_ne aX11_when_78 (fun q => ?_) (fun q => ?_)
    · replace h := h.1 q
      refine J_iinc (x2 + nI 1) [(2, .int (x2 + nI 1)), (0, .ref (eb E + 0)), (1, .int x1)] 2 aX11_when_83 rfl (by first | rfl | (congr 1; decide +kernel)) (by decide) rfl ?_
      refine J_goto aX11_when_86 ?_
      refine J_pick [1, 2, 0] rfl ?_
      exact h
    · replace h := h.2 q
      refine J_iload_n 2 aX11_when_81 rfl ?_
      exact J_iret aX11_when_82 rfl h
theorem aX11_sceneFor_0 : decode mX11_sceneFor.2.1 0 = .ok (.aload_n 0, 1) ∧ 0 + 1 = 1 := ⟨by decide +kernel, rfl⟩
theorem aX11_sceneFor_1 : decode mX11_sceneFor.2.1 1 = .ok (.iload_n 1, 1) ∧ 1 + 1 = 2 := ⟨by decide +kernel, rfl⟩
theorem aX11_sceneFor_2 : decode mX11_sceneFor.2.1 2 = .ok (.invokevirtual 124, 3) ∧ 2 + 3 = 5 := ⟨by decide +kernel, rfl⟩
theorem aX11_sceneFor_5 : decode mX11_sceneFor.2.1 5 = .ok (.ifCond .eq 21, 3) ∧ ((5 : Nat) : Int) + 21 = ((26 : Nat) : Int) ∧ 5 + 3 = 8 := ⟨by decide +kernel, by decide, rfl⟩
theorem aX11_sceneFor_8 : decode mX11_sceneFor.2.1 8 = .ok (.aload_n 0, 1) ∧ 8 + 1 = 9 := ⟨by decide +kernel, rfl⟩
theorem aX11_sceneFor_9 : decode mX11_sceneFor.2.1 9 = .ok (.iload_n 1, 1) ∧ 9 + 1 = 10 := ⟨by decide +kernel, rfl⟩
theorem aX11_sceneFor_10 : decode mX11_sceneFor.2.1 10 = .ok (.aload_n 0, 1) ∧ 10 + 1 = 11 := ⟨by decide +kernel, rfl⟩
theorem aX11_sceneFor_11 : decode mX11_sceneFor.2.1 11 = .ok (.getfield 90, 3) ∧ 11 + 3 = 14 := ⟨by decide +kernel, rfl⟩
theorem aX11_sceneFor_14 : decode mX11_sceneFor.2.1 14 = .ok (.getfield 134, 3) ∧ 14 + 3 = 17 := ⟨by decide +kernel, rfl⟩
theorem aX11_sceneFor_17 : decode mX11_sceneFor.2.1 17 = .ok (.sipush 255, 3) ∧ 17 + 3 = 20 := ⟨by decide +kernel, rfl⟩
theorem aX11_sceneFor_20 : decode mX11_sceneFor.2.1 20 = .ok (.invokevirtual 233, 3) ∧ 20 + 3 = 23 := ⟨by decide +kernel, rfl⟩
theorem aX11_sceneFor_23 : decode mX11_sceneFor.2.1 23 = .ok (.goto 4, 3) ∧ ((23 : Nat) : Int) + 4 = ((27 : Nat) : Int) := ⟨by decide +kernel, by decide⟩
theorem aX11_sceneFor_26 : decode mX11_sceneFor.2.1 26 = .ok (.iconst (-1), 1) ∧ 26 + 1 = 27 := ⟨by decide +kernel, rfl⟩
theorem aX11_sceneFor_27 : decode mX11_sceneFor.2.1 27 = .ok (.ireturn, 1) := by decide +kernel
theorem S_X11_sceneFor {E : EE} {d : Nat} {I : IH} {Q : QT} (x1 : Int32) (h :
(Mt E d mX11_isPane [.ref (eb E + 0), .int x1] I (fun rv I1 => ∃ v2 : Int32, rv = some (.int v2) ∧
 ((v2 = 0 → Q (some (.int (-1))) I1) ∧
 (¬ v2 = 0 → (Mt E d mX11_bestFor [.ref (eb E + 0), .int x1, .ref (eb E + 62), .int (nI 255)] I1 (fun rv I3 => ∃ v4 : Int32, rv = some (.int v4) ∧
 Q (some (.int v4)) I3))))))) : Mt E (d + 1) mX11_sceneFor [.ref (eb E + 0), .int x1] I Q := by
  refine Mt_of [(0, .ref (eb E + 0)), (1, .int x1)] (by decide +kernel) (by simp [lg_sl, Value.category, mX11_sceneFor]) rfl ?_
  refine J_aload_n 0 aX11_sceneFor_0 rfl ?_
  refine J_iload_n 1 aX11_sceneFor_1 rfl ?_
  refine J_callV [.int x1] [] aX11_sceneFor_2 lkX11_124_X11 okX11_isPane sh0 rfl rfl rfl (Nat.le_of_ble_eq_true rfl) (Nat.le_refl _) (Mt_mono h (fun rv I1 h => ?_))
  obtain ⟨v2, rfl, h⟩ := h
  refine J_r1 ?_
  refine J_if_eq aX11_sceneFor_5 (fun q => ?_) (fun q => ?_)
  · replace h := h.1 q
    refine J_iconst (-1) aX11_sceneFor_26 (by decide +kernel) ?_
    exact J_iret aX11_sceneFor_27 rfl h
  · replace h := h.2 q
    refine J_aload_n 0 aX11_sceneFor_8 rfl ?_
    refine J_iload_n 1 aX11_sceneFor_9 rfl ?_
    refine J_aload_n 0 aX11_sceneFor_10 rfl ?_
    refine J_getR aX11_sceneFor_11 flX11_90 sh0 rfl ?_
    refine J_getR aX11_sceneFor_14 flX11_134 sh57 rfl ?_
    refine J_sipush (nI 255) aX11_sceneFor_17 (by decide +kernel) ?_
    refine J_callV [.int x1, .ref (eb E + 62), .int (nI 255)] [] aX11_sceneFor_20 lkX11_233_X11 okX11_bestFor sh0 rfl rfl rfl (Nat.le_of_ble_eq_true rfl) (Nat.le_refl _) (Mt_mono h (fun rv I3 h => ?_))
    obtain ⟨v4, rfl, h⟩ := h
    refine J_r1 ?_
    refine J_goto aX11_sceneFor_23 ?_
    exact J_iret aX11_sceneFor_27 rfl h
theorem aX11_wardFor_0 : decode mX11_wardFor.2.1 0 = .ok (.aload_n 0, 1) ∧ 0 + 1 = 1 := ⟨by decide +kernel, rfl⟩
theorem aX11_wardFor_1 : decode mX11_wardFor.2.1 1 = .ok (.iload_n 1, 1) ∧ 1 + 1 = 2 := ⟨by decide +kernel, rfl⟩
theorem aX11_wardFor_2 : decode mX11_wardFor.2.1 2 = .ok (.invokevirtual 124, 3) ∧ 2 + 3 = 5 := ⟨by decide +kernel, rfl⟩
theorem aX11_wardFor_5 : decode mX11_wardFor.2.1 5 = .ok (.ifCond .eq 19, 3) ∧ ((5 : Nat) : Int) + 19 = ((24 : Nat) : Int) ∧ 5 + 3 = 8 := ⟨by decide +kernel, by decide, rfl⟩
theorem aX11_wardFor_8 : decode mX11_wardFor.2.1 8 = .ok (.aload_n 0, 1) ∧ 8 + 1 = 9 := ⟨by decide +kernel, rfl⟩
theorem aX11_wardFor_9 : decode mX11_wardFor.2.1 9 = .ok (.iload_n 1, 1) ∧ 9 + 1 = 10 := ⟨by decide +kernel, rfl⟩
theorem aX11_wardFor_10 : decode mX11_wardFor.2.1 10 = .ok (.aload_n 0, 1) ∧ 10 + 1 = 11 := ⟨by decide +kernel, rfl⟩
theorem aX11_wardFor_11 : decode mX11_wardFor.2.1 11 = .ok (.getfield 90, 3) ∧ 11 + 3 = 14 := ⟨by decide +kernel, rfl⟩
theorem aX11_wardFor_14 : decode mX11_wardFor.2.1 14 = .ok (.getfield 140, 3) ∧ 14 + 3 = 17 := ⟨by decide +kernel, rfl⟩
theorem aX11_wardFor_17 : decode mX11_wardFor.2.1 17 = .ok (.iconst 5, 1) ∧ 17 + 1 = 18 := ⟨by decide +kernel, rfl⟩
theorem aX11_wardFor_18 : decode mX11_wardFor.2.1 18 = .ok (.invokevirtual 233, 3) ∧ 18 + 3 = 21 := ⟨by decide +kernel, rfl⟩
theorem aX11_wardFor_21 : decode mX11_wardFor.2.1 21 = .ok (.goto 4, 3) ∧ ((21 : Nat) : Int) + 4 = ((25 : Nat) : Int) := ⟨by decide +kernel, by decide⟩
theorem aX11_wardFor_24 : decode mX11_wardFor.2.1 24 = .ok (.iconst (-1), 1) ∧ 24 + 1 = 25 := ⟨by decide +kernel, rfl⟩
theorem aX11_wardFor_25 : decode mX11_wardFor.2.1 25 = .ok (.ireturn, 1) := by decide +kernel
theorem S_X11_wardFor {E : EE} {d : Nat} {I : IH} {Q : QT} (x1 : Int32) (h :
(Mt E d mX11_isPane [.ref (eb E + 0), .int x1] I (fun rv I1 => ∃ v2 : Int32, rv = some (.int v2) ∧
 ((v2 = 0 → Q (some (.int (-1))) I1) ∧
 (¬ v2 = 0 → (Mt E d mX11_bestFor [.ref (eb E + 0), .int x1, .ref (eb E + 63), .int (nI 5)] I1 (fun rv I3 => ∃ v4 : Int32, rv = some (.int v4) ∧
 Q (some (.int v4)) I3))))))) : Mt E (d + 1) mX11_wardFor [.ref (eb E + 0), .int x1] I Q := by
  refine Mt_of [(0, .ref (eb E + 0)), (1, .int x1)] (by decide +kernel) (by simp [lg_sl, Value.category, mX11_wardFor]) rfl ?_
  refine J_aload_n 0 aX11_wardFor_0 rfl ?_
  refine J_iload_n 1 aX11_wardFor_1 rfl ?_
  refine J_callV [.int x1] [] aX11_wardFor_2 lkX11_124_X11 okX11_isPane sh0 rfl rfl rfl (Nat.le_of_ble_eq_true rfl) (Nat.le_refl _) (Mt_mono h (fun rv I1 h => ?_))
  obtain ⟨v2, rfl, h⟩ := h
  refine J_r1 ?_
  refine J_if_eq aX11_wardFor_5 (fun q => ?_) (fun q => ?_)
  · replace h := h.1 q
    refine J_iconst (-1) aX11_wardFor_24 (by decide +kernel) ?_
    exact J_iret aX11_wardFor_25 rfl h
  · replace h := h.2 q
    refine J_aload_n 0 aX11_wardFor_8 rfl ?_
    refine J_iload_n 1 aX11_wardFor_9 rfl ?_
    refine J_aload_n 0 aX11_wardFor_10 rfl ?_
    refine J_getR aX11_wardFor_11 flX11_90 sh0 rfl ?_
    refine J_getR aX11_wardFor_14 flX11_140 sh57 rfl ?_
    refine J_iconst (nI 5) aX11_wardFor_17 (by decide +kernel) ?_
    refine J_callV [.int x1, .ref (eb E + 63), .int (nI 5)] [] aX11_wardFor_18 lkX11_233_X11 okX11_bestFor sh0 rfl rfl rfl (Nat.le_of_ble_eq_true rfl) (Nat.le_refl _) (Mt_mono h (fun rv I3 h => ?_))
    obtain ⟨v4, rfl, h⟩ := h
    refine J_r1 ?_
    refine J_goto aX11_wardFor_21 ?_
    exact J_iret aX11_wardFor_25 rfl h
theorem aX11_bestFor_0 : decode mX11_bestFor.2.1 0 = .ok (.iconst 0, 1) ∧ 0 + 1 = 1 := ⟨by decide +kernel, rfl⟩
theorem aX11_bestFor_1 : decode mX11_bestFor.2.1 1 = .ok (.istore 4, 2) ∧ 1 + 2 = 3 := ⟨by decide +kernel, rfl⟩
theorem aX11_bestFor_3 : decode mX11_bestFor.2.1 3 = .ok (.iconst (-1), 1) ∧ 3 + 1 = 4 := ⟨by decide +kernel, rfl⟩
theorem aX11_bestFor_4 : decode mX11_bestFor.2.1 4 = .ok (.istore 5, 2) ∧ 4 + 2 = 6 := ⟨by decide +kernel, rfl⟩
theorem aX11_bestFor_6 : decode mX11_bestFor.2.1 6 = .ok (.iconst 0, 1) ∧ 6 + 1 = 7 := ⟨by decide +kernel, rfl⟩
theorem aX11_bestFor_7 : decode mX11_bestFor.2.1 7 = .ok (.istore 6, 2) ∧ 7 + 2 = 9 := ⟨by decide +kernel, rfl⟩
theorem aX11_bestFor_9 : decode mX11_bestFor.2.1 9 = .ok (.iload 6, 2) ∧ 9 + 2 = 11 := ⟨by decide +kernel, rfl⟩
theorem aX11_bestFor_11 : decode mX11_bestFor.2.1 11 = .ok (.iload_n 3, 1) ∧ 11 + 1 = 12 := ⟨by decide +kernel, rfl⟩
theorem aX11_bestFor_12 : decode mX11_bestFor.2.1 12 = .ok (.if_icmp .gt 51, 3) ∧ ((12 : Nat) : Int) + 51 = ((63 : Nat) : Int) ∧ 12 + 3 = 15 := ⟨by decide +kernel, by decide, rfl⟩
theorem aX11_bestFor_15 : decode mX11_bestFor.2.1 15 = .ok (.aload_n 0, 1) ∧ 15 + 1 = 16 := ⟨by decide +kernel, rfl⟩
theorem aX11_bestFor_16 : decode mX11_bestFor.2.1 16 = .ok (.getfield 90, 3) ∧ 16 + 3 = 19 := ⟨by decide +kernel, rfl⟩
theorem aX11_bestFor_19 : decode mX11_bestFor.2.1 19 = .ok (.aload_n 0, 1) ∧ 19 + 1 = 20 := ⟨by decide +kernel, rfl⟩
theorem aX11_bestFor_20 : decode mX11_bestFor.2.1 20 = .ok (.getfield 83, 3) ∧ 20 + 3 = 23 := ⟨by decide +kernel, rfl⟩
theorem aX11_bestFor_23 : decode mX11_bestFor.2.1 23 = .ok (.invokevirtual 227, 3) ∧ 23 + 3 = 26 := ⟨by decide +kernel, rfl⟩
theorem aX11_bestFor_26 : decode mX11_bestFor.2.1 26 = .ok (.aload_n 2, 1) ∧ 26 + 1 = 27 := ⟨by decide +kernel, rfl⟩
theorem aX11_bestFor_27 : decode mX11_bestFor.2.1 27 = .ok (.iload_n 1, 1) ∧ 27 + 1 = 28 := ⟨by decide +kernel, rfl⟩
theorem aX11_bestFor_28 : decode mX11_bestFor.2.1 28 = .ok (.iload 6, 2) ∧ 28 + 2 = 30 := ⟨by decide +kernel, rfl⟩
theorem aX11_bestFor_30 : decode mX11_bestFor.2.1 30 = .ok (.iastore, 1) ∧ 30 + 1 = 31 := ⟨by decide +kernel, rfl⟩
theorem aX11_bestFor_31 : decode mX11_bestFor.2.1 31 = .ok (.aload_n 0, 1) ∧ 31 + 1 = 32 := ⟨by decide +kernel, rfl⟩
theorem aX11_bestFor_32 : decode mX11_bestFor.2.1 32 = .ok (.getfield 90, 3) ∧ 32 + 3 = 35 := ⟨by decide +kernel, rfl⟩
theorem aX11_bestFor_35 : decode mX11_bestFor.2.1 35 = .ok (.bipush 16, 2) ∧ 35 + 2 = 37 := ⟨by decide +kernel, rfl⟩
theorem aX11_bestFor_37 : decode mX11_bestFor.2.1 37 = .ok (.invokevirtual 230, 3) ∧ 37 + 3 = 40 := ⟨by decide +kernel, rfl⟩
theorem aX11_bestFor_40 : decode mX11_bestFor.2.1 40 = .ok (.istore 7, 2) ∧ 40 + 2 = 42 := ⟨by decide +kernel, rfl⟩
theorem aX11_bestFor_42 : decode mX11_bestFor.2.1 42 = .ok (.iload 7, 2) ∧ 42 + 2 = 44 := ⟨by decide +kernel, rfl⟩
theorem aX11_bestFor_44 : decode mX11_bestFor.2.1 44 = .ok (.iload 5, 2) ∧ 44 + 2 = 46 := ⟨by decide +kernel, rfl⟩
theorem aX11_bestFor_46 : decode mX11_bestFor.2.1 46 = .ok (.if_icmp .le 11, 3) ∧ ((46 : Nat) : Int) + 11 = ((57 : Nat) : Int) ∧ 46 + 3 = 49 := ⟨by decide +kernel, by decide, rfl⟩
theorem aX11_bestFor_49 : decode mX11_bestFor.2.1 49 = .ok (.iload 7, 2) ∧ 49 + 2 = 51 := ⟨by decide +kernel, rfl⟩
theorem aX11_bestFor_51 : decode mX11_bestFor.2.1 51 = .ok (.istore 5, 2) ∧ 51 + 2 = 53 := ⟨by decide +kernel, rfl⟩
theorem aX11_bestFor_53 : decode mX11_bestFor.2.1 53 = .ok (.iload 6, 2) ∧ 53 + 2 = 55 := ⟨by decide +kernel, rfl⟩
theorem aX11_bestFor_55 : decode mX11_bestFor.2.1 55 = .ok (.istore 4, 2) ∧ 55 + 2 = 57 := ⟨by decide +kernel, rfl⟩
theorem aX11_bestFor_57 : decode mX11_bestFor.2.1 57 = .ok (.iinc 6 1, 3) ∧ 57 + 3 = 60 := ⟨by decide +kernel, rfl⟩
theorem aX11_bestFor_60 : decode mX11_bestFor.2.1 60 = .ok (.goto (-51), 3) ∧ ((60 : Nat) : Int) + (-51) = ((9 : Nat) : Int) := ⟨by decide +kernel, by decide⟩
theorem aX11_bestFor_63 : decode mX11_bestFor.2.1 63 = .ok (.iload 4, 2) ∧ 63 + 2 = 65 := ⟨by decide +kernel, rfl⟩
theorem aX11_bestFor_65 : decode mX11_bestFor.2.1 65 = .ok (.ireturn, 1) := by decide +kernel
theorem S_X11_bestFor {E : EE} {d : Nat} {I : IH} {Q : QT} (x1 : Int32) {o2 n2 : Nat} (hs2 : shape[o2]? = some (.inr (0, n2, []))) (hn2 : n2 < 2 ^ 30) (x3 : Int32) (h :
J E (d + 1) mX11_bestFor 9 [(0, .ref (eb E + 0)), (1, .int x1), (2, .ref (eb E + o2)), (3, .int x3), (4, .int (nI 0)), (5, .int (-1)), (6, .int (nI 0))] [] I Q) : Mt E (d + 1) mX11_bestFor [.ref (eb E + 0), .int x1, .ref (eb E + o2), .int x3] I Q := by
  refine Mt_of [(0, .ref (eb E + 0)), (1, .int x1), (2, .ref (eb E + o2)), (3, .int x3)] (by decide +kernel) (by simp [lg_sl, Value.category, mX11_bestFor]) rfl ?_
  refine J_iconst (nI 0) aX11_bestFor_0 (by decide +kernel) ?_
  refine J_istore [(4, .int (nI 0)), (0, .ref (eb E + 0)), (1, .int x1), (2, .ref (eb E + o2)), (3, .int x3)] aX11_bestFor_1 (by decide) rfl ?_
  refine J_iconst (-1) aX11_bestFor_3 (by decide +kernel) ?_
  refine J_istore [(5, .int (-1)), (4, .int (nI 0)), (0, .ref (eb E + 0)), (1, .int x1), (2, .ref (eb E + o2)), (3, .int x3)] aX11_bestFor_4 (by decide) rfl ?_
  refine J_iconst (nI 0) aX11_bestFor_6 (by decide +kernel) ?_
  refine J_istore [(6, .int (nI 0)), (5, .int (-1)), (4, .int (nI 0)), (0, .ref (eb E + 0)), (1, .int x1), (2, .ref (eb E + o2)), (3, .int x3)] aX11_bestFor_7 (by decide) rfl ?_
  refine J_pick [3, 4, 5, 6, 2, 1, 0] rfl ?_
  exact h
theorem S_X11_bestFor_9 {E : EE} {d : Nat} {I : IH} {Q : QT} {o2 n2 : Nat} (hs2 : shape[o2]? = some (.inr (0, n2, []))) (hn2 : n2 < 2 ^ 30) (x1 : Int32) (x3 : Int32) (x4 : Int32) (x5 : Int32) (x6 : Int32) (h :
((x3 < x6 → Q (some (.int x4)) I) ∧
 (¬ x3 < x6 → (Mt E d mX1_become [.ref (eb E + 57), .ref (eb E + 33)] I (fun rv I1 => rv = none ∧
 (∃ j4 : Nat, x1 = nI j4 ∧ j4 < n2 ∧ (∀ I2 : IH, I2 = stI I1 o2 j4 x6 →
 (Mt E d mX1_goRestFor [.ref (eb E + 57), .int (nI 16)] I2 (fun rv I7 => ∃ v8 : Int32, rv = some (.int v8) ∧
 ((v8 ≤ x5 → J E (d + 1) mX11_bestFor 9 [(0, .ref (eb E + 0)), (1, .int x1), (2, .ref (eb E + o2)), (3, .int x3), (4, .int x4), (5, .int x5), (6, .int (x6 + nI 1))] [] I7 Q) ∧
 (¬ v8 ≤ x5 → J E (d + 1) mX11_bestFor 9 [(0, .ref (eb E + 0)), (1, .int x1), (2, .ref (eb E + o2)), (3, .int x3), (4, .int x6), (5, .int v8), (6, .int (x6 + nI 1))] [] I7 Q))))))))))) : J E (d + 1) mX11_bestFor 9 [(0, .ref (eb E + 0)), (1, .int x1), (2, .ref (eb E + o2)), (3, .int x3), (4, .int x4), (5, .int x5), (6, .int x6)] [] I Q := by
  refine J_iload 6 aX11_bestFor_9 rfl ?_
  refine J_iload_n 3 aX11_bestFor_11 rfl ?_
  refine J_icmp_gt aX11_bestFor_12 (fun q => ?_) (fun q => ?_)
  · replace h := h.1 q
    refine J_iload 4 aX11_bestFor_63 rfl ?_
    exact J_iret aX11_bestFor_65 rfl h
  · replace h := h.2 q
    refine J_aload_n 0 aX11_bestFor_15 rfl ?_
    refine J_getR aX11_bestFor_16 flX11_90 sh0 rfl ?_
    refine J_aload_n 0 aX11_bestFor_19 rfl ?_
    refine J_getR aX11_bestFor_20 flX11_83 sh0 rfl ?_
    refine J_callV [.ref (eb E + 33)] [] aX11_bestFor_23 lkX11_227_X1 okX1_become sh57 rfl rfl rfl (Nat.le_of_ble_eq_true rfl) (Nat.le_refl _) (Mt_mono h (fun rv I1 h => ?_))
    obtain ⟨rfl, h⟩ := h
    refine J_r0 ?_
    refine J_aload_n 2 aX11_bestFor_26 rfl ?_
    refine J_iload_n 1 aX11_bestFor_27 rfl ?_
    refine J_iload 6 aX11_bestFor_28 rfl ?_
    obtain ⟨j4, e5, b6, h⟩ := h
    refine J_iastore j4 aX11_bestFor_30 hs2 e5 b6 (by omega) (fun I2 e3 => ?_)
    replace h := h I2 e3
    refine J_aload_n 0 aX11_bestFor_31 rfl ?_
    refine J_getR aX11_bestFor_32 flX11_90 sh0 rfl ?_
    refine J_bipush (nI 16) aX11_bestFor_35 (by decide +kernel) ?_
    refine J_callV [.int (nI 16)] [] aX11_bestFor_37 lkX11_230_X1 okX1_goRestFor sh57 rfl rfl rfl (Nat.le_of_ble_eq_true rfl) (Nat.le_refl _) (Mt_mono h (fun rv I7 h => ?_))
    obtain ⟨v8, rfl, h⟩ := h
    refine J_r1 ?_
    refine J_istore [(7, .int v8), (0, .ref (eb E + 0)), (1, .int x1), (2, .ref (eb E + o2)), (3, .int x3), (4, .int x4), (5, .int x5), (6, .int x6)] aX11_bestFor_40 (by decide) rfl ?_
    refine J_iload 0 aX11_bestFor_42 rfl ?_
    refine J_iload 6 aX11_bestFor_44 rfl ?_
    refine J_icmp_le aX11_bestFor_46 (fun q => ?_) (fun q => ?_)
    · replace h := h.1 q
      refine J_iinc (x6 + nI 1) [(6, .int (x6 + nI 1)), (7, .int v8), (0, .ref (eb E + 0)), (1, .int x1), (2, .ref (eb E + o2)), (3, .int x3), (4, .int x4), (5, .int x5)] 7 aX11_bestFor_57 rfl (by first | rfl | (congr 1; decide +kernel)) (by decide) rfl ?_
      refine J_goto aX11_bestFor_60 ?_
      refine J_pick [2, 3, 4, 5, 6, 7, 0] rfl ?_
      exact h
    · replace h := h.2 q
      refine J_iload 0 aX11_bestFor_49 rfl ?_
      refine J_istore [(5, .int v8), (7, .int v8), (0, .ref (eb E + 0)), (1, .int x1), (2, .ref (eb E + o2)), (3, .int x3), (4, .int x4), (6, .int x6)] aX11_bestFor_51 (by decide) rfl ?_
      refine J_iload 7 aX11_bestFor_53 rfl ?_
      refine J_istore [(4, .int x6), (5, .int v8), (7, .int v8), (0, .ref (eb E + 0)), (1, .int x1), (2, .ref (eb E + o2)), (3, .int x3), (6, .int x6)] aX11_bestFor_55 (by decide) rfl ?_
      refine J_iinc (x6 + nI 1) [(6, .int (x6 + nI 1)), (4, .int x6), (5, .int v8), (7, .int v8), (0, .ref (eb E + 0)), (1, .int x1), (2, .ref (eb E + o2)), (3, .int x3)] 7 aX11_bestFor_57 rfl (by first | rfl | (congr 1; decide +kernel)) (by decide) rfl ?_
      refine J_goto aX11_bestFor_60 ?_
      refine J_pick [4, 5, 6, 7, 1, 2, 0] rfl ?_
      exact h
theorem aX11_dark_0 : decode mX11_dark.2.1 0 = .ok (.aload_n 0, 1) ∧ 0 + 1 = 1 := ⟨by decide +kernel, rfl⟩
theorem aX11_dark_1 : decode mX11_dark.2.1 1 = .ok (.iload_n 1, 1) ∧ 1 + 1 = 2 := ⟨by decide +kernel, rfl⟩
theorem aX11_dark_2 : decode mX11_dark.2.1 2 = .ok (.invokevirtual 124, 3) ∧ 2 + 3 = 5 := ⟨by decide +kernel, rfl⟩
theorem aX11_dark_5 : decode mX11_dark.2.1 5 = .ok (.ifCond .ne 5, 3) ∧ ((5 : Nat) : Int) + 5 = ((10 : Nat) : Int) ∧ 5 + 3 = 8 := ⟨by decide +kernel, by decide, rfl⟩
theorem aX11_dark_8 : decode mX11_dark.2.1 8 = .ok (.iconst (-1), 1) ∧ 8 + 1 = 9 := ⟨by decide +kernel, rfl⟩
theorem aX11_dark_9 : decode mX11_dark.2.1 9 = .ok (.ireturn, 1) := by decide +kernel
theorem aX11_dark_10 : decode mX11_dark.2.1 10 = .ok (.aload_n 0, 1) ∧ 10 + 1 = 11 := ⟨by decide +kernel, rfl⟩
theorem aX11_dark_11 : decode mX11_dark.2.1 11 = .ok (.getfield 83, 3) ∧ 11 + 3 = 14 := ⟨by decide +kernel, rfl⟩
theorem aX11_dark_14 : decode mX11_dark.2.1 14 = .ok (.iload_n 1, 1) ∧ 14 + 1 = 15 := ⟨by decide +kernel, rfl⟩
theorem aX11_dark_15 : decode mX11_dark.2.1 15 = .ok (.invokevirtual 146, 3) ∧ 15 + 3 = 18 := ⟨by decide +kernel, rfl⟩
theorem aX11_dark_18 : decode mX11_dark.2.1 18 = .ok (.astore_n 2, 1) ∧ 18 + 1 = 19 := ⟨by decide +kernel, rfl⟩
theorem aX11_dark_19 : decode mX11_dark.2.1 19 = .ok (.aload_n 0, 1) ∧ 19 + 1 = 20 := ⟨by decide +kernel, rfl⟩
theorem aX11_dark_20 : decode mX11_dark.2.1 20 = .ok (.getfield 83, 3) ∧ 20 + 3 = 23 := ⟨by decide +kernel, rfl⟩
theorem aX11_dark_23 : decode mX11_dark.2.1 23 = .ok (.getfield 134, 3) ∧ 23 + 3 = 26 := ⟨by decide +kernel, rfl⟩
theorem aX11_dark_26 : decode mX11_dark.2.1 26 = .ok (.iload_n 1, 1) ∧ 26 + 1 = 27 := ⟨by decide +kernel, rfl⟩
theorem aX11_dark_27 : decode mX11_dark.2.1 27 = .ok (.iaload, 1) ∧ 27 + 1 = 28 := ⟨by decide +kernel, rfl⟩
theorem aX11_dark_28 : decode mX11_dark.2.1 28 = .ok (.istore_n 3, 1) ∧ 28 + 1 = 29 := ⟨by decide +kernel, rfl⟩
theorem aX11_dark_29 : decode mX11_dark.2.1 29 = .ok (.aload_n 0, 1) ∧ 29 + 1 = 30 := ⟨by decide +kernel, rfl⟩
theorem aX11_dark_30 : decode mX11_dark.2.1 30 = .ok (.getfield 83, 3) ∧ 30 + 3 = 33 := ⟨by decide +kernel, rfl⟩
theorem aX11_dark_33 : decode mX11_dark.2.1 33 = .ok (.getfield 154, 3) ∧ 33 + 3 = 36 := ⟨by decide +kernel, rfl⟩
theorem aX11_dark_36 : decode mX11_dark.2.1 36 = .ok (.istore 4, 2) ∧ 36 + 2 = 38 := ⟨by decide +kernel, rfl⟩
theorem aX11_dark_38 : decode mX11_dark.2.1 38 = .ok (.iload 4, 2) ∧ 38 + 2 = 40 := ⟨by decide +kernel, rfl⟩
theorem aX11_dark_40 : decode mX11_dark.2.1 40 = .ok (.aload_n 0, 1) ∧ 40 + 1 = 41 := ⟨by decide +kernel, rfl⟩
theorem aX11_dark_41 : decode mX11_dark.2.1 41 = .ok (.getfield 83, 3) ∧ 41 + 3 = 44 := ⟨by decide +kernel, rfl⟩
theorem aX11_dark_44 : decode mX11_dark.2.1 44 = .ok (.getfield 188, 3) ∧ 44 + 3 = 47 := ⟨by decide +kernel, rfl⟩
theorem aX11_dark_47 : decode mX11_dark.2.1 47 = .ok (.if_icmp .ge 24, 3) ∧ ((47 : Nat) : Int) + 24 = ((71 : Nat) : Int) ∧ 47 + 3 = 50 := ⟨by decide +kernel, by decide, rfl⟩
theorem aX11_dark_50 : decode mX11_dark.2.1 50 = .ok (.aload_n 2, 1) ∧ 50 + 1 = 51 := ⟨by decide +kernel, rfl⟩
theorem aX11_dark_51 : decode mX11_dark.2.1 51 = .ok (.iload_n 3, 1) ∧ 51 + 1 = 52 := ⟨by decide +kernel, rfl⟩
theorem aX11_dark_52 : decode mX11_dark.2.1 52 = .ok (.iload 4, 2) ∧ 52 + 2 = 54 := ⟨by decide +kernel, rfl⟩
theorem aX11_dark_54 : decode mX11_dark.2.1 54 = .ok (.invokevirtual 157, 3) ∧ 54 + 3 = 57 := ⟨by decide +kernel, rfl⟩
theorem aX11_dark_57 : decode mX11_dark.2.1 57 = .ok (.istore_n 3, 1) ∧ 57 + 1 = 58 := ⟨by decide +kernel, rfl⟩
theorem aX11_dark_58 : decode mX11_dark.2.1 58 = .ok (.iload_n 3, 1) ∧ 58 + 1 = 59 := ⟨by decide +kernel, rfl⟩
theorem aX11_dark_59 : decode mX11_dark.2.1 59 = .ok (.ifCond .ne 6, 3) ∧ ((59 : Nat) : Int) + 6 = ((65 : Nat) : Int) ∧ 59 + 3 = 62 := ⟨by decide +kernel, by decide, rfl⟩
theorem aX11_dark_62 : decode mX11_dark.2.1 62 = .ok (.iload 4, 2) ∧ 62 + 2 = 64 := ⟨by decide +kernel, rfl⟩
theorem aX11_dark_64 : decode mX11_dark.2.1 64 = .ok (.ireturn, 1) := by decide +kernel
theorem aX11_dark_65 : decode mX11_dark.2.1 65 = .ok (.iinc 4 1, 3) ∧ 65 + 3 = 68 := ⟨by decide +kernel, rfl⟩
theorem aX11_dark_68 : decode mX11_dark.2.1 68 = .ok (.goto (-30), 3) ∧ ((68 : Nat) : Int) + (-30) = ((38 : Nat) : Int) := ⟨by decide +kernel, by decide⟩
theorem aX11_dark_71 : decode mX11_dark.2.1 71 = .ok (.bipush (-3), 2) ∧ 71 + 2 = 73 := ⟨by decide +kernel, rfl⟩
theorem aX11_dark_73 : decode mX11_dark.2.1 73 = .ok (.ireturn, 1) := by decide +kernel
theorem S_X11_dark {E : EE} {d : Nat} {I : IH} {Q : QT} (x1 : Int32) (h :
(Mt E d mX11_isPane [.ref (eb E + 0), .int x1] I (fun rv I1 => ∃ v2 : Int32, rv = some (.int v2) ∧
 ((¬ v2 = 0 → (Mt E d mX1_thing [.ref (eb E + 33), .int x1] I1 (fun rv I3 => ∃ j4 : Nat, j4 < 6 ∧ rv = some (.ref (eb E + (21 + j4))) ∧
 (∃ j6 : Nat, x1 = nI j6 ∧ j6 < 6 ∧ J E (d + 1) mX11_dark 38 [(0, .ref (eb E + 0)), (2, .ref (eb E + (21 + j4))), (3, .int (I3 38 j6)), (4, .int (I3 33 3))] [] I3 Q)))) ∧
 (v2 = 0 → Q (some (.int (-1))) I1))))) : Mt E (d + 1) mX11_dark [.ref (eb E + 0), .int x1] I Q := by
  refine Mt_of [(0, .ref (eb E + 0)), (1, .int x1)] (by decide +kernel) (by simp [lg_sl, Value.category, mX11_dark]) rfl ?_
  refine J_aload_n 0 aX11_dark_0 rfl ?_
  refine J_iload_n 1 aX11_dark_1 rfl ?_
  refine J_callV [.int x1] [] aX11_dark_2 lkX11_124_X11 okX11_isPane sh0 rfl rfl rfl (Nat.le_of_ble_eq_true rfl) (Nat.le_refl _) (Mt_mono h (fun rv I1 h => ?_))
  obtain ⟨v2, rfl, h⟩ := h
  refine J_r1 ?_
  refine J_if_ne aX11_dark_5 (fun q => ?_) (fun q => ?_)
  · replace h := h.1 q
    refine J_aload_n 0 aX11_dark_10 rfl ?_
    refine J_getR aX11_dark_11 flX11_83 sh0 rfl ?_
    refine J_iload_n 1 aX11_dark_14 rfl ?_
    refine J_callV [.int x1] [] aX11_dark_15 lkX11_146_X1 okX1_thing sh33 rfl rfl rfl (Nat.le_of_ble_eq_true rfl) (Nat.le_refl _) (Mt_mono h (fun rv I3 h => ?_))
    obtain ⟨j4, b5, rfl, h⟩ := h
    refine J_r1 ?_
    refine J_astore_n [(2, .ref (eb E + (21 + j4))), (0, .ref (eb E + 0)), (1, .int x1)] aX11_dark_18 (by decide) rfl ?_
    refine J_aload_n 1 aX11_dark_19 rfl ?_
    refine J_getR aX11_dark_20 flX11_83 sh0 rfl ?_
    refine J_getR aX11_dark_23 flX11_134 sh33 rfl ?_
    refine J_iload_n 2 aX11_dark_26 rfl ?_
    obtain ⟨j6, e7, b8, h⟩ := h
    refine J_iaload j6 aX11_dark_27 sh38 e7 b8 (by decide) ?_
    refine J_istore_n [(3, .int (I3 38 j6)), (2, .ref (eb E + (21 + j4))), (0, .ref (eb E + 0)), (1, .int x1)] aX11_dark_28 (by decide) rfl ?_
    refine J_aload_n 2 aX11_dark_29 rfl ?_
    refine J_getR aX11_dark_30 flX11_83 sh0 rfl ?_
    refine J_getI aX11_dark_33 flX11_154 sh33 rfl ?_
    refine J_istore [(4, .int (I3 33 3)), (3, .int (I3 38 j6)), (2, .ref (eb E + (21 + j4))), (0, .ref (eb E + 0)), (1, .int x1)] aX11_dark_36 (by decide) rfl ?_
    refine J_pick [3, 2, 1, 0] rfl ?_
    exact h
  · replace h := h.2 q
    refine J_iconst (-1) aX11_dark_8 (by decide +kernel) ?_
    exact J_iret aX11_dark_9 rfl h
theorem S_X11_dark_38 {E : EE} {d : Nat} {I : IH} {Q : QT} {j2 : Nat} (hj2 : j2 < 6) (x3 : Int32) (x4 : Int32) (h :
(((I 33 2) ≤ x4 → Q (some (.int (-3))) I) ∧
 (¬ (I 33 2) ≤ x4 → (Mt E d (sel_next j2) [.ref (eb E + (21 + j2)), .int x3, .int x4] I (fun rv I1 => ∃ v2 : Int32, rv = some (.int v2) ∧
 ((¬ v2 = 0 → J E (d + 1) mX11_dark 38 [(0, .ref (eb E + 0)), (2, .ref (eb E + (21 + j2))), (3, .int v2), (4, .int (x4 + nI 1))] [] I1 Q) ∧
 (v2 = 0 → Q (some (.int x4)) I1))))))) : J E (d + 1) mX11_dark 38 [(0, .ref (eb E + 0)), (2, .ref (eb E + (21 + j2))), (3, .int x3), (4, .int x4)] [] I Q := by
  refine J_iload 3 aX11_dark_38 rfl ?_
  refine J_aload_n 0 aX11_dark_40 rfl ?_
  refine J_getR aX11_dark_41 flX11_83 sh0 rfl ?_
  refine J_getI aX11_dark_44 flX11_188 sh33 rfl ?_
  refine J_icmp_ge aX11_dark_47 (fun q => ?_) (fun q => ?_)
  · replace h := h.1 q
    refine J_bipush (-3) aX11_dark_71 (by decide +kernel) ?_
    exact J_iret aX11_dark_73 rfl h
  · replace h := h.2 q
    refine J_aload_n 1 aX11_dark_50 rfl ?_
    refine J_iload_n 2 aX11_dark_51 rfl ?_
    refine J_iload 3 aX11_dark_52 rfl ?_
    refine dspX11_157 [.int x3, .int x4] [] hj2 aX11_dark_54 rfl rfl rfl (Nat.le_of_ble_eq_true rfl) (Nat.le_refl _) (Mt_mono h (fun rv I1 h => ?_))
    obtain ⟨v2, rfl, h⟩ := h
    refine J_r1 ?_
    refine J_istore_n [(3, .int v2), (0, .ref (eb E + 0)), (2, .ref (eb E + (21 + j2))), (4, .int x4)] aX11_dark_57 (by decide) rfl ?_
    refine J_iload_n 0 aX11_dark_58 rfl ?_
    refine J_if_ne aX11_dark_59 (fun q => ?_) (fun q => ?_)
    · replace h := h.1 q
      refine J_iinc (x4 + nI 1) [(4, .int (x4 + nI 1)), (3, .int v2), (0, .ref (eb E + 0)), (2, .ref (eb E + (21 + j2)))] 3 aX11_dark_65 rfl (by first | rfl | (congr 1; decide +kernel)) (by decide) rfl ?_
      refine J_goto aX11_dark_68 ?_
      refine J_pick [2, 3, 1, 0] rfl ?_
      exact h
    · replace h := h.2 q
      refine J_iload 3 aX11_dark_62 rfl ?_
      exact J_iret aX11_dark_64 rfl h
