section JX
variable {E : EE} {d : Nat} {M : MD} {pc pc2 tgt : Nat} {lv : List (Nat × Value)} {st : List Value} {I : IH} {Q : QT}
/-- super.m(..), where m is inherited: x is what the code names, M2 what the class above that one has -/
def LkSX (own : String) (idx : Nat) (x : MethodName) (M2 : MD) : Prop := Cond.methodLink own idx x ∈ Gw ∧ Cond.sameMethod x.cls M2.1.cls x.name x.desc ∈ Gw ∧ Cond.superclass own x.cls ∈ Gw ∧ Cond.superclass x.cls M2.1.cls ∈ Gw ∧ Cond.instanceMethod M2.1 ∈ Gw ∧ x.name ≠ "<init>" ∧ M2.1 = ⟨M2.1.cls, x.name, x.desc⟩
theorem sub_two {vm : Vm} {a b : ClassId} {k : Class} (h : vm.classes[a]? = some k) (hs : k.super = some b) : vm.isSubclass a b = true := by
  have hz : a < vm.classes.size := (Array.getElem?_eq_some_iff.mp h).1
  unfold Vm.isSubclass
  obtain ⟨n, hn⟩ : ∃ n, vm.classes.size = n + 1 := ⟨vm.classes.size - 1, (Nat.succ_pred_eq_of_pos (Nat.lt_of_le_of_lt (Nat.zero_le _) hz)).symm⟩
  rw [hn]
  simp [Vm.isSubclassAux, h, hs]
theorem J_callSX {idx ci o d2 n : Nat} {fs : List (Option Nat)} {x : MethodName} {M2 : MD} {stk : List Value} (As rest : List Value) (h : decode M.2.1 pc = .ok (.invokespecial idx, 3) ∧ pc + 3 = pc2) (hL : LkSX M.1.cls idx x M2) (hM : Okm M2 n) (hs : shape[o]? = some (.inl (ci, fs))) (hC : ci < 13) (hn : As.length = n) (hst : stk = As.reverse ++ .ref (eb E + o) :: rest) (hr : (rest.map fun v => v.category).sum ≤ 8) (hd : d2 + 1 ≤ d)
    (hc : Mt E d2 M2 (.ref (eb E + o) :: As) I (fun r I2 => J E d M pc2 lv (r.toList ++ rest) I2 Q)) : J E d M pc lv stk I Q := by
  subst hst
  obtain ⟨q, hq⟩ : ∃ q, classes[ci]? = some q := ⟨classes[ci]'hC, List.getElem?_eq_getElem hC⟩
  refine J_run (rest := rest) (a := (Value.ref (eb E + o) :: As).toArray) h.2 ?_
  intro p l e s m args below meth c H locs ls F P hl
  have hts := hts_of F args
  have hpre : PreV s H q.1 (eb E + o) (va_Pc (.ref (eb E + o) :: As) (PW E I)) As := ⟨pw_blind, va_recv (hK_of F) P.1 hq (wd_at E I hs), pw_pre F P _⟩
  obtain ⟨l1, l2, l3, l4, l5, l6, l7⟩ := hL
  obtain ⟨r1, r2⟩ := room_of hM hd
  have hK : Back l (rmD d) p e below s args M2.1 3 8 (PreOf (rmD d) 0 0 (va_Pc (.ref (eb E + o) :: As) (PW E I))) (PostOf (QQ E (fun r I2 => J E d M pc2 lv (r.toList ++ rest) I2 Q)) 0 0 (AA E)) := back_of (bytes := M2.2.1) (maxL := M2.2.2.1) (ret := M2.2.2.2) (hc l) hpre.1 rfl rfl r1 r2 (ws_of F hM args) (List.mem_singleton.mpr rfl) (fun a' U hW => word_at hW (good_gw hM.2.1) (hts _ hM.2.1))
  obtain ⟨-, ⟨cellB, hcB, hoB, hclB⟩, hPc⟩ := hpre
  obtain ⟨hfc, kB, hkB, -⟩ := ((hK_of F).1 ci q hq).2
  have hcc := Option.some.inj (hfc.symm.trans hclB)
  rw [hcc] at hkB
  obtain ⟨mk, methM, hnamed, hmethM, hstM, habM⟩ := Cond.instanceMethod_spec (hts _ l5)
  obtain ⟨methM2, cM, hmethM2, -, -, -, -, -, -, hsigM⟩ := Cond.code_spec hnamed (hts _ hM.1)
  cases hmethM.symm.trans hmethM2
  obtain ⟨ps, dk, kp, hps, hdk, hkp, hsuper, -, -, hnid⟩ := Cond.superclass_spec (own_of F) (hts _ l3)
  obtain ⟨ps2, dk2, kp2, hps2, hdk2, hkp2, hsuper2, -, -, -⟩ := Cond.superclass_spec hps (hts _ l4)
  have hpm : ps2 = mk.cls := Option.some.inj (hps2.symm.trans (findClass_of_methodNamed hnamed))
  have hsub : s.vm.isSubclass ps mk.cls = true := by rw [← hpm]; exact sub_two hdk2 hsuper2
  have hn2 : s.methodNamed? ⟨M2.1.cls, x.name, x.desc⟩ = some mk := by rw [← l7]; exact hnamed
  intro T hT X
  obtain ⟨vm₁, X₁, hstep₁⟩ := X.invokespecialUp F.1 (own_of F) (hts _ l1) (hts _ l2) hn2 hmethM hstM habM l6 hdk hnid hps hsuper hsub (a := eb E + o) (cell := cellB) (by rw [hT]; exact hcB) (fun z h => by rw [h] at hoB; cases hoB) hkB (g := F0 m pc ls (As.reverse ++ .ref (eb E + o) :: rest)) rfl (argsL := As) (rest := rest) (hn.trans (len_of hM _ hsigM)) rfl (by rw [F.2.1]; exact h.1)
  obtain ⟨v, B, X2, ⟨g', mk2, t, L, e1, e2, hq2, h1, hL2, h2, h3⟩, hsteps⟩ := hK m meth c ⟨T.setVm vm₁, locs, 0, 0⟩ { F0 m pc ls (As.reverse ++ .ref (eb E + o) :: rest) with stack := rest } (.invokespecial idx) mk (Value.ref (eb E + o) :: As).toArray X₁ rfl (hl.1.trans F.2.2.1.symm) (by rw [F.2.1]; exact h.1) (lv_room hr) (X₁.named hnamed) ⟨Nat.zero_le _, Nat.zero_le _, hPc (T.setVm vm₁) hT X₁.warmed⟩
  obtain ⟨U', l2', c2, s2⟩ := B
  dsimp only [Pt.U, Pt.locs, Pt.cells, Pt.slots] at X2 e1 e2 h1 h2 h3 hsteps
  subst h1; subst h2; subst h3
  exact ⟨v, (T.setVm vm₁).calling g' mk2 (Value.ref (eb E + o) :: As).toArray, t, U', L, hT, X2, hL2, e1, e2, hq2, fun target ht => hstep₁ _ (by rw [doInvoke_state]; exact hsteps.trans ht)⟩
end JX
theorem lkX0_20 : LkSX RX0 20 ⟨RX2, "smokes", "(LPaneScenes$Stage;I)I"⟩ mX4_smokes := ⟨(gx5 54 rfl rfl), (gx5 55 rfl rfl), (gx1 165 rfl rfl), (gx1 158 rfl rfl), (gx5 47 rfl rfl), by decide +kernel, rfl⟩
theorem lkX10_22 : LkSX RX10 22 ⟨RX7, "glows", "(LPaneScenes$Stage;I)I"⟩ mX4_glows := ⟨(gx5 41 rfl rfl), (gx5 42 rfl rfl), (gx1 151 rfl rfl), (gx1 144 rfl rfl), (gx5 23 rfl rfl), by decide +kernel, rfl⟩
theorem lkX10_30 : LkSX RX10 30 ⟨RX7, "begs", "(LPaneScenes$Stage;I)I"⟩ mX4_begs := ⟨(gx5 98 rfl rfl), (gx5 99 rfl rfl), (gx1 151 rfl rfl), (gx1 144 rfl rfl), (gx5 88 rfl rfl), by decide +kernel, rfl⟩
theorem lkJ7_13 : LkS RJ7 13 mJ7_rangeCheck_23922 := ⟨Or.inl (gx4 200 rfl rfl), (gx4 201 rfl rfl)⟩
theorem aJ7_rangeCheck_23922_0 : decode mJ7_rangeCheck_23922.2.1 0 = .ok (.iload_n 1, 1) ∧ 0 + 1 = 1 := ⟨by decide +kernel, rfl⟩
theorem aJ7_rangeCheck_23922_1 : decode mJ7_rangeCheck_23922.2.1 1 = .ok (.iload_n 2, 1) ∧ 1 + 1 = 2 := ⟨by decide +kernel, rfl⟩
theorem aJ7_rangeCheck_23922_2 : decode mJ7_rangeCheck_23922.2.1 2 = .ok (.if_icmp .le 44, 3) ∧ ((2 : Nat) : Int) + 44 = ((46 : Nat) : Int) ∧ 2 + 3 = 5 := ⟨by decide +kernel, by decide, rfl⟩
theorem aJ7_rangeCheck_23922_5 : decode mJ7_rangeCheck_23922.2.1 5 = .ok (.new 43, 3) ∧ 5 + 3 = 8 := ⟨by decide +kernel, rfl⟩
theorem aJ7_rangeCheck_23922_46 : decode mJ7_rangeCheck_23922.2.1 46 = .ok (.iload_n 1, 1) ∧ 46 + 1 = 47 := ⟨by decide +kernel, rfl⟩
theorem aJ7_rangeCheck_23922_47 : decode mJ7_rangeCheck_23922.2.1 47 = .ok (.ifCond .ge 12, 3) ∧ ((47 : Nat) : Int) + 12 = ((59 : Nat) : Int) ∧ 47 + 3 = 50 := ⟨by decide +kernel, by decide, rfl⟩
theorem aJ7_rangeCheck_23922_50 : decode mJ7_rangeCheck_23922.2.1 50 = .ok (.new 68, 3) ∧ 50 + 3 = 53 := ⟨by decide +kernel, rfl⟩
theorem aJ7_rangeCheck_23922_59 : decode mJ7_rangeCheck_23922.2.1 59 = .ok (.iload_n 2, 1) ∧ 59 + 1 = 60 := ⟨by decide +kernel, rfl⟩
theorem aJ7_rangeCheck_23922_60 : decode mJ7_rangeCheck_23922.2.1 60 = .ok (.iload_n 0, 1) ∧ 60 + 1 = 61 := ⟨by decide +kernel, rfl⟩
theorem aJ7_rangeCheck_23922_61 : decode mJ7_rangeCheck_23922.2.1 61 = .ok (.if_icmp .le 12, 3) ∧ ((61 : Nat) : Int) + 12 = ((73 : Nat) : Int) ∧ 61 + 3 = 64 := ⟨by decide +kernel, by decide, rfl⟩
theorem aJ7_rangeCheck_23922_64 : decode mJ7_rangeCheck_23922.2.1 64 = .ok (.new 68, 3) ∧ 64 + 3 = 67 := ⟨by decide +kernel, rfl⟩
theorem aJ7_rangeCheck_23922_73 : decode mJ7_rangeCheck_23922.2.1 73 = .ok (.return_, 1) := by decide +kernel
theorem S_J7_rangeCheck_23922 {E : EE} {d : Nat} {I : IH} {Q : QT} (x0 : Int32) (x1 : Int32) (x2 : Int32) (h :
((x1 ≤ x2 → ((0 ≤ x1 → ((x2 ≤ x0 → Q none I) ∧
 (¬ x2 ≤ x0 → False))) ∧
 (¬ 0 ≤ x1 → False))) ∧
 (¬ x1 ≤ x2 → False))) : Mt E (d + 1) mJ7_rangeCheck_23922 [.int x0, .int x1, .int x2] I Q := by
  refine Mt_of [(0, .int x0), (1, .int x1), (2, .int x2)] (by decide +kernel) (by simp [lg_sl, Value.category, mJ7_rangeCheck_23922]) rfl ?_
  refine J_iload_n 1 aJ7_rangeCheck_23922_0 rfl ?_
  refine J_iload_n 2 aJ7_rangeCheck_23922_1 rfl ?_
  refine J_icmp_le aJ7_rangeCheck_23922_2 (fun q => ?_) (fun q => ?_)
  · replace h := h.1 q
    refine J_iload_n 1 aJ7_rangeCheck_23922_46 rfl ?_
    refine J_if_ge aJ7_rangeCheck_23922_47 (fun q => ?_) (fun q => ?_)
    · replace h := h.1 q
      refine J_iload_n 2 aJ7_rangeCheck_23922_59 rfl ?_
      refine J_iload_n 0 aJ7_rangeCheck_23922_60 rfl ?_
      refine J_icmp_le aJ7_rangeCheck_23922_61 (fun q => ?_) (fun q => ?_)
      · replace h := h.1 q
        exact J_vret aJ7_rangeCheck_23922_73 rfl h
      · replace h := h.2 q
        exact h.elim
    · replace h := h.2 q
      exact h.elim
  · replace h := h.2 q
    exact h.elim
theorem aJ7_fill_fda19_0 : decode mJ7_fill_fda19.2.1 0 = .ok (.aload_n 0, 1) ∧ 0 + 1 = 1 := ⟨by decide +kernel, rfl⟩
theorem aJ7_fill_fda19_1 : decode mJ7_fill_fda19.2.1 1 = .ok (.arraylength, 1) ∧ 1 + 1 = 2 := ⟨by decide +kernel, rfl⟩
theorem aJ7_fill_fda19_2 : decode mJ7_fill_fda19.2.1 2 = .ok (.iload_n 1, 1) ∧ 2 + 1 = 3 := ⟨by decide +kernel, rfl⟩
theorem aJ7_fill_fda19_3 : decode mJ7_fill_fda19.2.1 3 = .ok (.iload_n 2, 1) ∧ 3 + 1 = 4 := ⟨by decide +kernel, rfl⟩
theorem aJ7_fill_fda19_4 : decode mJ7_fill_fda19.2.1 4 = .ok (.invokestatic 13, 3) ∧ 4 + 3 = 7 := ⟨by decide +kernel, rfl⟩
theorem aJ7_fill_fda19_7 : decode mJ7_fill_fda19.2.1 7 = .ok (.iload_n 1, 1) ∧ 7 + 1 = 8 := ⟨by decide +kernel, rfl⟩
theorem aJ7_fill_fda19_8 : decode mJ7_fill_fda19.2.1 8 = .ok (.istore 4, 2) ∧ 8 + 2 = 10 := ⟨by decide +kernel, rfl⟩
theorem aJ7_fill_fda19_10 : decode mJ7_fill_fda19.2.1 10 = .ok (.iload 4, 2) ∧ 10 + 2 = 12 := ⟨by decide +kernel, rfl⟩
theorem aJ7_fill_fda19_12 : decode mJ7_fill_fda19.2.1 12 = .ok (.iload_n 2, 1) ∧ 12 + 1 = 13 := ⟨by decide +kernel, rfl⟩
theorem aJ7_fill_fda19_13 : decode mJ7_fill_fda19.2.1 13 = .ok (.if_icmp .ge 14, 3) ∧ ((13 : Nat) : Int) + 14 = ((27 : Nat) : Int) ∧ 13 + 3 = 16 := ⟨by decide +kernel, by decide, rfl⟩
theorem aJ7_fill_fda19_16 : decode mJ7_fill_fda19.2.1 16 = .ok (.aload_n 0, 1) ∧ 16 + 1 = 17 := ⟨by decide +kernel, rfl⟩
theorem aJ7_fill_fda19_17 : decode mJ7_fill_fda19.2.1 17 = .ok (.iload 4, 2) ∧ 17 + 2 = 19 := ⟨by decide +kernel, rfl⟩
theorem aJ7_fill_fda19_19 : decode mJ7_fill_fda19.2.1 19 = .ok (.iload_n 3, 1) ∧ 19 + 1 = 20 := ⟨by decide +kernel, rfl⟩
theorem aJ7_fill_fda19_20 : decode mJ7_fill_fda19.2.1 20 = .ok (.iastore, 1) ∧ 20 + 1 = 21 := ⟨by decide +kernel, rfl⟩
theorem aJ7_fill_fda19_21 : decode mJ7_fill_fda19.2.1 21 = .ok (.iinc 4 1, 3) ∧ 21 + 3 = 24 := ⟨by decide +kernel, rfl⟩
theorem aJ7_fill_fda19_24 : decode mJ7_fill_fda19.2.1 24 = .ok (.goto (-14), 3) ∧ ((24 : Nat) : Int) + (-14) = ((10 : Nat) : Int) := ⟨by decide +kernel, by decide⟩
theorem aJ7_fill_fda19_27 : decode mJ7_fill_fda19.2.1 27 = .ok (.return_, 1) := by decide +kernel
theorem S_J7_fill_fda19 {E : EE} {d : Nat} {I : IH} {Q : QT} {o0 n0 : Nat} (hs0 : shape[o0]? = some (.inr (0, n0, []))) (hn0 : n0 < 2 ^ 30) (x1 : Int32) (x2 : Int32) (x3 : Int32) (h :
(Mt E d mJ7_rangeCheck_23922 [.int (nI n0), .int x1, .int x2] I (fun rv I1 => rv = none ∧
 J E (d + 1) mJ7_fill_fda19 10 [(0, .ref (eb E + o0)), (2, .int x2), (3, .int x3), (4, .int x1)] [] I1 Q))) : Mt E (d + 1) mJ7_fill_fda19 [.ref (eb E + o0), .int x1, .int x2, .int x3] I Q := by
  refine Mt_of [(0, .ref (eb E + o0)), (1, .int x1), (2, .int x2), (3, .int x3)] (by decide +kernel) (by simp [lg_sl, Value.category, mJ7_fill_fda19]) rfl ?_
  refine J_aload_n 0 aJ7_fill_fda19_0 rfl ?_
  refine J_alen (v := nI n0) aJ7_fill_fda19_1 hs0 (by decide) rfl ?_
  refine J_iload_n 1 aJ7_fill_fda19_2 rfl ?_
  refine J_iload_n 2 aJ7_fill_fda19_3 rfl ?_
  refine J_callS [.int (nI n0), .int x1, .int x2] [] aJ7_fill_fda19_4 lkJ7_13 okJ7_rangeCheck_23922 rfl rfl (Nat.le_of_ble_eq_true rfl) (Nat.le_refl _) (Mt_mono h (fun rv I1 h => ?_))
  obtain ⟨rfl, h⟩ := h
  refine J_r0 ?_
  refine J_iload_n 1 aJ7_fill_fda19_7 rfl ?_
  refine J_istore [(4, .int x1), (0, .ref (eb E + o0)), (1, .int x1), (2, .int x2), (3, .int x3)] aJ7_fill_fda19_8 (by decide) rfl ?_
  refine J_pick [1, 3, 4, 0] rfl ?_
  exact h
theorem S_J7_fill_fda19_10 {E : EE} {d : Nat} {I : IH} {Q : QT} {o0 n0 : Nat} (hs0 : shape[o0]? = some (.inr (0, n0, []))) (hn0 : n0 < 2 ^ 30) (x2 : Int32) (x3 : Int32) (x4 : Int32) (h :
((x2 ≤ x4 → Q none I) ∧
 (¬ x2 ≤ x4 → (∃ j3 : Nat, x4 = nI j3 ∧ j3 < n0 ∧ (∀ I1 : IH, I1 = stI I o0 j3 x3 →
 J E (d + 1) mJ7_fill_fda19 10 [(0, .ref (eb E + o0)), (2, .int x2), (3, .int x3), (4, .int (x4 + nI 1))] [] I1 Q))))) : J E (d + 1) mJ7_fill_fda19 10 [(0, .ref (eb E + o0)), (2, .int x2), (3, .int x3), (4, .int x4)] [] I Q := by
  refine J_iload 3 aJ7_fill_fda19_10 rfl ?_
  refine J_iload_n 1 aJ7_fill_fda19_12 rfl ?_
  refine J_icmp_ge aJ7_fill_fda19_13 (fun q => ?_) (fun q => ?_)
  · replace h := h.1 q
    exact J_vret aJ7_fill_fda19_27 rfl h
  · replace h := h.2 q
    refine J_aload_n 0 aJ7_fill_fda19_16 rfl ?_
    refine J_iload 3 aJ7_fill_fda19_17 rfl ?_
    refine J_iload_n 2 aJ7_fill_fda19_19 rfl ?_
    obtain ⟨j3, e4, b5, h⟩ := h
    refine J_iastore j3 aJ7_fill_fda19_20 hs0 e4 b5 (by omega) (fun I1 e2 => ?_)
    replace h := h I1 e2
    refine J_iinc (x4 + nI 1) [(4, .int (x4 + nI 1)), (0, .ref (eb E + o0)), (2, .int x2), (3, .int x3)] 3 aJ7_fill_fda19_21 rfl (by first | rfl | (congr 1; decide +kernel)) (by decide) rfl ?_
    refine J_goto aJ7_fill_fda19_24 ?_
    refine J_pick [1, 2, 3, 0] rfl ?_
    exact h
theorem aX0_smokes_0 : decode mX0_smokes.2.1 0 = .ok (.aload_n 1, 1) ∧ 0 + 1 = 1 := ⟨by decide +kernel, rfl⟩
theorem aX0_smokes_1 : decode mX0_smokes.2.1 1 = .ok (.bipush 60, 2) ∧ 1 + 2 = 3 := ⟨by decide +kernel, rfl⟩
theorem aX0_smokes_3 : decode mX0_smokes.2.1 3 = .ok (.invokevirtual 14, 3) ∧ 3 + 3 = 6 := ⟨by decide +kernel, rfl⟩
theorem aX0_smokes_6 : decode mX0_smokes.2.1 6 = .ok (.ifCond .ne 5, 3) ∧ ((6 : Nat) : Int) + 5 = ((11 : Nat) : Int) ∧ 6 + 3 = 9 := ⟨by decide +kernel, by decide, rfl⟩
theorem aX0_smokes_9 : decode mX0_smokes.2.1 9 = .ok (.iconst 0, 1) ∧ 9 + 1 = 10 := ⟨by decide +kernel, rfl⟩
theorem aX0_smokes_10 : decode mX0_smokes.2.1 10 = .ok (.ireturn, 1) := by decide +kernel
theorem aX0_smokes_11 : decode mX0_smokes.2.1 11 = .ok (.aload_n 0, 1) ∧ 11 + 1 = 12 := ⟨by decide +kernel, rfl⟩
theorem aX0_smokes_12 : decode mX0_smokes.2.1 12 = .ok (.aload_n 1, 1) ∧ 12 + 1 = 13 := ⟨by decide +kernel, rfl⟩
theorem aX0_smokes_13 : decode mX0_smokes.2.1 13 = .ok (.iload_n 2, 1) ∧ 13 + 1 = 14 := ⟨by decide +kernel, rfl⟩
theorem aX0_smokes_14 : decode mX0_smokes.2.1 14 = .ok (.invokespecial 20, 3) ∧ 14 + 3 = 17 := ⟨by decide +kernel, rfl⟩
theorem aX0_smokes_17 : decode mX0_smokes.2.1 17 = .ok (.bipush 9, 2) ∧ 17 + 2 = 19 := ⟨by decide +kernel, rfl⟩
theorem aX0_smokes_19 : decode mX0_smokes.2.1 19 = .ok (.iadd, 1) ∧ 19 + 1 = 20 := ⟨by decide +kernel, rfl⟩
theorem aX0_smokes_20 : decode mX0_smokes.2.1 20 = .ok (.ireturn, 1) := by decide +kernel
theorem S_X0_smokes {E : EE} {d : Nat} {I : IH} {Q : QT} (x2 : Int32) (h :
(Mt E d mX8_begins [.ref (eb E + 11), .int (nI 60)] I (fun rv I1 => ∃ v2 : Int32, rv = some (.int v2) ∧
 ((¬ v2 = 0 → (Mt E d mX4_smokes [.ref (eb E + 26), .ref (eb E + 11), .int x2] I1 (fun rv I3 => ∃ v4 : Int32, rv = some (.int v4) ∧
 Q (some (.int (v4 + (nI 9)))) I3))) ∧
 (v2 = 0 → Q (some (.int (nI 0))) I1))))) : Mt E (d + 1) mX0_smokes [.ref (eb E + 26), .ref (eb E + 11), .int x2] I Q := by
  refine Mt_of [(0, .ref (eb E + 26)), (1, .ref (eb E + 11)), (2, .int x2)] (by decide +kernel) (by simp [lg_sl, Value.category, mX0_smokes]) rfl ?_
  refine J_aload_n 1 aX0_smokes_0 rfl ?_
  refine J_bipush (nI 60) aX0_smokes_1 (by decide +kernel) ?_
  refine J_callV [.int (nI 60)] [] aX0_smokes_3 lkX0_14_X8 okX8_begins sh11 rfl rfl rfl (Nat.le_of_ble_eq_true rfl) (Nat.le_refl _) (Mt_mono h (fun rv I1 h => ?_))
  obtain ⟨v2, rfl, h⟩ := h
  refine J_r1 ?_
  refine J_if_ne aX0_smokes_6 (fun q => ?_) (fun q => ?_)
  · replace h := h.1 q
    refine J_aload_n 0 aX0_smokes_11 rfl ?_
    refine J_aload_n 1 aX0_smokes_12 rfl ?_
    refine J_iload_n 2 aX0_smokes_13 rfl ?_
    refine J_callSX [.ref (eb E + 11), .int x2] [] aX0_smokes_14 lkX0_20 okX4_smokes sh26 (by decide) rfl rfl (Nat.le_of_ble_eq_true rfl) (Nat.le_refl _) (Mt_mono h (fun rv I3 h => ?_))
    obtain ⟨v4, rfl, h⟩ := h
    refine J_r1 ?_
    refine J_bipush (nI 9) aX0_smokes_17 (by decide +kernel) ?_
    refine J_iadd aX0_smokes_19 ?_
    exact J_iret aX0_smokes_20 rfl h
  · replace h := h.2 q
    refine J_iconst (nI 0) aX0_smokes_9 (by decide +kernel) ?_
    exact J_iret aX0_smokes_10 rfl h
theorem aX10_glows_0 : decode mX10_glows.2.1 0 = .ok (.aload_n 1, 1) ∧ 0 + 1 = 1 := ⟨by decide +kernel, rfl⟩
theorem aX10_glows_1 : decode mX10_glows.2.1 1 = .ok (.bipush 50, 2) ∧ 1 + 2 = 3 := ⟨by decide +kernel, rfl⟩
theorem aX10_glows_3 : decode mX10_glows.2.1 3 = .ok (.invokevirtual 16, 3) ∧ 3 + 3 = 6 := ⟨by decide +kernel, rfl⟩
theorem aX10_glows_6 : decode mX10_glows.2.1 6 = .ok (.ifCond .ne 5, 3) ∧ ((6 : Nat) : Int) + 5 = ((11 : Nat) : Int) ∧ 6 + 3 = 9 := ⟨by decide +kernel, by decide, rfl⟩
theorem aX10_glows_9 : decode mX10_glows.2.1 9 = .ok (.iconst 0, 1) ∧ 9 + 1 = 10 := ⟨by decide +kernel, rfl⟩
theorem aX10_glows_10 : decode mX10_glows.2.1 10 = .ok (.ireturn, 1) := by decide +kernel
theorem aX10_glows_11 : decode mX10_glows.2.1 11 = .ok (.aload_n 0, 1) ∧ 11 + 1 = 12 := ⟨by decide +kernel, rfl⟩
theorem aX10_glows_12 : decode mX10_glows.2.1 12 = .ok (.aload_n 1, 1) ∧ 12 + 1 = 13 := ⟨by decide +kernel, rfl⟩
theorem aX10_glows_13 : decode mX10_glows.2.1 13 = .ok (.iload_n 2, 1) ∧ 13 + 1 = 14 := ⟨by decide +kernel, rfl⟩
theorem aX10_glows_14 : decode mX10_glows.2.1 14 = .ok (.invokespecial 22, 3) ∧ 14 + 3 = 17 := ⟨by decide +kernel, rfl⟩
theorem aX10_glows_17 : decode mX10_glows.2.1 17 = .ok (.aload_n 1, 1) ∧ 17 + 1 = 18 := ⟨by decide +kernel, rfl⟩
theorem aX10_glows_18 : decode mX10_glows.2.1 18 = .ok (.getfield 26, 3) ∧ 18 + 3 = 21 := ⟨by decide +kernel, rfl⟩
theorem aX10_glows_21 : decode mX10_glows.2.1 21 = .ok (.isub, 1) ∧ 21 + 1 = 22 := ⟨by decide +kernel, rfl⟩
theorem aX10_glows_22 : decode mX10_glows.2.1 22 = .ok (.ireturn, 1) := by decide +kernel
theorem S_X10_glows {E : EE} {d : Nat} {I : IH} {Q : QT} (x2 : Int32) (h :
(Mt E d mX8_begins [.ref (eb E + 11), .int (nI 50)] I (fun rv I1 => ∃ v2 : Int32, rv = some (.int v2) ∧
 ((¬ v2 = 0 → (Mt E d mX4_glows [.ref (eb E + 24), .ref (eb E + 11), .int x2] I1 (fun rv I3 => ∃ v4 : Int32, rv = some (.int v4) ∧
 Q (some (.int (v4 - (I3 11 3)))) I3))) ∧
 (v2 = 0 → Q (some (.int (nI 0))) I1))))) : Mt E (d + 1) mX10_glows [.ref (eb E + 24), .ref (eb E + 11), .int x2] I Q := by
  refine Mt_of [(0, .ref (eb E + 24)), (1, .ref (eb E + 11)), (2, .int x2)] (by decide +kernel) (by simp [lg_sl, Value.category, mX10_glows]) rfl ?_
  refine J_aload_n 1 aX10_glows_0 rfl ?_
  refine J_bipush (nI 50) aX10_glows_1 (by decide +kernel) ?_
  refine J_callV [.int (nI 50)] [] aX10_glows_3 lkX10_16_X8 okX8_begins sh11 rfl rfl rfl (Nat.le_of_ble_eq_true rfl) (Nat.le_refl _) (Mt_mono h (fun rv I1 h => ?_))
  obtain ⟨v2, rfl, h⟩ := h
  refine J_r1 ?_
  refine J_if_ne aX10_glows_6 (fun q => ?_) (fun q => ?_)
  · replace h := h.1 q
    refine J_aload_n 0 aX10_glows_11 rfl ?_
    refine J_aload_n 1 aX10_glows_12 rfl ?_
    refine J_iload_n 2 aX10_glows_13 rfl ?_
    refine J_callSX [.ref (eb E + 11), .int x2] [] aX10_glows_14 lkX10_22 okX4_glows sh24 (by decide) rfl rfl (Nat.le_of_ble_eq_true rfl) (Nat.le_refl _) (Mt_mono h (fun rv I3 h => ?_))
    obtain ⟨v4, rfl, h⟩ := h
    refine J_r1 ?_
    refine J_aload_n 1 aX10_glows_17 rfl ?_
    refine J_getI aX10_glows_18 flX10_26 sh11 rfl ?_
    refine J_isub aX10_glows_21 ?_
    exact J_iret aX10_glows_22 rfl h
  · replace h := h.2 q
    refine J_iconst (nI 0) aX10_glows_9 (by decide +kernel) ?_
    exact J_iret aX10_glows_10 rfl h
theorem aX10_begs_0 : decode mX10_begs.2.1 0 = .ok (.aload_n 1, 1) ∧ 0 + 1 = 1 := ⟨by decide +kernel, rfl⟩
theorem aX10_begs_1 : decode mX10_begs.2.1 1 = .ok (.bipush 51, 2) ∧ 1 + 2 = 3 := ⟨by decide +kernel, rfl⟩
theorem aX10_begs_3 : decode mX10_begs.2.1 3 = .ok (.invokevirtual 16, 3) ∧ 3 + 3 = 6 := ⟨by decide +kernel, rfl⟩
theorem aX10_begs_6 : decode mX10_begs.2.1 6 = .ok (.ifCond .ne 5, 3) ∧ ((6 : Nat) : Int) + 5 = ((11 : Nat) : Int) ∧ 6 + 3 = 9 := ⟨by decide +kernel, by decide, rfl⟩
theorem aX10_begs_9 : decode mX10_begs.2.1 9 = .ok (.iconst 0, 1) ∧ 9 + 1 = 10 := ⟨by decide +kernel, rfl⟩
theorem aX10_begs_10 : decode mX10_begs.2.1 10 = .ok (.ireturn, 1) := by decide +kernel
theorem aX10_begs_11 : decode mX10_begs.2.1 11 = .ok (.aload_n 0, 1) ∧ 11 + 1 = 12 := ⟨by decide +kernel, rfl⟩
theorem aX10_begs_12 : decode mX10_begs.2.1 12 = .ok (.aload_n 1, 1) ∧ 12 + 1 = 13 := ⟨by decide +kernel, rfl⟩
theorem aX10_begs_13 : decode mX10_begs.2.1 13 = .ok (.iload_n 2, 1) ∧ 13 + 1 = 14 := ⟨by decide +kernel, rfl⟩
theorem aX10_begs_14 : decode mX10_begs.2.1 14 = .ok (.invokespecial 30, 3) ∧ 14 + 3 = 17 := ⟨by decide +kernel, rfl⟩
theorem aX10_begs_17 : decode mX10_begs.2.1 17 = .ok (.aload_n 0, 1) ∧ 17 + 1 = 18 := ⟨by decide +kernel, rfl⟩
theorem aX10_begs_18 : decode mX10_begs.2.1 18 = .ok (.aload_n 1, 1) ∧ 18 + 1 = 19 := ⟨by decide +kernel, rfl⟩
theorem aX10_begs_19 : decode mX10_begs.2.1 19 = .ok (.iconst 2, 1) ∧ 19 + 1 = 20 := ⟨by decide +kernel, rfl⟩
theorem aX10_begs_20 : decode mX10_begs.2.1 20 = .ok (.invokevirtual 33, 3) ∧ 20 + 3 = 23 := ⟨by decide +kernel, rfl⟩
theorem aX10_begs_23 : decode mX10_begs.2.1 23 = .ok (.ixor, 1) ∧ 23 + 1 = 24 := ⟨by decide +kernel, rfl⟩
theorem aX10_begs_24 : decode mX10_begs.2.1 24 = .ok (.ireturn, 1) := by decide +kernel
theorem S_X10_begs {E : EE} {d : Nat} {I : IH} {Q : QT} (x2 : Int32) (h :
(Mt E d mX8_begins [.ref (eb E + 11), .int (nI 51)] I (fun rv I1 => ∃ v2 : Int32, rv = some (.int v2) ∧
 ((¬ v2 = 0 → (Mt E d mX4_begs [.ref (eb E + 24), .ref (eb E + 11), .int x2] I1 (fun rv I3 => ∃ v4 : Int32, rv = some (.int v4) ∧
 (Mt E d mX7_smokes [.ref (eb E + 24), .ref (eb E + 11), .int (nI 2)] I3 (fun rv I5 => ∃ v6 : Int32, rv = some (.int v6) ∧
 Q (some (.int (v4 ^^^ v6))) I5))))) ∧
 (v2 = 0 → Q (some (.int (nI 0))) I1))))) : Mt E (d + 1) mX10_begs [.ref (eb E + 24), .ref (eb E + 11), .int x2] I Q := by
  refine Mt_of [(0, .ref (eb E + 24)), (1, .ref (eb E + 11)), (2, .int x2)] (by decide +kernel) (by simp [lg_sl, Value.category, mX10_begs]) rfl ?_
  refine J_aload_n 1 aX10_begs_0 rfl ?_
  refine J_bipush (nI 51) aX10_begs_1 (by decide +kernel) ?_
  refine J_callV [.int (nI 51)] [] aX10_begs_3 lkX10_16_X8 okX8_begins sh11 rfl rfl rfl (Nat.le_of_ble_eq_true rfl) (Nat.le_refl _) (Mt_mono h (fun rv I1 h => ?_))
  obtain ⟨v2, rfl, h⟩ := h
  refine J_r1 ?_
  refine J_if_ne aX10_begs_6 (fun q => ?_) (fun q => ?_)
  · replace h := h.1 q
    refine J_aload_n 0 aX10_begs_11 rfl ?_
    refine J_aload_n 1 aX10_begs_12 rfl ?_
    refine J_iload_n 2 aX10_begs_13 rfl ?_
    refine J_callSX [.ref (eb E + 11), .int x2] [] aX10_begs_14 lkX10_30 okX4_begs sh24 (by decide) rfl rfl (Nat.le_of_ble_eq_true rfl) (Nat.le_refl _) (Mt_mono h (fun rv I3 h => ?_))
    obtain ⟨v4, rfl, h⟩ := h
    refine J_r1 ?_
    refine J_aload_n 0 aX10_begs_17 rfl ?_
    refine J_aload_n 1 aX10_begs_18 rfl ?_
    refine J_iconst (nI 2) aX10_begs_19 (by decide +kernel) ?_
    refine J_callU [.ref (eb E + 11), .int (nI 2)] [.int v4] aX10_begs_20 lkX10_33_X10 okX7_smokes rfl sh24 rfl rfl rfl (Nat.le_of_ble_eq_true rfl) (Nat.le_refl _) (Mt_mono h (fun rv I5 h => ?_))
    obtain ⟨v6, rfl, h⟩ := h
    refine J_r1 ?_
    refine J_ixor aX10_begs_23 ?_
    exact J_iret aX10_begs_24 rfl h
  · replace h := h.2 q
    refine J_iconst (nI 0) aX10_begs_9 (by decide +kernel) ?_
    exact J_iret aX10_begs_10 rfl h
