/-! the String constant of the class's words, and what the JDK does with it -/
abbrev WTX : String := "pane navvy sewer widow lad dog look pass rag if or and not minute lights looked fog number "
def WB : List Nat := [112, 97, 110, 101, 32, 110, 97, 118, 118, 121, 32, 115, 101, 119, 101, 114, 32, 119, 105, 100, 111, 119, 32, 108, 97, 100, 32, 100, 111, 103, 32, 108, 111, 111, 107, 32, 112, 97, 115, 115, 32, 114, 97, 103, 32, 105, 102, 32, 111, 114, 32, 97, 110, 100, 32, 110, 111, 116, 32, 109, 105, 110, 117, 116, 101, 32, 108, 105, 103, 104, 116, 115, 32, 108, 111, 111, 107, 101, 100, 32, 102, 111, 103, 32, 110, 117, 109, 98, 101, 114, 32]
abbrev sSt : String := "java/lang/String"
abbrev tSTR : Term := .string "PaneScenes$Tape" 64
abbrev tVAL : Term := .field tSTR "java/lang/String" "value" "[B"
/-- the constant lies at q, its bytes at v -/
def isStr (E : EE) (q v : Nat) : Prop := vk_R "PaneScenes$Tape" 64 WTX q E.1 ∧ va_O sSt q (AA E) E.1 E.1.heap ∧ va_OF sSt "coder" "B" (.int 0) q (AA E) E.1 E.1.heap ∧ va_OF sSt "value" "[B" (.ref v) q (AA E) E.1 E.1.heap ∧ va_T .byte v 91 (fun j => .int (nI (WB.getD j 0))) (AA E) E.1 E.1.heap
theorem wb_el : ∀ j, j < 91 → (Cond.eq (.elem tVAL (.int (Int32.ofNat j))) (.int (nI (WB.getD j 0)))) ∈ flatC (Jvm.Cond.and given_1 narrow_1) := by decide +kernel
theorem hA_of (E : EE) : ∀ a : Nat, a < E.1.heap.size → ¬ (AA E) a := fun a h z => by have z : eb E ≤ a := z; unfold eb at z; omega
theorem str_ex {E : EE} (hE : EOK E) : ∃ q v, isStr E q v := by
  have hs := flat_of_before _ hE.2.2
  obtain ⟨adK, adV, hS, hev⟩ := vk_Sof (args := E.2.1) (s := E.1) (N := 1) (tm := fun _ => tSTR) (len := [91]) (byt := [WB.map nI]) (A := AA E) (fun i hi => by
      have : i = 0 := by omega
      subst this
      decide)
    (fun i hi => hs (Cond.exactly tSTR "java/lang/String") (by decide +kernel))
    (fun i hi => hs (Cond.eq (.field tSTR "java/lang/String" "coder" "B") (.int 0)) (by decide +kernel))
    (fun i hi => hs (Cond.arrayOf tVAL .byte) (by decide +kernel))
    (fun i hi => by
      have : i = 0 := by omega
      subst this
      exact hs (Cond.eq (.length tVAL) (.int 91)) (by decide +kernel))
    (fun i hi j hj => by
      have : i = 0 := by omega
      subst this
      have hj : j < 91 := hj
      have e : ([WB.map nI].getD 0 []).getD j 0 = nI (WB.getD j 0) := by
        show (WB.map nI).getD j 0 = _
        rw [List.getD_eq_getElem?_getD, List.getElem?_map, List.getD_eq_getElem?_getD]
        cases WB[j]? <;> rfl
      rw [e]
      exact hs _ (wb_el j hj))
    (fun i j hi hj hne => by omega) (hA_of E)
  obtain ⟨h1, h2, h3, h4⟩ := hS.1 0 (by omega)
  refine ⟨adK 0, adV 0, vk_R.of (hE.1 (Cond.stringRef "PaneScenes$Tape" 64 WTX) (lx3 71 rfl)) (hev 0 (by omega)), h1, h2, h3, ?_⟩
  have e : (fun j => Value.int (([WB.map nI].getD 0 []).getD j 0)) = fun j => Value.int (nI (WB.getD j 0)) := by
    funext j
    congr 1
    show (WB.map nI).getD j 0 = _
    rw [List.getD_eq_getElem?_getD, List.getElem?_map, List.getD_eq_getElem?_getD]
    cases WB[j]? <;> rfl
  rw [e] at h4
  exact h4
section JS
variable {E : EE} {d : Nat} {M : MD} {pc pc2 tgt : Nat} {lv : List (Nat × Value)} {st : List Value} {I : IH} {Q : QT} {q v : Nat}
theorem E_kept {p : Program} {s : State} {m : MethodId} {meth : Method} {c : Code} (F : Fx E M p s m meth c) : E.1.vm.Alike s.vm ∧ ∀ a : Nat, a < E.1.heap.size → ¬ (AA E) a → s.heap[a]? = E.1.heap[a]? := by
  obtain ⟨-, -, -, -, -, -, hE, hW, hq⟩ := F
  exact ⟨hW.alike, fun a h _ => hq a h⟩
theorem J_withS (k : ∀ q v : Nat, isStr E q v → J E d M pc lv st I Q) : J E d M pc lv st I Q := by
  intro p l e s m args below meth c H locs ls F P hl
  obtain ⟨q, v, hS⟩ := str_ex (E := E) F.2.2.2.2.2.2.1
  exact k q v hS p l e s m args below meth c H locs ls F P hl
theorem J_ldcS (hS : isStr E q v) (hM : M.1.cls = "PaneScenes$Tape") (h : decode M.2.1 pc = .ok (.ldc 64, 2) ∧ pc + 2 = pc2) (k : J E d M pc2 lv (.ref q :: st) I Q) : J E d M pc lv st I Q := by
  obtain ⟨h, rfl⟩ := h
  intro p l e s m args below meth c H locs ls F P hl
  have ho := own_of F
  rw [hM] at ho
  exact va_ldcS F.1 F.2.1 ho (hS.1.warm F.2.2.2.2.2.2.2.1) h (k p l e s m args below meth c H locs ls F P hl)
theorem J_getSv {idx : Nat} (hS : isStr E q v) (h : decode M.2.1 pc = .ok (.getfield idx, 3) ∧ pc + 3 = pc2) (hw : Cond.fieldLink M.1.cls idx sSt "value" "[B" ∈ Gw) (k : J E d M pc2 lv (.ref v :: st) I Q) : J E d M pc lv (.ref q :: st) I Q := by
  obtain ⟨h, rfl⟩ := h
  intro p l e s m args below meth c H locs ls F P hl
  obtain ⟨e1, e2⟩ := E_kept F
  exact vk_getf F.1 F.2.1 ((hS.2.2.2.1.moved e1).kept e2) P.2 (own_of F) (hts_of F args _ hw) (fun _ z => z) h (k p l e s m args below meth c H locs ls F P hl)
theorem J_getSc {idx : Nat} (hS : isStr E q v) (h : decode M.2.1 pc = .ok (.getfield idx, 3) ∧ pc + 3 = pc2) (hw : Cond.fieldLink M.1.cls idx sSt "coder" "B" ∈ Gw) (k : J E d M pc2 lv (.int 0 :: st) I Q) : J E d M pc lv (.ref q :: st) I Q := by
  obtain ⟨h, rfl⟩ := h
  intro p l e s m args below meth c H locs ls F P hl
  obtain ⟨e1, e2⟩ := E_kept F
  exact vk_getf F.1 F.2.1 ((hS.2.2.1.moved e1).kept e2) P.2 (own_of F) (hts_of F args _ hw) (fun _ z => z) h (k p l e s m args below meth c H locs ls F P hl)
theorem J_lenS (hS : isStr E q v) (h : decode M.2.1 pc = .ok (.arraylength, 1) ∧ pc + 1 = pc2) (k : J E d M pc2 lv (.int (nI 91) :: st) I Q) : J E d M pc lv (.ref v :: st) I Q := by
  obtain ⟨h, rfl⟩ := h
  intro p l e s m args below meth c H locs ls F P hl
  obtain ⟨e1, e2⟩ := E_kept F
  exact va_tlen F.1 F.2.1 ((hS.2.2.2.2.moved e1).kept e2) P.2 (v := nI 91) rfl h (k p l e s m args below meth c H locs ls F P hl)
theorem J_baS {x : Int32} (j : Nat) (hS : isStr E q v) (h : decode M.2.1 pc = .ok (.baload, 1) ∧ pc + 1 = pc2) (hx : x = nI j) (hj : j < 91) (k : J E d M pc2 lv (.int (nI (WB.getD j 0)) :: st) I Q) : J E d M pc lv (.int x :: .ref v :: st) I Q := by
  obtain ⟨h, rfl⟩ := h
  subst hx
  intro p l e s m args below meth c H locs ls F P hl
  obtain ⟨e1, e2⟩ := E_kept F
  exact va_tb F.1 F.2.1 ((hS.2.2.2.2.moved e1).kept e2) P.2 (vp_in_nI hj (by omega)) (v := .int (nI (WB.getD j 0))) (by rw [nI_clamp (by omega)]) h (k p l e s m args below meth c H locs ls F P hl)
theorem J_cmpS {idx : Nat} (h : decode M.2.1 pc = .ok (.getstatic idx, 3) ∧ pc + 3 = pc2) (hw : Cond.fieldLink M.1.cls idx sSt "COMPACT_STRINGS" "Z" ∈ Gw) (k : J E d M pc2 lv (.int 1 :: st) I Q) : J E d M pc lv st I Q := by
  obtain ⟨h, rfl⟩ := h
  intro p l e s m args below meth c H locs ls F P hl
  obtain ⟨e1, e2⟩ := E_kept F
  have hE : EOK E := F.2.2.2.2.2.2.1
  have hs := flat_of_before _ hE.2.2
  have hZ := va_Zof (A := AA E) (hE.1 (Cond.laysStatic sSt "COMPACT_STRINGS" "Z") (lx3 81 rfl)) (hE.1 (Cond.initialized sSt) (lx1 17 rfl)) (va_eqt (hs (Cond.eq (.static sSt "COMPACT_STRINGS" "Z") (.int 1)) (by decide +kernel))) (hA_of E)
  exact va_gets F.1 F.2.1 ((hZ.moved e1).kept e2) P.2 (own_of F) (hts_of F args _ hw) (fun _ z => z) h (k p l e s m args below meth c H locs ls F P hl)
theorem J_frmS {idx : Nat} (h : decode M.2.1 pc = .ok (.getstatic idx, 3) ∧ pc + 3 = pc2) (hw : Cond.fieldLink M.1.cls idx "jdk/internal/util/Preconditions" "SIOOBE_FORMATTER" "Ljava/util/function/BiFunction;" ∈ Gw) (k : ∀ u : Value, u.category = 1 → J E d M pc2 lv (u :: st) I Q) : J E d M pc lv st I Q := by
  obtain ⟨h, rfl⟩ := h
  intro p l e s m args below meth c H locs ls F P hl
  obtain ⟨e1, e2⟩ := E_kept F
  have hE : EOK E := F.2.2.2.2.2.2.1
  have hs := flat_of_before _ hE.2.2
  have hZ := va_Zqof (A := AA E) (hE.1 (Cond.laysStatic "jdk/internal/util/Preconditions" "SIOOBE_FORMATTER" "Ljava/util/function/BiFunction;") (lx3 97 rfl)) (hE.1 (Cond.initialized "jdk/internal/util/Preconditions") (lx1 19 rfl)) (hs (Cond.isRef (.static "jdk/internal/util/Preconditions" "SIOOBE_FORMATTER" "Ljava/util/function/BiFunction;")) (by decide +kernel)) (hA_of E)
  rcases (hZ.moved e1).kept e2 with hZ | ⟨t, hZ⟩
  · exact va_gets F.1 F.2.1 hZ P.2 (own_of F) (hts_of F args _ hw) (fun _ z => z) h (k _ rfl p l e s m args below meth c H locs ls F P hl)
  · exact va_gets F.1 F.2.1 hZ P.2 (own_of F) (hts_of F args _ hw) (fun _ z => z) h (k _ rfl p l e s m args below meth c H locs ls F P hl)
theorem J_callQ {idx d2 n : Nat} {M2 : MD} {stk : List Value} (As rest : List Value) (hS : isStr E q v) (h : decode M.2.1 pc = .ok (.invokevirtual idx, 3) ∧ pc + 3 = pc2) (hL : LkV M.1.cls idx sSt M2) (hM : Okm M2 n) (hn : As.length = n) (hst : stk = As.reverse ++ .ref q :: rest) (hr : (rest.map fun v => v.category).sum ≤ 8) (hd : d2 + 1 ≤ d)
    (hc : Mt E d2 M2 (.ref q :: As) I (fun r I2 => J E d M pc2 lv (r.toList ++ rest) I2 Q)) : J E d M pc lv stk I Q := by
  subst hst
  refine J_run (rest := rest) (a := (Value.ref q :: As).toArray) h.2 ?_
  intro p l e s m args below meth c H locs ls F P hl
  have hts := hts_of F args
  obtain ⟨e1, e2⟩ := E_kept F
  obtain ⟨cell, c1, c2, c3, -⟩ := ((hS.2.1.moved e1).kept e2).kept P.2.2.1
  have hpre : PreV s H sSt q (va_Pc (.ref q :: As) (PW E I)) As := ⟨pw_blind, ⟨cell, c1, c2, c3⟩, pw_pre F P _⟩
  obtain ⟨hl1, hl2, hl3⟩ := hL
  obtain ⟨r1, r2⟩ := room_of hM hd
  rcases hl1 with hw | ⟨host, hw⟩
  · exact va_runV (Ts := Gw) (own := M.1.cls) (n := n) (C := sSt) ⟨F.1, F.2.1, F.2.2.1, own_of F, hts⟩ (hc l) ⟨⟨rfl, rfl, r1, r2, ws_of F hM args, List.mem_singleton.mpr rfl, hts _ hM.1, hts _ hM.2.1, hM.2.2.1, len_of hM, hts _ hw⟩, hts _ hl2, hts _ hl3⟩ hpre rfl hn hl.1 rfl (lv_room hr) h.1 ⟨Nat.le_refl 0, Nat.le_refl 0⟩
  · exact va_runVN (Ts := Gw) (own := M.1.cls) (n := n) (C := sSt) ⟨F.1, F.2.1, F.2.2.1, own_of F, hts⟩ (hc l) ⟨⟨⟨rfl, rfl, r1, r2, ws_of F hM args, List.mem_singleton.mpr rfl⟩, hts _ hM.1, hts _ hM.2.1, hM.2.2.1, len_of hM, nestM_of F hw args⟩, hts _ hl2, hts _ hl3⟩ hpre rfl hn hl.1 rfl (lv_room hr) h.1 ⟨Nat.le_refl 0, Nat.le_refl 0⟩
theorem J_nret {w : Int32} {ty : FieldType} (h : decode M.2.1 pc = .ok (.ireturn, 1)) (hr : M.2.2.2 = some ty) (hn : narrow ty (.int w) = .int w) (hQ : Q (some (.int w)) I) : J E d M pc lv [.int w] I Q := by
  intro p l e s m args below meth c H locs ls F P hl
  exact W.zret F.1 F.2.1 (F.2.2.2.1.trans hr) hn (end_of F P hQ) P.2.2.2 h F.2.2.2.2.1
end JS
theorem lkX9_66 : LkV RX9 66 sSt mJ0_length_8abf5 := ⟨Or.inl (gx3 72 rfl rfl), (gx3 73 rfl rfl), (gx3 74 rfl rfl)⟩
theorem lkX9_72 : LkV RX9 72 sSt mJ0_charAt_5068e := ⟨Or.inl (gx3 82 rfl rfl), (gx3 83 rfl rfl), (gx3 84 rfl rfl)⟩
theorem lkJ0_335 : LkV RJ0 335 sSt mJ0_coder_7d493 := ⟨Or.inl (gx3 76 rfl rfl), (gx3 77 rfl rfl), (gx3 78 rfl rfl)⟩
theorem lkJ0_492 : LkV RJ0 492 sSt mJ0_isLatin1_aae02 := ⟨Or.inl (gx3 86 rfl rfl), (gx3 87 rfl rfl), (gx3 88 rfl rfl)⟩
theorem lkJ0_495 : LkS RJ0 495 mJ1_charAt_3b067 := ⟨Or.inl (gx3 90 rfl rfl), (gx3 91 rfl rfl)⟩
theorem lkJ1_9 : LkS RJ1 9 mJ0_checkIndex_df160 := ⟨Or.inl (gx3 93 rfl rfl), (gx3 94 rfl rfl)⟩
theorem lkJ0_1059 : LkS RJ0 1059 mJ3_checkIndex_8e157 := ⟨Or.inl (gx3 98 rfl rfl), (gx3 99 rfl rfl)⟩
theorem flJ0_9 : Cond.fieldLink RJ0 9 "java/lang/String" "value" "[B" ∈ Gw := (gx8 40 rfl rfl)
theorem flJ0_15 : Cond.fieldLink RJ0 15 "java/lang/String" "coder" "B" ∈ Gw := (gx8 41 rfl rfl)
theorem flJ0_38 : Cond.fieldLink RJ0 38 "java/lang/String" "COMPACT_STRINGS" "Z" ∈ Gw := (gx3 80 rfl rfl)
theorem flJ0_1053 : Cond.fieldLink RJ0 1053 "jdk/internal/util/Preconditions" "SIOOBE_FORMATTER" "Ljava/util/function/BiFunction;" ∈ Gw := (gx3 96 rfl rfl)
theorem aJ0_length_8abf5_0 : decode mJ0_length_8abf5.2.1 0 = .ok (.aload_n 0, 1) ∧ 0 + 1 = 1 := ⟨by decide +kernel, rfl⟩
theorem aJ0_length_8abf5_1 : decode mJ0_length_8abf5.2.1 1 = .ok (.getfield 9, 3) ∧ 1 + 3 = 4 := ⟨by decide +kernel, rfl⟩
theorem aJ0_length_8abf5_4 : decode mJ0_length_8abf5.2.1 4 = .ok (.arraylength, 1) ∧ 4 + 1 = 5 := ⟨by decide +kernel, rfl⟩
theorem aJ0_length_8abf5_5 : decode mJ0_length_8abf5.2.1 5 = .ok (.aload_n 0, 1) ∧ 5 + 1 = 6 := ⟨by decide +kernel, rfl⟩
theorem aJ0_length_8abf5_6 : decode mJ0_length_8abf5.2.1 6 = .ok (.invokevirtual 335, 3) ∧ 6 + 3 = 9 := ⟨by decide +kernel, rfl⟩
theorem aJ0_length_8abf5_9 : decode mJ0_length_8abf5.2.1 9 = .ok (.ishr, 1) ∧ 9 + 1 = 10 := ⟨by decide +kernel, rfl⟩
theorem aJ0_length_8abf5_10 : decode mJ0_length_8abf5.2.1 10 = .ok (.ireturn, 1) := by decide +kernel
theorem aJ0_charAt_5068e_0 : decode mJ0_charAt_5068e.2.1 0 = .ok (.aload_n 0, 1) ∧ 0 + 1 = 1 := ⟨by decide +kernel, rfl⟩
theorem aJ0_charAt_5068e_1 : decode mJ0_charAt_5068e.2.1 1 = .ok (.invokevirtual 492, 3) ∧ 1 + 3 = 4 := ⟨by decide +kernel, rfl⟩
theorem aJ0_charAt_5068e_4 : decode mJ0_charAt_5068e.2.1 4 = .ok (.ifCond .eq 12, 3) ∧ ((4 : Nat) : Int) + 12 = ((16 : Nat) : Int) ∧ 4 + 3 = 7 := ⟨by decide +kernel, by decide, rfl⟩
theorem aJ0_charAt_5068e_7 : decode mJ0_charAt_5068e.2.1 7 = .ok (.aload_n 0, 1) ∧ 7 + 1 = 8 := ⟨by decide +kernel, rfl⟩
theorem aJ0_charAt_5068e_8 : decode mJ0_charAt_5068e.2.1 8 = .ok (.getfield 9, 3) ∧ 8 + 3 = 11 := ⟨by decide +kernel, rfl⟩
theorem aJ0_charAt_5068e_11 : decode mJ0_charAt_5068e.2.1 11 = .ok (.iload_n 1, 1) ∧ 11 + 1 = 12 := ⟨by decide +kernel, rfl⟩
theorem aJ0_charAt_5068e_12 : decode mJ0_charAt_5068e.2.1 12 = .ok (.invokestatic 495, 3) ∧ 12 + 3 = 15 := ⟨by decide +kernel, rfl⟩
theorem aJ0_charAt_5068e_15 : decode mJ0_charAt_5068e.2.1 15 = .ok (.ireturn, 1) := by decide +kernel
theorem aJ0_coder_7d493_0 : decode mJ0_coder_7d493.2.1 0 = .ok (.getstatic 38, 3) ∧ 0 + 3 = 3 := ⟨by decide +kernel, rfl⟩
theorem aJ0_coder_7d493_3 : decode mJ0_coder_7d493.2.1 3 = .ok (.ifCond .eq 10, 3) ∧ ((3 : Nat) : Int) + 10 = ((13 : Nat) : Int) ∧ 3 + 3 = 6 := ⟨by decide +kernel, by decide, rfl⟩
theorem aJ0_coder_7d493_6 : decode mJ0_coder_7d493.2.1 6 = .ok (.aload_n 0, 1) ∧ 6 + 1 = 7 := ⟨by decide +kernel, rfl⟩
theorem aJ0_coder_7d493_7 : decode mJ0_coder_7d493.2.1 7 = .ok (.getfield 15, 3) ∧ 7 + 3 = 10 := ⟨by decide +kernel, rfl⟩
theorem aJ0_coder_7d493_10 : decode mJ0_coder_7d493.2.1 10 = .ok (.goto 4, 3) ∧ ((10 : Nat) : Int) + 4 = ((14 : Nat) : Int) := ⟨by decide +kernel, by decide⟩
theorem aJ0_coder_7d493_13 : decode mJ0_coder_7d493.2.1 13 = .ok (.iconst 1, 1) ∧ 13 + 1 = 14 := ⟨by decide +kernel, rfl⟩
theorem aJ0_coder_7d493_14 : decode mJ0_coder_7d493.2.1 14 = .ok (.ireturn, 1) := by decide +kernel
theorem aJ0_isLatin1_aae02_0 : decode mJ0_isLatin1_aae02.2.1 0 = .ok (.getstatic 38, 3) ∧ 0 + 3 = 3 := ⟨by decide +kernel, rfl⟩
theorem aJ0_isLatin1_aae02_3 : decode mJ0_isLatin1_aae02.2.1 3 = .ok (.ifCond .eq 14, 3) ∧ ((3 : Nat) : Int) + 14 = ((17 : Nat) : Int) ∧ 3 + 3 = 6 := ⟨by decide +kernel, by decide, rfl⟩
theorem aJ0_isLatin1_aae02_6 : decode mJ0_isLatin1_aae02.2.1 6 = .ok (.aload_n 0, 1) ∧ 6 + 1 = 7 := ⟨by decide +kernel, rfl⟩
theorem aJ0_isLatin1_aae02_7 : decode mJ0_isLatin1_aae02.2.1 7 = .ok (.getfield 15, 3) ∧ 7 + 3 = 10 := ⟨by decide +kernel, rfl⟩
theorem aJ0_isLatin1_aae02_10 : decode mJ0_isLatin1_aae02.2.1 10 = .ok (.ifCond .ne 7, 3) ∧ ((10 : Nat) : Int) + 7 = ((17 : Nat) : Int) ∧ 10 + 3 = 13 := ⟨by decide +kernel, by decide, rfl⟩
theorem aJ0_isLatin1_aae02_13 : decode mJ0_isLatin1_aae02.2.1 13 = .ok (.iconst 1, 1) ∧ 13 + 1 = 14 := ⟨by decide +kernel, rfl⟩
theorem aJ0_isLatin1_aae02_14 : decode mJ0_isLatin1_aae02.2.1 14 = .ok (.goto 4, 3) ∧ ((14 : Nat) : Int) + 4 = ((18 : Nat) : Int) := ⟨by decide +kernel, by decide⟩
theorem aJ0_isLatin1_aae02_17 : decode mJ0_isLatin1_aae02.2.1 17 = .ok (.iconst 0, 1) ∧ 17 + 1 = 18 := ⟨by decide +kernel, rfl⟩
theorem aJ0_isLatin1_aae02_18 : decode mJ0_isLatin1_aae02.2.1 18 = .ok (.ireturn, 1) := by decide +kernel
theorem aJ0_checkIndex_df160_0 : decode mJ0_checkIndex_df160.2.1 0 = .ok (.iload_n 0, 1) ∧ 0 + 1 = 1 := ⟨by decide +kernel, rfl⟩
theorem aJ0_checkIndex_df160_1 : decode mJ0_checkIndex_df160.2.1 1 = .ok (.iload_n 1, 1) ∧ 1 + 1 = 2 := ⟨by decide +kernel, rfl⟩
theorem aJ0_checkIndex_df160_2 : decode mJ0_checkIndex_df160.2.1 2 = .ok (.getstatic 1053, 3) ∧ 2 + 3 = 5 := ⟨by decide +kernel, rfl⟩
theorem aJ0_checkIndex_df160_5 : decode mJ0_checkIndex_df160.2.1 5 = .ok (.invokestatic 1059, 3) ∧ 5 + 3 = 8 := ⟨by decide +kernel, rfl⟩
theorem aJ0_checkIndex_df160_8 : decode mJ0_checkIndex_df160.2.1 8 = .ok (.pop, 1) ∧ 8 + 1 = 9 := ⟨by decide +kernel, rfl⟩
theorem aJ0_checkIndex_df160_9 : decode mJ0_checkIndex_df160.2.1 9 = .ok (.return_, 1) := by decide +kernel
theorem aJ1_charAt_3b067_0 : decode mJ1_charAt_3b067.2.1 0 = .ok (.iload_n 1, 1) ∧ 0 + 1 = 1 := ⟨by decide +kernel, rfl⟩
theorem aJ1_charAt_3b067_1 : decode mJ1_charAt_3b067.2.1 1 = .ok (.aload_n 0, 1) ∧ 1 + 1 = 2 := ⟨by decide +kernel, rfl⟩
theorem aJ1_charAt_3b067_2 : decode mJ1_charAt_3b067.2.1 2 = .ok (.arraylength, 1) ∧ 2 + 1 = 3 := ⟨by decide +kernel, rfl⟩
theorem aJ1_charAt_3b067_3 : decode mJ1_charAt_3b067.2.1 3 = .ok (.invokestatic 9, 3) ∧ 3 + 3 = 6 := ⟨by decide +kernel, rfl⟩
theorem aJ1_charAt_3b067_6 : decode mJ1_charAt_3b067.2.1 6 = .ok (.aload_n 0, 1) ∧ 6 + 1 = 7 := ⟨by decide +kernel, rfl⟩
theorem aJ1_charAt_3b067_7 : decode mJ1_charAt_3b067.2.1 7 = .ok (.iload_n 1, 1) ∧ 7 + 1 = 8 := ⟨by decide +kernel, rfl⟩
theorem aJ1_charAt_3b067_8 : decode mJ1_charAt_3b067.2.1 8 = .ok (.baload, 1) ∧ 8 + 1 = 9 := ⟨by decide +kernel, rfl⟩
theorem aJ1_charAt_3b067_9 : decode mJ1_charAt_3b067.2.1 9 = .ok (.sipush 255, 3) ∧ 9 + 3 = 12 := ⟨by decide +kernel, rfl⟩
theorem aJ1_charAt_3b067_12 : decode mJ1_charAt_3b067.2.1 12 = .ok (.iand, 1) ∧ 12 + 1 = 13 := ⟨by decide +kernel, rfl⟩
theorem aJ1_charAt_3b067_13 : decode mJ1_charAt_3b067.2.1 13 = .ok (.i2c, 1) ∧ 13 + 1 = 14 := ⟨by decide +kernel, rfl⟩
theorem aJ1_charAt_3b067_14 : decode mJ1_charAt_3b067.2.1 14 = .ok (.ireturn, 1) := by decide +kernel
theorem aJ3_checkIndex_8e157_0 : decode mJ3_checkIndex_8e157.2.1 0 = .ok (.iload_n 0, 1) ∧ 0 + 1 = 1 := ⟨by decide +kernel, rfl⟩
theorem aJ3_checkIndex_8e157_1 : decode mJ3_checkIndex_8e157.2.1 1 = .ok (.ifCond .lt 8, 3) ∧ ((1 : Nat) : Int) + 8 = ((9 : Nat) : Int) ∧ 1 + 3 = 4 := ⟨by decide +kernel, by decide, rfl⟩
theorem aJ3_checkIndex_8e157_4 : decode mJ3_checkIndex_8e157.2.1 4 = .ok (.iload_n 0, 1) ∧ 4 + 1 = 5 := ⟨by decide +kernel, rfl⟩
theorem aJ3_checkIndex_8e157_5 : decode mJ3_checkIndex_8e157.2.1 5 = .ok (.iload_n 1, 1) ∧ 5 + 1 = 6 := ⟨by decide +kernel, rfl⟩
theorem aJ3_checkIndex_8e157_6 : decode mJ3_checkIndex_8e157.2.1 6 = .ok (.if_icmp .lt 10, 3) ∧ ((6 : Nat) : Int) + 10 = ((16 : Nat) : Int) ∧ 6 + 3 = 9 := ⟨by decide +kernel, by decide, rfl⟩
theorem aJ3_checkIndex_8e157_16 : decode mJ3_checkIndex_8e157.2.1 16 = .ok (.iload_n 0, 1) ∧ 16 + 1 = 17 := ⟨by decide +kernel, rfl⟩
theorem aJ3_checkIndex_8e157_17 : decode mJ3_checkIndex_8e157.2.1 17 = .ok (.ireturn, 1) := by decide +kernel
theorem aX9_word_0 : decode mX9_word.2.1 0 = .ok (.iconst 0, 1) ∧ 0 + 1 = 1 := ⟨by decide +kernel, rfl⟩
theorem aX9_word_1 : decode mX9_word.2.1 1 = .ok (.istore_n 3, 1) ∧ 1 + 1 = 2 := ⟨by decide +kernel, rfl⟩
theorem aX9_word_2 : decode mX9_word.2.1 2 = .ok (.iconst 0, 1) ∧ 2 + 1 = 3 := ⟨by decide +kernel, rfl⟩
theorem aX9_word_3 : decode mX9_word.2.1 3 = .ok (.istore 4, 2) ∧ 3 + 2 = 5 := ⟨by decide +kernel, rfl⟩
theorem aX9_word_5 : decode mX9_word.2.1 5 = .ok (.iconst 0, 1) ∧ 5 + 1 = 6 := ⟨by decide +kernel, rfl⟩
theorem aX9_word_6 : decode mX9_word.2.1 6 = .ok (.istore 5, 2) ∧ 6 + 2 = 8 := ⟨by decide +kernel, rfl⟩
theorem aX9_word_8 : decode mX9_word.2.1 8 = .ok (.iload 5, 2) ∧ 8 + 2 = 10 := ⟨by decide +kernel, rfl⟩
theorem aX9_word_10 : decode mX9_word.2.1 10 = .ok (.ldc 64, 2) ∧ 10 + 2 = 12 := ⟨by decide +kernel, rfl⟩
theorem aX9_word_12 : decode mX9_word.2.1 12 = .ok (.invokevirtual 66, 3) ∧ 12 + 3 = 15 := ⟨by decide +kernel, rfl⟩
theorem aX9_word_15 : decode mX9_word.2.1 15 = .ok (.if_icmp .ge 71, 3) ∧ ((15 : Nat) : Int) + 71 = ((86 : Nat) : Int) ∧ 15 + 3 = 18 := ⟨by decide +kernel, by decide, rfl⟩
theorem aX9_word_18 : decode mX9_word.2.1 18 = .ok (.ldc 64, 2) ∧ 18 + 2 = 20 := ⟨by decide +kernel, rfl⟩
theorem aX9_word_20 : decode mX9_word.2.1 20 = .ok (.iload 5, 2) ∧ 20 + 2 = 22 := ⟨by decide +kernel, rfl⟩
theorem aX9_word_22 : decode mX9_word.2.1 22 = .ok (.invokevirtual 72, 3) ∧ 22 + 3 = 25 := ⟨by decide +kernel, rfl⟩
theorem aX9_word_25 : decode mX9_word.2.1 25 = .ok (.bipush 32, 2) ∧ 25 + 2 = 27 := ⟨by decide +kernel, rfl⟩
theorem aX9_word_27 : decode mX9_word.2.1 27 = .ok (.if_icmp .ne 53, 3) ∧ ((27 : Nat) : Int) + 53 = ((80 : Nat) : Int) ∧ 27 + 3 = 30 := ⟨by decide +kernel, by decide, rfl⟩
theorem aX9_word_30 : decode mX9_word.2.1 30 = .ok (.iload 5, 2) ∧ 30 + 2 = 32 := ⟨by decide +kernel, rfl⟩
theorem aX9_word_32 : decode mX9_word.2.1 32 = .ok (.iload 4, 2) ∧ 32 + 2 = 34 := ⟨by decide +kernel, rfl⟩
theorem aX9_word_34 : decode mX9_word.2.1 34 = .ok (.isub, 1) ∧ 34 + 1 = 35 := ⟨by decide +kernel, rfl⟩
theorem aX9_word_35 : decode mX9_word.2.1 35 = .ok (.iload_n 2, 1) ∧ 35 + 1 = 36 := ⟨by decide +kernel, rfl⟩
theorem aX9_word_36 : decode mX9_word.2.1 36 = .ok (.iload_n 1, 1) ∧ 36 + 1 = 37 := ⟨by decide +kernel, rfl⟩
theorem aX9_word_37 : decode mX9_word.2.1 37 = .ok (.isub, 1) ∧ 37 + 1 = 38 := ⟨by decide +kernel, rfl⟩
theorem aX9_word_38 : decode mX9_word.2.1 38 = .ok (.if_icmp .ne 33, 3) ∧ ((38 : Nat) : Int) + 33 = ((71 : Nat) : Int) ∧ 38 + 3 = 41 := ⟨by decide +kernel, by decide, rfl⟩
theorem aX9_word_41 : decode mX9_word.2.1 41 = .ok (.aload_n 0, 1) ∧ 41 + 1 = 42 := ⟨by decide +kernel, rfl⟩
theorem aX9_word_42 : decode mX9_word.2.1 42 = .ok (.iload 4, 2) ∧ 42 + 2 = 44 := ⟨by decide +kernel, rfl⟩
theorem aX9_word_44 : decode mX9_word.2.1 44 = .ok (.iload_n 1, 1) ∧ 44 + 1 = 45 := ⟨by decide +kernel, rfl⟩
theorem aX9_word_45 : decode mX9_word.2.1 45 = .ok (.iload_n 2, 1) ∧ 45 + 1 = 46 := ⟨by decide +kernel, rfl⟩
theorem aX9_word_46 : decode mX9_word.2.1 46 = .ok (.invokevirtual 76, 3) ∧ 46 + 3 = 49 := ⟨by decide +kernel, rfl⟩
theorem aX9_word_49 : decode mX9_word.2.1 49 = .ok (.ifCond .eq 22, 3) ∧ ((49 : Nat) : Int) + 22 = ((71 : Nat) : Int) ∧ 49 + 3 = 52 := ⟨by decide +kernel, by decide, rfl⟩
theorem aX9_word_52 : decode mX9_word.2.1 52 = .ok (.iload_n 3, 1) ∧ 52 + 1 = 53 := ⟨by decide +kernel, rfl⟩
theorem aX9_word_53 : decode mX9_word.2.1 53 = .ok (.bipush 13, 2) ∧ 53 + 2 = 55 := ⟨by decide +kernel, rfl⟩
theorem aX9_word_55 : decode mX9_word.2.1 55 = .ok (.if_icmp .ge 7, 3) ∧ ((55 : Nat) : Int) + 7 = ((62 : Nat) : Int) ∧ 55 + 3 = 58 := ⟨by decide +kernel, by decide, rfl⟩
theorem aX9_word_58 : decode mX9_word.2.1 58 = .ok (.iload_n 3, 1) ∧ 58 + 1 = 59 := ⟨by decide +kernel, rfl⟩
theorem aX9_word_59 : decode mX9_word.2.1 59 = .ok (.goto 11, 3) ∧ ((59 : Nat) : Int) + 11 = ((70 : Nat) : Int) := ⟨by decide +kernel, by decide⟩
theorem aX9_word_62 : decode mX9_word.2.1 62 = .ok (.sipush 995, 3) ∧ 62 + 3 = 65 := ⟨by decide +kernel, rfl⟩
theorem aX9_word_65 : decode mX9_word.2.1 65 = .ok (.iload_n 3, 1) ∧ 65 + 1 = 66 := ⟨by decide +kernel, rfl⟩
theorem aX9_word_66 : decode mX9_word.2.1 66 = .ok (.iadd, 1) ∧ 66 + 1 = 67 := ⟨by decide +kernel, rfl⟩
theorem aX9_word_67 : decode mX9_word.2.1 67 = .ok (.bipush 13, 2) ∧ 67 + 2 = 69 := ⟨by decide +kernel, rfl⟩
theorem aX9_word_69 : decode mX9_word.2.1 69 = .ok (.isub, 1) ∧ 69 + 1 = 70 := ⟨by decide +kernel, rfl⟩
theorem aX9_word_70 : decode mX9_word.2.1 70 = .ok (.ireturn, 1) := by decide +kernel
theorem aX9_word_71 : decode mX9_word.2.1 71 = .ok (.iinc 3 1, 3) ∧ 71 + 3 = 74 := ⟨by decide +kernel, rfl⟩
theorem aX9_word_74 : decode mX9_word.2.1 74 = .ok (.iload 5, 2) ∧ 74 + 2 = 76 := ⟨by decide +kernel, rfl⟩
theorem aX9_word_76 : decode mX9_word.2.1 76 = .ok (.iconst 1, 1) ∧ 76 + 1 = 77 := ⟨by decide +kernel, rfl⟩
theorem aX9_word_77 : decode mX9_word.2.1 77 = .ok (.iadd, 1) ∧ 77 + 1 = 78 := ⟨by decide +kernel, rfl⟩
theorem aX9_word_78 : decode mX9_word.2.1 78 = .ok (.istore 4, 2) ∧ 78 + 2 = 80 := ⟨by decide +kernel, rfl⟩
theorem aX9_word_80 : decode mX9_word.2.1 80 = .ok (.iinc 5 1, 3) ∧ 80 + 3 = 83 := ⟨by decide +kernel, rfl⟩
theorem aX9_word_83 : decode mX9_word.2.1 83 = .ok (.goto (-75), 3) ∧ ((83 : Nat) : Int) + (-75) = ((8 : Nat) : Int) := ⟨by decide +kernel, by decide⟩
theorem aX9_word_86 : decode mX9_word.2.1 86 = .ok (.sipush 300, 3) ∧ 86 + 3 = 89 := ⟨by decide +kernel, rfl⟩
theorem aX9_word_89 : decode mX9_word.2.1 89 = .ok (.ireturn, 1) := by decide +kernel
theorem aX9_isWordAt_0 : decode mX9_isWordAt.2.1 0 = .ok (.iload_n 2, 1) ∧ 0 + 1 = 1 := ⟨by decide +kernel, rfl⟩
theorem aX9_isWordAt_1 : decode mX9_isWordAt.2.1 1 = .ok (.istore 4, 2) ∧ 1 + 2 = 3 := ⟨by decide +kernel, rfl⟩
theorem aX9_isWordAt_3 : decode mX9_isWordAt.2.1 3 = .ok (.iload 4, 2) ∧ 3 + 2 = 5 := ⟨by decide +kernel, rfl⟩
theorem aX9_isWordAt_5 : decode mX9_isWordAt.2.1 5 = .ok (.iload_n 3, 1) ∧ 5 + 1 = 6 := ⟨by decide +kernel, rfl⟩
theorem aX9_isWordAt_6 : decode mX9_isWordAt.2.1 6 = .ok (.if_icmp .ge 32, 3) ∧ ((6 : Nat) : Int) + 32 = ((38 : Nat) : Int) ∧ 6 + 3 = 9 := ⟨by decide +kernel, by decide, rfl⟩
theorem aX9_isWordAt_9 : decode mX9_isWordAt.2.1 9 = .ok (.aload_n 0, 1) ∧ 9 + 1 = 10 := ⟨by decide +kernel, rfl⟩
theorem aX9_isWordAt_10 : decode mX9_isWordAt.2.1 10 = .ok (.getfield 15, 3) ∧ 10 + 3 = 13 := ⟨by decide +kernel, rfl⟩
theorem aX9_isWordAt_13 : decode mX9_isWordAt.2.1 13 = .ok (.iload 4, 2) ∧ 13 + 2 = 15 := ⟨by decide +kernel, rfl⟩
theorem aX9_isWordAt_15 : decode mX9_isWordAt.2.1 15 = .ok (.baload, 1) ∧ 15 + 1 = 16 := ⟨by decide +kernel, rfl⟩
theorem aX9_isWordAt_16 : decode mX9_isWordAt.2.1 16 = .ok (.ldc 64, 2) ∧ 16 + 2 = 18 := ⟨by decide +kernel, rfl⟩
theorem aX9_isWordAt_18 : decode mX9_isWordAt.2.1 18 = .ok (.iload_n 1, 1) ∧ 18 + 1 = 19 := ⟨by decide +kernel, rfl⟩
theorem aX9_isWordAt_19 : decode mX9_isWordAt.2.1 19 = .ok (.iload 4, 2) ∧ 19 + 2 = 21 := ⟨by decide +kernel, rfl⟩
theorem aX9_isWordAt_21 : decode mX9_isWordAt.2.1 21 = .ok (.iadd, 1) ∧ 21 + 1 = 22 := ⟨by decide +kernel, rfl⟩
theorem aX9_isWordAt_22 : decode mX9_isWordAt.2.1 22 = .ok (.iload_n 2, 1) ∧ 22 + 1 = 23 := ⟨by decide +kernel, rfl⟩
theorem aX9_isWordAt_23 : decode mX9_isWordAt.2.1 23 = .ok (.isub, 1) ∧ 23 + 1 = 24 := ⟨by decide +kernel, rfl⟩
theorem aX9_isWordAt_24 : decode mX9_isWordAt.2.1 24 = .ok (.invokevirtual 72, 3) ∧ 24 + 3 = 27 := ⟨by decide +kernel, rfl⟩
theorem aX9_isWordAt_27 : decode mX9_isWordAt.2.1 27 = .ok (.if_icmp .eq 5, 3) ∧ ((27 : Nat) : Int) + 5 = ((32 : Nat) : Int) ∧ 27 + 3 = 30 := ⟨by decide +kernel, by decide, rfl⟩
theorem aX9_isWordAt_30 : decode mX9_isWordAt.2.1 30 = .ok (.iconst 0, 1) ∧ 30 + 1 = 31 := ⟨by decide +kernel, rfl⟩
theorem aX9_isWordAt_31 : decode mX9_isWordAt.2.1 31 = .ok (.ireturn, 1) := by decide +kernel
theorem aX9_isWordAt_32 : decode mX9_isWordAt.2.1 32 = .ok (.iinc 4 1, 3) ∧ 32 + 3 = 35 := ⟨by decide +kernel, rfl⟩
theorem aX9_isWordAt_35 : decode mX9_isWordAt.2.1 35 = .ok (.goto (-32), 3) ∧ ((35 : Nat) : Int) + (-32) = ((3 : Nat) : Int) := ⟨by decide +kernel, by decide⟩
theorem aX9_isWordAt_38 : decode mX9_isWordAt.2.1 38 = .ok (.iconst 1, 1) ∧ 38 + 1 = 39 := ⟨by decide +kernel, rfl⟩
theorem aX9_isWordAt_39 : decode mX9_isWordAt.2.1 39 = .ok (.ireturn, 1) := by decide +kernel
section JT
variable {E : EE} {d : Nat} {I : IH} {Q : QT} {q v : Nat} {x : Int32}
theorem s_coder (hS : isStr E q v) (hQ : Q (some (.int 0)) I) : Mt E d mJ0_coder_7d493 [.ref q] I Q := by
  refine Mt_of [(0, .ref q)] (by decide +kernel) (by simp [lg_sl, Value.category, mJ0_coder_7d493]) rfl ?_
  refine J_cmpS aJ0_coder_7d493_0 flJ0_38 ?_
  refine J_if_eq aJ0_coder_7d493_3 (fun z => absurd z (by decide +kernel)) (fun z => ?_)
  refine J_aload_n 0 aJ0_coder_7d493_6 rfl ?_
  refine J_getSc hS aJ0_coder_7d493_7 flJ0_15 ?_
  refine J_goto aJ0_coder_7d493_10 ?_
  exact J_nret aJ0_coder_7d493_14 rfl (by decide +kernel) hQ
theorem s_isLatin1 (hS : isStr E q v) (hQ : Q (some (.int (nI 1))) I) : Mt E d mJ0_isLatin1_aae02 [.ref q] I Q := by
  refine Mt_of [(0, .ref q)] (by decide +kernel) (by simp [lg_sl, Value.category, mJ0_isLatin1_aae02]) rfl ?_
  refine J_cmpS aJ0_isLatin1_aae02_0 flJ0_38 ?_
  refine J_if_eq aJ0_isLatin1_aae02_3 (fun z => absurd z (by decide +kernel)) (fun z => ?_)
  refine J_aload_n 0 aJ0_isLatin1_aae02_6 rfl ?_
  refine J_getSc hS aJ0_isLatin1_aae02_7 flJ0_15 ?_
  refine J_if_ne aJ0_isLatin1_aae02_10 (fun z => absurd rfl z) (fun z => ?_)
  refine J_iconst (nI 1) aJ0_isLatin1_aae02_13 (by decide +kernel) ?_
  refine J_goto aJ0_isLatin1_aae02_14 ?_
  exact J_nret aJ0_isLatin1_aae02_18 rfl (by decide +kernel) hQ
theorem s_length (hS : isStr E q v) (hQ : Q (some (.int (nI 91))) I) : Mt E (d + 1) mJ0_length_8abf5 [.ref q] I Q := by
  refine Mt_of [(0, .ref q)] (by decide +kernel) (by simp [lg_sl, Value.category, mJ0_length_8abf5]) rfl ?_
  refine J_aload_n 0 aJ0_length_8abf5_0 rfl ?_
  refine J_getSv hS aJ0_length_8abf5_1 flJ0_9 ?_
  refine J_lenS hS aJ0_length_8abf5_4 ?_
  refine J_aload_n 0 aJ0_length_8abf5_5 rfl ?_
  refine J_callQ [] [.int (nI 91)] hS aJ0_length_8abf5_6 lkJ0_335 okJ0_coder_7d493 rfl rfl (Nat.le_of_ble_eq_true rfl) (Nat.le_refl _) (s_coder hS ?_)
  refine J_r1 ?_
  refine J_ishr aJ0_length_8abf5_9 ?_
  exact J_iret aJ0_length_8abf5_10 rfl (by rw [show (nI 91 >>> ((0 : Int32) &&& 31)) = nI 91 by decide +kernel]; exact hQ)
theorem s_checkP {u : Value} (hu : u.category = 1) (j : Nat) (hx : x = nI j) (hj : j < 91) (hQ : Q (some (.int (nI j))) I) : Mt E d mJ3_checkIndex_8e157 [.int x, .int (nI 91), u] I Q := by
  subst hx
  refine Mt_of [(0, .int (nI j)), (1, .int (nI 91)), (2, u)] (by decide +kernel) (by
    cases u <;> first | (simp [Value.category] at hu; done) | (simp [lg_sl, Value.category, mJ3_checkIndex_8e157]; done)) rfl ?_
  refine J_iload_n 0 aJ3_checkIndex_8e157_0 rfl ?_
  refine J_if_lt aJ3_checkIndex_8e157_1 (fun z => absurd z (nI_pos (by omega))) (fun z => ?_)
  refine J_iload_n 0 aJ3_checkIndex_8e157_4 rfl ?_
  refine J_iload_n 1 aJ3_checkIndex_8e157_5 rfl ?_
  refine J_icmp_lt aJ3_checkIndex_8e157_6 (fun z => ?_) (fun z => absurd (by rw [nI_ltI (by omega) (by omega)]; exact hj) z)
  refine J_iload_n 0 aJ3_checkIndex_8e157_16 rfl ?_
  exact J_iret aJ3_checkIndex_8e157_17 rfl hQ
theorem s_checkIndex (j : Nat) (hx : x = nI j) (hj : j < 91) (hQ : Q none I) : Mt E (d + 1) mJ0_checkIndex_df160 [.int x, .int (nI 91)] I Q := by
  refine Mt_of [(0, .int x), (1, .int (nI 91))] (by decide +kernel) (by simp [lg_sl, Value.category, mJ0_checkIndex_df160]) rfl ?_
  refine J_iload_n 0 aJ0_checkIndex_df160_0 rfl ?_
  refine J_iload_n 1 aJ0_checkIndex_df160_1 rfl ?_
  refine J_frmS aJ0_checkIndex_df160_2 flJ0_1053 (fun u hu => ?_)
  refine J_callS [.int x, .int (nI 91), u] [] aJ0_checkIndex_df160_5 lkJ0_1059 okJ3_checkIndex_8e157 rfl rfl (Nat.le_of_ble_eq_true rfl) (Nat.le_refl _) (s_checkP hu j hx hj ?_)
  refine J_r1 ?_
  refine J_pop aJ0_checkIndex_df160_8 rfl ?_
  exact J_vret aJ0_checkIndex_df160_9 rfl hQ
theorem wb_c : ∀ j, j < 91 → (((nI (WB.getD j 0) &&& nI 255).toUInt32 % 65536).toInt32) = nI (WB.getD j 0) ∧ narrow .char (.int (nI (WB.getD j 0))) = .int (nI (WB.getD j 0)) := by decide +kernel
theorem s_charAt1 (j : Nat) (hS : isStr E q v) (hx : x = nI j) (hj : j < 91) (hQ : Q (some (.int (nI (WB.getD j 0)))) I) : Mt E (d + 2) mJ1_charAt_3b067 [.ref v, .int x] I Q := by
  refine Mt_of [(0, .ref v), (1, .int x)] (by decide +kernel) (by simp [lg_sl, Value.category, mJ1_charAt_3b067]) rfl ?_
  refine J_iload_n 1 aJ1_charAt_3b067_0 rfl ?_
  refine J_aload_n 0 aJ1_charAt_3b067_1 rfl ?_
  refine J_lenS hS aJ1_charAt_3b067_2 ?_
  refine J_callS [.int x, .int (nI 91)] [] aJ1_charAt_3b067_3 lkJ1_9 okJ0_checkIndex_df160 rfl rfl (Nat.le_of_ble_eq_true rfl) (Nat.le_refl _) (s_checkIndex j hx hj ?_)
  refine J_r0 ?_
  refine J_aload_n 0 aJ1_charAt_3b067_6 rfl ?_
  refine J_iload_n 1 aJ1_charAt_3b067_7 rfl ?_
  refine J_baS j hS aJ1_charAt_3b067_8 hx hj ?_
  refine J_sipush (nI 255) aJ1_charAt_3b067_9 (by decide +kernel) ?_
  refine J_iand aJ1_charAt_3b067_12 ?_
  refine J_i2c aJ1_charAt_3b067_13 ?_
  rw [(wb_c j hj).1]
  exact J_nret aJ1_charAt_3b067_14 rfl (wb_c j hj).2 hQ
theorem s_charAt (j : Nat) (hS : isStr E q v) (hx : x = nI j) (hj : j < 91) (hQ : Q (some (.int (nI (WB.getD j 0)))) I) : Mt E (d + 3) mJ0_charAt_5068e [.ref q, .int x] I Q := by
  refine Mt_of [(0, .ref q), (1, .int x)] (by decide +kernel) (by simp [lg_sl, Value.category, mJ0_charAt_5068e]) rfl ?_
  refine J_aload_n 0 aJ0_charAt_5068e_0 rfl ?_
  refine J_callQ [] [] hS aJ0_charAt_5068e_1 lkJ0_492 okJ0_isLatin1_aae02 rfl rfl (Nat.le_of_ble_eq_true rfl) (Nat.le_refl _) (s_isLatin1 hS ?_)
  refine J_r1 ?_
  refine J_if_eq aJ0_charAt_5068e_4 (fun z => absurd z (by decide +kernel)) (fun z => ?_)
  refine J_aload_n 0 aJ0_charAt_5068e_7 rfl ?_
  refine J_getSv hS aJ0_charAt_5068e_8 flJ0_9 ?_
  refine J_iload_n 1 aJ0_charAt_5068e_11 rfl ?_
  refine J_callS [.ref v, .int x] [] aJ0_charAt_5068e_12 lkJ0_495 okJ1_charAt_3b067 rfl rfl (Nat.le_of_ble_eq_true rfl) (Nat.le_refl _) (s_charAt1 j hS hx hj ?_)
  refine J_r1 ?_
  exact J_nret aJ0_charAt_5068e_15 rfl (wb_c j hj).2 hQ
end JT
