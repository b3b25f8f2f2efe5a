theorem Mt_mono {E : EE} {d : Nat} {M : MD} {av : List Value} {I : IH} {Q Q2 : QT} (h : Mt E d M av I Q) (k : ∀ (r : Option Value) (I2 : IH), Q r I2 → Q2 r I2) : Mt E d M av I Q2 := by
  intro l p e ha hc hk s m args below hf hap hP hK
  obtain ⟨t, oc, h1, h2, h3, ⟨r, I2, e1, hq, hz⟩, hF⟩ := h l p e ha hc hk s m args below hf hap hP hK
  exact ⟨t, oc, h1, h2, h3, ⟨r, I2, e1, k r I2 hq, hz⟩, hF⟩
theorem tsw_out {x lo hi : Int} (h : ∀ k : Int, lo ≤ k → k ≤ hi → x = k → False) : x < lo ∨ hi < x := by
  by_cases h1 : x < lo
  · exact Or.inl h1
  · by_cases h2 : hi < x
    · exact Or.inr h2
    · exact (h x (by omega) (by omega) rfl).elim
/-- the evenings: the object, its arrays from g on, its rules -/
def evL : List (Nat × Nat × Nat) := [(33, 34, 27), (42, 49, 43), (57, 58, 27), (70, 71, 27), (79, 80, 27), (88, 89, 27), (97, 98, 27), (106, 107, 27)]
def isEv (e g r : Nat) : Prop := (e, g, r) ∈ evL
def isRu (r : Nat) : Prop := r = 5 ∨ r = 27 ∨ r = 43
theorem ev_cases {e g r : Nat} (h : isEv e g r) {P : Nat → Nat → Nat → Prop} (h0 : P 33 34 27) (h1 : P 42 49 43) (h2 : P 57 58 27) (h3 : P 70 71 27) (h4 : P 79 80 27) (h5 : P 88 89 27) (h6 : P 97 98 27) (h7 : P 106 107 27) : P e g r := by
  simp only [isEv, evL, List.mem_cons, Prod.mk.injEq, List.not_mem_nil, or_false] at h
  rcases h with ⟨rfl, rfl, rfl⟩ | ⟨rfl, rfl, rfl⟩ | ⟨rfl, rfl, rfl⟩ | ⟨rfl, rfl, rfl⟩ | ⟨rfl, rfl, rfl⟩ | ⟨rfl, rfl, rfl⟩ | ⟨rfl, rfl, rfl⟩ | ⟨rfl, rfl, rfl⟩ <;> assumption
theorem ev_ru {e g r : Nat} (h : isEv e g r) : isRu r := by
  refine ev_cases h (P := fun _ _ r => isRu r) ?_ ?_ ?_ ?_ ?_ ?_ ?_ ?_ <;> (unfold isRu; decide)
theorem shEv {e g r : Nat} (h : isEv e g r) : shape[e]? = some (.inl (1, [some 20, some r, none, none, none, none, none, none, none, none, none, some g, some (g + 1), some (g + 2), some (g + 3), some (g + 4), some (g + 5), some (g + 6), some (g + 7)])) := by
  refine ev_cases h (P := fun e g r => shape[e]? = some (.inl (1, [some 20, some r, none, none, none, none, none, none, none, none, none, some g, some (g + 1), some (g + 2), some (g + 3), some (g + 4), some (g + 5), some (g + 6), some (g + 7)]))) sh33 sh42 sh57 sh70 sh79 sh88 sh97 sh106
theorem shEv0 {e g r : Nat} (h : isEv e g r) : shape[g]? = some (.inr (0, 16, [])) := by
  refine ev_cases h (P := fun _ g _ => shape[g]? = some (.inr (0, 16, []))) sh34 sh49 sh58 sh71 sh80 sh89 sh98 sh107
theorem shEv1 {e g r : Nat} (h : isEv e g r) : shape[(g + 1)]? = some (.inr (0, 6, [])) := by
  refine ev_cases h (P := fun _ g _ => shape[(g + 1)]? = some (.inr (0, 6, []))) sh35 sh50 sh59 sh72 sh81 sh90 sh99 sh108
theorem shEv2 {e g r : Nat} (h : isEv e g r) : shape[(g + 2)]? = some (.inr (0, 6, [])) := by
  refine ev_cases h (P := fun _ g _ => shape[(g + 2)]? = some (.inr (0, 6, []))) sh36 sh51 sh60 sh73 sh82 sh91 sh100 sh109
theorem shEv3 {e g r : Nat} (h : isEv e g r) : shape[(g + 3)]? = some (.inr (0, 6, [])) := by
  refine ev_cases h (P := fun _ g _ => shape[(g + 3)]? = some (.inr (0, 6, []))) sh37 sh52 sh61 sh74 sh83 sh92 sh101 sh110
theorem shEv4 {e g r : Nat} (h : isEv e g r) : shape[(g + 4)]? = some (.inr (0, 6, [])) := by
  refine ev_cases h (P := fun _ g _ => shape[(g + 4)]? = some (.inr (0, 6, []))) sh38 sh53 sh62 sh75 sh84 sh93 sh102 sh111
theorem shEv5 {e g r : Nat} (h : isEv e g r) : shape[(g + 5)]? = some (.inr (0, 6, [])) := by
  refine ev_cases h (P := fun _ g _ => shape[(g + 5)]? = some (.inr (0, 6, []))) sh39 sh54 sh63 sh76 sh85 sh94 sh103 sh112
theorem shEv6 {e g r : Nat} (h : isEv e g r) : shape[(g + 6)]? = some (.inr (0, 6, [])) := by
  refine ev_cases h (P := fun _ g _ => shape[(g + 6)]? = some (.inr (0, 6, []))) sh40 sh55 sh64 sh77 sh86 sh95 sh104 sh113
theorem shEv7 {e g r : Nat} (h : isEv e g r) : shape[(g + 7)]? = some (.inr (0, 24, [])) := by
  refine ev_cases h (P := fun _ g _ => shape[(g + 7)]? = some (.inr (0, 24, []))) sh41 sh56 sh65 sh78 sh87 sh96 sh105 sh114
theorem shRu {r : Nat} (h : isRu r) : shape[r]? = some (.inl (6, [none, none, some (r + 1), some (r + 2), some (r + 3), some (r + 4), some (r + 5)])) := by
  rcases h with rfl | rfl | rfl
  · exact sh5
  · exact sh27
  · exact sh43
theorem shRu1 {r : Nat} (h : isRu r) : shape[(r + 1)]? = some (.inr (0, 8, [])) := by
  rcases h with rfl | rfl | rfl
  · exact sh6
  · exact sh28
  · exact sh44
theorem shRu2 {r : Nat} (h : isRu r) : shape[(r + 2)]? = some (.inr (0, 8, [])) := by
  rcases h with rfl | rfl | rfl
  · exact sh7
  · exact sh29
  · exact sh45
theorem shRu3 {r : Nat} (h : isRu r) : shape[(r + 3)]? = some (.inr (0, 8, [])) := by
  rcases h with rfl | rfl | rfl
  · exact sh8
  · exact sh30
  · exact sh46
theorem shRu4 {r : Nat} (h : isRu r) : shape[(r + 4)]? = some (.inr (0, 200, [])) := by
  rcases h with rfl | rfl | rfl
  · exact sh9
  · exact sh31
  · exact sh47
theorem shRu5 {r : Nat} (h : isRu r) : shape[(r + 5)]? = some (.inr (0, 5, [])) := by
  rcases h with rfl | rfl | rfl
  · exact sh10
  · exact sh32
  · exact sh48
theorem kinds_at {j : Nat} (h : j < 6) : [21, 22, 23, 24, 25, 26][j]? = some (21 + j) := by
  rcases (show j = 0 ∨ j = 1 ∨ j = 2 ∨ j = 3 ∨ j = 4 ∨ j = 5 by omega) with rfl | rfl | rfl | rfl | rfl | rfl <;> rfl
theorem levels_at {j : Nat} (h : j < 5) : [70, 79, 88, 97, 106][j]? = some (70 + 9 * j) := by
  rcases (show j = 0 ∨ j = 1 ∨ j = 2 ∨ j = 3 ∨ j = 4 by omega) with rfl | rfl | rfl | rfl | rfl <;> rfl
theorem levels_ev {j : Nat} (h : j < 5) : isEv (70 + 9 * j) (71 + 9 * j) 27 := by
  rcases (show j = 0 ∨ j = 1 ∨ j = 2 ∨ j = 3 ∨ j = 4 by omega) with rfl | rfl | rfl | rfl | rfl <;> (unfold isEv evL; decide)
def sel_next (j : Nat) : MD := match j with
  | 0 => mX4_next
  | 1 => mX3_next
  | 2 => mX7_next
  | 3 => mX10_next
  | 4 => mX2_next
  | _ => mX0_next
def sel_price (j : Nat) : MD := match j with
  | 0 => mX4_price
  | 1 => mX3_price
  | 2 => mX7_price
  | 3 => mX10_price
  | 4 => mX2_price
  | _ => mX0_price
def sel_glows (j : Nat) : MD := match j with
  | 0 => mX4_glows
  | 1 => mX3_glows
  | 2 => mX4_glows
  | 3 => mX10_glows
  | 4 => mX4_glows
  | _ => mX4_glows
def sel_smokes (j : Nat) : MD := match j with
  | 0 => mX4_smokes
  | 1 => mX4_smokes
  | 2 => mX7_smokes
  | 3 => mX7_smokes
  | 4 => mX4_smokes
  | _ => mX0_smokes
def sel_waves (j : Nat) : MD := match j with
  | 0 => mX4_waves
  | 1 => mX4_waves
  | 2 => mX4_waves
  | 3 => mX4_waves
  | 4 => mX2_waves
  | _ => mX0_waves
def sel_begs (j : Nat) : MD := match j with
  | 0 => mX4_begs
  | 1 => mX4_begs
  | 2 => mX4_begs
  | 3 => mX10_begs
  | 4 => mX4_begs
  | _ => mX4_begs
theorem dspX11_150 {E : EE} {d : Nat} {M : MD} {pc pc2 : Nat} {lv : List (Nat × Value)} {I : IH} {Q : QT} {j d2 : Nat} {stk : List Value} (As rest : List Value) (hj : j < 6) (h : decode M.2.1 pc = .ok (.invokevirtual 150, 3) ∧ pc + 3 = pc2) (hown : M.1.cls = RX11) (hn : As.length = 2) (hst : stk = As.reverse ++ .ref (eb E + (21 + j)) :: rest) (hr : (rest.map fun v => v.category).sum ≤ 8) (hd : d2 + 1 ≤ d)
    (hc : Mt E d2 (sel_price j) (.ref (eb E + (21 + j)) :: As) I (fun r I2 => J E d M pc2 lv (r.toList ++ rest) I2 Q)) : J E d M pc lv stk I Q := by
  obtain ⟨y, cc, n, rt⟩ := M
  obtain ⟨yc, yn, yd⟩ := y
  have hown : yc = RX11 := hown
  subst hown
  rcases (show j = 0 ∨ j = 1 ∨ j = 2 ∨ j = 3 ∨ j = 4 ∨ j = 5 by omega) with rfl | rfl | rfl | rfl | rfl | rfl
  · exact J_callV As rest h lkX11_150_X4 okX4_price sh21 rfl hn hst hr hd hc
  · exact J_callU As rest h lkX11_150_X3 okX3_price rfl sh22 rfl hn hst hr hd hc
  · exact J_callU As rest h lkX11_150_X7 okX7_price rfl sh23 rfl hn hst hr hd hc
  · exact J_callU As rest h lkX11_150_X10 okX10_price rfl sh24 rfl hn hst hr hd hc
  · exact J_callU As rest h lkX11_150_X2 okX2_price rfl sh25 rfl hn hst hr hd hc
  · exact J_callU As rest h lkX11_150_X0 okX0_price rfl sh26 rfl hn hst hr hd hc
theorem dspX11_157 {E : EE} {d : Nat} {M : MD} {pc pc2 : Nat} {lv : List (Nat × Value)} {I : IH} {Q : QT} {j d2 : Nat} {stk : List Value} (As rest : List Value) (hj : j < 6) (h : decode M.2.1 pc = .ok (.invokevirtual 157, 3) ∧ pc + 3 = pc2) (hown : M.1.cls = RX11) (hn : As.length = 2) (hst : stk = As.reverse ++ .ref (eb E + (21 + j)) :: rest) (hr : (rest.map fun v => v.category).sum ≤ 8) (hd : d2 + 1 ≤ d)
    (hc : Mt E d2 (sel_next j) (.ref (eb E + (21 + j)) :: As) I (fun r I2 => J E d M pc2 lv (r.toList ++ rest) I2 Q)) : J E d M pc lv stk I Q := by
  obtain ⟨y, cc, n, rt⟩ := M
  obtain ⟨yc, yn, yd⟩ := y
  have hown : yc = RX11 := hown
  subst hown
  rcases (show j = 0 ∨ j = 1 ∨ j = 2 ∨ j = 3 ∨ j = 4 ∨ j = 5 by omega) with rfl | rfl | rfl | rfl | rfl | rfl
  · exact J_callV As rest h lkX11_157_X4 okX4_next sh21 rfl hn hst hr hd hc
  · exact J_callU As rest h lkX11_157_X3 okX3_next rfl sh22 rfl hn hst hr hd hc
  · exact J_callU As rest h lkX11_157_X7 okX7_next rfl sh23 rfl hn hst hr hd hc
  · exact J_callU As rest h lkX11_157_X10 okX10_next rfl sh24 rfl hn hst hr hd hc
  · exact J_callU As rest h lkX11_157_X2 okX2_next rfl sh25 rfl hn hst hr hd hc
  · exact J_callU As rest h lkX11_157_X0 okX0_next rfl sh26 rfl hn hst hr hd hc
theorem dspX11_364 {E : EE} {d : Nat} {M : MD} {pc pc2 : Nat} {lv : List (Nat × Value)} {I : IH} {Q : QT} {j d2 : Nat} {stk : List Value} (As rest : List Value) (hj : j < 6) (h : decode M.2.1 pc = .ok (.invokevirtual 364, 3) ∧ pc + 3 = pc2) (hown : M.1.cls = RX11) (hn : As.length = 2) (hst : stk = As.reverse ++ .ref (eb E + (21 + j)) :: rest) (hr : (rest.map fun v => v.category).sum ≤ 8) (hd : d2 + 1 ≤ d)
    (hc : Mt E d2 (sel_glows j) (.ref (eb E + (21 + j)) :: As) I (fun r I2 => J E d M pc2 lv (r.toList ++ rest) I2 Q)) : J E d M pc lv stk I Q := by
  obtain ⟨y, cc, n, rt⟩ := M
  obtain ⟨yc, yn, yd⟩ := y
  have hown : yc = RX11 := hown
  subst hown
  rcases (show j = 0 ∨ j = 1 ∨ j = 2 ∨ j = 3 ∨ j = 4 ∨ j = 5 by omega) with rfl | rfl | rfl | rfl | rfl | rfl
  · exact J_callV As rest h lkX11_364_X4 okX4_glows sh21 rfl hn hst hr hd hc
  · exact J_callU As rest h lkX11_364_X3 okX3_glows rfl sh22 rfl hn hst hr hd hc
  · exact J_callU As rest h lkX11_364_X7 okX4_glows rfl sh23 rfl hn hst hr hd hc
  · exact J_callU As rest h lkX11_364_X10 okX10_glows rfl sh24 rfl hn hst hr hd hc
  · exact J_callU As rest h lkX11_364_X2 okX4_glows rfl sh25 rfl hn hst hr hd hc
  · exact J_callU As rest h lkX11_364_X0 okX4_glows rfl sh26 rfl hn hst hr hd hc
theorem dspX11_368 {E : EE} {d : Nat} {M : MD} {pc pc2 : Nat} {lv : List (Nat × Value)} {I : IH} {Q : QT} {j d2 : Nat} {stk : List Value} (As rest : List Value) (hj : j < 6) (h : decode M.2.1 pc = .ok (.invokevirtual 368, 3) ∧ pc + 3 = pc2) (hown : M.1.cls = RX11) (hn : As.length = 2) (hst : stk = As.reverse ++ .ref (eb E + (21 + j)) :: rest) (hr : (rest.map fun v => v.category).sum ≤ 8) (hd : d2 + 1 ≤ d)
    (hc : Mt E d2 (sel_smokes j) (.ref (eb E + (21 + j)) :: As) I (fun r I2 => J E d M pc2 lv (r.toList ++ rest) I2 Q)) : J E d M pc lv stk I Q := by
  obtain ⟨y, cc, n, rt⟩ := M
  obtain ⟨yc, yn, yd⟩ := y
  have hown : yc = RX11 := hown
  subst hown
  rcases (show j = 0 ∨ j = 1 ∨ j = 2 ∨ j = 3 ∨ j = 4 ∨ j = 5 by omega) with rfl | rfl | rfl | rfl | rfl | rfl
  · exact J_callV As rest h lkX11_368_X4 okX4_smokes sh21 rfl hn hst hr hd hc
  · exact J_callU As rest h lkX11_368_X3 okX4_smokes rfl sh22 rfl hn hst hr hd hc
  · exact J_callU As rest h lkX11_368_X7 okX7_smokes rfl sh23 rfl hn hst hr hd hc
  · exact J_callU As rest h lkX11_368_X10 okX7_smokes rfl sh24 rfl hn hst hr hd hc
  · exact J_callU As rest h lkX11_368_X2 okX4_smokes rfl sh25 rfl hn hst hr hd hc
  · exact J_callU As rest h lkX11_368_X0 okX0_smokes rfl sh26 rfl hn hst hr hd hc
theorem dspX11_371 {E : EE} {d : Nat} {M : MD} {pc pc2 : Nat} {lv : List (Nat × Value)} {I : IH} {Q : QT} {j d2 : Nat} {stk : List Value} (As rest : List Value) (hj : j < 6) (h : decode M.2.1 pc = .ok (.invokevirtual 371, 3) ∧ pc + 3 = pc2) (hown : M.1.cls = RX11) (hn : As.length = 2) (hst : stk = As.reverse ++ .ref (eb E + (21 + j)) :: rest) (hr : (rest.map fun v => v.category).sum ≤ 8) (hd : d2 + 1 ≤ d)
    (hc : Mt E d2 (sel_waves j) (.ref (eb E + (21 + j)) :: As) I (fun r I2 => J E d M pc2 lv (r.toList ++ rest) I2 Q)) : J E d M pc lv stk I Q := by
  obtain ⟨y, cc, n, rt⟩ := M
  obtain ⟨yc, yn, yd⟩ := y
  have hown : yc = RX11 := hown
  subst hown
  rcases (show j = 0 ∨ j = 1 ∨ j = 2 ∨ j = 3 ∨ j = 4 ∨ j = 5 by omega) with rfl | rfl | rfl | rfl | rfl | rfl
  · exact J_callV As rest h lkX11_371_X4 okX4_waves sh21 rfl hn hst hr hd hc
  · exact J_callU As rest h lkX11_371_X3 okX4_waves rfl sh22 rfl hn hst hr hd hc
  · exact J_callU As rest h lkX11_371_X7 okX4_waves rfl sh23 rfl hn hst hr hd hc
  · exact J_callU As rest h lkX11_371_X10 okX4_waves rfl sh24 rfl hn hst hr hd hc
  · exact J_callU As rest h lkX11_371_X2 okX2_waves rfl sh25 rfl hn hst hr hd hc
  · exact J_callU As rest h lkX11_371_X0 okX0_waves rfl sh26 rfl hn hst hr hd hc
theorem dspX11_374 {E : EE} {d : Nat} {M : MD} {pc pc2 : Nat} {lv : List (Nat × Value)} {I : IH} {Q : QT} {j d2 : Nat} {stk : List Value} (As rest : List Value) (hj : j < 6) (h : decode M.2.1 pc = .ok (.invokevirtual 374, 3) ∧ pc + 3 = pc2) (hown : M.1.cls = RX11) (hn : As.length = 2) (hst : stk = As.reverse ++ .ref (eb E + (21 + j)) :: rest) (hr : (rest.map fun v => v.category).sum ≤ 8) (hd : d2 + 1 ≤ d)
    (hc : Mt E d2 (sel_begs j) (.ref (eb E + (21 + j)) :: As) I (fun r I2 => J E d M pc2 lv (r.toList ++ rest) I2 Q)) : J E d M pc lv stk I Q := by
  obtain ⟨y, cc, n, rt⟩ := M
  obtain ⟨yc, yn, yd⟩ := y
  have hown : yc = RX11 := hown
  subst hown
  rcases (show j = 0 ∨ j = 1 ∨ j = 2 ∨ j = 3 ∨ j = 4 ∨ j = 5 by omega) with rfl | rfl | rfl | rfl | rfl | rfl
  · exact J_callV As rest h lkX11_374_X4 okX4_begs sh21 rfl hn hst hr hd hc
  · exact J_callU As rest h lkX11_374_X3 okX4_begs rfl sh22 rfl hn hst hr hd hc
  · exact J_callU As rest h lkX11_374_X7 okX4_begs rfl sh23 rfl hn hst hr hd hc
  · exact J_callU As rest h lkX11_374_X10 okX10_begs rfl sh24 rfl hn hst hr hd hc
  · exact J_callU As rest h lkX11_374_X2 okX4_begs rfl sh25 rfl hn hst hr hd hc
  · exact J_callU As rest h lkX11_374_X0 okX4_begs rfl sh26 rfl hn hst hr hd hc
theorem dspX1_107 {E : EE} {d : Nat} {M : MD} {pc pc2 : Nat} {lv : List (Nat × Value)} {I : IH} {Q : QT} {j d2 : Nat} {stk : List Value} (As rest : List Value) (hj : j < 6) (h : decode M.2.1 pc = .ok (.invokevirtual 107, 3) ∧ pc + 3 = pc2) (hown : M.1.cls = RX1) (hn : As.length = 2) (hst : stk = As.reverse ++ .ref (eb E + (21 + j)) :: rest) (hr : (rest.map fun v => v.category).sum ≤ 8) (hd : d2 + 1 ≤ d)
    (hc : Mt E d2 (sel_price j) (.ref (eb E + (21 + j)) :: As) I (fun r I2 => J E d M pc2 lv (r.toList ++ rest) I2 Q)) : J E d M pc lv stk I Q := by
  obtain ⟨y, cc, n, rt⟩ := M
  obtain ⟨yc, yn, yd⟩ := y
  have hown : yc = RX1 := hown
  subst hown
  rcases (show j = 0 ∨ j = 1 ∨ j = 2 ∨ j = 3 ∨ j = 4 ∨ j = 5 by omega) with rfl | rfl | rfl | rfl | rfl | rfl
  · exact J_callV As rest h lkX1_107_X4 okX4_price sh21 rfl hn hst hr hd hc
  · exact J_callU As rest h lkX1_107_X3 okX3_price rfl sh22 rfl hn hst hr hd hc
  · exact J_callU As rest h lkX1_107_X7 okX7_price rfl sh23 rfl hn hst hr hd hc
  · exact J_callU As rest h lkX1_107_X10 okX10_price rfl sh24 rfl hn hst hr hd hc
  · exact J_callU As rest h lkX1_107_X2 okX2_price rfl sh25 rfl hn hst hr hd hc
  · exact J_callU As rest h lkX1_107_X0 okX0_price rfl sh26 rfl hn hst hr hd hc
theorem dspX1_162 {E : EE} {d : Nat} {M : MD} {pc pc2 : Nat} {lv : List (Nat × Value)} {I : IH} {Q : QT} {j d2 : Nat} {stk : List Value} (As rest : List Value) (hj : j < 6) (h : decode M.2.1 pc = .ok (.invokevirtual 162, 3) ∧ pc + 3 = pc2) (hown : M.1.cls = RX1) (hn : As.length = 2) (hst : stk = As.reverse ++ .ref (eb E + (21 + j)) :: rest) (hr : (rest.map fun v => v.category).sum ≤ 8) (hd : d2 + 1 ≤ d)
    (hc : Mt E d2 (sel_next j) (.ref (eb E + (21 + j)) :: As) I (fun r I2 => J E d M pc2 lv (r.toList ++ rest) I2 Q)) : J E d M pc lv stk I Q := by
  obtain ⟨y, cc, n, rt⟩ := M
  obtain ⟨yc, yn, yd⟩ := y
  have hown : yc = RX1 := hown
  subst hown
  rcases (show j = 0 ∨ j = 1 ∨ j = 2 ∨ j = 3 ∨ j = 4 ∨ j = 5 by omega) with rfl | rfl | rfl | rfl | rfl | rfl
  · exact J_callV As rest h lkX1_162_X4 okX4_next sh21 rfl hn hst hr hd hc
  · exact J_callU As rest h lkX1_162_X3 okX3_next rfl sh22 rfl hn hst hr hd hc
  · exact J_callU As rest h lkX1_162_X7 okX7_next rfl sh23 rfl hn hst hr hd hc
  · exact J_callU As rest h lkX1_162_X10 okX10_next rfl sh24 rfl hn hst hr hd hc
  · exact J_callU As rest h lkX1_162_X2 okX2_next rfl sh25 rfl hn hst hr hd hc
  · exact J_callU As rest h lkX1_162_X0 okX0_next rfl sh26 rfl hn hst hr hd hc
