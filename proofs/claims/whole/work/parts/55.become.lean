section P5
variable {E : EE} {d : Nat} {I : IH} {Q : QT} {T : Nat → Nat} {k e g r e1 g1 r1 : Nat} {x1 x2 x3 x4 : Int32}
/-- two evenings lie apart -/
theorem ev_apart (h : isEv e g r) (h1 : isEv e1 g1 r1) (hne : e ≠ e1) : g + 7 < e1 ∨ g1 + 7 < e := by
  revert hne
  refine ev_cases h (P := fun e g _ => e ≠ e1 → (g + 7 < e1 ∨ g1 + 7 < e)) ?_ ?_ ?_ ?_ ?_ ?_ ?_ ?_
  · refine ev_cases h1 (P := fun e1 g1 _ => 33 ≠ e1 → (34 + 7 < e1 ∨ g1 + 7 < 33)) ?_ ?_ ?_ ?_ ?_ ?_ ?_ ?_ <;> omega
  · refine ev_cases h1 (P := fun e1 g1 _ => 42 ≠ e1 → (49 + 7 < e1 ∨ g1 + 7 < 42)) ?_ ?_ ?_ ?_ ?_ ?_ ?_ ?_ <;> omega
  · refine ev_cases h1 (P := fun e1 g1 _ => 57 ≠ e1 → (58 + 7 < e1 ∨ g1 + 7 < 57)) ?_ ?_ ?_ ?_ ?_ ?_ ?_ ?_ <;> omega
  · refine ev_cases h1 (P := fun e1 g1 _ => 70 ≠ e1 → (71 + 7 < e1 ∨ g1 + 7 < 70)) ?_ ?_ ?_ ?_ ?_ ?_ ?_ ?_ <;> omega
  · refine ev_cases h1 (P := fun e1 g1 _ => 79 ≠ e1 → (80 + 7 < e1 ∨ g1 + 7 < 79)) ?_ ?_ ?_ ?_ ?_ ?_ ?_ ?_ <;> omega
  · refine ev_cases h1 (P := fun e1 g1 _ => 88 ≠ e1 → (89 + 7 < e1 ∨ g1 + 7 < 88)) ?_ ?_ ?_ ?_ ?_ ?_ ?_ ?_ <;> omega
  · refine ev_cases h1 (P := fun e1 g1 _ => 97 ≠ e1 → (98 + 7 < e1 ∨ g1 + 7 < 97)) ?_ ?_ ?_ ?_ ?_ ?_ ?_ ?_ <;> omega
  · refine ev_cases h1 (P := fun e1 g1 _ => 106 ≠ e1 → (107 + 7 < e1 ∨ g1 + 7 < 106)) ?_ ?_ ?_ ?_ ?_ ?_ ?_ ?_ <;> omega
/-- what minutes leave as it is, in an evening -/
def EvS (I : IH) (e g : Nat) (T : Nat → Nat) : Prop := I e 2 = nI (T 1) ∧ I e 7 = nI (T 6) ∧ I e 10 = nI (T 8) ∧ (∀ j, j < 16 → I g j = nI (T (10 + j))) ∧ (∀ w, w < 6 → I (g + 2) w = nI (T (32 + w))) ∧ (∀ k, k < T 6 → I (g + 3) k = nI (T (38 + 6 * k))) ∧ (∀ k, k < T 6 → I (g + 5) k = nI (T (41 + 6 * k))) ∧ (∀ i, i < 4 * T 8 → I (g + 7) i = nI (T (74 + i)))
theorem EvR.S (h : EvR I e g T) : EvS I e g T := by
  obtain ⟨v1, v2, v3, v4, v5, v6, v7, v8, v9, v10, v11, v12, v13, v14, v15⟩ := h
  exact ⟨v1, v5, v7, v8, v10, v11, v13, v15⟩
theorem EvS.ag {T2 : Nat → Nat} (h : EvS I e g T) (h6 : T 6 ≤ 6) (hA : Ag T T2) : EvS I e g T2 := by
  obtain ⟨s1, s2, s3, s4, s5, s6, s7, s8⟩ := h
  have e6 := hA 6 (by omega)
  have e8 := hA 8 (by omega)
  refine ⟨by rw [hA 1 (by omega)]; exact s1, by rw [e6]; exact s2, by rw [e8]; exact s3, fun j hj => by rw [hA _ (by omega)]; exact s4 j hj, fun j hj => by rw [hA _ (by omega)]; exact s5 j hj, fun j hj => ?_, fun j hj => ?_, fun j hj => ?_⟩
  · rw [e6] at hj
    rw [hA _ (by right; right; right; right; right; right; right; exact ⟨j, by omega, Or.inl rfl⟩)]; exact s6 j hj
  · rw [e6] at hj
    rw [hA _ (by right; right; right; right; right; right; right; exact ⟨j, by omega, Or.inr rfl⟩)]; exact s7 j hj
  · rw [e8] at hj
    rw [hA _ (by omega)]; exact s8 j hj
theorem cpy_in {f h : Nat → Int32} {n j : Nat} (hj : j < n) : va_cpy f h 0 0 n j = f j := by simp [va_cpy, hj]
theorem c_moveTo (hE : isEv e g r) (hE1 : isEv e1 g1 r1) (hne : e ≠ e1) (hS : EvS I e g T) (h : EvR I e1 g1 T) (h6 : T 6 ≤ 6) (hQ : ∀ I2, EvR I2 e g T → Same [e, g + 1, g + 4, g + 6] I I2 → I2 e 6 = I e 6 → I2 e 9 = I e 9 → Q none I2) : Mt E (d + 2) mX1_moveTo [.ref (eb E + e), .ref (eb E + e1)] I Q := by
  have n0 := ev_nums hE
  have n1 := ev_nums hE1
  have na := ev_apart hE hE1 hne
  obtain ⟨v1, v2, v3, v4, v5, v6, v7, v8, v9, v10, v11, v12, v13, v14, v15⟩ := h
  obtain ⟨s1, s2, s3, s4, s5, s6, s7, s8⟩ := hS
  refine S_X1_moveTo hE hE1 (fun I1 q1 I3 q3 I5 q5 I7 q7 I9 q9 I11 q11 I13 q13 => ?_)
  have a1 : I1 e1 = I e1 := by rw [q1, st_ne (by omega)]
  have a3 : I3 e1 = I e1 := by rw [q3, st_ne (by omega)]; exact a1
  have a5 : I5 e1 = I e1 := by rw [q5, st_ne (by omega)]; exact a3
  have a7 : ∀ a, a ≠ e → I7 a = I a := fun a ha => by rw [q7, st_ne ha, q5, st_ne ha, q3, st_ne ha, q1, st_ne ha]
  have b9 : ∀ a, a ≠ e → a ≠ g + 1 → I9 a = I a := fun a h1 h2 => by rw [q9, sA_ne h2, a7 a h1]
  have b11 : ∀ a, a ≠ e → a ≠ g + 1 → a ≠ g + 4 → I11 a = I a := fun a h1 h2 h3 => by rw [q11, sA_ne h3, b9 a h1 h2]
  have oth : ∀ a, a ≠ e → a ≠ g + 1 → a ≠ g + 4 → a ≠ g + 6 → I13 a = I a := fun a h1 h2 h3 h4 => by rw [q13, sA_ne h4, b11 a h1 h2 h3]
  have c7 : ∀ s, s ≠ 8 → s ≠ 5 → s ≠ 4 → s ≠ 3 → I13 e s = I e s := by
    intro s t8 t5 t4 t3
    rw [q13, sA_ne (by omega), q11, sA_ne (by omega), q9, sA_ne (by omega), q7, st_nj t8, q5, st_nj t5, q3, st_nj t4, q1, st_nj t3]
  have ee : I13 e = I7 e := by rw [q13, sA_ne (by omega), q11, sA_ne (by omega), q9, sA_ne (by omega)]
  refine hQ I13 ⟨?_, ?_, ?_, ?_, ?_, ?_, ?_, ?_, ?_, ?_, ?_, ?_, ?_, ?_, ?_⟩ ?_ (c7 6 (by omega) (by omega) (by omega) (by omega)) (c7 9 (by omega) (by omega) (by omega) (by omega))
  · rw [c7 2 (by omega) (by omega) (by omega) (by omega)]; exact s1
  · rw [ee, q7, st_nj (by omega), q5, st_nj (by omega), q3, st_nj (by omega), q1, st_at]; exact v2
  · rw [ee, q7, st_nj (by omega), q5, st_nj (by omega), q3, st_at, a1]; exact v3
  · rw [ee, q7, st_nj (by omega), q5, st_at, a3]; exact v4
  · rw [c7 7 (by omega) (by omega) (by omega) (by omega)]; exact s2
  · rw [ee, q7, st_at, a5]; exact v6
  · rw [c7 10 (by omega) (by omega) (by omega) (by omega)]; exact s3
  · intro j hj; rw [oth g (by omega) (by omega) (by omega) (by omega)]; exact s4 j hj
  · intro j hj
    rw [q13, sA_ne (by omega), q11, sA_ne (by omega), q9, sA_eq, cpy_in hj, a7 _ (by omega)]; exact v9 j hj
  · intro j hj; rw [oth (g + 2) (by omega) (by omega) (by omega) (by omega)]; exact s5 j hj
  · intro j hj; rw [oth (g + 3) (by omega) (by omega) (by omega) (by omega)]; exact s6 j hj
  · intro j hj
    rw [q13, sA_ne (by omega), q11, sA_eq, cpy_in (by omega), b9 _ (by omega) (by omega)]; exact v12 j hj
  · intro j hj; rw [oth (g + 5) (by omega) (by omega) (by omega) (by omega)]; exact s7 j hj
  · intro j hj
    rw [q13, sA_eq, cpy_in (by omega), b11 _ (by omega) (by omega) (by omega)]; exact v14 j hj
  · intro j hj; rw [oth (g + 7) (by omega) (by omega) (by omega) (by omega)]; exact s8 j hj
  · intro a ha
    simp only [List.mem_cons, List.not_mem_nil, or_false, not_or] at ha
    exact oth a ha.1 ha.2.1 ha.2.2.1 ha.2.2.2
theorem c_become (hE : isEv e g r) (hE1 : isEv e1 g1 r1) (hne : e ≠ e1) (h : EvR I e1 g1 T) (h6 : T 6 ≤ 6) (h8 : T 8 ≤ 6) (hQ : ∀ I2, EvR I2 e g T → Same [e, g, g + 1, g + 2, g + 3, g + 4, g + 5, g + 6, g + 7] I I2 → I2 e 6 = I e1 6 → I2 e 9 = I e1 9 → Q none I2) : Mt E (d + 3) mX1_become [.ref (eb E + e), .ref (eb E + e1)] I Q := by
  have n0 := ev_nums hE
  have n1 := ev_nums hE1
  have na := ev_apart hE hE1 hne
  obtain ⟨v1, v2, v3, v4, v5, v6, v7, v8, v9, v10, v11, v12, v13, v14, v15⟩ := id h
  refine S_X1_become hE hE1 (fun I1 q1 I3 q3 I5 q5 I7 q7 I9 q9 I11 q11 I13 q13 I15 q15 I17 q17 I19 q19 => ?_)
  have a1 : I1 e1 = I e1 := by rw [q1, st_ne (by omega)]
  have a3 : I3 e1 = I e1 := by rw [q3, st_ne (by omega)]; exact a1
  have a5 : I5 e1 = I e1 := by rw [q5, st_ne (by omega)]; exact a3
  have a7 : I7 e1 = I e1 := by rw [q7, st_ne (by omega)]; exact a5
  have a9 : ∀ a, a ≠ e → I9 a = I a := fun a ha => by rw [q9, st_ne ha, q7, st_ne ha, q5, st_ne ha, q3, st_ne ha, q1, st_ne ha]
  have b11 : ∀ a, a ≠ e → a ≠ g → I11 a = I a := fun a h1 h2 => by rw [q11, sA_ne h2, a9 a h1]
  have b13 : ∀ a, a ≠ e → a ≠ g → a ≠ g + 2 → I13 a = I a := fun a h1 h2 h3 => by rw [q13, sA_ne h3, b11 a h1 h2]
  have b15 : ∀ a, a ≠ e → a ≠ g → a ≠ g + 2 → a ≠ g + 3 → I15 a = I a := fun a h1 h2 h3 h4 => by rw [q15, sA_ne h4, b13 a h1 h2 h3]
  have b17 : ∀ a, a ≠ e → a ≠ g → a ≠ g + 2 → a ≠ g + 3 → a ≠ g + 5 → I17 a = I a := fun a h1 h2 h3 h4 h5 => by rw [q17, sA_ne h5, b15 a h1 h2 h3 h4]
  have b19 : ∀ a, a ≠ e → a ≠ g → a ≠ g + 2 → a ≠ g + 3 → a ≠ g + 5 → a ≠ g + 7 → I19 a = I a := fun a h1 h2 h3 h4 h5 h6 => by rw [q19, sA_ne h6, b17 a h1 h2 h3 h4 h5]
  have ee : I19 e = I9 e := by rw [q19, sA_ne (by omega), q17, sA_ne (by omega), q15, sA_ne (by omega), q13, sA_ne (by omega), q11, sA_ne (by omega)]
  have h19 : EvR I19 e1 g1 T := by
    refine h.same (L := [e, g, g + 2, g + 3, g + 5, g + 7]) (fun a ha => ?_) (by simp; omega) (fun i hi => by simp; omega)
    simp only [List.mem_cons, List.not_mem_nil, or_false, not_or] at ha
    exact b19 a ha.1 ha.2.1 ha.2.2.1 ha.2.2.2.1 ha.2.2.2.2.1 ha.2.2.2.2.2
  have hS : EvS I19 e g T := by
    refine ⟨?_, ?_, ?_, ?_, ?_, ?_, ?_, ?_⟩
    · rw [ee, q9, st_nj (by omega), q7, st_nj (by omega), q5, st_nj (by omega), q3, st_nj (by omega), q1, st_at]; exact v1
    · rw [ee, q9, st_nj (by omega), q7, st_nj (by omega), q5, st_at, a3]; exact v5
    · rw [ee, q9, st_at, a7]; exact v7
    · intro j hj
      rw [q19, sA_ne (by omega), q17, sA_ne (by omega), q15, sA_ne (by omega), q13, sA_ne (by omega), q11, sA_eq, cpy_in hj, a9 _ (by omega)]; exact v8 j hj
    · intro j hj
      rw [q19, sA_ne (by omega), q17, sA_ne (by omega), q15, sA_ne (by omega), q13, sA_eq, cpy_in hj, b11 _ (by omega) (by omega)]; exact v10 j hj
    · intro j hj
      rw [q19, sA_ne (by omega), q17, sA_ne (by omega), q15, sA_eq, cpy_in (by omega), b13 _ (by omega) (by omega) (by omega)]; exact v11 j hj
    · intro j hj
      rw [q19, sA_ne (by omega), q17, sA_eq, cpy_in (by omega), b15 _ (by omega) (by omega) (by omega) (by omega)]; exact v13 j hj
    · intro j hj
      rw [q19, sA_eq, cpy_in (by omega), b17 _ (by omega) (by omega) (by omega) (by omega) (by omega)]; exact v15 j hj
  refine c_moveTo hE hE1 hne hS h19 h6 (fun I2 h2 s2 e6 e9 => ⟨rfl, hQ I2 h2 ?_ ?_ ?_⟩)
  · intro a ha
    rw [s2 a (fun z => ha (by simp at z ⊢; omega))]
    simp only [List.mem_cons, List.not_mem_nil, or_false, not_or] at ha
    exact b19 a ha.1 ha.2.1 ha.2.2.2.1 ha.2.2.2.2.1 ha.2.2.2.2.2.2.1 ha.2.2.2.2.2.2.2.2
  · rw [e6, ee, q9, st_nj (by omega), q7, st_nj (by omega), q5, st_nj (by omega), q3, st_at, a1]
  · rw [e9, ee, q9, st_nj (by omega), q7, st_at, a5]
/-! several minutes of the rest -/
noncomputable def rsN : Nat → (Nat → Nat) → (Nat → Nat) × Nat
  | 0, T => (T, 0)
  | n + 1, T => if T 1 ≤ T 0 then (T, 0) else ((rsN n (goR T).1).1, (goR T).2 + (rsN n (goR T).1).2)
theorem rsN_le : ∀ n T, (rsN n T).2 ≤ 13 * n := by
  intro n
  induction n with
  | zero => intro T; exact Nat.le_refl _
  | succ n ih =>
    intro T
    unfold rsN
    split
    · exact Nat.zero_le _
    · have h1 := goR_le T
      have h2 := ih (goR T).1
      show (goR T).2 + (rsN n (goR T).1).2 ≤ 13 * (n + 1)
      omega
theorem c_goRestFor_loop (hE : isEv e g r) (m : Nat) (hm : m ≤ 16) : ∀ (n i w : Nat) (T : Nat → Nat) (I : IH), i + n = m → w ≤ 13 * i → EvR I e g T → RuR I r T → WfE T → WfR T → T 0 ≤ T 1 → (∀ I2, EvR I2 e g (rsN n T).1 → Same [e, g + 1, g + 4, g + 6, r + 5] I I2 → Q (some (.int (nI (w + (rsN n T).2)))) I2) → J E (d + 5) mX1_goRestFor 4 [(0, .ref (eb E + e)), (1, .int (nI m)), (2, .int (nI w)), (3, .int (nI i))] [] I Q := by
  intro n
  induction n with
  | zero =>
    intro i w T I hi hw h hr hW hR ho hQ
    refine S_X1_goRestFor_4 hE _ _ _ ?_
    rw [nI_leI (by omega) (by omega)]
    exact ⟨fun _ => hQ I h (Same.rf _ _), fun q => by omega⟩
  | succ n ih =>
    intro i w T I hi hw h hr hW hR ho hQ
    have h1 : T 1 ≤ 16 := hW.2.2.1
    refine S_X1_goRestFor_4 hE _ _ _ ?_
    rw [nI_leI (by omega) (by omega)]
    refine ⟨fun q => by omega, fun _ => c_kisOver hE h hW ⟨_, rfl, ?_⟩⟩
    by_cases hov : T 1 ≤ T 0
    · rw [if_pos hov]
      refine ⟨fun _ => ?_, fun q => absurd q (by decide +kernel)⟩
      have e : rsN (n + 1) T = (T, 0) := by unfold rsN; rw [if_pos hov]
      rw [e] at hQ
      exact hQ I h (Same.rf _ _)
    · rw [if_neg hov]
      refine ⟨fun q => absurd rfl q, fun _ => c_kgoRest hE h hr hW hR (fun I2 h2 G2 => ⟨_, rfl, ?_⟩)⟩
      obtain ⟨g1, g2, g3⟩ := wf_goR hW (by omega)
      have hl := goR_le T
      rw [nI_add, nI_add]
      have e : rsN (n + 1) T = ((rsN n (goR T).1).1, (goR T).2 + (rsN n (goR T).1).2) := by
        conv => lhs; unfold rsN
        rw [if_neg hov]
      rw [e] at hQ
      refine ih (i + 1) (w + (goR T).2) (goR T).1 I2 (by omega) (by omega) h2 (g2.ru (hr.ke hE G2.1)) g1 (g2.R hR) (by rw [g3, g2 1 (by omega)]; omega) (fun I3 h3 s3 => ?_)
      have := hQ I3 h3 (G2.1.tr s3)
      rw [Nat.add_assoc]
      exact this
theorem c_goRestFor {x : Int32} {m : Nat} (hE : isEv e g r) (h : EvR I e g T) (hr : RuR I r T) (hW : WfE T) (hR : WfR T) (ho : T 0 ≤ T 1) (hx : x = nI m) (hm : m ≤ 16) (hQ : ∀ I2, EvR I2 e g (rsN m T).1 → Same [e, g + 1, g + 4, g + 6, r + 5] I I2 → Q (some (.int (nI (rsN m T).2))) I2) : Mt E (d + 5) mX1_goRestFor [.ref (eb E + e), .int x] I Q := by
  subst hx
  refine S_X1_goRestFor hE _ (c_goRestFor_loop hE m hm m 0 0 T I (by omega) (by omega) h hr hW hR ho (fun I2 h2 s2 => ?_))
  rw [Nat.zero_add]; exact hQ I2 h2 s2
end P5
