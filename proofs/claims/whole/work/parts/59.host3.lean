section P9
variable {E : EE} {d : Nat} {I : IH} {Q : QT} {T : Nat → Nat} {k e g r e1 g1 r1 : Nat} {x1 x2 x3 x4 : Int32}
theorem p_paneOf (hI : Inv I) : Pair E (d + 40) mX11_paneOf mX12_paneOf [.int x1, .int x2] [.int x1, .int x2] I := by
  obtain ⟨T, h⟩ := id hI
  obtain ⟨a1, a2, a3, a4, a5, a6⟩ := id h
  obtain ⟨v1, v2, v3, v4, v5, v6, v7, v8, v9, v10, v11, v12, v13, v14, v15⟩ := id a3.1
  have h6 : T 6 ≤ 6 := a2.1.1
  have h0 : T 0 ≤ 16 := a2.1.2.1
  by_cases ok : isP T x1
  · obtain ⟨k, hk, hk2⟩ := isP_n ok
    obtain ⟨k6, p1, p2, p3, p4, p5, p6⟩ := a2.1.p hk2
    have hl := lt8_le T k
    by_cases q0 : x2 = nI 0
    · subst q0
      refine Pair.pure hI (nI (T (38 + 6 * k))) (fun Q hQ => S_X11_paneOf _ _ (d_isPane v5 h6 ⟨_, rfl, bk2 (fun _ => c_lights isEv_ev a3.1 a2.1 hk hk2 ⟨_, rfl, fun q => ?_, fun q => ?_, fun q => ?_, fun q => ?_, fun q => ?_, fun q => ?_, fun q => ?_, fun q => ?_, fun q => ?_, fun q => ?_, fun q => ?_⟩) (fun q => absurd ok q)⟩)) (fun Q hQ => S_X12_paneOf _ _ (m_isPane a1 h6 ⟨_, rfl, bk (fun _ => m_in1 (by omega) (by omega) ⟨_, rfl, bk2 (fun _ => ⟨fun q => ?_, fun q => ?_, fun q => ?_, fun q => ?_, fun q => ?_, fun q => ?_⟩) (fun q => absurd ((inr_i (by omega)).mpr (by omega)) q)⟩) (fun q => absurd ok q)⟩))
      all_goals try exact absurd q (by decide +kernel)
      · refine ⟨k, hk, k6, ?_⟩
        show Q (some (.int (I 37 k))) I
        rw [show I 37 k = nI (T (38 + 6 * k)) from v11 k hk2]; exact hQ
      · refine c_get k 0 hk rfl (by omega) ⟨_, rfl, ?_⟩
        rw [a1.kd k6]; exact hQ
    by_cases q1 : x2 = nI 1
    · subst q1
      refine Pair.pure hI (nI (T (39 + 6 * k))) (fun Q hQ => S_X11_paneOf _ _ (d_isPane v5 h6 ⟨_, rfl, bk2 (fun _ => c_lights isEv_ev a3.1 a2.1 hk hk2 ⟨_, rfl, fun q => ?_, fun q => ?_, fun q => ?_, fun q => ?_, fun q => ?_, fun q => ?_, fun q => ?_, fun q => ?_, fun q => ?_, fun q => ?_, fun q => ?_⟩) (fun q => absurd ok q)⟩)) (fun Q hQ => S_X12_paneOf _ _ (m_isPane a1 h6 ⟨_, rfl, bk (fun _ => m_in1 (by omega) (by omega) ⟨_, rfl, bk2 (fun _ => ⟨fun q => ?_, fun q => ?_, fun q => ?_, fun q => ?_, fun q => ?_, fun q => ?_⟩) (fun q => absurd ((inr_i (by omega)).mpr (by omega)) q)⟩) (fun q => absurd ok q)⟩))
      all_goals try exact absurd q (by decide +kernel)
      · refine ⟨k, hk, k6, ?_⟩
        show Q (some (.int (I 38 k))) I
        rw [show I 38 k = nI (T (39 + 6 * k)) from v12 k hk2]; exact hQ
      · refine c_get k 1 hk rfl (by omega) ⟨_, rfl, ?_⟩
        rw [a1.sc k6]; exact hQ
    by_cases q2 : x2 = nI 2
    · subst q2
      refine Pair.pure hI (nI (T (40 + 6 * k))) (fun Q hQ => S_X11_paneOf _ _ (d_isPane v5 h6 ⟨_, rfl, bk2 (fun _ => c_lights isEv_ev a3.1 a2.1 hk hk2 ⟨_, rfl, fun q => ?_, fun q => ?_, fun q => ?_, fun q => ?_, fun q => ?_, fun q => ?_, fun q => ?_, fun q => ?_, fun q => ?_, fun q => ?_, fun q => ?_⟩) (fun q => absurd ok q)⟩)) (fun Q hQ => S_X12_paneOf _ _ (m_isPane a1 h6 ⟨_, rfl, bk (fun _ => m_in1 (by omega) (by omega) ⟨_, rfl, bk2 (fun _ => ⟨fun q => ?_, fun q => ?_, fun q => ?_, fun q => ?_, fun q => ?_, fun q => ?_⟩) (fun q => absurd ((inr_i (by omega)).mpr (by omega)) q)⟩) (fun q => absurd ok q)⟩))
      all_goals try exact absurd q (by decide +kernel)
      · refine ⟨k, hk, k6, ?_⟩
        show Q (some (.int (I 40 k))) I
        rw [show I 40 k = nI (T (40 + 6 * k)) from v14 k hk2]; exact hQ
      · refine c_get k 2 hk rfl (by omega) ⟨_, rfl, ?_⟩
        rw [a1.lk k6]; exact hQ
    by_cases q3 : x2 = nI 3
    · subst q3
      refine Pair.pure hI (nI (T (41 + 6 * k))) (fun Q hQ => S_X11_paneOf _ _ (d_isPane v5 h6 ⟨_, rfl, bk2 (fun _ => c_lights isEv_ev a3.1 a2.1 hk hk2 ⟨_, rfl, fun q => ?_, fun q => ?_, fun q => ?_, fun q => ?_, fun q => ?_, fun q => ?_, fun q => ?_, fun q => ?_, fun q => ?_, fun q => ?_, fun q => ?_⟩) (fun q => absurd ok q)⟩)) (fun Q hQ => S_X12_paneOf _ _ (m_isPane a1 h6 ⟨_, rfl, bk (fun _ => m_in1 (by omega) (by omega) ⟨_, rfl, bk2 (fun _ => ⟨fun q => ?_, fun q => ?_, fun q => ?_, fun q => ?_, fun q => ?_, fun q => ?_⟩) (fun q => absurd ((inr_i (by omega)).mpr (by omega)) q)⟩) (fun q => absurd ok q)⟩))
      all_goals try exact absurd q (by decide +kernel)
      · refine ⟨k, hk, k6, ?_⟩
        show Q (some (.int (I 39 k))) I
        rw [show I 39 k = nI (T (41 + 6 * k)) from v13 k hk2]; exact hQ
      · refine c_get k 3 hk rfl (by omega) ⟨_, rfl, ?_⟩
        rw [a1.wr k6]; exact hQ
    by_cases q4 : x2 = nI 4
    · subst q4
      refine Pair.pure hI (nI (T (42 + 6 * k))) (fun Q hQ => S_X11_paneOf _ _ (d_isPane v5 h6 ⟨_, rfl, bk2 (fun _ => c_lights isEv_ev a3.1 a2.1 hk hk2 ⟨_, rfl, fun q => ?_, fun q => ?_, fun q => ?_, fun q => ?_, fun q => ?_, fun q => ?_, fun q => ?_, fun q => ?_, fun q => ?_, fun q => ?_, fun q => ?_⟩) (fun q => absurd ok q)⟩)) (fun Q hQ => S_X12_paneOf _ _ (m_isPane a1 h6 ⟨_, rfl, bk (fun _ => m_in1 (by omega) (by omega) ⟨_, rfl, bk2 (fun _ => ⟨fun q => ?_, fun q => ?_, fun q => ?_, fun q => ?_, fun q => ?_, fun q => ?_⟩) (fun q => absurd ((inr_i (by omega)).mpr (by omega)) q)⟩) (fun q => absurd ok q)⟩))
      all_goals try exact absurd q (by decide +kernel)
      · rw [v6, hk, bit_sw a2.1 hk2]; exact hQ
      · refine c_get k 4 hk rfl (by omega) ⟨_, rfl, ?_⟩
        rw [a1.sw k6]; exact hQ
    by_cases q5 : x2 = nI 5
    · subst q5
      refine Pair.pure hI (nI (lt8 T k)) (fun Q hQ => S_X11_paneOf _ _ (d_isPane v5 h6 ⟨_, rfl, bk2 (fun _ => c_lights isEv_ev a3.1 a2.1 hk hk2 ⟨_, rfl, fun q => ?_, fun q => ?_, fun q => ?_, fun q => ?_, fun q => ?_, fun q => ?_, fun q => ?_, fun q => ?_, fun q => ?_, fun q => ?_, fun q => ?_⟩) (fun q => absurd ok q)⟩)) (fun Q hQ => S_X12_paneOf _ _ (m_isPane a1 h6 ⟨_, rfl, bk (fun _ => m_in1 (by omega) (by omega) ⟨_, rfl, bk2 (fun _ => ⟨fun q => ?_, fun q => ?_, fun q => ?_, fun q => ?_, fun q => ?_, fun q => ?_⟩) (fun q => absurd ((inr_i (by omega)).mpr (by omega)) q)⟩) (fun q => absurd ok q)⟩))
      all_goals try exact absurd q (by decide +kernel)
      · exact hQ
      · exact c_lightsOf a1 a2.1 hk hk2 ⟨_, rfl, hQ⟩
    by_cases q6 : x2 = nI 6
    · subst q6
      refine Pair.pure hI (nI (ask T k)) (fun Q hQ => S_X11_paneOf _ _ (d_isPane v5 h6 ⟨_, rfl, bk2 (fun _ => c_lights isEv_ev a3.1 a2.1 hk hk2 ⟨_, rfl, fun q => ?_, fun q => ?_, fun q => ?_, fun q => ?_, fun q => ?_, fun q => ?_, fun q => ?_, fun q => ?_, fun q => ?_, fun q => ?_, fun q => ?_⟩) (fun q => absurd ok q)⟩)) (fun Q hQ => S_X12_paneOf _ _ (m_isPane a1 h6 ⟨_, rfl, bk (fun _ => m_in1 (by omega) (by omega) ⟨_, rfl, bk2 (fun _ => ⟨fun q => ?_, fun q => ?_, fun q => ?_, fun q => ?_, fun q => ?_, fun q => ?_⟩) (fun q => absurd ((inr_i (by omega)).mpr (by omega)) q)⟩) (fun q => absurd ok q)⟩))
      all_goals try exact absurd q (by decide +kernel)
      · exact c_thing isEv_ev a3.1 a2.1 hk hk2 ⟨T (38 + 6 * k), by omega, rfl, c_price (lt8 T k) k ⟨p1, p2⟩ rfl hk hl ⟨_, rfl, hQ⟩⟩
      · exact c_asksOf a1 a2.1 hk hk2 ⟨_, rfl, hQ⟩
    by_cases q7 : x2 = nI 7
    · subst q7
      refine Pair.pure hI (nI (nxt (T (38 + 6 * k)) (T (39 + 6 * k)) (T 0))) (fun Q hQ => S_X11_paneOf _ _ (d_isPane v5 h6 ⟨_, rfl, bk2 (fun _ => c_lights isEv_ev a3.1 a2.1 hk hk2 ⟨_, rfl, fun q => ?_, fun q => ?_, fun q => ?_, fun q => ?_, fun q => ?_, fun q => ?_, fun q => ?_, fun q => ?_, fun q => ?_, fun q => ?_, fun q => ?_⟩) (fun q => absurd ok q)⟩)) (fun Q hQ => S_X12_paneOf _ _ (m_isPane a1 h6 ⟨_, rfl, bk (fun _ => m_in1 (by omega) (by omega) ⟨_, rfl, bk2 (fun _ => ⟨fun q => ?_, fun q => ?_, fun q => ?_, fun q => ?_, fun q => ?_, fun q => ?_⟩) (fun q => absurd ((inr_i (by omega)).mpr (by omega)) q)⟩) (fun q => absurd ok q)⟩))
      all_goals try exact absurd q (by decide +kernel)
      · exact c_thing isEv_ev a3.1 a2.1 hk hk2 ⟨T (38 + 6 * k), by omega, rfl, k, hk, k6, c_next (T (39 + 6 * k)) (T 0) ⟨p1, p2⟩ (v12 k hk2) v2 p3 (by omega) ⟨_, rfl, hQ⟩⟩
      · exact c_get k 0 hk rfl (by omega) ⟨_, rfl, c_get k 1 hk rfl (by omega) ⟨_, rfl, c_sceneBy _ _ _ (a1.kd k6) (a1.sc k6) (a1 0 (by omega) (by omega) (by omega)) (by omega) p3 (by omega) ⟨_, rfl, hQ⟩⟩⟩
    by_cases q8 : x2 = nI 8
    · subst q8
      refine ⟨nI (wil T k), fun I1 => Same [32] I I1, fun Q hQ => S_X11_paneOf _ _ (d_isPane v5 h6 ⟨_, rfl, bk2 (fun _ => c_lights isEv_ev a3.1 a2.1 hk hk2 ⟨_, rfl, fun q => ?_, fun q => ?_, fun q => ?_, fun q => ?_, fun q => ?_, fun q => ?_, fun q => ?_, fun q => ?_, fun q => ?_, fun q => ?_, fun q => ?_⟩) (fun q => absurd ok q)⟩), fun I1 s1 Q hQ => S_X12_paneOf _ _ (m_isPane (a1.same s1 (by simp)) h6 ⟨_, rfl, bk (fun _ => m_in1 (by omega) (by omega) ⟨_, rfl, bk2 (fun _ => ⟨fun q => ?_, fun q => ?_, fun q => ?_, fun q => ?_, fun q => ?_, fun q => ?_⟩) (fun q => absurd ((inr_i (by omega)).mpr (by omega)) q)⟩) (fun q => absurd ok q)⟩)⟩
      all_goals try exact absurd q (by decide +kernel)
      · exact c_will isEv_ev a3.1 a3.2 a2.1 a2.2.1 hk rfl hk2 (fun I2 s2 => ⟨_, rfl, hQ I2 s2⟩)
      · refine c_willOf (a1.same s1 (by simp)) a2.1 a2.2.1 hk hk2 (fun I2 r2 K2 => ⟨_, rfl, hQ I2 ⟨T, h.scr s1 K2.1 (by decide) r2 ?_ ?_⟩⟩)
        · rw [K2.2.1, s1 116 (by simp)]
        · rw [K2.2.2, s1 116 (by simp)]
    by_cases q9 : x2 = nI 9
    · subst q9
      refine Pair.pure hI (nI (bn (opn T k))) (fun Q hQ => S_X11_paneOf _ _ (d_isPane v5 h6 ⟨_, rfl, bk2 (fun _ => c_lights isEv_ev a3.1 a2.1 hk hk2 ⟨_, rfl, fun q => ?_, fun q => ?_, fun q => ?_, fun q => ?_, fun q => ?_, fun q => ?_, fun q => ?_, fun q => ?_, fun q => ?_, fun q => ?_, fun q => ?_⟩) (fun q => absurd ok q)⟩)) (fun Q hQ => S_X12_paneOf _ _ (m_isPane a1 h6 ⟨_, rfl, bk (fun _ => m_in1 (by omega) (by omega) ⟨_, rfl, bk2 (fun _ => ⟨fun q => ?_, fun q => ?_, fun q => ?_, fun q => ?_, fun q => ?_, fun q => ?_⟩) (fun q => absurd ((inr_i (by omega)).mpr (by omega)) q)⟩) (fun q => absurd ok q)⟩))
      all_goals try exact absurd q (by decide +kernel)
      · refine c_thing isEv_ev a3.1 a2.1 hk hk2 ⟨T (38 + 6 * k), by omega, rfl, c_price (lt8 T k) k ⟨p1, p2⟩ rfl hk hl ⟨_, rfl, c_kisOpen isEv_ev a3.1 a2.1 hk rfl hk2 ⟨_, rfl, bk (fun p => ?_) (fun p => ?_)⟩⟩⟩
        · rw [bn_t p] at hQ; exact hQ
        · rw [bn_f p] at hQ; exact hQ
      · refine c_isOpen a1 a2.1 hk hk2 ⟨_, rfl, bk (fun p => ?_) (fun p => ?_)⟩
        · rw [bn_t p] at hQ; exact hQ
        · rw [bn_f p] at hQ; exact hQ
    · have no : ¬ inr x2 0 9 := by
        intro w
        obtain ⟨u, hu, -, hu2⟩ := inr_n w
        rcases (show u = 0 ∨ u = 1 ∨ u = 2 ∨ u = 3 ∨ u = 4 ∨ u = 5 ∨ u = 6 ∨ u = 7 ∨ u = 8 ∨ u = 9 by omega) with rfl | rfl | rfl | rfl | rfl | rfl | rfl | rfl | rfl | rfl
        · exact q0 hu
        · exact q1 hu
        · exact q2 hu
        · exact q3 hu
        · exact q4 hu
        · exact q5 hu
        · exact q6 hu
        · exact q7 hu
        · exact q8 hu
        · exact q9 hu
      exact Pair.pure hI (-1) (fun Q hQ => S_X11_paneOf _ _ (d_isPane v5 h6 ⟨_, rfl, bk2 (fun _ => c_lights isEv_ev a3.1 a2.1 hk hk2 ⟨_, rfl, fun q => absurd q q0, fun q => absurd q q1, fun q => absurd q q2, fun q => absurd q q3, fun q => absurd q q4, fun q => absurd q q5, fun q => absurd q q6, fun q => absurd q q7, fun q => absurd q q8, fun q => absurd q q9, fun _ => hQ⟩) (fun q => absurd ok q)⟩)) (fun Q hQ => S_X12_paneOf _ _ (m_isPane a1 h6 ⟨_, rfl, bk (fun _ => m_in1 (by omega) (by omega) ⟨_, rfl, bk2 (fun p => absurd p no) (fun _ => hQ)⟩) (fun q => absurd ok q)⟩))
  · exact Pair.pure hI (-1) (fun Q hQ => S_X11_paneOf _ _ (d_isPane v5 h6 ⟨_, rfl, bk2 (fun p => absurd p ok) (fun _ => hQ)⟩)) (fun Q hQ => S_X12_paneOf _ _ (m_isPane a1 h6 ⟨_, rfl, bk (fun p => absurd p ok) (fun _ => hQ)⟩))
/-! when a pane is dark, when its scene comes back -/
def drk (kd : Nat) : Nat → Nat → Nat → Int32
  | 0, _, _ => (-3)
  | n + 1, m, s => if nxt kd s m = 0 then nI m else drk kd n (m + 1) (nxt kd s m)
theorem x_dark_loop {kd en : Nat} (hk : 1 ≤ kd ∧ kd ≤ 5) (h2 : I 33 2 = nI en) (hen : en ≤ 16) : ∀ (n m s : Nat), m + n = en → s < 256 → Q (some (.int (drk kd n m s))) I → J E (d + 3) mX11_dark 38 [(0, .ref (eb E + 0)), (2, .ref (eb E + (21 + kd))), (3, .int (nI s)), (4, .int (nI m))] [] I Q := by
  intro n
  induction n with
  | zero =>
    intro m s hm hs hQ
    refine S_X11_dark_38 (by omega) _ _ ?_
    rw [h2, nI_leI (by omega) (by omega)]
    exact ⟨fun _ => hQ, fun q => by omega⟩
  | succ n ih =>
    intro m s hm hs hQ
    refine S_X11_dark_38 (by omega) _ _ ?_
    rw [h2, nI_leI (by omega) (by omega)]
    refine ⟨fun q => by omega, fun _ => c_next s m hk rfl rfl hs (by omega) ⟨_, rfl, ?_⟩⟩
    have hx := nxt_lt (kind := kd) m hs
    rw [n0, nI_eq (by omega) (by omega), nI_add]
    unfold drk at hQ
    refine ⟨fun q => ?_, fun q => ?_⟩
    · rw [if_neg q] at hQ; exact ih (m + 1) _ (by omega) hx hQ
    · rw [if_pos q] at hQ; exact hQ
theorem m_dark_loop {en : Nat} (h : RM I T) (hk : k < 6) (hd : 1 ≤ T (38 + 6 * k) ∧ T (38 + 6 * k) ≤ 5) (h2 : T 1 = en) (hen : en ≤ 16) : ∀ (n m s : Nat), m + n = en → s < 256 → Q (some (.int (drk (T (38 + 6 * k)) n m s))) I → J E (d + 3) mX12_dark 24 [(0, .ref (eb E + 115)), (1, .int (nI k)), (2, .int (nI s)), (3, .int (nI m))] [] I Q := by
  intro n
  have e1 : I 116 1 = nI en := by rw [← h2]; exact h 1 (by omega) (by omega) (by omega)
  induction n with
  | zero =>
    intro m s hm hs hQ
    refine S_X12_dark_24 _ _ _ ?_
    rw [e1, nI_leI (by omega) (by omega)]
    exact ⟨fun _ => hQ, fun q => by omega⟩
  | succ n ih =>
    intro m s hm hs hQ
    refine S_X12_dark_24 _ _ _ ?_
    rw [e1, nI_leI (by omega) (by omega)]
    refine ⟨fun q => by omega, fun _ => c_get k 0 rfl rfl (by omega) ⟨_, rfl, c_sceneBy _ s m (h.kd hk) rfl rfl (by omega) hs (by omega) ⟨_, rfl, ?_⟩⟩⟩
    have hx := nxt_lt (kind := T (38 + 6 * k)) m hs
    rw [n0, nI_eq (by omega) (by omega), nI_add]
    unfold drk at hQ
    refine ⟨fun q => ?_, fun q => ?_⟩
    · rw [if_neg q] at hQ; exact ih (m + 1) _ (by omega) hx hQ
    · rw [if_pos q] at hQ; exact hQ
theorem p_dark (hI : Inv I) : Pair E (d + 40) mX11_dark mX12_dark [.int x1] [.int x1] I := by
  obtain ⟨T, h⟩ := id hI
  obtain ⟨a1, a2, a3, a4, a5, a6⟩ := id h
  obtain ⟨v1, v2, v3, v4, v5, v6, v7, v8, v9, v10, v11, v12, v13, v14, v15⟩ := id a3.1
  have h6 : T 6 ≤ 6 := a2.1.1
  have h1 : T 1 ≤ 16 := a2.1.2.2.1
  have h01 : T 0 ≤ T 1 := a2.2.2.2.1
  by_cases ok : isP T x1
  · obtain ⟨k, hk, hk2⟩ := isP_n ok
    subst hk
    obtain ⟨k6, p1, p2, p3, p4, p5, p6⟩ := a2.1.p hk2
    refine Pair.pure hI (drk (T (38 + 6 * k)) (T 1 - T 0) (T 0) (T (39 + 6 * k))) (fun Q hQ => S_X11_dark _ (d_isPane v5 h6 ⟨_, rfl, bk2 (fun _ => c_thing isEv_ev a3.1 a2.1 rfl hk2 ⟨T (38 + 6 * k), by omega, rfl, k, rfl, k6, ?_⟩) (fun q => absurd ok q)⟩)) (fun Q hQ => S_X12_dark _ (m_isPane a1 h6 ⟨_, rfl, bk2 (fun _ => c_get k 1 rfl rfl (by omega) ⟨_, rfl, ?_⟩) (fun q => absurd ok q)⟩))
    · rw [show I 38 k = nI (T (39 + 6 * k)) from v12 k hk2, v2]
      exact x_dark_loop ⟨p1, p2⟩ v1 h1 _ _ _ (by omega) p3 hQ
    · rw [a1.sc k6, a1 0 (by omega) (by omega) (by omega)]
      exact m_dark_loop a1 k6 ⟨p1, p2⟩ rfl h1 _ _ _ (by omega) p3 hQ
  · exact Pair.pure hI (-1) (fun Q hQ => S_X11_dark _ (d_isPane v5 h6 ⟨_, rfl, bk2 (fun p => absurd p ok) (fun _ => hQ)⟩)) (fun Q hQ => S_X12_dark _ (m_isPane a1 h6 ⟨_, rfl, bk2 (fun p => absurd p ok) (fun _ => hQ)⟩))
def bck (kd t s0 : Nat) : Nat → Nat → Nat → Int32
  | 0, _, _ => (-3)
  | n + 1, m, s => if nxt kd s (t + m - 1) = s0 then nI m else bck kd t s0 n (m + 1) (nxt kd s (t + m - 1))
theorem tm1 {t m : Nat} (h : 1 ≤ m) : nI t + nI m - nI 1 = nI (t + m - 1) := by
  rw [nI_add, nI_z, nI_z, zI_sub, nI_z]; congr 1; omega
theorem x_back_loop {kd t s0 : Nat} (hk : 1 ≤ kd ∧ kd ≤ 5) (hk6 : k < 6) (h3 : I 33 3 = nI t) (ht : t ≤ 16) (hs0 : I 38 k = nI s0) (hs1 : s0 < 256) : ∀ (n m s : Nat), m + n = 65 → 1 ≤ m → s < 256 → Q (some (.int (bck kd t s0 n m s))) I → J E (d + 3) mX11_back 32 [(0, .ref (eb E + 0)), (1, .int (nI k)), (2, .ref (eb E + (21 + kd))), (3, .int (nI s)), (4, .int (nI m))] [] I Q := by
  intro n
  induction n with
  | zero =>
    intro m s hm h1 hs hQ
    refine S_X11_back_32 _ (by omega) _ _ ?_
    rw [nI_ltI (by omega) (by omega)]
    exact ⟨fun _ => hQ, fun q => by omega⟩
  | succ n ih =>
    intro m s hm h1 hs hQ
    refine S_X11_back_32 _ (by omega) _ _ ?_
    rw [nI_ltI (by omega) (by omega), h3, tm1 h1]
    refine ⟨fun q => by omega, fun _ => c_next s (t + m - 1) hk rfl rfl hs (by omega) ⟨_, rfl, k, rfl, hk6, ?_⟩⟩
    have hx := nxt_lt (kind := kd) (t + m - 1) hs
    rw [hs0, nI_eq (by omega) (by omega), nI_add]
    unfold bck at hQ
    refine ⟨fun q => ?_, fun q => ?_⟩
    · rw [if_neg q] at hQ; exact ih (m + 1) _ (by omega) (by omega) hx hQ
    · rw [if_pos q] at hQ; exact hQ
theorem m_back_loop (h : RM I T) (hk : k < 6) (hd : 1 ≤ T (38 + 6 * k) ∧ T (38 + 6 * k) ≤ 5) (ht : T 0 ≤ 16) (hs1 : T (39 + 6 * k) < 256) : ∀ (n m s : Nat), m + n = 65 → 1 ≤ m → s < 256 → Q (some (.int (bck (T (38 + 6 * k)) (T 0) (T (39 + 6 * k)) n m s))) I → J E (d + 3) mX12_back 19 [(0, .ref (eb E + 115)), (1, .int (nI k)), (2, .int (nI s)), (3, .int (nI m))] [] I Q := by
  intro n
  have e0 : I 116 0 = nI (T 0) := h 0 (by omega) (by omega) (by omega)
  induction n with
  | zero =>
    intro m s hm h1 hs hQ
    refine S_X12_back_19 _ _ _ ?_
    rw [nI_ltI (by omega) (by omega)]
    exact ⟨fun _ => hQ, fun q => by omega⟩
  | succ n ih =>
    intro m s hm h1 hs hQ
    refine S_X12_back_19 _ _ _ ?_
    rw [nI_ltI (by omega) (by omega)]
    refine ⟨fun q => by omega, fun _ => c_get k 0 rfl rfl (by omega) ⟨_, rfl, c_sceneBy _ s (T 0 + m - 1) (h.kd hk) rfl (by rw [e0, tm1 h1]) (by omega) hs (by omega) ⟨_, rfl, c_get k 1 rfl rfl (by omega) ⟨_, rfl, ?_⟩⟩⟩⟩
    have hx := nxt_lt (kind := T (38 + 6 * k)) (T 0 + m - 1) hs
    rw [h.sc hk, nI_eq (by omega) (by omega), nI_add]
    unfold bck at hQ
    refine ⟨fun q => ?_, fun q => ?_⟩
    · rw [if_neg q] at hQ; exact ih (m + 1) _ (by omega) (by omega) hx hQ
    · rw [if_pos q] at hQ; exact hQ
theorem p_back (hI : Inv I) : Pair E (d + 40) mX11_back mX12_back [.int x1] [.int x1] I := by
  obtain ⟨T, h⟩ := id hI
  obtain ⟨a1, a2, a3, a4, a5, a6⟩ := id h
  obtain ⟨v1, v2, v3, v4, v5, v6, v7, v8, v9, v10, v11, v12, v13, v14, v15⟩ := id a3.1
  have h6 : T 6 ≤ 6 := a2.1.1
  have h0 : T 0 ≤ 16 := a2.1.2.1
  by_cases ok : isP T x1
  · obtain ⟨k, hk, hk2⟩ := isP_n ok
    subst hk
    obtain ⟨k6, p1, p2, p3, p4, p5, p6⟩ := a2.1.p hk2
    have s12 : I 38 k = nI (T (39 + 6 * k)) := v12 k hk2
    refine Pair.pure hI (bck (T (38 + 6 * k)) (T 0) (T (39 + 6 * k)) 64 1 (T (39 + 6 * k))) (fun Q hQ => S_X11_back _ (d_isPane v5 h6 ⟨_, rfl, bk2 (fun _ => c_thing isEv_ev a3.1 a2.1 rfl hk2 ⟨T (38 + 6 * k), by omega, rfl, k, rfl, k6, ?_⟩) (fun q => absurd ok q)⟩)) (fun Q hQ => S_X12_back _ (m_isPane a1 h6 ⟨_, rfl, bk2 (fun _ => c_get k 1 rfl rfl (by omega) ⟨_, rfl, ?_⟩) (fun q => absurd ok q)⟩))
    · rw [s12]
      exact x_back_loop ⟨p1, p2⟩ k6 v2 h0 s12 p3 _ _ _ (by omega) (by omega) p3 hQ
    · rw [a1.sc k6]
      exact m_back_loop a1 k6 ⟨p1, p2⟩ h0 p3 _ _ _ (by omega) (by omega) p3 hQ
  · exact Pair.pure hI (-1) (fun Q hQ => S_X11_back _ (d_isPane v5 h6 ⟨_, rfl, bk2 (fun p => absurd p ok) (fun _ => hQ)⟩)) (fun Q hQ => S_X12_back _ (m_isPane a1 h6 ⟨_, rfl, bk2 (fun p => absurd p ok) (fun _ => hQ)⟩))
/-! reports -/
theorem WfR.c2 {T2 : Nat → Nat} (h : WfR T) (h7 : T2 7 = T 7) (ha : ∀ j, 98 ≤ j → T2 j = T j) : WfR T2 := by
  obtain ⟨h1, h2⟩ := h
  refine ⟨by rw [h7]; exact h1, fun r hr => ?_⟩
  rw [h7] at hr
  obtain ⟨a, b, c⟩ := h2 r hr
  refine ⟨by rw [ha _ (by omega)]; exact a, by rw [ha _ (by omega)]; exact b, ?_⟩
  have e1 : rfr T2 r = rfr T r := by
    unfold rfr; split
    · rfl
    · rw [ha _ (by omega)]
  have e2 : rto T2 r = rto T r := by unfold rto; rw [ha _ (by omega)]
  unfold wfr
  rw [e1, e2, tvs_c (T := T) (T2 := T2) (fun j hj => ha j (by omega))]
  exact c
def reT (T : Nat → Nat) (a b c f : Nat) : Nat → Nat := up (up (up (up (up T (74 + 4 * T 8) a) (75 + 4 * T 8) b) (76 + 4 * T 8) c) (77 + 4 * T 8) f) 8 (T 8 + 1)
theorem reT_v (T : Nat → Nat) (a b c f : Nat) : reT T a b c f 8 = T 8 + 1 ∧ reT T a b c f (74 + 4 * T 8) = a ∧ reT T a b c f (75 + 4 * T 8) = b ∧ reT T a b c f (76 + 4 * T 8) = c ∧ reT T a b c f (77 + 4 * T 8) = f ∧ ∀ i, i ≠ 8 → (i < 74 + 4 * T 8 ∨ 77 + 4 * T 8 < i) → reT T a b c f i = T i := by
  unfold reT
  refine ⟨up_eq, ?_, ?_, ?_, ?_, ?_⟩
  · rw [up_ne (by omega), up_ne (by omega), up_ne (by omega), up_ne (by omega), up_eq]
  · rw [up_ne (by omega), up_ne (by omega), up_ne (by omega), up_eq]
  · rw [up_ne (by omega), up_ne (by omega), up_eq]
  · rw [up_ne (by omega), up_eq]
  · intro i h1 h2
    rw [up_ne h1, up_ne (by omega), up_ne (by omega), up_ne (by omega), up_ne (by omega)]
theorem WfE.c {T2 : Nat → Nat} (h : WfE T) (ha : ∀ j, j < 74 → j ≠ 8 → T2 j = T j) : WfE T2 := by
  obtain ⟨h6, h0, h1, h3, h4, hn, hw, hp⟩ := h
  have e6 : T2 6 = T 6 := ha 6 (by omega) (by omega)
  refine ⟨by rw [e6]; exact h6, by rw [ha 0 (by omega) (by omega)]; exact h0, by rw [ha 1 (by omega) (by omega)]; exact h1, by rw [ha 3 (by omega) (by omega)]; exact h3, by rw [ha 4 (by omega) (by omega)]; exact h4, fun j hj => by rw [ha _ (by omega) (by omega)]; exact hn j hj, fun w hw2 => by rw [ha _ (by omega) (by omega), ha _ (by omega) (by omega)]; exact hw w hw2, fun k hk => ?_⟩
  rw [e6] at hk
  unfold WfP
  rw [ha _ (by omega) (by omega), ha _ (by omega) (by omega), ha _ (by omega) (by omega), ha _ (by omega) (by omega), ha _ (by omega) (by omega)]
  exact hp k hk
theorem wf_reT (h : Wf T) (h8 : T 8 < 6) {a b c f : Nat} (ha : a ≤ 15) (hb : b ≤ 1) (hc : c ≤ f) (hf : f ≤ 15) : Wf (reT T a b c f) := by
  obtain ⟨hE, hr, hq, ho, h11⟩ := h
  obtain ⟨p8, pa, pb, pc, pf, po⟩ := reT_v T a b c f
  refine ⟨hE.c (fun j h1 h2 => po j h2 (by omega)), hr.c2 (po 7 (by omega) (by omega)) (fun j hj => po j (by omega) (by omega)), ⟨by omega, fun i hi => ?_⟩, ?_, ?_⟩
  · rw [p8] at hi
    by_cases e : i = T 8
    · subst e
      rw [pa, pb, pc, pf]; omega
    · rw [po _ (by omega) (by omega), po _ (by omega) (by omega), po _ (by omega) (by omega), po _ (by omega) (by omega)]
      exact hq.2 i (by omega)
  · rw [po 0 (by omega) (by omega), po 1 (by omega) (by omega)]; exact ho
  · rw [po 1 (by omega) (by omega)]; exact h11
theorem ix4 (n j : Nat) : nI n * nI 4 + nI j = nI (4 * n + j) ∧ nI n * nI 4 = nI (4 * n) ∧ nI 74 + nI 4 * nI n + nI j = nI (74 + 4 * n + j) ∧ nI 74 + nI 4 * nI n = nI (74 + 4 * n) := by
  refine ⟨?_, ?_, ?_, ?_⟩
  · rw [nI_mul, nI_add]; congr 1; omega
  · rw [nI_mul]; congr 1; omega
  · rw [nI_mul, nI_add, nI_add]
  · rw [nI_mul, nI_add]
theorem p_report (hI : Inv I) : Pair E (d + 40) mX11_report mX12_report [.int x1, .int x2, .int x3, .int x4] [.int x1, .int x2, .int x3, .int x4] I := by
  obtain ⟨T, h⟩ := id hI
  obtain ⟨a1, a2, a3, a4, a5, a6⟩ := id h
  obtain ⟨v1, v2, v3, v4, v5, v6, v7, v8, v9, v10, v11, v12, v13, v14, v15⟩ := id a3.1
  have h8 : T 8 ≤ 6 := a2.2.2.1.1
  have h6 : T 6 ≤ 6 := a2.1.1
  obtain ⟨top, htop, t8, t15⟩ : ∃ top : Nat, top ≤ 15 ∧ (x2 = 0 → top = 8) ∧ (¬ x2 = 0 → top = 15) := by
    by_cases q : x2 = 0
    · exact ⟨8, by omega, fun _ => rfl, fun z => absurd q z⟩
    · exact ⟨15, by omega, fun z => absurd z q, fun _ => rfl⟩
  have xs : ∀ (Q : QT), (inr x1 0 15 → inr x2 0 1 → J E (d + 40) mX11_report 32 [(0, .ref (eb E + 0)), (1, .int x1), (2, .int x2), (3, .int x3), (4, .int x4)] [.int (nI top), .int x4] I Q) → (¬ (inr x1 0 15 ∧ inr x2 0 1) → Q (some (.int (-1))) I) → Mt E (d + 40) mX11_report [.ref (eb E + 0), .int x1, .int x2, .int x3, .int x4] I Q := by
    intro Q k1 k2
    refine S_X11_report _ _ _ _ (d_isWithin (by omega) ⟨_, rfl, bk (fun p1 => d_isWithin (by omega) ⟨_, rfl, bk2 (fun p2 => ⟨fun q => ?_, fun q => ?_⟩) (fun p2 => k2 (fun w => p2 w.2))⟩) (fun p1 => k2 (fun w => p1 w.1))⟩)
    · have := k1 p1 p2; rw [t15 q] at this; exact this
    · have := k1 p1 p2; rw [t8 q] at this; exact this
  have ms : ∀ (I1 : IH) (Q : QT), J E (d + 40) mX12_report 11 [(0, .ref (eb E + 115)), (1, .int x1), (2, .int x2), (3, .int x3), (4, .int x4)] [.int (nI top)] I1 Q → Mt E (d + 40) mX12_report [.ref (eb E + 115), .int x1, .int x2, .int x3, .int x4] I1 Q := by
    intro I1 Q k1
    refine S_X12_report _ _ _ _ ⟨fun q => ?_, fun q => ?_⟩
    · rw [t15 q] at k1; exact k1
    · rw [t8 q] at k1; exact k1
  by_cases ok : inr x1 0 15 ∧ inr x2 0 1 ∧ ∃ l m : Nat, x3 = nI l ∧ x4 = nI m ∧ l ≤ m ∧ m ≤ top
  · obtain ⟨o1, o2, l, m, rfl, rfl, hlm, hmt⟩ := ok
    obtain ⟨a, ha, -, ha2⟩ := inr_n o1
    obtain ⟨b, hb, -, hb2⟩ := inr_n o2
    have w4 : inr (nI m) 0 top := (inr_i (by omega)).mpr (by omega)
    have w3 : inr (nI l) 0 m := (inr_i (by omega)).mpr (by omega)
    have w3t : inr (nI l) 0 top := (inr_i (by omega)).mpr (by omega)
    have w4l : inr (nI m) l top := (inr_i (by omega)).mpr (by omega)
    by_cases hf : T 8 < 6
    · obtain ⟨p8, pa, pb, pc, pf, po⟩ := reT_v T a b l m
      refine ⟨nI (T 8), fun I1 => EvR I1 33 34 (reT T a b l m) ∧ Same [32, 33, 34, 35, 36, 37, 38, 39, 40, 41] I I1 ∧ I1 33 6 = I 33 6 ∧ I1 33 9 = I 33 9, fun Q hQ => ?_, fun I1 ⟨ev1, s1, q6, q9⟩ Q hQ => ?_⟩
      · refine xs Q (fun _ _ => S_X11_report_32 _ _ _ _ _ _ (d_isWithin (by omega) ⟨_, rfl, bk (fun _ => d_isWithin (by omega) ⟨_, rfl, bk2 (fun _ => ?_) (fun q => absurd w3 q)⟩) (fun q => absurd w4 q)⟩)) (fun q => absurd ⟨o1, o2⟩ q)
        rw [v7, nI_ltI (by omega) (by omega)]
        refine ⟨fun _ => S_X1_addReport isEv_ev _ _ _ _ ?_, fun q => absurd hf q⟩
        rw [v7]
        refine ⟨4 * T 8, (ix4 _ 0).2.1, by omega, fun I1 e1 => ⟨4 * T 8 + 1, (ix4 _ _).1, by omega, fun I6 e6 => ⟨4 * T 8 + 2, (ix4 _ _).1, by omega, fun I11 e11 => ⟨4 * T 8 + 3, (ix4 _ _).1, by omega, fun I16 e16 I21 e21 => ⟨_, rfl, ?_⟩⟩⟩⟩⟩
        have o41 : ∀ c, c ≠ 41 → I16 c = I c := fun c hc => by rw [e16, st_ne hc, e11, st_ne hc, e6, st_ne hc, e1, st_ne hc]
        rw [o41 33 (by omega), v7, nI_add] at e21
        have o21 : ∀ c, c ≠ 41 → c ≠ 33 → I21 c = I c := fun c hc h2 => by rw [e21, st_ne h2, o41 c hc]
        have z21 : ∀ s, s ≠ 10 → I21 33 s = I 33 s := fun s hs => by rw [e21, st_nj hs, o41 33 (by omega)]
        have fin : I21 33 10 - nI 1 = nI (T 8) := by rw [e21, st_at, ← nI_add, Int32.add_sub_cancel]
        rw [fin]
        refine hQ I21 ⟨⟨?_, ?_, ?_, ?_, ?_, ?_, ?_, ?_, ?_, ?_, ?_, ?_, ?_, ?_, ?_⟩, ?_, z21 6 (by omega), z21 9 (by omega)⟩
        · rw [z21 2 (by omega), po 1 (by omega) (by omega)]; exact v1
        · rw [z21 3 (by omega), po 0 (by omega) (by omega)]; exact v2
        · rw [z21 4 (by omega), po 3 (by omega) (by omega)]; exact v3
        · rw [z21 5 (by omega), po 4 (by omega) (by omega)]; exact v4
        · rw [z21 7 (by omega), po 6 (by omega) (by omega)]; exact v5
        · have : swn (reT T a b l m) = swn T := by
            unfold swn
            rw [po 6 (by omega) (by omega)]
            exact swF_c _ (fun k hk => po _ (by omega) (by omega))
          rw [z21 8 (by omega), this]; exact v6
        · rw [e21, st_at, p8]
        · intro j hj; rw [o21 34 (by omega) (by omega), po _ (by omega) (by omega)]; exact v8 j hj
        · intro j hj; rw [o21 (34 + 1) (by omega) (by omega), po _ (by omega) (by omega)]; exact v9 j hj
        · intro j hj; rw [o21 (34 + 2) (by omega) (by omega), po _ (by omega) (by omega)]; exact v10 j hj
        · intro j hj; rw [po 6 (by omega) (by omega)] at hj; rw [o21 (34 + 3) (by omega) (by omega), po _ (by omega) (by omega)]; exact v11 j hj
        · intro j hj; rw [po 6 (by omega) (by omega)] at hj; rw [o21 (34 + 4) (by omega) (by omega), po _ (by omega) (by omega)]; exact v12 j hj
        · intro j hj; rw [po 6 (by omega) (by omega)] at hj; rw [o21 (34 + 5) (by omega) (by omega), po _ (by omega) (by omega)]; exact v13 j hj
        · intro j hj; rw [po 6 (by omega) (by omega)] at hj; rw [o21 (34 + 6) (by omega) (by omega), po _ (by omega) (by omega)]; exact v14 j hj
        · intro j hj
          rw [p8] at hj
          rw [e21, st_ne (by omega), e16]
          by_cases j3 : j = 4 * T 8 + 3
          · subst j3; rw [st_at, show 74 + (4 * T 8 + 3) = 77 + 4 * T 8 by omega, pf]
          rw [st_nj j3, e11]
          by_cases j2 : j = 4 * T 8 + 2
          · subst j2; rw [st_at, show 74 + (4 * T 8 + 2) = 76 + 4 * T 8 by omega, pc]
          rw [st_nj j2, e6]
          by_cases j1 : j = 4 * T 8 + 1
          · subst j1; rw [st_at, show 74 + (4 * T 8 + 1) = 75 + 4 * T 8 by omega, pb]; exact hb
          rw [st_nj j1, e1]
          by_cases j0 : j = 4 * T 8
          · subst j0; rw [st_at, pa]; exact ha
          rw [st_nj j0, po _ (by omega) (by omega)]
          exact v15 j (by omega)
        · intro c hc
          simp only [List.mem_cons, List.not_mem_nil, or_false, not_or] at hc
          exact o21 c (by omega) (by omega)
      · have r1 : RM I1 T := a1.same s1 (by simp)
        have m8 : I1 116 8 = nI (T 8) := r1.at 8 (by omega)
        refine ms I1 Q (S_X12_report_11 _ _ _ _ _ (m_in1 (by omega) (by omega) ⟨_, rfl, bk (fun _ => m_in1 (by omega) (by omega) ⟨_, rfl, bk (fun _ => m_in1 (by omega) (by omega) ⟨_, rfl, bk (fun _ => m_in1 (by omega) (by omega) ⟨_, rfl, bk2 (fun _ => ?_) (fun q => absurd w4l q)⟩) (fun q => absurd w3t q)⟩) (fun q => absurd o2 q)⟩) (fun q => absurd o1 q)⟩))
        rw [m8, nI_eq (by omega) (by omega)]
        refine ⟨fun _ => ⟨74 + 4 * T 8, (ix4 _ 0).2.2.2, by omega, fun I9 e9 => ⟨74 + 4 * T 8 + 1, (ix4 _ _).2.2.1, by omega, fun I14 e14 => ⟨74 + 4 * T 8 + 2, (ix4 _ _).2.2.1, by omega, fun I19 e19 => ⟨74 + 4 * T 8 + 3, (ix4 _ _).2.2.1, by omega, fun I24 e24 I29 e29 => ?_⟩⟩⟩⟩, fun q => by omega⟩
        have z : I24 116 8 = nI (T 8) := by rw [e24, st_nj (by omega), e19, st_nj (by omega), e14, st_nj (by omega), e9, st_nj (by omega), m8]
        rw [z, nI_add] at e29
        have fin : I29 116 8 - nI 1 = nI (T 8) := by rw [e29, st_at, ← nI_add, Int32.add_sub_cancel]
        rw [fin]
        have r29 : RM I29 (reT T a b l m) := by
          rw [e29, e24, e19, e14, e9, ha, hb, show 74 + 4 * T 8 + 1 = 75 + 4 * T 8 by omega, show 74 + 4 * T 8 + 2 = 76 + 4 * T 8 by omega, show 74 + 4 * T 8 + 3 = 77 + 4 * T 8 by omega]
          exact r1.st.st.st.st.st
        have s29 : Same [116, 119] I1 I29 := by
          rw [e29, e24, e19, e14, e9]
          exact ((((Same.st (by simp)).tr (Same.st (by simp))).tr (Same.st (by simp))).tr (Same.st (by simp))).tr (Same.st (by simp))
        refine hQ I29 ⟨reT T a b l m, h.step s1 ev1 s29 r29 (wf_reT a2 hf (by omega) (by omega) hlm (by omega)) (po 7 (by omega) (by omega)) (fun j hj => po j (by omega) (by omega)) ?_ ?_⟩
        · rw [q6, a4, e29, st_nj (by omega), e24, st_nj (by omega), e19, st_nj (by omega), e14, st_nj (by omega), e9, st_nj (by omega), s1 116 (by simp)]
        · rw [q9, a5, e29, st_nj (by omega), e24, st_nj (by omega), e19, st_nj (by omega), e14, st_nj (by omega), e9, st_nj (by omega), s1 116 (by simp)]
    · refine Pair.pure hI (-2) (fun Q hQ => ?_) (fun Q hQ => ?_)
      · refine xs Q (fun _ _ => S_X11_report_32 _ _ _ _ _ _ (d_isWithin (by omega) ⟨_, rfl, bk (fun _ => d_isWithin (by omega) ⟨_, rfl, bk2 (fun _ => ?_) (fun q => absurd w3 q)⟩) (fun q => absurd w4 q)⟩)) (fun q => absurd ⟨o1, o2⟩ q)
        rw [v7, nI_ltI (by omega) (by omega)]
        exact ⟨fun q => absurd q hf, fun _ => hQ⟩
      · refine ms I Q (S_X12_report_11 _ _ _ _ _ (m_in1 (by omega) (by omega) ⟨_, rfl, bk (fun _ => m_in1 (by omega) (by omega) ⟨_, rfl, bk (fun _ => m_in1 (by omega) (by omega) ⟨_, rfl, bk (fun _ => m_in1 (by omega) (by omega) ⟨_, rfl, bk2 (fun _ => ?_) (fun q => absurd w4l q)⟩) (fun q => absurd w3t q)⟩) (fun q => absurd o2 q)⟩) (fun q => absurd o1 q)⟩))
        rw [a1.at 8 (by omega), nI_eq (by omega) (by omega)]
        exact ⟨fun q => by omega, fun _ => hQ⟩
  · refine Pair.pure hI (-1) (fun Q hQ => ?_) (fun Q hQ => ?_)
    · refine xs Q (fun o1 o2 => S_X11_report_32 _ _ _ _ _ _ (d_isWithin (by omega) ⟨_, rfl, bk (fun w4 => ?_) (fun _ => hQ)⟩)) (fun _ => hQ)
      obtain ⟨m, rfl, -, hm2⟩ := inr_n w4
      refine d_isWithin (by omega) ⟨_, rfl, bk2 (fun w3 => ?_) (fun _ => hQ)⟩
      obtain ⟨l, rfl, -, hl2⟩ := inr_n w3
      exact absurd ⟨o1, o2, l, m, rfl, rfl, hl2, hm2⟩ ok
    · refine ms I Q (S_X12_report_11 _ _ _ _ _ (m_in1 (by omega) (by omega) ⟨_, rfl, bk (fun o1 => m_in1 (by omega) (by omega) ⟨_, rfl, bk (fun o2 => m_in1 (by omega) (by omega) ⟨_, rfl, bk (fun w3 => ?_) (fun _ => hQ)⟩) (fun _ => hQ)⟩) (fun _ => hQ)⟩))
      obtain ⟨l, rfl, -, hl2⟩ := inr_n w3
      refine m_in1 (by omega) (by omega) ⟨_, rfl, bk2 (fun w4 => ?_) (fun _ => hQ)⟩
      obtain ⟨m, rfl, hm1, hm2⟩ := inr_n w4
      exact absurd ⟨o1, o2, l, m, rfl, rfl, hm1, hm2⟩ ok
/-! evenings kept -/
theorem spC_c {c c2 : Nat → Int32} : ∀ (ops : List Op3) (i z : Nat), (∀ j, j < z → c2 j = c j) → spC c i z ops → spC c2 i z ops := by
  intro ops
  induction ops with
  | nil => intro i z _ h; exact h
  | cons q ops ih =>
    intro i z hc h
    unfold spC at h ⊢
    by_cases hq : q.1 ≤ 2
    · rw [if_pos hq] at h ⊢
      have := spC_le _ _ _ h.2.2.2.2.2
      rw [hc i (by omega), hc (i + 1) (by omega), hc (i + 2) (by omega)]
      exact ⟨h.1, h.2.1, h.2.2.1, h.2.2.2.1, h.2.2.2.2.1, ih _ _ hc h.2.2.2.2.2⟩
    · rw [if_neg hq] at h ⊢
      have := spC_le _ _ _ h.2.2
      rw [hc i (by omega)]
      exact ⟨h.1, h.2.1, ih _ _ hc h.2.2⟩
theorem ru_apart (h : isRu r) (h1 : isRu r1) (hne : r ≠ r1) : r + 5 < r1 ∨ r1 + 5 < r := by
  unfold isRu at h h1; omega
theorem c_rbecome (hR : isRu r) (hR1 : isRu r1) (hne : r ≠ r1) (h : RuR I r1 T) (h7 : T 7 ≤ 8) (hQ : ∀ I2, RuR I2 r T → Same [r, r + 1, r + 2, r + 3, r + 4] I I2 → Q none I2) : Mt E (d + 2) mX6_become [.ref (eb E + r), .ref (eb E + r1)] I Q := by
  have na := ru_apart hR hR1 hne
  refine S_X6_become hR hR1 (fun I1 q1 I3 q3 I5 q5 I7 q7 I9 q9 I11 q11 => ?_)
  have a3 : ∀ a, a ≠ r → I3 a = I a := fun a ha => by rw [q3, st_ne ha, q1, st_ne ha]
  have a5 : ∀ a, a ≠ r → a ≠ r + 1 → I5 a = I a := fun a h1 h2 => by rw [q5, sA_ne h2, a3 a h1]
  have a7 : ∀ a, a ≠ r → a ≠ r + 1 → a ≠ r + 2 → I7 a = I a := fun a h1 h2 h3 => by rw [q7, sA_ne h3, a5 a h1 h2]
  have a9 : ∀ a, a ≠ r → a ≠ r + 1 → a ≠ r + 2 → a ≠ r + 3 → I9 a = I a := fun a h1 h2 h3 h4 => by rw [q9, sA_ne h4, a7 a h1 h2 h3]
  obtain ⟨h0, en, h2, h3⟩ := h
  refine hQ I11 ⟨?_, en, h2, fun i hi => ?_⟩ ?_
  · rw [q11, sA_ne (by omega), q9, sA_ne (by omega), q7, sA_ne (by omega), q5, sA_ne (by omega), q3, st_nj (by omega), q1, st_at]; exact h0
  · obtain ⟨b1, b2, b3, b4, oC, oM, c1, c2⟩ := h3 i hi
    refine ⟨?_, ?_, ?_, b4, oC, oM, spC_c _ _ _ (fun j hj => ?_) c1, c2⟩
    · rw [q11, sA_ne (by omega), q9, sA_ne (by omega), q7, sA_ne (by omega), q5, sA_eq, cpy_in (by omega), a3 _ (by omega)]; exact b1
    · rw [q11, sA_ne (by omega), q9, sA_ne (by omega), q7, sA_eq, cpy_in (by omega), a5 _ (by omega) (by omega)]; exact b2
    · rw [q11, sA_ne (by omega), q9, sA_eq, cpy_in (by omega), a7 _ (by omega) (by omega) (by omega)]; exact b3
    · rw [q11, sA_eq, cpy_in (by omega), a9 _ (by omega) (by omega) (by omega) (by omega)]
  · intro a ha
    simp only [List.mem_cons, List.not_mem_nil, or_false, not_or] at ha
    rw [q11, sA_ne (by omega)]; exact a9 a (by omega) (by omega) (by omega) (by omega)
theorem copy_step {f h : Nat → Int32} {k : Nat} {a : Nat} {I2 I4 : IH} {I : IH} (e2 : I2 = stA I a (fun j => if j < k then f j else h j)) (e4 : I4 = stI I2 a k (f k)) : I4 = stA I a (fun j => if j < k + 1 then f j else h j) := by
  rw [e4, e2]
  funext c
  by_cases ha : c = a
  · subst ha
    rw [st_eq, sA_eq, sA_eq]
    funext j
    unfold upd
    by_cases h1 : j = k
    · subst h1; simp
    · by_cases h2 : j < k
      · simp [h1, h2, show j < k + 1 by omega]
      · simp [h1, h2, show ¬ j < k + 1 by omega]
  · rw [st_ne ha, sA_ne ha, sA_ne ha]
theorem copy_0 {f : Nat → Int32} {a : Nat} {I : IH} : I = stA I a (fun j => if j < 0 then f j else I a j) := by
  funext c
  by_cases ha : c = a
  · subst ha; rw [sA_eq]; funext j; simp
  · rw [sA_ne ha]
theorem m_keep_loop : ∀ (n k : Nat) (I2 : IH), k + n = 322 → I2 = stA I 117 (fun j => if j < k then I 116 j else I 117 j) → Q (some (.int (nI 1))) (stI (stA I 117 (fun j => if j < 322 then I 116 j else I 117 j)) 115 3 (nI 1)) → J E d mX12_keep 2 [(0, .ref (eb E + 115)), (1, .int (nI k))] [] I2 Q := by
  intro n
  induction n with
  | zero =>
    intro k I2 hk e2 hQ
    refine S_X12_keep_2 _ ?_
    rw [nI_leI (by omega) (by omega)]
    refine ⟨fun _ I1 e1 => ?_, fun q => by omega⟩
    rw [e1, e2, show k = 322 by omega]; exact hQ
  | succ n ih =>
    intro k I2 hk e2 hQ
    refine S_X12_keep_2 _ ?_
    rw [nI_leI (by omega) (by omega)]
    refine ⟨fun q => by omega, fun _ => ⟨k, rfl, by omega, k, rfl, by omega, fun I4 e4 => ?_⟩⟩
    rw [nI_add]
    refine ih (k + 1) I4 (by omega) (copy_step (f := I 116) e2 ?_) hQ
    rw [e4, e2, sA_ne (by omega : (116 : Nat) ≠ 117)]
theorem m_again_loop : ∀ (n k : Nat) (I2 : IH), k + n = 322 → I2 = stA I 116 (fun j => if j < k then I 117 j else I 116 j) → Q (some (.int (I 117 6))) (stA I 116 (fun j => if j < 322 then I 117 j else I 116 j)) → J E d mX12_again 12 [(0, .ref (eb E + 115)), (1, .int (nI k))] [] I2 Q := by
  intro n
  induction n with
  | zero =>
    intro k I2 hk e2 hQ
    refine S_X12_again_12 _ ?_
    rw [nI_leI (by omega) (by omega)]
    refine ⟨fun _ => ?_, fun q => by omega⟩
    rw [e2, show k = 322 by omega, sA_eq]; exact hQ
  | succ n ih =>
    intro k I2 hk e2 hQ
    refine S_X12_again_12 _ ?_
    rw [nI_leI (by omega) (by omega)]
    refine ⟨fun q => by omega, fun _ => ⟨k, rfl, by omega, k, rfl, by omega, fun I4 e4 => ?_⟩⟩
    rw [nI_add]
    refine ih (k + 1) I4 (by omega) (copy_step (f := I 117) e2 ?_) hQ
    rw [e4, e2, sA_ne (by omega : (117 : Nat) ≠ 116)]
theorem isRu_27 : isRu 27 := by unfold isRu; omega
theorem isRu_43 : isRu 43 := by unfold isRu; omega
theorem p_keep (hI : Inv I) : Pair E (d + 40) mX11_keep mX12_keep [] [] I := by
  obtain ⟨T, h⟩ := id hI
  obtain ⟨a1, a2, a3, a4, a5, a6⟩ := id h
  obtain ⟨o1, o2, o3, o4, o5, o6⟩ := id a6
  refine ⟨nI 1, fun I1 => EvR I1 42 49 T ∧ RuR I1 43 T ∧ (∀ a, a ≠ 0 → ¬ (42 ≤ a ∧ a ≤ 56) → I1 a = I a) ∧ I1 42 6 = I 33 6 ∧ I1 42 9 = I 33 9 ∧ I1 0 3 = nI 1 ∧ (∀ s, s ≠ 3 → I1 0 s = I 0 s), fun Q hQ => ?_, fun I1 ⟨b1, b2, b3, b4, b5, b6, b7⟩ Q hQ => ?_⟩
  · refine S_X11_keep (c_become isEv_kept isEv_ev (by omega) a3.1 a2.1.1 a2.2.2.1.1 (fun I2 h2 s2 e6 e9 => ⟨rfl, c_rbecome isRu_43 isRu_27 (by omega) (a3.2.same s2 (fun i hi => by simp; omega)) a2.2.1.1 (fun I3 h3 s3 => ⟨rfl, fun I4 e4 => hQ I4 ?_⟩)⟩))
    have f : ∀ a, a ≠ 0 → I4 a = I3 a := fun a ha => by rw [e4, st_ne ha]
    have s4 : Same [0] I3 I4 := by rw [e4]; exact Same.st (by simp)
    refine ⟨(h2.same s3 (by simp) (fun i hi => by simp; omega)).same s4 (by simp) (fun i hi => by simp), h3.same s4 (fun i hi => by simp), fun a h1 h2 => ?_, ?_, ?_, by rw [e4, st_at], fun s hs => ?_⟩
    · rw [f a h1, s3 a (by simp; omega), s2 a (by simp; omega)]
    · rw [f 42 (by omega), s3 42 (by simp)]; exact e6
    · rw [f 42 (by omega), s3 42 (by simp)]; exact e9
    · rw [e4, st_nj hs, s3 0 (by simp), s2 0 (by simp)]
  · have c : ∀ a, a ≠ 0 → ¬ (42 ≤ a ∧ a ≤ 56) → I1 a = I a := b3
    refine S_X12_keep (m_keep_loop (I := I1) 322 0 I1 (by omega) copy_0 (hQ _ ⟨T, ?_⟩))
    obtain ⟨I2, e2⟩ : ∃ I2 : IH, I2 = stI (stA I1 117 (fun j => if j < 322 then I1 116 j else I1 117 j)) 115 3 (nI 1) := ⟨_, rfl⟩
    rw [← e2]
    have q : ∀ a, a ≠ 115 → a ≠ 117 → I2 a = I1 a := fun a h1 h2 => by rw [e2, st_ne h1, sA_ne h2]
    have q2 : ∀ a, a ≠ 115 → a ≠ 117 → a ≠ 0 → ¬ (42 ≤ a ∧ a ≤ 56) → I2 a = I a := fun a h1 h2 h3 h4 => by rw [q a h1 h2, c a h3 h4]
    have m115 : ∀ s, s ≠ 3 → I2 115 s = I 115 s := fun s hs => by rw [e2, st_nj hs, sA_ne (by omega), c 115 (by omega) (by omega)]
    have m0 : ∀ s, s ≠ 3 → I2 0 s = I 0 s := fun s hs => by rw [q 0 (by omega) (by omega), b7 s hs]
    have m117 : ∀ j, j < 322 → I2 117 j = I 116 j := fun j hj => by rw [e2, st_ne (by omega), sA_eq, if_pos hj, c 116 (by omega) (by omega)]
    have s12 : Same [115, 117] I1 I2 := fun a ha => by simp at ha; exact q a ha.1 ha.2
    refine h.oth (fun a ha => ?_) ⟨Or.inr ⟨?_, ?_, T, fun j h1 h2 h3 => ?_, a2, b1.same s12 (by simp) (fun i hi => by simp; omega), b2.same s12 (fun i hi => by simp; omega), ?_, ?_⟩, o2.eqs (by rw [q2 1 (by omega) (by omega) (by omega) (by omega)]) (m115 6 (by omega)) (q2 _ (by omega) (by omega) (by omega) (by omega)) (q2 _ (by omega) (by omega) (by omega) (by omega)), o3.eqs (m0 9 (by omega)) (m115 28 (by omega)) (q2 _ (by omega) (by omega) (by omega) (by omega)) (q2 _ (by omega) (by omega) (by omega) (by omega)), o4.eqs (fun a ha => q2 a (by omega) (by omega) (by omega) (by omega)), o5.eqs (fun a ha => q2 a (by omega) (by omega) (by omega) (by omega)), o6.eqs (by rw [q2 11 (by omega) (by omega) (by omega) (by omega)]) (m115 35 (by omega)) (q2 _ (by omega) (by omega) (by omega) (by omega)) (q2 _ (by omega) (by omega) (by omega) (by omega))⟩
    · rcases ha with rfl | ha
      · exact q2 _ (by omega) (by omega) (by omega) (by omega)
      · have : a ≠ 115 ∧ a ≠ 117 ∧ a ≠ 0 ∧ ¬ (42 ≤ a ∧ a ≤ 56) := by revert a; decide
        exact q2 a this.1 this.2.1 this.2.2.1 this.2.2.2
    · rw [q 0 (by omega) (by omega)]; exact b6
    · rw [e2, st_at]
    · rw [m117 j h1]; exact a1 j h1 h2 h3
    · rw [q 42 (by omega) (by omega), b4, m117 2 (by omega)]; exact a4
    · rw [q 42 (by omega) (by omega), b5, m117 5 (by omega)]; exact a5
theorem p_again (hI : Inv I) : Pair E (d + 40) mX11_again mX12_again [] [] I := by
  obtain ⟨T, h⟩ := id hI
  obtain ⟨a1, a2, a3, a4, a5, a6⟩ := id h
  obtain ⟨o1, o2, o3, o4, o5, o6⟩ := id a6
  rcases o1 with ⟨k1, k2⟩ | ⟨k1, k2, K, kK, wK, eK, rK, f2, f5⟩
  · refine Pair.pure hI (-3) (fun Q hQ => S_X11_again ⟨fun q => absurd (by rw [k1]; decide +kernel) q, fun _ => hQ⟩) (fun Q hQ => S_X12_again ⟨fun q => absurd (by rw [k2]; decide +kernel) q, fun _ => hQ⟩)
  · refine ⟨nI (K 6), fun I1 => EvR I1 33 34 K ∧ RuR I1 27 K ∧ Same [27, 28, 29, 30, 31, 33, 34, 35, 36, 37, 38, 39, 40, 41] I I1 ∧ I1 33 6 = I 42 6 ∧ I1 33 9 = I 42 9, fun Q hQ => S_X11_again ⟨fun _ => ?_, fun q => ?_⟩, fun I1 ⟨b1, b2, b3, b4, b5⟩ Q hQ => S_X12_again ⟨fun _ => ?_, fun q => ?_⟩⟩
    · refine c_become isEv_ev isEv_kept (by omega) eK wK.1.1 wK.2.2.1.1 (fun I2 h2 s2 e6 e9 => ⟨rfl, c_rbecome isRu_27 isRu_43 (by omega) (rK.same s2 (fun i hi => by simp; omega)) wK.2.1.1 (fun I3 h3 s3 => ⟨rfl, ?_⟩)⟩)
      have e3 := h2.same s3 (by simp) (fun i hi => by simp; omega)
      rw [e3.2.2.2.2.1]
      refine hQ I3 ⟨e3, h3, fun a ha => ?_, ?_, ?_⟩
      · rw [s3 a (fun z => ha (by simp at z ⊢; omega)), s2 a (fun z => ha (by simp at z ⊢; omega))]
      · rw [s3 33 (by simp)]; exact e6
      · rw [s3 33 (by simp)]; exact e9
    · rw [k1] at q; exact absurd q (by decide +kernel)
    · have e6 : I1 117 6 = nI (K 6) := by rw [b3 117 (by simp)]; exact kK 6 (by omega) (by omega) (by omega)
      refine m_again_loop (I := I1) 322 0 I1 (by omega) copy_0 ?_
      rw [e6]
      obtain ⟨I2, e2⟩ : ∃ I2 : IH, I2 = stA I1 116 (fun j => if j < 322 then I1 117 j else I1 116 j) := ⟨_, rfl⟩
      rw [← e2]
      have s12 : Same [116] I1 I2 := by rw [e2]; exact Same.sA (by simp)
      have m116 : ∀ j, j < 322 → I2 116 j = I 117 j := fun j hj => by rw [e2, sA_eq, if_pos hj, b3 117 (by simp)]
      refine hQ I2 ⟨K, fun j h1 h2 h3 => ?_, wK, ⟨b1.same s12 (by simp) (fun i hi => by simp; omega), b2.same s12 (fun i hi => by simp; omega)⟩, ?_, ?_, a6.eqs (fun a ha => ?_)⟩
      · rw [m116 j h1]; exact kK j h1 h2 h3
      · rw [s12 33 (by simp), b4, m116 2 (by omega)]; exact f2
      · rw [s12 33 (by simp), b5, m116 5 (by omega)]; exact f5
      · rw [s12 a (by revert a; decide), b3 a (by revert a; decide)]
    · rw [b3 115 (by simp), k2] at q; exact absurd q (by decide +kernel)
end P9
