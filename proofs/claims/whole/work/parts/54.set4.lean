section P4
variable {E : EE} {d : Nat} {I : IH} {Q : QT} {T : Nat → Nat} {k e g r : Nat} {x1 x2 x3 x4 : Int32}
def paT (T : Nat → Nat) (a b c : Nat) : Nat → Nat := up (up (up (up (up (up T (38 + 6 * T 6) a) (39 + 6 * T 6) b) (40 + 6 * T 6) 0) (41 + 6 * T 6) c) (42 + 6 * T 6) 0) 6 (T 6 + 1)
theorem paT_v (T : Nat → Nat) (a b c : Nat) (h6 : T 6 < 6) : paT T a b c 6 = T 6 + 1 ∧ paT T a b c (38 + 6 * T 6) = a ∧ paT T a b c (39 + 6 * T 6) = b ∧ paT T a b c (40 + 6 * T 6) = 0 ∧ paT T a b c (41 + 6 * T 6) = c ∧ paT T a b c (42 + 6 * T 6) = 0 ∧ ∀ i, i ≠ 6 → (i < 38 + 6 * T 6 ∨ 42 + 6 * T 6 < i) → paT T a b c i = T i := by
  unfold paT
  refine ⟨up_eq, ?_, ?_, ?_, ?_, ?_, ?_⟩
  · rw [up_ne (by omega), up_ne (by omega), up_ne (by omega), up_ne (by omega), up_ne (by omega), up_eq]
  · rw [up_ne (by omega), up_ne (by omega), up_ne (by omega), up_ne (by omega), up_eq]
  · rw [up_ne (by omega), up_ne (by omega), up_ne (by omega), up_eq]
  · rw [up_ne (by omega), up_ne (by omega), up_eq]
  · rw [up_ne (by omega), up_eq]
  · intro i h1 h2
    rw [up_ne h1, up_ne (by omega), up_ne (by omega), up_ne (by omega), up_ne (by omega), up_ne (by omega)]
theorem wf_paT (h : Wf T) (h6 : T 6 < 6) {a b c : Nat} (ha : 1 ≤ a ∧ a ≤ 5) (hb : b < 256) (hc : c < 6) : Wf (paT T a b c) := by
  obtain ⟨⟨h66, h0, h1, h3, h4, hn, hw, hp⟩, hr, hq, ho, h11⟩ := h
  obtain ⟨p6, pa, pb, p0, pc, ps, po⟩ := paT_v T a b c h6
  refine ⟨⟨by omega, by rw [po 0 (by omega) (by omega)]; exact h0, by rw [po 1 (by omega) (by omega)]; exact h1, by rw [po 3 (by omega) (by omega)]; exact h3, by rw [po 4 (by omega) (by omega)]; exact h4, fun j hj => by rw [po _ (by omega) (by omega)]; exact hn j hj, fun w hw2 => by rw [po _ (by omega) (by omega), po _ (by omega) (by omega)]; exact hw w hw2, fun k hk => ?_⟩, hr.c (po 7 (by omega) (by omega)) (fun j hj => po j (by omega) (by omega)), ?_, ?_, ?_⟩
  · rw [p6] at hk
    unfold WfP
    by_cases e : k = T 6
    · subst e
      rw [pa, pb, p0, pc, ps]; omega
    · rw [po _ (by omega) (by omega), po _ (by omega) (by omega), po _ (by omega) (by omega), po _ (by omega) (by omega), po _ (by omega) (by omega)]
      exact hp k (by omega)
  · obtain ⟨q1, q2⟩ := hq
    refine ⟨by rw [po 8 (by omega) (by omega)]; exact q1, fun i hi => ?_⟩
    rw [po 8 (by omega) (by omega)] at hi
    rw [po _ (by omega) (by omega), po _ (by omega) (by omega), po _ (by omega) (by omega), po _ (by omega) (by omega)]
    exact q2 i hi
  · rw [po 0 (by omega) (by omega), po 1 (by omega) (by omega)]; exact ho
  · rw [po 1 (by omega) (by omega)]; exact h11
theorem clr_bit : ∀ k, k < 6 → ∀ w, w < 2 ^ k → nI w &&& ((nI 1 <<< (nI k &&& 31)) ^^^ (-1)) = nI w := by decide +kernel
theorem p_pane (hI : Inv I) : Pair E (d + 40) mX11_pane mX12_pane [.int x1, .int x2, .int x3] [.int x1, .int x2, .int x3] I := by
  obtain ⟨T, h⟩ := id hI
  obtain ⟨a1, a2, a3, a4, a5, a6⟩ := id h
  have h6 : T 6 ≤ 6 := a2.1.1
  obtain ⟨v1, v2, v3, v4, v5, v6, v7, v8, v9, v10, v11, v12, v13, v14, v15⟩ := id a3.1
  by_cases ok : inr x1 1 5 ∧ inr x2 0 255 ∧ inr x3 0 5
  · have cx : ∀ Q : QT, ((T 6 < 6 → Mt E (d + 39) mX1_add [.ref (eb E + 33), .int x1, .int x2, .int x3] I (fun rv I7 => ∃ v8 : Int32, rv = some (.int v8) ∧ Q (some (.int v8)) I7)) ∧ (¬ T 6 < 6 → Q (some (.int (-2))) I)) → Mt E (d + 40) mX11_pane [.ref (eb E + 0), .int x1, .int x2, .int x3] I Q := by
      intro Q hh
      refine S_X11_pane _ _ _ (d_isPaneKind ⟨_, rfl, bk (fun _ => d_isWithin (by omega) ⟨_, rfl, bk (fun _ => d_isWard ⟨_, rfl, bk2 (fun _ => ?_) (fun q => absurd ok.2.2 q)⟩) (fun q => absurd ok.2.1 q)⟩) (fun q => absurd ok.1 q)⟩)
      rw [v5, nI_ltI (by omega) (by omega)]
      exact hh
    by_cases hf : T 6 < 6
    · obtain ⟨a, ha, ha1, ha2⟩ := inr_n ok.1
      obtain ⟨b, hb, -, hb2⟩ := inr_n ok.2.1
      obtain ⟨c, hc, -, hc2⟩ := inr_n ok.2.2
      subst ha; subst hb; subst hc
      obtain ⟨p6, pa, pb, p0, pc, ps, po⟩ := paT_v T a b c hf
      refine ⟨nI (T 6), fun I1 => Same [32, 33, 34, 35, 36, 37, 38, 39, 40, 41] I I1 ∧ EvR I1 33 34 (paT T a b c) ∧ I1 33 6 = I 33 6 ∧ I1 33 9 = I 33 9, fun Q hQ => cx Q ⟨fun _ => ?_, fun q => absurd hf q⟩, fun I1 ⟨s1, ev1, q6, q9⟩ Q hQ => ?_⟩
      · refine S_X1_add isEv_ev _ _ _ ⟨T 6, v5, hf, fun I1 e1 => ⟨T 6, v5, hf, fun I6 e6 => ⟨T 6, v5, hf, fun I11 e11 => ⟨T 6, v5, hf, fun I16 e16 I21 e21 I23 e23 => ⟨_, rfl, ?_⟩⟩⟩⟩⟩
        rw [v5] at e21 ⊢
        have c33 : I16 33 = I 33 := by rw [e16, st_ne (by omega), e11, st_ne (by omega), e6, st_ne (by omega), e1, st_ne (by omega)]
        have hsw : swn T < 2 ^ T 6 := swF_lt a2.1.2.2.2.2.2.2.2 (T 6) (Nat.le_refl _)
        rw [c33, v6, clr_bit (T 6) hf (swn T) hsw] at e21
        rw [e21, st_nj (by omega), c33, v5, nI_add] at e23
        have oth : ∀ q, q ≠ 33 → q ≠ 37 → q ≠ 38 → q ≠ 39 → q ≠ 40 → I23 q = I q := by
          intro q q33 q37 q38 q39 q40
          rw [e23, st_ne q33, st_ne q33, e16, st_ne q40, e11, st_ne q39, e6, st_ne q38, e1, st_ne q37]
        have f : ∀ s, s ≠ 7 → s ≠ 8 → I23 33 s = I 33 s := by
          intro s s7 s8
          rw [e23, st_nj s7, st_nj s8, c33]
        refine hQ I23 ⟨fun q hq => oth q (fun z => hq (by rw [z]; simp)) (fun z => hq (by rw [z]; simp)) (fun z => hq (by rw [z]; simp)) (fun z => hq (by rw [z]; simp)) (fun z => hq (by rw [z]; simp)), ⟨?_, ?_, ?_, ?_, ?_, ?_, ?_, ?_, ?_, ?_, ?_, ?_, ?_, ?_, ?_⟩, f 6 (by omega) (by omega), f 9 (by omega) (by omega)⟩
        · rw [f 2 (by omega) (by omega), po 1 (by omega) (by omega)]; exact v1
        · rw [f 3 (by omega) (by omega), po 0 (by omega) (by omega)]; exact v2
        · rw [f 4 (by omega) (by omega), po 3 (by omega) (by omega)]; exact v3
        · rw [f 5 (by omega) (by omega), po 4 (by omega) (by omega)]; exact v4
        · rw [e23, st_at, p6]
        · rw [e23, st_nj (by omega), st_at]
          congr 1
          show swF T (T 6) = swF (paT T a b c) (paT T a b c 6)
          rw [p6]
          show _ = swF (paT T a b c) (T 6) + paT T a b c (42 + 6 * T 6) * 2 ^ T 6
          rw [ps, Nat.zero_mul, Nat.add_zero]
          exact (swF_c _ (fun k hk => po _ (by omega) (by omega))).symm
        · rw [f 10 (by omega) (by omega), po 8 (by omega) (by omega)]; exact v7
        · intro j hj; rw [oth 34 (by omega) (by omega) (by omega) (by omega) (by omega), po _ (by omega) (by omega)]; exact v8 j hj
        · intro j hj; rw [oth (34 + 1) (by omega) (by omega) (by omega) (by omega) (by omega), po _ (by omega) (by omega)]; exact v9 j hj
        · intro j hj; rw [oth (34 + 2) (by omega) (by omega) (by omega) (by omega) (by omega), po _ (by omega) (by omega)]; exact v10 j hj
        · intro j hj
          rw [p6] at hj
          rw [e23, st_ne (by omega), st_ne (by omega), e16, st_ne (by omega), e11, st_ne (by omega), e6, st_ne (by omega), e1]
          by_cases ej : j = T 6
          · subst ej; rw [st_at, pa]
          · rw [st_nj ej, po _ (by omega) (by omega)]; exact v11 j (by omega)
        · intro j hj
          rw [p6] at hj
          rw [e23, st_ne (by omega), st_ne (by omega), e16, st_ne (by omega), e11, st_ne (by omega), e6]
          by_cases ej : j = T 6
          · subst ej; rw [st_at, pb]
          · rw [st_nj ej, e1, st_ne (by omega), po _ (by omega) (by omega)]; exact v12 j (by omega)
        · intro j hj
          rw [p6] at hj
          rw [e23, st_ne (by omega), st_ne (by omega), e16, st_ne (by omega), e11]
          by_cases ej : j = T 6
          · subst ej; rw [st_at, pc]
          · rw [st_nj ej, e6, st_ne (by omega), e1, st_ne (by omega), po _ (by omega) (by omega)]; exact v13 j (by omega)
        · intro j hj
          rw [p6] at hj
          rw [e23, st_ne (by omega), st_ne (by omega), e16]
          by_cases ej : j = T 6
          · subst ej; rw [st_at, p0]
          · rw [st_nj ej, e11, st_ne (by omega), e6, st_ne (by omega), e1, st_ne (by omega), po _ (by omega) (by omega)]; exact v14 j (by omega)
        · intro j hj
          rw [po 8 (by omega) (by omega)] at hj
          have := a2.2.2.1.1
          rw [oth (34 + 7) (by omega) (by omega) (by omega) (by omega) (by omega), po _ (by omega) (by omega)]; exact v15 j hj
      · have r1 : RM I1 T := a1.same s1 (by simp)
        have m6 : I1 116 6 = nI (T 6) := r1.at 6 (by omega)
        refine S_X12_pane _ _ _ (m_in1 (by omega) (by omega) ⟨_, rfl, bk (fun _ => m_isScene ⟨_, rfl, bk (fun _ => m_isWard ⟨_, rfl, bk2 (fun _ => ?_) (fun q => absurd ok.2.2 q)⟩) (fun q => absurd ok.2.1 q)⟩) (fun q => absurd ok.1 q)⟩)
        rw [m6, nI_eq (by omega) (by omega)]
        refine ⟨fun _ => c_puts (T 6) 0 rfl rfl (by omega) ⟨rfl, c_puts (T 6) 1 rfl rfl (by omega) ⟨rfl, c_puts (T 6) 2 rfl rfl (by omega) ⟨rfl, c_puts (T 6) 3 rfl rfl (by omega) ⟨rfl, c_puts (T 6) 4 rfl rfl (by omega) ⟨rfl, fun I12 e12 => ?_⟩⟩⟩⟩⟩, fun q => by omega⟩
        rw [st_nj (by omega), st_nj (by omega), st_nj (by omega), st_nj (by omega), st_nj (by omega), m6, nI_add] at e12
        have r12 : RM I12 (paT T a b c) := by
          rw [e12]
          unfold paT
          rw [show 38 + 6 * T 6 = 38 + 6 * T 6 + 0 by omega, show 39 + 6 * T 6 = 38 + 6 * T 6 + 1 by omega, show 40 + 6 * T 6 = 38 + 6 * T 6 + 2 by omega, show 41 + 6 * T 6 = 38 + 6 * T 6 + 3 by omega, show 42 + 6 * T 6 = 38 + 6 * T 6 + 4 by omega]
          exact r1.st.st.st.st.st.st
        have s12 : Same [116, 119] I1 I12 := by
          rw [e12]
          exact (((((Same.st (by simp)).tr (Same.st (by simp))).tr (Same.st (by simp))).tr (Same.st (by simp))).tr (Same.st (by simp))).tr (Same.st (by simp))
        refine hQ I12 ⟨paT T a b c, h.step s1 ev1 s12 r12 (wf_paT a2 hf ⟨ha1, ha2⟩ (by omega) (by omega)) (po 7 (by omega) (by omega)) (fun j hj => po j (by omega) (by omega)) ?_ ?_⟩
        · rw [q6, a4, e12, st_nj (by omega), st_nj (by omega), st_nj (by omega), st_nj (by omega), st_nj (by omega), st_nj (by omega), s1 116 (by simp)]
        · rw [q9, a5, e12, st_nj (by omega), st_nj (by omega), st_nj (by omega), st_nj (by omega), st_nj (by omega), st_nj (by omega), s1 116 (by simp)]
    · refine Pair.pure hI (-2) (fun Q hQ => cx Q ⟨fun q => absurd q hf, fun _ => hQ⟩) (fun Q hQ => ?_)
      refine S_X12_pane _ _ _ (m_in1 (by omega) (by omega) ⟨_, rfl, bk (fun _ => m_isScene ⟨_, rfl, bk (fun _ => m_isWard ⟨_, rfl, bk2 (fun _ => ?_) (fun q => absurd ok.2.2 q)⟩) (fun q => absurd ok.2.1 q)⟩) (fun q => absurd ok.1 q)⟩)
      rw [a1.at 6 (by omega), nI_eq (by omega) (by omega)]
      exact ⟨fun q => by omega, fun _ => hQ⟩
  · refine Pair.pure hI (-1) (fun Q hQ => ?_) (fun Q hQ => ?_)
    · exact S_X11_pane _ _ _ (d_isPaneKind ⟨_, rfl, bk (fun p1 => d_isWithin (by omega) ⟨_, rfl, bk (fun p2 => d_isWard ⟨_, rfl, bk2 (fun p3 => absurd ⟨p1, p2, p3⟩ ok) (fun _ => hQ)⟩) (fun _ => hQ)⟩) (fun _ => hQ)⟩)
    · exact S_X12_pane _ _ _ (m_in1 (by omega) (by omega) ⟨_, rfl, bk (fun p1 => m_isScene ⟨_, rfl, bk (fun p2 => m_isWard ⟨_, rfl, bk2 (fun p3 => absurd ⟨p1, p2, p3⟩ ok) (fun _ => hQ)⟩) (fun _ => hQ)⟩) (fun _ => hQ)⟩)
/-! minutes that are kept -/
theorem InvT.go {I1 I2 : IH} {T2 : Nat → Nat} {w : Nat} (h : InvT I T) (hg : Gc 33 34 27 I I1 w) (hx : EvR I1 33 34 T2) (hm : RM I2 T2) (hg2 : Gm I1 I2 w) (hW : WfE T2) (hA : Ag T T2) (ho : T2 0 ≤ T2 1) : InvT I2 T2 := by
  obtain ⟨a1, a2, a3, a4, a5, a6⟩ := id h
  obtain ⟨w1, w2, w3, w4, w5⟩ := id a2
  refine h.step (hg.1.mono (by simp)) hx hg2.1 hm ⟨hW, hA.R w2, ?_, ho, by rw [hA 1 (by omega)]; exact w5⟩ (hA 7 (by omega)) (fun j hj => hA j (by omega)) ?_ ?_
  · obtain ⟨q1, q2⟩ := w3
    refine ⟨by rw [hA 8 (by omega)]; exact q1, fun i hi => ?_⟩
    rw [hA 8 (by omega)] at hi
    rw [hA _ (by omega), hA _ (by omega), hA _ (by omega), hA _ (by omega)]
    exact q2 i hi
  · rw [hg.2.2, hg2.2.2, a4, hg.1 116 (by simp)]
  · rw [hg.2.1, hg2.2.1, a5, hg.1 116 (by simp)]
theorem p_minute (hI : Inv I) : Pair E (d + 40) mX11_minute mX12_minute [] [] I := by
  obtain ⟨T, h⟩ := id hI
  obtain ⟨a1, a2, a3, a4, a5, a6⟩ := id h
  have h0 : T 0 ≤ 16 := a2.1.2.1
  have h1 : T 1 ≤ 16 := a2.1.2.2.1
  by_cases ho : T 1 ≤ T 0
  · refine Pair.pure hI (-4) (fun Q hQ => S_X11_minute (c_kisOver isEv_ev a3.1 a2.1 ⟨_, rfl, ?_⟩)) (fun Q hQ => S_X12_minute (c_isOver a1 (by omega) (by omega) ⟨_, rfl, ?_⟩))
    · rw [if_pos ho]; first | exact ⟨fun q => absurd q (by decide +kernel), fun _ => hQ⟩ | exact ⟨fun _ => hQ, fun q => absurd q (by decide +kernel)⟩
    · rw [if_pos ho]; first | exact ⟨fun q => absurd q (by decide +kernel), fun _ => hQ⟩ | exact ⟨fun _ => hQ, fun q => absurd q (by decide +kernel)⟩
  · obtain ⟨g1, g2, g3⟩ := wf_goR a2.1 (by omega)
    refine ⟨nI (goR T).2, fun I1 => EvR I1 33 34 (goR T).1 ∧ Gc 33 34 27 I I1 (goR T).2, fun Q hQ => S_X11_minute (c_kisOver isEv_ev a3.1 a2.1 ⟨_, rfl, ?_⟩), fun I1 ⟨ev1, gc1⟩ Q hQ => S_X12_minute (c_isOver (a1.same gc1.1 (by simp)) (by omega) (by omega) ⟨_, rfl, ?_⟩)⟩
    · rw [if_neg ho]
      have k : Mt E (d + 39) mX1_goRest [.ref (eb E + 33)] I (fun rv I3 => ∃ v4 : Int32, rv = some (.int v4) ∧ Q (some (.int v4)) I3) := c_kgoRest isEv_ev a3.1 a3.2 a2.1 a2.2.1 (fun I2 h2 G2 => ⟨_, rfl, hQ I2 ⟨h2, G2⟩⟩)
      first | exact ⟨fun _ => k, fun q => absurd rfl q⟩ | exact ⟨fun q => absurd rfl q, fun _ => k⟩
    · rw [if_neg ho]
      have k : Mt E (d + 39) mX12_goesBy [.ref (eb E + 115), .int (-1)] I1 (fun rv I3 => ∃ v4 : Int32, rv = some (.int v4) ∧ Q (some (.int v4)) I3) := c_goesR (a1.same gc1.1 (by simp)) a2.1 a2.2.1 rfl (fun I2 h2 G2 => ⟨_, rfl, hQ I2 ⟨_, h.go gc1 ev1 h2 G2 g1 g2 (by rw [g3, g2 1 (by omega)]; omega)⟩⟩)
      first | exact ⟨fun _ => k, fun q => absurd rfl q⟩ | exact ⟨fun q => absurd rfl q, fun _ => k⟩
end P4
