section P3
variable {E : EE} {d : Nat} {I : IH} {Q : QT} {T : Nat → Nat} {k e g r : Nat} {x1 x2 x3 x4 : Int32}
theorem c_fill_loop {x : Int32} {o n : Nat} (hs : shape[o]? = some (.inr (0, n, []))) (hn : n < 1000) : ∀ (m k : Nat) (I2 : IH), k + m = n → I2 = stA I o (fun j => if j < k then x else I o j) → Q none (stA I o (fun j => if j < n then x else I o j)) → J E d mJ7_fill_53178 5 [(0, .ref (eb E + o)), (1, .int x), (2, .int (nI k)), (3, .int (nI n))] [] I2 Q := by
  intro m
  induction m with
  | zero =>
    intro k I2 hk e2 hQ
    refine S_J7_fill_53178_5 hs (by omega) _ _ _ ?_
    rw [nI_leI (by omega) (by omega)]
    refine ⟨fun _ => ?_, fun q => by omega⟩
    rw [e2, show k = n by omega]; exact hQ
  | succ m ih =>
    intro k I2 hk e2 hQ
    refine S_J7_fill_53178_5 hs (by omega) _ _ _ ?_
    rw [nI_leI (by omega) (by omega)]
    refine ⟨fun q => by omega, fun _ => ⟨k, rfl, by omega, fun I1 e1 => ?_⟩⟩
    rw [nI_add]
    refine ih (k + 1) I1 (by omega) ?_ hQ
    rw [e1, e2]
    funext a
    by_cases ha : a = o
    · subst ha
      rw [st_eq, sA_eq, sA_eq]
      funext j
      unfold upd
      by_cases h1 : j = k
      · subst h1; simp
      · by_cases h2 : j < k
        · simp [h1, h2, show j < k + 1 by omega]
        · simp [h1, h2, show ¬ j < k + 1 by omega]
    · rw [st_ne ha, sA_ne ha, sA_ne ha]
theorem c_fill {x : Int32} {o n : Nat} (hs : shape[o]? = some (.inr (0, n, []))) (hn : n < 1000) (hQ : Q none (stA I o (fun j => if j < n then x else I o j))) : Mt E d mJ7_fill_53178 [.ref (eb E + o), .int x] I Q := by
  refine S_J7_fill_53178 hs (by omega) _ (c_fill_loop (I := I) hs hn n 0 I (by omega) ?_ hQ)
  funext a
  by_cases ha : a = o
  · subst ha; rw [sA_eq]; funext j; simp
  · rw [sA_ne ha]
/-! anew -/
def anF (T : Nat → Nat) : Nat → Nat → Nat
  | 0 => T
  | n + 1 => up (up (anF T n) (40 + 6 * n) 0) (42 + 6 * n) 0
theorem anF_ne (T : Nat → Nat) : ∀ (n i : Nat), (∀ q, q < n → i ≠ 40 + 6 * q ∧ i ≠ 42 + 6 * q) → anF T n i = T i := by
  intro n
  induction n with
  | zero => intro i _; rfl
  | succ n ih =>
    intro i h
    show up (up (anF T n) _ _) _ _ i = _
    rw [up_ne (h n (by omega)).2, up_ne (h n (by omega)).1, ih i (fun q hq => h q (by omega))]
theorem anF_0 (T : Nat → Nat) : ∀ (n q : Nat), q < n → anF T n (40 + 6 * q) = 0 ∧ anF T n (42 + 6 * q) = 0 := by
  intro n
  induction n with
  | zero => intro q h; omega
  | succ n ih =>
    intro q h
    show up (up (anF T n) _ _) _ _ (40 + 6 * q) = 0 ∧ up (up (anF T n) _ _) _ _ (42 + 6 * q) = 0
    by_cases e : q = n
    · subst e
      rw [up_ne (by omega), up_eq, up_eq]; exact ⟨rfl, rfl⟩
    · obtain ⟨a, b⟩ := ih q (by omega)
      rw [up_ne (by omega), up_ne (by omega), up_ne (by omega), up_ne (by omega)]; exact ⟨a, b⟩
def anT (T : Nat → Nat) : Nat → Nat := up (anF (up (up T 3 0) 4 60) (T 6)) 0 0
theorem anT_v (T : Nat → Nat) (h6 : T 6 ≤ 6) : anT T 0 = 0 ∧ anT T 3 = 0 ∧ anT T 4 = 60 ∧ (∀ k, k < T 6 → anT T (40 + 6 * k) = 0 ∧ anT T (42 + 6 * k) = 0) ∧ ∀ i, i ≠ 0 → i ≠ 3 → i ≠ 4 → (∀ q, q < T 6 → i ≠ 40 + 6 * q ∧ i ≠ 42 + 6 * q) → anT T i = T i := by
  unfold anT
  refine ⟨up_eq, ?_, ?_, ?_, ?_⟩
  · rw [up_ne (by omega), anF_ne _ _ _ (by intro q hq; omega), up_ne (by omega), up_eq]
  · rw [up_ne (by omega), anF_ne _ _ _ (by intro q hq; omega), up_eq]
  · intro k hk
    rw [up_ne (by omega), up_ne (by omega)]
    exact anF_0 _ _ k hk
  · intro i h0 h3 h4 hq
    rw [up_ne h0, anF_ne _ _ _ hq, up_ne h4, up_ne h3]
theorem wf_anT (h : Wf T) : Wf (anT T) := by
  obtain ⟨⟨h6, h0, h1, h3, h4, hn, hw, hp⟩, hr, hq, ho, h11⟩ := h
  obtain ⟨b0, b3, b4, bk, bo⟩ := anT_v T h6
  have o : ∀ i, i ≠ 0 → i ≠ 3 → i ≠ 4 → (i < 38 ∨ 74 ≤ i ∨ ∃ q, q < 6 ∧ (i = 38 + 6 * q ∨ i = 39 + 6 * q ∨ i = 41 + 6 * q)) → anT T i = T i := by
    intro i i0 i3 i4 hi
    refine bo i i0 i3 i4 (fun q hq => ?_)
    rcases hi with hi | hi | ⟨w, hw, hi⟩ <;> omega
  have e6 : anT T 6 = T 6 := o 6 (by omega) (by omega) (by omega) (by omega)
  refine ⟨⟨by rw [e6]; exact h6, by omega, by rw [o 1 (by omega) (by omega) (by omega) (by omega)]; exact h1, by omega, by omega, fun j hj => by rw [o _ (by omega) (by omega) (by omega) (by omega)]; exact hn j hj, fun w hw2 => by rw [o _ (by omega) (by omega) (by omega) (by omega), o _ (by omega) (by omega) (by omega) (by omega)]; exact hw w hw2, fun k hk => ?_⟩, hr.c (o 7 (by omega) (by omega) (by omega) (by omega)) (fun j hj => o j (by omega) (by omega) (by omega) (by omega)), ?_, ?_, ?_⟩
  · rw [e6] at hk
    obtain ⟨p1, p2, p3, p4, p5, p6⟩ := hp k hk
    have q1 := o (38 + 6 * k) (by omega) (by omega) (by omega) (Or.inr (Or.inr ⟨k, by omega, by omega⟩))
    have q2 := o (39 + 6 * k) (by omega) (by omega) (by omega) (Or.inr (Or.inr ⟨k, by omega, by omega⟩))
    have q3 := o (41 + 6 * k) (by omega) (by omega) (by omega) (Or.inr (Or.inr ⟨k, by omega, by omega⟩))
    obtain ⟨z1, z2⟩ := bk k hk
    unfold WfP
    rw [q1, q2, q3, z1, z2]
    exact ⟨p1, p2, p3, by omega, p5, by omega⟩
  · obtain ⟨q1, q2⟩ := hq
    have e8 : anT T 8 = T 8 := o 8 (by omega) (by omega) (by omega) (by omega)
    refine ⟨by rw [e8]; exact q1, fun i hi => ?_⟩
    rw [e8] at hi
    rw [o _ (by omega) (by omega) (by omega) (by omega), o _ (by omega) (by omega) (by omega) (by omega), o _ (by omega) (by omega) (by omega) (by omega), o _ (by omega) (by omega) (by omega) (by omega)]
    exact q2 i hi
  · rw [b0]; exact Nat.zero_le _
  · rw [o 1 (by omega) (by omega) (by omega) (by omega)]; exact h11
theorem swF_0 : ∀ n, (∀ k, k < n → T (42 + 6 * k) = 0) → swF T n = 0 := by
  intro n
  induction n with
  | zero => intro _; rfl
  | succ n ih =>
    intro h
    show swF T n + T (42 + 6 * n) * 2 ^ n = 0
    rw [ih (fun k hk => h k (by omega)), h n (by omega)]; omega
theorem c_anew_loop (h6 : T 6 ≤ 6) : ∀ (n k : Nat) (I : IH), k + n = T 6 → RM I (anF (up (up T 3 0) 4 60) k) → (∀ I2, RM I2 (anT T) → Same [116] I I2 → I2 116 2 = I 116 2 → I2 116 5 = I 116 5 → Q (some (.int (nI (T 0)))) I2) → J E (d + 1) mX12_anew 24 [(0, .ref (eb E + 115)), (1, .int (nI k))] [] I Q := by
  intro n
  induction n with
  | zero =>
    intro k I hk h hQ
    have : k = T 6 := by omega
    subst this
    refine S_X12_anew_24 _ ?_
    rw [h.at 6 (by omega), anF_ne _ _ _ (by intro q hq; omega), up_ne (by omega), up_ne (by omega), nI_leI (by omega) (by omega)]
    refine ⟨fun _ => c_becomes 0 rfl (by omega) ⟨_, rfl, ?_⟩, fun q => by omega⟩
    rw [h 0 (by omega) (by omega) (by omega), anF_ne _ _ _ (by intro q hq; omega), up_ne (by omega), up_ne (by omega)]
    exact hQ _ h.st (Same.st (by simp)) (st_nj (by omega)) (st_nj (by omega))
  | succ n ih =>
    intro k I hk h hQ
    refine S_X12_anew_24 _ ?_
    rw [h.at 6 (by omega), anF_ne _ _ _ (by intro q hq; omega), up_ne (by omega), up_ne (by omega), nI_leI (by omega) (by omega)]
    refine ⟨fun q => by omega, fun _ => c_puts k 2 rfl rfl (by omega) ⟨rfl, c_puts k 4 rfl rfl (by omega) ⟨rfl, ?_⟩⟩⟩
    rw [nI_add]
    refine ih (k + 1) _ (by omega) ?_ (fun I2 h2 s2 e2 e5 => hQ I2 h2 (((Same.st (by simp)).tr (Same.st (by simp))).tr s2) ?_ ?_)
    · show RM _ (up (up (anF _ k) (40 + 6 * k) 0) (42 + 6 * k) 0)
      rw [show 40 + 6 * k = 38 + 6 * k + 2 by omega, show 42 + 6 * k = 38 + 6 * k + 4 by omega]
      exact h.st.st
    · rw [e2, st_nj (by omega), st_nj (by omega)]
    · rw [e5, st_nj (by omega), st_nj (by omega)]
theorem p_anew (hI : Inv I) : Pair E (d + 40) mX11_anew mX12_anew [] [] I := by
  obtain ⟨T, h⟩ := id hI
  obtain ⟨a1, a2, a3, a4, a5, a6⟩ := id h
  have h6 : T 6 ≤ 6 := a2.1.1
  obtain ⟨b0, b3, b4, bk, bo⟩ := anT_v T h6
  have o : ∀ i, i ≠ 0 → i ≠ 3 → i ≠ 4 → (i < 38 ∨ 74 ≤ i ∨ ∃ q, q < 6 ∧ (i = 38 + 6 * q ∨ i = 39 + 6 * q ∨ i = 41 + 6 * q)) → anT T i = T i := by
    intro i i0 i3 i4 hi
    refine bo i i0 i3 i4 (fun q hq => ?_)
    rcases hi with hi | hi | ⟨w, hw, hi⟩ <;> omega
  obtain ⟨v1, v2, v3, v4, v5, v6, v7, v8, v9, v10, v11, v12, v13, v14, v15⟩ := id a3.1
  refine ⟨nI (T 0), fun I1 => Same [32, 33, 34, 35, 36, 37, 38, 39, 40, 41] I I1 ∧ EvR I1 33 34 (anT T) ∧ I1 33 6 = nI 0 ∧ I1 33 9 = I 33 9, fun Q hQ => ?_, fun I1 ⟨s1, ev1, q6, q9⟩ Q hQ => ?_⟩
  · refine S_X11_anew (S_X1_beginAgain isEv_ev (fun I1 e1 I3 e3 I5 e5 I7 e7 I9 e9 => c_fill sh40 (by omega) ⟨rfl, rfl, ?_⟩))
    rw [v2]
    generalize e11 : stA I9 40 (fun j => if j < 6 then nI 0 else I9 40 j) = I11
    have c33 : ∀ s, I11 33 s = I9 33 s := fun s => by rw [← e11, sA_ne (by omega)]
    have oth : ∀ a, a ≠ 33 → a ≠ 40 → I11 a = I a := by
      intro a h1 h2
      rw [← e11, sA_ne h2, e9, st_ne h1, e7, st_ne h1, e5, st_ne h1, e3, st_ne h1, e1, st_ne h1]
    have f : ∀ s, s ≠ 8 → s ≠ 5 → s ≠ 4 → s ≠ 6 → s ≠ 3 → I11 33 s = I 33 s := by
      intro s s8 s5 s4 s6 s3
      rw [c33, e9, st_nj s8, e7, st_nj s5, e5, st_nj s4, e3, st_nj s6, e1, st_nj s3]
    refine hQ I11 ⟨fun a ha => oth a (fun z => ha (by rw [z]; simp)) (fun z => ha (by rw [z]; simp)), ⟨?_, ?_, ?_, ?_, ?_, ?_, ?_, ?_, ?_, ?_, ?_, ?_, ?_, ?_, ?_⟩, ?_, ?_⟩
    · rw [f 2 (by omega) (by omega) (by omega) (by omega) (by omega), o 1 (by omega) (by omega) (by omega) (by omega)]; exact v1
    · rw [c33, e9, st_nj (by omega), e7, st_nj (by omega), e5, st_nj (by omega), e3, st_nj (by omega), e1, st_at, b0]
    · rw [c33, e9, st_nj (by omega), e7, st_nj (by omega), e5, st_at, b3]
    · rw [c33, e9, st_nj (by omega), e7, st_at, b4]
    · rw [f 7 (by omega) (by omega) (by omega) (by omega) (by omega), o 6 (by omega) (by omega) (by omega) (by omega)]; exact v5
    · rw [c33, e9, st_at]
      have : swn (anT T) = 0 := swF_0 _ (fun k hk => (bk k (by rw [o 6 (by omega) (by omega) (by omega) (by omega)] at hk; exact hk)).2)
      rw [this]
    · rw [f 10 (by omega) (by omega) (by omega) (by omega) (by omega), o 8 (by omega) (by omega) (by omega) (by omega)]; exact v7
    · intro j hj; rw [oth 34 (by omega) (by omega), o _ (by omega) (by omega) (by omega) (by omega)]; exact v8 j hj
    · intro j hj; rw [oth (34 + 1) (by omega) (by omega), o _ (by omega) (by omega) (by omega) (by omega)]; exact v9 j hj
    · intro j hj; rw [oth (34 + 2) (by omega) (by omega), o _ (by omega) (by omega) (by omega) (by omega)]; exact v10 j hj
    · intro j hj; rw [o 6 (by omega) (by omega) (by omega) (by omega)] at hj; rw [oth (34 + 3) (by omega) (by omega), o _ (by omega) (by omega) (by omega) (Or.inr (Or.inr ⟨j, by omega, by omega⟩))]; exact v11 j hj
    · intro j hj; rw [o 6 (by omega) (by omega) (by omega) (by omega)] at hj; rw [oth (34 + 4) (by omega) (by omega), o _ (by omega) (by omega) (by omega) (Or.inr (Or.inr ⟨j, by omega, by omega⟩))]; exact v12 j hj
    · intro j hj; rw [o 6 (by omega) (by omega) (by omega) (by omega)] at hj; rw [oth (34 + 5) (by omega) (by omega), o _ (by omega) (by omega) (by omega) (Or.inr (Or.inr ⟨j, by omega, by omega⟩))]; exact v13 j hj
    · intro j hj
      rw [o 6 (by omega) (by omega) (by omega) (by omega)] at hj
      rw [(bk j hj).1, ← e11]
      show stA I9 40 _ 40 j = _
      rw [sA_eq, if_pos (by omega)]
    · intro j hj; rw [o 8 (by omega) (by omega) (by omega) (by omega)] at hj; rw [oth (34 + 7) (by omega) (by omega), o _ (by omega) (by omega) (by omega) (by omega)]; exact v15 j hj
    · rw [c33, e9, st_nj (by omega), e7, st_nj (by omega), e5, st_nj (by omega), e3, st_at]
    · rw [f 9 (by omega) (by omega) (by omega) (by omega) (by omega)]
  · have r1 : RM I1 T := a1.same s1 (by simp)
    refine S_X12_anew (fun I2 e2 I3 e3 I5 e5 => ?_)
    have r5 : RM I5 (up (up T 3 0) 4 60) := by
      rw [e5]; refine RM.st ?_
      rw [e3]; refine RM.st ?_
      rw [e2]; exact RM.st2 r1 (Or.inl rfl)
    have s5 : Same [116, 119] I1 I5 := by rw [e5, e3, e2]; exact ((Same.st (by simp)).tr (Same.st (by simp))).tr (Same.st (by simp))
    refine c_anew_loop h6 (T 6) 0 I5 (by omega) r5 (fun I6 r6 s6 u2 u5 => hQ I6 ⟨anT T, h.step s1 ev1 (s5.tr (s6.mono (by simp))) r6 (wf_anT a2) (o 7 (by omega) (by omega) (by omega) (by omega)) (fun j hj => o j (by omega) (by omega) (by omega) (by omega)) ?_ ?_⟩)
    · rw [q6, u2, e5, st_nj (by omega), e3, st_nj (by omega), e2, st_at]
    · rw [q9, a5, u5, e5, st_nj (by omega), e3, st_nj (by omega), e2, st_nj (by omega), s1 116 (by simp)]
theorem p_forget (hI : Inv I) : Pair E (d + 40) mX11_forget mX12_forget [] [] I := by
  obtain ⟨T, h⟩ := id hI
  obtain ⟨a1, a2, a3, a4, a5, a6⟩ := id h
  obtain ⟨v1, v2, v3, v4, v5, v6, v7, v8, v9, v10, v11, v12, v13, v14, v15⟩ := id a3.1
  have hw : Wf (up T 8 0) := by
    obtain ⟨w1, w2, w3, w4, w5⟩ := a2
    obtain ⟨h6, h0, h1, h3, h4, hn, hww, hp⟩ := w1
    refine ⟨⟨by rw [up_ne (by omega)]; exact h6, by rw [up_ne (by omega)]; exact h0, by rw [up_ne (by omega)]; exact h1, by rw [up_ne (by omega)]; exact h3, by rw [up_ne (by omega)]; exact h4, fun j hj => by rw [up_ne (by omega)]; exact hn j hj, fun w hw2 => by rw [up_ne (by omega), up_ne (by omega)]; exact hww w hw2, fun k hk => ?_⟩, w2.c (up_ne (by omega)) (fun j hj => up_ne (by omega)), ⟨by rw [up_eq]; omega, fun i hi => by rw [up_eq] at hi; omega⟩, by rw [up_ne (by omega), up_ne (by omega)]; exact w4, by rw [up_ne (by omega)]; exact w5⟩
    rw [up_ne (by omega)] at hk
    unfold WfP
    rw [up_ne (by omega), up_ne (by omega), up_ne (by omega), up_ne (by omega), up_ne (by omega)]
    exact hp k hk
  have hs : swn (up T 8 0) = swn T := by
    unfold swn
    rw [up_ne (by omega)]
    exact swF_c _ (fun k hk => up_ne (by omega))
  refine Pair.set (a := 33) (s := 10) (j := 8) (v := 0) h (by omega) (by omega) ?_ hw (by omega) (by omega) (by omega) (by omega) (fun Q hQ => S_X11_forget (fun I1 e1 => by rw [e1, v7]; exact hQ)) (fun I1 r1 Q hQ => S_X12_forget (c_becomes 8 rfl (by omega) ⟨_, rfl, by rw [r1 _ (by omega) (by omega) (by omega)]; exact hQ⟩))
  have hg : ∀ a, a ≠ 33 → stI I 33 10 (nI 0) a = I a := fun a ha => st_ne ha
  unfold EvR
  rw [hs, hg 34 (by omega), hg (34 + 1) (by omega), hg (34 + 2) (by omega), hg (34 + 3) (by omega), hg (34 + 4) (by omega), hg (34 + 5) (by omega), hg (34 + 6) (by omega), hg (34 + 7) (by omega), st_nj (by omega), st_nj (by omega), st_nj (by omega), st_nj (by omega), st_nj (by omega), st_nj (by omega), st_at, up_eq, up_ne (by omega), up_ne (by omega), up_ne (by omega), up_ne (by omega), up_ne (by omega)]
  refine ⟨v1, v2, v3, v4, v5, v6, rfl, ?_, ?_, ?_, ?_, ?_, ?_, ?_, fun i hi => by omega⟩
  · intro j hj; rw [up_ne (by omega)]; exact v8 j hj
  · intro j hj; rw [up_ne (by omega)]; exact v9 j hj
  · intro j hj; rw [up_ne (by omega)]; exact v10 j hj
  · intro j hj; rw [up_ne (by omega)]; exact v11 j hj
  · intro j hj; rw [up_ne (by omega)]; exact v12 j hj
  · intro j hj; rw [up_ne (by omega)]; exact v13 j hj
  · intro j hj; rw [up_ne (by omega)]; exact v14 j hj
end P3
