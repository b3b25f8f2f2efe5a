section P12
variable {E : EE} {d : Nat} {I : IH} {Q : QT} {T : Nat → Nat} {k e g r e1 g1 r1 : Nat} {x1 x2 x3 x4 : Int32}
/-! plans: worth most, how many, fewest, ever shown, the first of the best -/
abbrev Acc : Type := Nat × Nat × Nat × Int32 × (Nat → Nat)
noncomputable def nte (w : Int32) (T : Nat → Nat) (wo to : Nat) (pl : Nat → Nat) (A : Acc) : Acc :=
  (if A.2.1 = 0 ∨ A.1 < wo then wo else A.1, if A.2.1 = 0 ∨ A.1 < wo then 1 else if wo = A.1 then A.2.1 + 1 else A.2.1, if dc (nI (swn T) &&& w = w) = true then min A.2.2.1 to else A.2.2.1, A.2.2.2.1 ||| nI (swn T), if A.2.1 = 0 ∨ A.1 < wo then pl else A.2.2.2.2)
def lpA (f : Nat → Acc → Acc) : Nat → Nat → Acc → Acc
  | 0, _, A => A
  | m + 1, a, A => lpA f m (a + 1) (f a A)
noncomputable def exF (w : Int32) (len : Nat) : Nat → (Nat → Nat) → Nat → Nat → (Nat → Nat) → Acc → Acc
  | 0, T, wo, to, pl, A => nte w T wo to pl A
  | n + 1, T, wo, to, pl, A => lpA (fun a A => exF w len n (goA T a).1 (wo + (goA T a).2) (if a = 0 then to else to + 1) (up pl (len - (n + 1)) a) A) (T 6 + 1) 0 A
theorem nte_cnt (w : Int32) (T : Nat → Nat) (wo to : Nat) (pl : Nat → Nat) (A : Acc) : (nte w T wo to pl A).2.1 ≤ A.2.1 + 1 ∧ (nte w T wo to pl A).2.1 ≠ 0 := by
  unfold nte
  show (if A.2.1 = 0 ∨ A.1 < wo then 1 else if wo = A.1 then A.2.1 + 1 else A.2.1) ≤ A.2.1 + 1 ∧ (if A.2.1 = 0 ∨ A.1 < wo then 1 else if wo = A.1 then A.2.1 + 1 else A.2.1) ≠ 0
  by_cases h : A.2.1 = 0 ∨ A.1 < wo
  · rw [if_pos h]; omega
  · rw [if_neg h]
    by_cases h2 : wo = A.1
    · rw [if_pos h2]; omega
    · rw [if_neg h2]; omega
theorem lpA_cnt {f : Nat → Acc → Acc} {t K : Nat} (hf : ∀ a A, a ≤ t → (f a A).2.1 ≤ A.2.1 + K) : ∀ (m a : Nat) (A : Acc), a + m ≤ t + 1 → (lpA f m a A).2.1 ≤ A.2.1 + m * K := by
  intro m
  induction m with
  | zero => intro a A _; unfold lpA; omega
  | succ m ih =>
    intro a A h
    have h1 := hf a A (by omega)
    have h2 := ih (a + 1) (f a A) (by omega)
    have e : (m + 1) * K = m * K + K := Nat.succ_mul m K
    unfold lpA
    omega
theorem lpA_pos {f : Nat → Acc → Acc} (hf : ∀ a A, (f a A).2.1 ≠ 0) : ∀ (m a : Nat) (A : Acc), A.2.1 ≠ 0 ∨ 0 < m → (lpA f m a A).2.1 ≠ 0 := by
  intro m
  induction m with
  | zero => intro a A h; unfold lpA; omega
  | succ m ih => intro a A h; unfold lpA; exact ih (a + 1) (f a A) (Or.inl (hf a A))
theorem exF_pos (w : Int32) (len : Nat) : ∀ (n : Nat) (T : Nat → Nat) (wo to : Nat) (pl : Nat → Nat) (A : Acc), (exF w len n T wo to pl A).2.1 ≠ 0 := by
  intro n
  induction n with
  | zero => intro T wo to pl A; unfold exF; exact (nte_cnt _ _ _ _ _ _).2
  | succ n ih => intro T wo to pl A; unfold exF; exact lpA_pos (fun a A => ih _ _ _ _ _) _ _ _ (Or.inr (by omega))
theorem exF_cnt (w : Int32) (len : Nat) : ∀ (n : Nat) (T : Nat → Nat) (wo to : Nat) (pl : Nat → Nat) (A : Acc), WfE T → T 0 + n ≤ T 1 → (exF w len n T wo to pl A).2.1 ≤ A.2.1 + 7 ^ n := by
  intro n
  induction n with
  | zero => intro T wo to pl A _ _; unfold exF; exact (nte_cnt _ _ _ _ _ _).1
  | succ n ih =>
    intro T wo to pl A hW h0
    have h1 : T 1 ≤ 16 := hW.2.2.1
    have h6 : T 6 ≤ 6 := hW.1
    have := lpA_cnt (f := fun a A => exF w len n (goA T a).1 (wo + (goA T a).2) (if a = 0 then to else to + 1) (up pl (len - (n + 1)) a) A) (t := T 6) (K := 7 ^ n) (fun a A ha => by
      obtain ⟨g1, g2, g3⟩ := wf_goA hW (by omega) ha
      exact ih _ _ _ _ _ g1 (by rw [g3, g2 1 (by omega)]; omega)) (T 6 + 1) 0 A (by omega)
    have e : (T 6 + 1) * 7 ^ n ≤ 7 ^ (n + 1) := by
      rw [Nat.pow_succ, Nat.mul_comm (7 ^ n) 7]
      exact Nat.mul_le_mul_right _ (by omega)
    unfold exF
    omega
/-! the class's planner -/
def PlC (I : IH) (len : Nat) (w : Int32) (A : Acc) : Prop := I 66 3 = nI len ∧ I 66 6 = w ∧ I 66 4 = nI A.1 ∧ I 66 5 = nI A.2.1 ∧ I 66 7 = nI A.2.2.1 ∧ I 66 8 = A.2.2.2.1 ∧ (A.2.1 ≠ 0 → ∀ j, j < len → I 69 j = nI (A.2.2.2.2 j)) ∧ A.1 ≤ 52 ∧ A.2.2.1 ≤ 5
theorem PlC.eqs {I2 : IH} {len : Nat} {w : Int32} {A : Acc} (h : PlC I len w A) (h1 : I2 66 = I 66) (h2 : I2 69 = I 69) : PlC I2 len w A := by
  unfold PlC; rw [h1, h2]; exact h
theorem x_note35 {len wo mo cnt fw : Nat} {w ev : Int32} {pl bp : Nat → Nat} (hl : len ≤ 4) (h3 : I 66 3 = nI len) (h6 : I 66 6 = w) (h4 : I 66 4 = nI mo) (h5 : I 66 5 = nI cnt) (h7 : I 66 7 = nI fw) (h8 : I 66 8 = ev) (hb : cnt ≠ 0 → ∀ j, j < len → I 69 j = nI (bp j)) (hp : ∀ j, j < len → I 68 j = nI (pl j)) (hwo : wo ≤ 52) (hmo : mo ≤ 52) (hc : cnt ≤ 10000) (hf : fw ≤ 5)
    (hQ : ∀ I2, PlC I2 len w (if cnt = 0 ∨ mo < wo then wo else mo, if cnt = 0 ∨ mo < wo then 1 else if wo = mo then cnt + 1 else cnt, fw, ev, if cnt = 0 ∨ mo < wo then pl else bp) → Same [66, 69] I I2 → Q none I2) : J E (d + 2) mX5_note 35 [(0, .ref (eb E + 66)), (2, .int (nI wo))] [] I Q := by
  have new : cnt = 0 ∨ mo < wo → J E (d + 2) mX5_note 50 [(0, .ref (eb E + 66)), (2, .int (nI wo))] [] I Q := by
    intro hn
    refine S_X5_note_50 _ (fun I1 e1 I3 e3 => ⟨len, ?_, hl, fun I5 e5 => ?_⟩)
    · rw [e3, st_nj (by omega), e1, st_nj (by omega)]; exact h3
    · simp only [if_pos hn] at hQ
      have q : ∀ s, s ≠ 4 → s ≠ 5 → I5 66 s = I 66 s := fun s a b => by rw [e5, sA_ne (by omega), e3, st_nj b, e1, st_nj a]
      refine hQ I5 ⟨by rw [q 3 (by omega) (by omega)]; exact h3, by rw [q 6 (by omega) (by omega)]; exact h6, ?_, ?_, by rw [q 7 (by omega) (by omega)]; exact h7, by rw [q 8 (by omega) (by omega)]; exact h8, fun _ j hj => ?_, hwo, hf⟩ (fun a ha => ?_)
      · rw [e5, sA_ne (by omega), e3, st_nj (by omega), e1, st_at]
      · rw [e5, sA_ne (by omega), e3, st_at]
      · rw [e5, sA_eq, cpy_in hj, e3, st_ne (by omega), e1, st_ne (by omega)]; exact hp j hj
      · simp at ha
        rw [e5, sA_ne ha.2, e3, st_ne ha.1, e1, st_ne ha.1]
  refine S_X5_note_35 _ ?_
  rw [h5, h4, n0, nI_eq (by omega) (by omega), nI_leI (by omega) (by omega), nI_eq (by omega) (by omega)]
  refine ⟨fun q => new (Or.inl q), fun q => ⟨fun z => ⟨fun y => ?_, fun y I1 e1 => ?_⟩, fun z => new (Or.inr (by omega))⟩⟩
  · have hn : ¬ (cnt = 0 ∨ mo < wo) := by omega
    simp only [if_neg hn, if_neg y] at hQ
    exact hQ I ⟨h3, h6, h4, h5, h7, h8, hb, hmo, hf⟩ (Same.rf _ _)
  · have hn : ¬ (cnt = 0 ∨ mo < wo) := by omega
    simp only [if_neg hn, if_pos y] at hQ
    have q2 : ∀ s, s ≠ 5 → I1 66 s = I 66 s := fun s a => by rw [e1, st_nj a]
    refine hQ I1 ⟨by rw [q2 3 (by omega)]; exact h3, by rw [q2 6 (by omega)]; exact h6, by rw [q2 4 (by omega)]; exact h4, by rw [e1, st_at, nI_add], by rw [q2 7 (by omega)]; exact h7, by rw [q2 8 (by omega)]; exact h8, fun _ j hj => by rw [e1, st_ne (by omega)]; exact hb (by omega) j hj, hmo, hf⟩ (by rw [e1]; exact Same.st (by simp))
theorem x_note {len wo to : Nat} {w : Int32} {pl : Nat → Nat} {A : Acc} (hl : len ≤ 4) (h : PlC I len w A) (hp : ∀ j, j < len → I 68 j = nI (pl j)) (hwo : wo ≤ 52) (hto : to ≤ 4) (hc : A.2.1 ≤ 10000) (hx : x1 = nI (swn T)) (hQ : ∀ I2, PlC I2 len w (nte w T wo to pl A) → Same [66, 69] I I2 → Q none I2) : Mt E (d + 2) mX5_note [.ref (eb E + 66), .int x1, .int (nI wo), .int (nI to)] I Q := by
  subst hx
  obtain ⟨h3, h6, h4, h5, h7, h8, hb, hmo, hf⟩ := h
  unfold nte at hQ
  refine S_X5_note _ _ _ (fun I1 e1 => ?_)
  have q : ∀ s, s ≠ 8 → I1 66 s = I 66 s := fun s a => by rw [e1, st_nj a]
  have s1 : Same [66, 69] I I1 := by rw [e1]; exact Same.st (by simp)
  rw [q 6 (by omega), h6, q 7 (by omega), h7]
  have b1 : A.2.1 ≠ 0 → ∀ j, j < len → I1 69 j = nI (A.2.2.2.2 j) := fun c j hj => by rw [e1, st_ne (by omega)]; exact hb c j hj
  have p1 : ∀ j, j < len → I1 68 j = nI (pl j) := fun j hj => by rw [e1, st_ne (by omega)]; exact hp j hj
  refine ⟨fun z => ?_, fun z I3 e3 => ?_⟩
  · rw [dc_f z] at hQ
    exact x_note35 (fw := A.2.2.1) hl (by rw [q 3 (by omega)]; exact h3) (by rw [q 6 (by omega)]; exact h6) (by rw [q 4 (by omega)]; exact h4) (by rw [q 5 (by omega)]; exact h5) (by rw [q 7 (by omega)]; exact h7) (by rw [e1, st_at, h8]) b1 p1 hwo hmo hc hf (fun I2 p2 s2 => hQ I2 p2 (s1.tr s2))
  · rw [dc_t z] at hQ
    rw [nI_minB (by omega) (by omega)] at e3
    have q3 : ∀ s, s ≠ 7 → I3 66 s = I1 66 s := fun s a => by rw [e3, st_nj a]
    refine x_note35 (fw := min A.2.2.1 to) hl (by rw [q3 3 (by omega), q 3 (by omega)]; exact h3) (by rw [q3 6 (by omega), q 6 (by omega)]; exact h6) (by rw [q3 4 (by omega), q 4 (by omega)]; exact h4) (by rw [q3 5 (by omega), q 5 (by omega)]; exact h5) (by rw [e3, st_at]) (by rw [q3 8 (by omega), e1, st_at, h8]) (fun c j hj => by rw [e3, st_ne (by omega)]; exact b1 c j hj) (fun j hj => by rw [e3, st_ne (by omega)]; exact p1 j hj) hwo hmo hc (by omega) (fun I2 p2 s2 => hQ I2 p2 ((s1.tr (by rw [e3]; exact Same.st (by simp))).tr s2))
theorem EvR.eqs {I2 : IH} (h : EvR I e g T) (h0 : I2 e = I e) (hs : ∀ i, i < 8 → I2 (g + i) = I (g + i)) : EvR I2 e g T := by
  have q0 : I2 g = I g := hs 0 (by omega)
  unfold EvR at h ⊢
  rw [h0, q0, hs 1 (by omega), hs 2 (by omega), hs 3 (by omega), hs 4 (by omega), hs 5 (by omega), hs 6 (by omega), hs 7 (by omega)]
  exact h
theorem EvS.eqs {I2 : IH} (h : EvS I e g T) (h0 : I2 e = I e) (hs : ∀ i, i < 8 → I2 (g + i) = I (g + i)) : EvS I2 e g T := by
  have q0 : I2 g = I g := hs 0 (by omega)
  unfold EvS at h ⊢
  rw [h0, q0, hs 2 (by omega), hs 3 (by omega), hs 5 (by omega), hs 7 (by omega)]
  exact h
theorem RuR.eqs {I2 : IH} (h : RuR I r T) (hs : ∀ i, i < 5 → I2 (r + i) = I (r + i)) : RuR I2 r T := by
  have q0 : I2 r = I r := hs 0 (by omega)
  unfold RuR at h ⊢
  rw [q0, hs 1 (by omega), hs 2 (by omega), hs 3 (by omega), hs 4 (by omega)]
  exact h
theorem Ag.sy {T2 : Nat → Nat} (h : Ag T T2) : Ag T2 T := fun j hj => (h j hj).symm
/-- but the planner's cells, from depth dd on, all is as it was -/
def SP (dd : Nat) (I I2 : IH) : Prop := (∀ a, a ≠ 66 → a ≠ 68 → a ≠ 69 → a ≠ 32 → (a < 79 + 9 * dd ∨ 114 < a) → I2 a = I a) ∧ ∀ j, j < dd → I2 68 j = I 68 j
theorem SP.rf (dd : Nat) (I : IH) : SP dd I I := ⟨fun _ _ _ _ _ _ => rfl, fun _ _ => rfl⟩
theorem x_explore {len : Nat} {w : Int32} (hl : len ≤ 4) : ∀ (n dd : Nat) (T : Nat → Nat) (wo to : Nat) (pl : Nat → Nat) (A : Acc) (I : IH) (Q : QT), dd + n = len → EvR I (70 + 9 * dd) (71 + 9 * dd) T → (∀ j, dd < j → j ≤ len → EvS I (70 + 9 * j) (71 + 9 * j) T) → RuR I 27 T → WfE T → WfR T → T 0 + n ≤ T 1 → PlC I len w A → (∀ j, j < dd → I 68 j = nI (pl j)) → A.2.1 + 7 ^ n ≤ 10000 → wo ≤ 13 * dd → to ≤ dd → (∀ I2, PlC I2 len w (exF w len n T wo to pl A) → (∀ j, dd < j → j ≤ len → EvS I2 (70 + 9 * j) (71 + 9 * j) T) → SP dd I I2 → Q none I2) → Mt E (d + n + 8) mX5_explore [.ref (eb E + 66), .int (nI dd), .int (nI wo), .int (nI to)] I Q := by
  intro n
  induction n with
  | zero =>
    intro dd T wo to pl A I Q hd h hS hr hW hR h01 hP hp hc hwo hto hQ
    refine S_X5_explore _ _ _ ⟨dd, rfl, by omega, ?_⟩
    rw [hP.1, nI_ltI (by omega) (by omega)]
    refine ⟨fun q => by omega, fun _ => x_note (pl := pl) (T := T) hl hP (fun j hj => hp j (by omega)) (by omega) (by omega) (by omega) h.2.2.2.2.2.1 (fun I2 p2 s2 => ⟨rfl, hQ I2 p2 (fun j h1 h2 => by omega) ⟨fun a h1 h2 h3 h4 h5 => s2 a (by simp; omega), fun j hj => by rw [s2 68 (by simp)]⟩⟩)⟩
  | succ n ih =>
    intro dd T wo to pl A I Q hd h hS hr hW hR h01 hP hp hc hwo hto hQ
    have h6 : T 6 ≤ 6 := hW.1
    have h1 : T 1 ≤ 16 := hW.2.2.1
    have ee : d + (n + 1) + 8 = (d + n + 8) + 1 := by omega
    have hdd : len - (n + 1) = dd := by omega
    rw [ee]
    have hE4 := levels_ev (j := dd) (by omega)
    have hE5 : isEv (70 + 9 * (dd + 1)) (71 + 9 * (dd + 1)) 27 := levels_ev (j := dd + 1) (by omega)
    have p7 : 7 ^ (n + 1) = 7 * 7 ^ n := by rw [Nat.pow_succ, Nat.mul_comm]
    have lp : ∀ (m a : Nat) (A2 : Acc) (I2 : IH), a + m = T 6 + 1 → A2.2.1 + m * 7 ^ n ≤ 10000 → PlC I2 len w A2 → (∀ j, dd < j → j ≤ len → EvS I2 (70 + 9 * j) (71 + 9 * j) T) → SP dd I I2 → (∀ I3, PlC I3 len w (lpA (fun a A => exF w len n (goA T a).1 (wo + (goA T a).2) (if a = 0 then to else to + 1) (up pl dd a) A) m a A2) → (∀ j, dd < j → j ≤ len → EvS I3 (70 + 9 * j) (71 + 9 * j) T) → SP dd I I3 → Q none I3) → J E (d + n + 8 + 1) mX5_explore 41 [(0, .ref (eb E + 66)), (1, .int (nI dd)), (2, .int (nI wo)), (3, .int (nI to)), (4, .ref (eb E + (70 + 9 * dd))), (5, .ref (eb E + (70 + 9 * (dd + 1)))), (6, .int (nI a))] [] I2 Q := by
      intro m
      induction m with
      | zero =>
        intro a A2 I2 ha hc2 hP2 hS2 hs hQ2
        have h2 : EvR I2 (70 + 9 * dd) (71 + 9 * dd) T := h.eqs (hs.1 _ (by omega) (by omega) (by omega) (by omega) (by omega)) (fun i hi => hs.1 _ (by omega) (by omega) (by omega) (by omega) (by omega))
        refine S_X5_explore_41 _ _ _ hE4 hE5 _ ?_
        rw [h2.2.2.2.2.1, nI_ltI (by omega) (by omega)]
        exact ⟨fun _ => hQ2 I2 hP2 hS2 hs, fun q => by omega⟩
      | succ m ihm =>
        intro a A2 I2 ha hc2 hP2 hS2 hs hQ2
        have em : (m + 1) * 7 ^ n = m * 7 ^ n + 7 ^ n := Nat.succ_mul m (7 ^ n)
        have h2 : EvR I2 (70 + 9 * dd) (71 + 9 * dd) T := h.eqs (hs.1 _ (by omega) (by omega) (by omega) (by omega) (by omega)) (fun i hi => hs.1 _ (by omega) (by omega) (by omega) (by omega) (by omega))
        have r2 : RuR I2 27 T := hr.eqs (fun i hi => hs.1 _ (by omega) (by omega) (by omega) (by omega) (by omega))
        have ha6 : a ≤ T 6 := by omega
        obtain ⟨g1, g2, g3⟩ := wf_goA hW (by omega) ha6
        have hg := goA_le T a
        refine S_X5_explore_41 _ _ _ hE4 hE5 _ ?_
        rw [h2.2.2.2.2.1, nI_ltI (by omega) (by omega)]
        refine ⟨fun q => by omega, fun _ => c_moveTo hE5 hE4 (by omega) (hS2 (dd + 1) (by omega) (by omega)) h2 h6 (fun I3 h3 s3 e36 e39 => ⟨rfl, dd, rfl, by omega, fun I4 e4 => ?_⟩)⟩
        have q4 : ∀ c, c ≠ 68 → I4 c = I3 c := fun c hc => by rw [e4, st_ne hc]
        have t3 : ∀ c, (c < 79 + 9 * dd ∨ 87 + 9 * dd < c) → I3 c = I2 c := fun c hc => s3 c (by simp; omega)
        have h4 : EvR I4 (70 + 9 * (dd + 1)) (71 + 9 * (dd + 1)) T := h3.eqs (q4 _ (by omega)) (fun i hi => q4 _ (by omega))
        have r4 : RuR I4 27 T := r2.eqs (fun i hi => by rw [q4 _ (by omega), t3 _ (by omega)])
        refine c_kgo hE5 h4 r4 hW hR rfl ha6 (fun I5 h5 G5 => ⟨_, rfl, ?_⟩)
        have t5 : ∀ c, (c < 79 + 9 * dd ∨ 87 + 9 * dd < c) → c ≠ 32 → I5 c = I4 c := fun c hc h32 => G5.1 c (by simp; omega)
        have t52 : ∀ c, (c < 79 + 9 * dd ∨ 87 + 9 * dd < c) → c ≠ 32 → c ≠ 68 → I5 c = I2 c := fun c hc h32 h68 => by rw [t5 c hc h32, q4 c h68, t3 c hc]
        have r5 : RuR I5 27 (goA T a).1 := g2.ru (r2.eqs (fun i hi => t52 _ (by omega) (by omega) (by omega)))
        have S5 : ∀ j, dd + 1 < j → j ≤ len → EvS I5 (70 + 9 * j) (71 + 9 * j) (goA T a).1 := fun j j1 j2 => ((hS2 j (by omega) j2).eqs (t52 _ (by omega) (by omega) (by omega)) (fun i hi => t52 _ (by omega) (by omega) (by omega))).ag h6 g2
        have P5 : PlC I5 len w A2 := hP2.eqs (t52 _ (by omega) (by omega) (by omega)) (t52 _ (by omega) (by omega) (by omega))
        have pl5 : ∀ j, j < dd + 1 → I5 68 j = nI (up pl dd a j) := fun j hj => by
          rw [t5 68 (by omega) (by omega), e4]
          by_cases ej : j = dd
          · subst ej; rw [st_at, up_eq]
          · rw [st_nj ej, up_ne ej, t3 68 (by omega), hs.2 j (by omega)]; exact hp j (by omega)
        have nxt5 : ∀ to2 : Nat, to2 = (if a = 0 then to else to + 1) → J E (d + n + 8 + 1) mX5_explore 91 [(0, .ref (eb E + 66)), (1, .int (nI dd)), (2, .int (nI wo)), (3, .int (nI to)), (4, .ref (eb E + (70 + 9 * dd))), (5, .ref (eb E + (70 + 9 * (dd + 1)))), (6, .int (nI a))] [.int (nI to2), .int (nI (wo + (goA T a).2)), .int (nI (dd + 1)), .ref (eb E + 66)] I5 Q := by
          intro to2 eto
          have hto2 : to2 ≤ dd + 1 := by rw [eto]; split <;> omega
          refine S_X5_explore_91 _ _ _ hE4 hE5 _ _ _ _ (ih (dd + 1) (goA T a).1 (wo + (goA T a).2) to2 (up pl dd a) A2 I5 _ (by omega) h5 S5 r5 g1 (g2.R hR) (by rw [g3, g2 1 (by omega)]; omega) P5 pl5 (by omega) (by omega) hto2 (fun I6 P6 S6 s6 => ⟨rfl, ?_⟩))
          have cb := exF_cnt w len n (goA T a).1 (wo + (goA T a).2) to2 (up pl dd a) A2 g1 (by rw [g3, g2 1 (by omega)]; omega)
          rw [nI_add]
          refine ihm (a + 1) _ I6 (by omega) ?_ P6 (fun j j1 j2 => ?_) ⟨fun c c1 c2 c3 c4 c5 => ?_, fun j hj => ?_⟩ (fun I7 P7 S7 s7 => hQ2 I7 ?_ S7 s7)
          · omega
          · by_cases ej : j = dd + 1
            · subst ej
              exact (h5.S.eqs (s6.1 _ (by omega) (by omega) (by omega) (by omega) (by omega)) (fun i hi => s6.1 _ (by omega) (by omega) (by omega) (by omega) (by omega))).ag (by rw [g2 6 (by omega)]; exact h6) g2.sy
            · exact (S6 j (by omega) j2).ag (by rw [g2 6 (by omega)]; exact h6) g2.sy
          · rw [s6.1 c c1 c2 c3 c4 (by omega), t52 c (by omega) c4 c2, hs.1 c c1 c2 c3 c4 c5]
          · rw [s6.2 j (by omega), t5 68 (by omega) (by omega), e4, st_nj (by omega), t3 68 (by omega), hs.2 j hj]
          · unfold lpA
            rw [← eto]; exact P7
        rw [nI_add, nI_add, nI_add, n0, nI_eq (by omega) (by omega)]
        exact ⟨fun q => nxt5 (to + 1) (by rw [if_neg q]), fun q => nxt5 to (by rw [if_pos q])⟩
    refine S_X5_explore _ _ _ ⟨dd, rfl, by omega, ?_⟩
    rw [hP.1, nI_ltI (by omega) (by omega)]
    refine ⟨fun _ => ⟨dd + 1, by rw [nI_add], by omega, lp (T 6 + 1) 0 A I (by omega) ?_ hP hS (SP.rf _ _) (fun I3 P3 S3 s3 => hQ I3 ?_ S3 s3)⟩, fun q => by omega⟩
    · have : (T 6 + 1) * 7 ^ n ≤ 7 * 7 ^ n := Nat.mul_le_mul_right _ (by omega)
      omega
    · unfold exF
      rw [hdd]; exact P3
/-! the planner begins -/
theorem x_begin_loop {len : Nat} (hl : len ≤ 4) (h6 : T 6 ≤ 6) (h8 : T 8 ≤ 6) : ∀ (n i : Nat) (I : IH), i + n = len + 1 → I 66 3 = nI len → EvR I 33 34 T → (∀ j, j < i → EvR I (70 + 9 * j) (71 + 9 * j) T) → (∀ I2, (∀ j, j ≤ len → EvR I2 (70 + 9 * j) (71 + 9 * j) T) → I2 66 = I 66 → (∀ a, (a < 70 ∨ 114 < a) → I2 a = I a) → Q none I2) → J E (d + 4) mX5_begin 23 [(0, .ref (eb E + 66)), (1, .ref (eb E + 33)), (3, .int (nI i))] [] I Q := by
  intro n
  induction n with
  | zero =>
    intro i I hi h3 h hL hQ
    refine S_X5_begin_23 isEv_ev _ ?_
    rw [h3, nI_ltI (by omega) (by omega)]
    exact ⟨fun _ => hQ I (fun j hj => hL j (by omega)) rfl (fun _ _ => rfl), fun q => by omega⟩
  | succ n ih =>
    intro i I hi h3 h hL hQ
    refine S_X5_begin_23 isEv_ev _ ?_
    rw [h3, nI_ltI (by omega) (by omega)]
    refine ⟨fun q => by omega, fun _ => ⟨i, rfl, by omega, c_become (levels_ev (j := i) (by omega)) isEv_ev (by omega) h h6 h8 (fun I2 h2 s2 e6 e9 => ⟨rfl, ?_⟩)⟩⟩
    have t : ∀ a, (a < 70 + 9 * i ∨ 78 + 9 * i < a) → I2 a = I a := fun a ha => s2 a (by simp; omega)
    rw [nI_add]
    refine ih (i + 1) I2 (by omega) (by rw [t 66 (by omega)]; exact h3) (h.eqs (t _ (by omega)) (fun q hq => t _ (by omega))) (fun j hj => ?_) (fun I3 L3 e3 s3 => hQ I3 L3 (by rw [e3, t 66 (by omega)]) (fun a ha => by rw [s3 a ha, t a (by omega)]))
    by_cases ej : j = i
    · subst ej; exact h2
    · exact (hL j (by omega)).eqs (t _ (by omega)) (fun q hq => t _ (by omega))
theorem x_begin {n : Nat} (h : EvR I 33 34 T) (hW : WfE T) (h8 : T 8 ≤ 6) (h01 : T 0 ≤ T 1) (hn : n ≤ 4) (hQ : ∀ I2, (∀ j, j ≤ min n (T 1 - T 0) → EvR I2 (70 + 9 * j) (71 + 9 * j) T) → I2 66 3 = nI (min n (T 1 - T 0)) → (∀ a, a ≠ 66 → (a < 70 ∨ 114 < a) → I2 a = I a) → Q none I2) : Mt E (d + 4) mX5_begin [.ref (eb E + 66), .ref (eb E + 33), .int (nI n)] I Q := by
  have h0 : T 0 ≤ 16 := hW.2.1
  have h1 : T 1 ≤ 16 := hW.2.2.1
  refine S_X5_begin isEv_ev _ (fun I1 e1 => ?_)
  have es : nI (T 1) - nI (T 0) = nI (T 1 - T 0) := pk_sub (by omega)
  rw [h.1, h.2.1, es, nI_minB (by omega) (by omega), nI_maxB (by omega) (by omega), Nat.max_zero] at e1
  have t : ∀ a, a ≠ 66 → I1 a = I a := fun a ha => by rw [e1, st_ne ha]
  refine x_begin_loop (len := min n (T 1 - T 0)) (by omega) hW.1 h8 (min n (T 1 - T 0) + 1) 0 I1 (by omega) (by rw [e1, st_at]) (h.eqs (t _ (by omega)) (fun q hq => t _ (by omega))) (fun j hj => by omega) (fun I2 L2 e2 s2 => hQ I2 L2 (by rw [e2, e1, st_at]) (fun a ha h2 => by rw [s2 a h2, t a ha]))
noncomputable def srA (w : Int32) (T : Nat → Nat) (n : Nat) : Acc := exF w (min n (T 1 - T 0)) (min n (T 1 - T 0)) T 0 0 (fun _ => 0) (0, 0, 5, nI 0, fun _ => 0)
theorem x_search {n : Nat} {w : Int32} (h : EvR I 33 34 T) (hr : RuR I 27 T) (hW : WfE T) (hR : WfR T) (h8 : T 8 ≤ 6) (h01 : T 0 ≤ T 1) (hn : n ≤ 4) (hQ : ∀ I2, PlC I2 (min n (T 1 - T 0)) w (srA w T n) → (∀ a, a ≠ 66 → a ≠ 68 → a ≠ 69 → a ≠ 32 → (a < 70 ∨ 114 < a) → I2 a = I a) → Q none I2) : Mt E (d + 20) mX5_search [.ref (eb E + 66), .ref (eb E + 33), .int (nI n), .int w] I Q := by
  refine S_X5_search isEv_ev _ _ (x_begin h hW h8 h01 hn (fun I1 L1 e1 s1 => ⟨rfl, fun I2 q2 I4 q4 I6 q6 I8 q8 I10 q10 => ?_⟩))
  have t : ∀ a, a ≠ 66 → I10 a = I1 a := fun a ha => by rw [q10, st_ne ha, q8, st_ne ha, q6, st_ne ha, q4, st_ne ha, q2, st_ne ha]
  obtain ⟨len, hlen⟩ : ∃ len, len = min n (T 1 - T 0) := ⟨_, rfl⟩
  have hl4 : len ≤ 4 := by omega
  obtain ⟨d2, hd2⟩ : ∃ d2, d + 19 = d2 + len + 8 := ⟨d + 11 - len, by omega⟩
  rw [hd2]
  unfold srA at hQ
  rw [← hlen] at L1 e1 hQ
  have c66 : ∀ s, s ≠ 4 → s ≠ 5 → s ≠ 6 → s ≠ 7 → s ≠ 8 → I10 66 s = I1 66 s := fun s a4 a5 a6 a7 a8 => by rw [q10, st_nj a8, q8, st_nj a7, q6, st_nj a4, q4, st_nj a5, q2, st_nj a6]
  have p7 : 7 ^ len ≤ 7 ^ 4 := Nat.pow_le_pow_right (by omega) hl4
  refine x_explore (w := w) hl4 len 0 T 0 0 (fun _ => 0) (0, 0, 5, nI 0, fun _ => 0) I10 _ (by omega) ((L1 0 (by omega)).eqs (t _ (by omega)) (fun i hi => t _ (by omega))) (fun j j1 j2 => ((L1 j j2).eqs (t _ (by omega)) (fun i hi => t _ (by omega))).S) ?_ hW hR (by omega) ⟨by rw [c66 3 (by omega) (by omega) (by omega) (by omega) (by omega)]; exact e1, ?_, ?_, ?_, ?_, ?_, fun z => absurd rfl z, Nat.zero_le _, Nat.le_refl _⟩ (fun j hj => by omega) ?_ (by omega) (by omega) (fun I12 P12 S12 s12 => ⟨rfl, hQ I12 P12 (fun a h1 h2 h3 h4 h5 => ?_)⟩)
  · exact hr.eqs (fun i hi => by rw [t _ (by omega), s1 _ (by omega) (by omega)])
  · rw [q10, st_nj (by omega), q8, st_nj (by omega), q6, st_nj (by omega), q4, st_nj (by omega), q2, st_at]
  · rw [q10, st_nj (by omega), q8, st_nj (by omega), q6, st_at]
  · rw [q10, st_nj (by omega), q8, st_nj (by omega), q6, st_nj (by omega), q4, st_at]
  · rw [q10, st_nj (by omega), q8, st_at]
  · rw [q10, st_at]
  · show 0 + 7 ^ len ≤ 10000
    omega
  · rw [s12.1 a h1 h2 h3 h4 (by omega), t a h1, s1 a h1 (by omega)]
end P12
