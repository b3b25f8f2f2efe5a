section P15
variable {E : EE} {d : Nat} {I : IH} {Q : QT} {T : Nat → Nat} {k e g r e1 g1 r1 : Nat} {x1 x2 x3 x4 : Int32}
/-! the best plan's acts are acts -/
theorem lpA_bp {f : Nat → Acc → Acc} {B len t : Nat} (hf : ∀ a A, a ≤ t → (A.2.1 ≠ 0 → ∀ j, j < len → A.2.2.2.2 j ≤ B) → ∀ j, j < len → (f a A).2.2.2.2 j ≤ B) : ∀ (m a : Nat) (A : Acc), a + m ≤ t + 1 → 0 < m → (A.2.1 ≠ 0 → ∀ j, j < len → A.2.2.2.2 j ≤ B) → ∀ j, j < len → (lpA f m a A).2.2.2.2 j ≤ B := by
  intro m
  induction m with
  | zero => intro a A _ h; omega
  | succ m ih =>
    intro a A ha _ hA
    have h1 := hf a A (by omega) hA
    unfold lpA
    by_cases hm : 0 < m
    · exact ih (a + 1) (f a A) (by omega) hm (fun _ => h1)
    · have : m = 0 := by omega
      subst this
      unfold lpA
      exact h1
theorem exF_bp (w : Int32) {len B : Nat} : ∀ (n : Nat) (T : Nat → Nat) (wo to : Nat) (pl : Nat → Nat) (A : Acc), n ≤ len → WfE T → T 0 + n ≤ T 1 → T 6 = B → (∀ j, j < len - n → pl j ≤ B) → (A.2.1 ≠ 0 → ∀ j, j < len → A.2.2.2.2 j ≤ B) → ∀ j, j < len → (exF w len n T wo to pl A).2.2.2.2 j ≤ B := by
  intro n
  induction n with
  | zero =>
    intro T wo to pl A _ hW h0 h6 hp hA j hj
    unfold exF nte
    show (if A.2.1 = 0 ∨ A.1 < wo then pl else A.2.2.2.2) j ≤ B
    by_cases h : A.2.1 = 0 ∨ A.1 < wo
    · rw [if_pos h]; exact hp j (by omega)
    · rw [if_neg h]; exact hA (by omega) j hj
  | succ n ih =>
    intro T wo to pl A hn hW h0 h6 hp hA
    have h1 : T 1 ≤ 16 := hW.2.2.1
    unfold exF
    refine lpA_bp (t := T 6) (fun a A2 ha hA2 => ?_) (T 6 + 1) 0 A (by omega) (by omega) hA
    obtain ⟨g1, g2, g3⟩ := wf_goA hW (by omega) ha
    refine ih _ _ _ _ _ (by omega) g1 (by rw [g3, g2 1 (by omega)]; omega) (by rw [g2 6 (by omega)]; exact h6) (fun j hj => ?_) hA2
    by_cases ej : j = len - (n + 1)
    · subst ej; rw [up_eq]; omega
    · rw [up_ne ej]; exact hp j (by omega)
theorem srA_bp (w : Int32) {n : Nat} (hW : WfE T) (h01 : T 0 ≤ T 1) : ∀ j, j < min n (T 1 - T 0) → (srA w T n).2.2.2.2 j ≤ T 6 := by
  unfold srA
  exact exF_bp w _ T 0 0 _ _ (Nat.le_refl _) hW (by omega) rfl (fun j hj => by omega) (fun z => absurd rfl z)
/-- the evening behind the first k acts of a plan -/
noncomputable def prT (bp : Nat → Nat) (T : Nat → Nat) : Nat → (Nat → Nat)
  | 0 => T
  | k + 1 => (goA (prT bp T k) (bp k)).1
theorem prT_wf {bp : Nat → Nat} {len : Nat} (hW : WfE T) (h0 : T 0 + len ≤ T 1) (hb : ∀ j, j < len → bp j ≤ T 6) : ∀ k, k ≤ len → WfE (prT bp T k) ∧ Ag T (prT bp T k) ∧ prT bp T k 0 = T 0 + k := by
  have h1 : T 1 ≤ 16 := hW.2.2.1
  intro k
  induction k with
  | zero => intro _; exact ⟨hW, Ag.rf T, rfl⟩
  | succ k ih =>
    intro hk
    obtain ⟨i1, i2, i3⟩ := ih (by omega)
    obtain ⟨g1, g2, g3⟩ := wf_goA i1 (a := bp k) (by omega) (by rw [i2 6 (by omega)]; exact hb k (by omega))
    unfold prT
    exact ⟨g1, i2.tr g2, by rw [g3, i3]; omega⟩
def rwq (f : Nat → Int32) (bp : Nat → Nat) (T : Nat → Nat) (q : Nat) : Prop := f (3 * q) = nI (bp q) ∧ f (3 * q + 1) = nI (goA (prT bp T q) (bp q)).2 ∧ f (3 * q + 2) = nI (swn (prT bp T (q + 1)))
theorem rw_eq {f h : Nat → Int32} {bp : Nat → Nat} {len : Nat} (hf : ∀ q, q < len → rwq f bp T q) (hh : ∀ q, q < len → rwq h bp T q) : ∀ i, i < 3 * len → f i = h i := by
  intro i hi
  obtain ⟨a1, a2, a3⟩ := hf (i / 3) (by omega)
  obtain ⟨b1, b2, b3⟩ := hh (i / 3) (by omega)
  have h3 := Nat.mod_lt i (show 0 < 3 by omega)
  rcases (show i = 3 * (i / 3) ∨ i = 3 * (i / 3) + 1 ∨ i = 3 * (i / 3) + 2 by omega) with e | e | e
  · rw [e, a1, b1]
  · rw [e, a2, b2]
  · rw [e, a3, b3]
theorem x_prove_loop {len : Nat} {bp : Nat → Nat} (hl : len ≤ 4) (hW : WfE T) (hR : WfR T) (h0 : T 0 + len ≤ T 1) (hb : ∀ j, j < len → bp j ≤ T 6) : ∀ (n k : Nat) (I : IH), k + n = len → I 0 9 = nI len → (∀ j, j < len → I 69 j = nI (bp j)) → (∀ q, q < k → rwq (I 13) bp T q) → EvR I 57 58 (prT bp T k) → RuR I 27 (prT bp T k) → (∀ I2, (∀ q, q < len → rwq (I2 13) bp T q) → Same [13, 32, 57, 58, 59, 60, 61, 62, 63, 64, 65] I I2 → Q (some (.int (nI len))) I2) → J E (d + 6) mX11_prove 47 [(0, .ref (eb E + 0)), (2, .int (nI k))] [] I Q := by
  intro n
  induction n with
  | zero =>
    intro k I hk h9 h69 hq h hr hQ
    refine S_X11_prove_47 _ ?_
    rw [h9, nI_leI (by omega) (by omega)]
    exact ⟨fun _ => hQ I (fun q z => hq q (by omega)) (Same.rf _ _), fun q => by omega⟩
  | succ n ih =>
    intro k I hk h9 h69 hq h hr hQ
    obtain ⟨w1, w2, w3⟩ := prT_wf hW h0 hb k (by omega)
    have hbk : bp k ≤ prT bp T k 6 := by rw [w2 6 (by omega)]; exact hb k (by omega)
    have h1 : T 1 ≤ 16 := hW.2.2.1
    obtain ⟨g1, g2, g3⟩ := wf_goA w1 (by omega) hbk
    refine S_X11_prove_47 _ ?_
    rw [h9, nI_leI (by omega) (by omega)]
    refine ⟨fun q => by omega, fun _ => ⟨k, rfl, by omega, 3 * k, (ix3 k 0).2.1, by omega, fun I4 e4 => ?_⟩⟩
    rw [h69 k (by omega)] at e4 ⊢
    have s4 : Same [13] I I4 := by rw [e4]; exact Same.st (by simp)
    refine c_kgo isEv_tr (h.same s4 (by simp) (fun i hi => by simp; omega)) (hr.same s4 (fun i hi => by simp; omega)) w1 (w2.R hR) rfl hbk (fun I9 h9' G9 => ⟨_, rfl, 3 * k + 1, (ix3 k 1).1, by omega, fun I11 e11 => ⟨3 * k + 2, (ix3 k 2).1, by omega, fun I16 e16 => ?_⟩⟩)
    have s11 : Same [13] I9 I11 := by rw [e11]; exact Same.st (by simp)
    have s16 : Same [13] I11 I16 := by rw [e16]; exact Same.st (by simp)
    have z57 : I11 57 8 = nI (swn (prT bp T (k + 1))) := by rw [s11 57 (by simp)]; exact h9'.2.2.2.2.2.1
    rw [z57] at e16
    have hr9 : RuR I9 27 (prT bp T k) := (hr.same s4 (fun i hi => by simp; omega)).ke isEv_tr G9.1
    have sa : Same [13, 32, 57, 58, 59, 60, 61, 62, 63, 64, 65] I I16 := (((s4.mono (by simp)).tr (G9.1.mono (by simp))).tr (s11.mono (by simp))).tr (s16.mono (by simp))
    have c13 : ∀ i, i ≠ 3 * k → i ≠ 3 * k + 1 → i ≠ 3 * k + 2 → I16 13 i = I 13 i := fun i f1 f2 f3 => by rw [e16, st_nj f3, e11, st_nj f2, G9.1 13 (by simp), e4, st_nj f1]
    rw [nI_add]
    refine ih (k + 1) I16 (by omega) (by rw [sa 0 (by simp)]; exact h9) (fun j hj => by rw [sa 69 (by simp)]; exact h69 j hj) (fun q hq2 => ?_) ((h9'.same s11 (by simp) (fun i hi => by simp; omega)).same s16 (by simp) (fun i hi => by simp; omega)) (g2.ru ((hr9.same s11 (fun i hi => by simp; omega)).same s16 (fun i hi => by simp; omega))) (fun I17 q17 s17 => hQ I17 q17 (sa.tr s17))
    by_cases eq : q = k
    · subst eq
      refine ⟨?_, ?_, ?_⟩
      · rw [e16, st_nj (by omega), e11, st_nj (by omega), G9.1 13 (by simp), e4, st_at]
      · rw [e16, st_nj (by omega), e11, st_at]
      · rw [e16, st_at]
    · obtain ⟨b1, b2, b3⟩ := hq q (by omega)
      exact ⟨by rw [c13 _ (by omega) (by omega) (by omega)]; exact b1, by rw [c13 _ (by omega) (by omega) (by omega)]; exact b2, by rw [c13 _ (by omega) (by omega) (by omega)]; exact b3⟩
theorem m_prove_loop {len : Nat} {bp : Nat → Nat} {sc z : Int32} (hl : len ≤ 4) (hW : WfE T) (hR : WfR T) (h0 : T 0 + len ≤ T 1) (hb : ∀ j, j < len → bp j ≤ T 6) : ∀ (n k : Nat) (I : IH), k + n = len → I 115 28 = nI len → (∀ j, j < len → I 126 j = nI (bp j)) → (∀ q, q < k → rwq (I 128) bp T q) → RM I (prT bp T k) → Laid I T sc z → (∀ I2, (∀ q, q < len → rwq (I2 128) bp T q) → RM I2 T → I2 116 2 = sc → I2 116 5 = z → Same [116, 118, 119, 128] I I2 → Q (some (.int (nI len))) I2) → J E (d + 7) mX12_prove 30 [(0, .ref (eb E + 115)), (2, .int (nI k))] [] I Q := by
  intro n
  induction n with
  | zero =>
    intro k I hk h9 h69 hq h L hQ
    obtain ⟨w1, w2, w3⟩ := prT_wf hW h0 hb k (by omega)
    refine S_X12_prove_30 _ ?_
    rw [h9, nI_leI (by omega) (by omega)]
    refine ⟨fun _ => c_layBack (fun I1 b1 b2 s1 => ⟨rfl, ?_⟩), fun q => by omega⟩
    obtain ⟨m1, m2, m5⟩ := laid_back L h (fun j hj => w2 j (by omega)) b1 b2
    rw [s1 115 (by simp), h9]
    exact hQ I1 (fun q hq2 => by rw [s1 128 (by simp)]; exact hq q (by omega)) m1 m2 m5 (s1.mono (by simp))
  | succ n ih =>
    intro k I hk h9 h69 hq h L hQ
    obtain ⟨w1, w2, w3⟩ := prT_wf hW h0 hb k (by omega)
    have hbk : bp k ≤ prT bp T k 6 := by rw [w2 6 (by omega)]; exact hb k (by omega)
    have h1 : T 1 ≤ 16 := hW.2.2.1
    obtain ⟨g1, g2, g3⟩ := wf_goA w1 (by omega) hbk
    refine S_X12_prove_30 _ ?_
    rw [h9, nI_leI (by omega) (by omega)]
    refine ⟨fun q => by omega, fun _ => ⟨k, rfl, by omega, 3 * k, (ix3 k 0).2.2.2, by omega, fun I4 e4 => ⟨k, rfl, by omega, ?_⟩⟩⟩
    have s4 : Same [128] I I4 := by rw [e4]; exact Same.st (by simp)
    rw [s4 126 (by simp), h69 k (by omega)]
    rw [h69 k (by omega)] at e4
    refine c_goesA (h.same s4 (by simp)) w1 (w2.R hR) rfl hbk (fun I9 r9 G9 => ⟨_, rfl, 3 * k + 1, (ix3 k 1).2.2.1, by omega, fun I11 e11 => ?_⟩)
    have s11 : Same [128] I9 I11 := by rw [e11]; exact Same.st (by simp)
    refine c_those (r9.same s11 (by simp)) g1 rfl ⟨_, rfl, 3 * k + 2, (ix3 k 2).2.2.1, by omega, fun I16 e16 => ?_⟩
    have s16 : Same [128] I11 I16 := by rw [e16]; exact Same.st (by simp)
    have sa : Same [116, 118, 119, 128] I I16 := (((s4.mono (by simp)).tr (G9.1.mono (by simp))).tr (s11.mono (by simp))).tr (s16.mono (by simp))
    have sl : I16 118 = I 118 := by rw [s16 118 (by simp), s11 118 (by simp), G9.1 118 (by simp), s4 118 (by simp)]
    have c13 : ∀ i, i ≠ 3 * k → i ≠ 3 * k + 1 → i ≠ 3 * k + 2 → I16 128 i = I 128 i := fun i f1 f2 f3 => by rw [e16, st_nj f3, e11, st_nj f2, G9.1 128 (by simp), e4, st_nj f1]
    rw [nI_add]
    refine ih (k + 1) I16 (by omega) (by rw [sa 115 (by simp)]; exact h9) (fun j hj => by rw [sa 126 (by simp)]; exact h69 j hj) (fun q hq2 => ?_) ((r9.same s11 (by simp)).same s16 (by simp)) (by unfold Laid; rw [sl]; exact L) (fun I17 q17 r17 f2 f5 s17 => hQ I17 q17 r17 f2 f5 (sa.tr s17))
    by_cases eq : q = k
    · subst eq
      refine ⟨?_, ?_, ?_⟩
      · rw [e16, st_nj (by omega), e11, st_nj (by omega), G9.1 128 (by simp), e4, st_at]
      · rw [e16, st_nj (by omega), e11, st_at]
      · rw [e16, st_at]; rfl
    · obtain ⟨b1, b2, b3⟩ := hq q (by omega)
      exact ⟨by rw [c13 _ (by omega) (by omega) (by omega)]; exact b1, by rw [c13 _ (by omega) (by omega) (by omega)]; exact b2, by rw [c13 _ (by omega) (by omega) (by omega)]; exact b3⟩
theorem p_prove (hI : Inv I) : Pair E (d + 40) mX11_prove mX12_prove [.int x1] [.int x1] I := by
  obtain ⟨T, h⟩ := id hI
  obtain ⟨a1, a2, a3, a4, a5, a6⟩ := id h
  obtain ⟨o1, o2, o3, o4, o5, o6⟩ := id a6
  have h01 : T 0 ≤ T 1 := a2.2.2.2.1
  by_cases ok : inr x1 0 4
  · obtain ⟨n, hn, -, hn2⟩ := inr_n ok
    subst hn
    have hb := srA_bp (nI 0) (n := n) a2.1 h01
    have hl4 : min n (T 1 - T 0) ≤ 4 := by omega
    have hl0 : T 0 + min n (T 1 - T 0) ≤ T 1 := by omega
    refine ⟨nI (min n (T 1 - T 0)), fun I1 => (∀ q, q < min n (T 1 - T 0) → rwq (I1 13) (srA (nI 0) T n).2.2.2.2 T q) ∧ I1 0 9 = nI (min n (T 1 - T 0)) ∧ (∀ s, s ≠ 9 → I1 0 s = I 0 s) ∧ ∀ a, a ≠ 0 → a ≠ 13 → a ≠ 32 → (a < 57 ∨ 114 < a) → I1 a = I a, fun Q hQ => S_X11_prove _ (d_isWithin (by omega) ⟨_, rfl, bk2 (fun _ => x_search a3.1 a3.2 a2.1 a2.2.1 a2.2.2.1.1 h01 hn2 (fun I2 P2 s2 => ⟨rfl, ?_⟩)) (fun q => absurd ok q)⟩), fun I1 ⟨b1, b2, b3, b4⟩ Q hQ => S_X12_prove _ (m_isPlan ⟨_, rfl, bk2 (fun _ => ?_) (fun q => absurd ok q)⟩)⟩
    · have ev2 : EvR I2 33 34 T := a3.1.eqs (s2 _ (by omega) (by omega) (by omega) (by omega) (by omega)) (fun i hi => s2 _ (by omega) (by omega) (by omega) (by omega) (by omega))
      refine c_become isEv_tr isEv_ev (by omega) ev2 a2.1.1 a2.2.2.1.1 (fun I4 h4 s4 e6 e9 => ⟨rfl, fun I5 e5 => ?_⟩)
      have z66 : I4 66 3 = nI (min n (T 1 - T 0)) := by rw [s4 66 (by simp)]; exact P2.1
      rw [z66] at e5
      have s5 : Same [0] I4 I5 := by rw [e5]; exact Same.st (by simp)
      have t5 : ∀ a, a ≠ 0 → (a < 57 ∨ 65 < a) → I5 a = I2 a := fun a h1 h2 => by rw [s5 a (by simp; omega), s4 a (by simp; omega)]
      have ru5 : RuR I5 27 T := a3.2.eqs (fun i hi => by rw [t5 _ (by omega) (by omega), s2 _ (by omega) (by omega) (by omega) (by omega) (by omega)])
      refine x_prove_loop (bp := (srA (nI 0) T n).2.2.2.2) hl4 a2.1 a2.2.1 hl0 hb (min n (T 1 - T 0)) 0 I5 (by omega) (by rw [e5, st_at]) (fun j hj => ?_) (fun q hq => by omega) (h4.same s5 (by simp) (fun i hi => by simp)) ru5 (fun I6 q6 s6 => hQ I6 ⟨q6, ?_, fun s hs => ?_, fun a f1 f2 f3 f4 => ?_⟩)
      · rw [t5 69 (by omega) (by omega)]; exact P2.2.2.2.2.2.2.1 (srA_pos _ _ _) j hj
      · rw [s6 0 (by simp), e5, st_at]
      · rw [s6 0 (by simp), e5, st_nj hs, s4 0 (by simp), s2 0 (by omega) (by omega) (by omega) (by omega) (by omega)]
      · rw [s6 a (by simp; omega), t5 a f1 (by omega)]
        by_cases h66 : a < 57
        · exact s2 a (by omega) (by omega) (by omega) f3 (by omega)
        · exact s2 a (by omega) (by omega) (by omega) f3 (by omega)
    · have r1 : RM I1 T := a1.eqs (fun j _ => by rw [b4 116 (by omega) (by omega) (by omega) (by omega)])
      refine m_triesAll r1 a2.1 a2.2.1 h01 hn2 (by omega) (fun I2 P2 s2 => ⟨rfl, ?_⟩)
      have r2 : RM I2 T := r1.eqs s2.2.2.1
      refine m_daysOf r2 a2.1 h01 hn2 ⟨_, rfl, fun I6 e6 => ?_⟩
      have s6 : Same [115] I2 I6 := by rw [e6]; exact Same.st (by simp)
      have r6 : RM I6 T := r2.same s6 (by simp)
      refine c_layDown (fun I8 l8 s8 => ⟨rfl, ?_⟩)
      have e116 : ∀ j, j < 322 → I6 116 j = I 116 j := fun j hj => by rw [s6 116 (by simp), s2.2.2.1 j hj, b4 116 (by omega) (by omega) (by omega) (by omega)]
      refine m_prove_loop (bp := (srA (nI 0) T n).2.2.2.2) hl4 a2.1 a2.2.1 hl0 hb (min n (T 1 - T 0)) 0 I8 (by omega) (by rw [s8 115 (by simp), e6, st_at]) (fun j hj => ?_) (fun q hq => by omega) (r6.same s8 (by simp)) (laid_of r6 l8) (fun I9 q9 r9 f2 f5 s9 => hQ I9 ⟨T, ?_⟩)
      · rw [s8 126 (by simp), s6 126 (by simp)]; exact P2.2.2.2.2.1 (srA_pos _ _ _) j hj
      have m : ∀ s, s ≠ 21 → s ≠ 22 → s ≠ 23 → s ≠ 24 → s ≠ 28 → I9 115 s = I 115 s := fun s g1 g2 g3 g4 g5 => by rw [s9 115 (by simp), s8 115 (by simp), e6, st_nj g5, s2.2.1 s g1 g2 g3 g4, b4 115 (by omega) (by omega) (by omega) (by omega)]
      have c1 : ∀ a, a ≠ 115 → a ≠ 116 → a ≠ 118 → a ≠ 119 → a ≠ 124 → a ≠ 125 → a ≠ 126 → a ≠ 128 → I9 a = I1 a := fun a d1 d2 d3 d4 d5 d6 d7 d8 => by rw [s9 a (by simp; omega), s8 a (by simp; omega), s6 a (by simp; omega), s2.1 a d1 d2 d4 d5 d6 d7]
      have c2 : ∀ a, a ≠ 0 → a ≠ 13 → a ≠ 32 → (a < 57 ∨ (128 < a)) → I9 a = I a := fun a d1 d2 d3 d4 => by rw [c1 a (by omega) (by omega) (by omega) (by omega) (by omega) (by omega) (by omega) (by omega), b4 a d1 d2 d3 (by omega)]
      have c3 : ∀ a, a = 117 ∨ a = 120 ∨ a = 121 → I9 a = I a := fun a d1 => by rw [c1 a (by omega) (by omega) (by omega) (by omega) (by omega) (by omega) (by omega) (by omega), b4 a (by omega) (by omega) (by omega) (by omega)]
      have z0 : ∀ s, s ≠ 9 → I9 0 s = I 0 s := fun s hs => by rw [c1 0 (by omega) (by omega) (by omega) (by omega) (by omega) (by omega) (by omega) (by omega), b3 s hs]
      refine ⟨r9, a2, a3.eqs (fun a ha => ?_), ?_, ?_, o1.eqs (z0 3 (by omega)) (m 3 (by omega) (by omega) (by omega) (by omega) (by omega)) (fun a ha => ?_), o2.eqs (by rw [c2 1 (by omega) (by omega) (by omega) (by omega)]) (m 6 (by omega) (by omega) (by omega) (by omega) (by omega)) (c3 _ (by omega)) (c2 _ (by omega) (by omega) (by omega) (by omega)), ⟨min n (T 1 - T 0), hl4, ?_, ?_, rw_eq (fun q hq => ?_) q9⟩, o4.eqs (fun a ha => by
        by_cases h121 : a = 121
        · exact c3 a (by omega)
        · exact c2 a (by omega) (by omega) (by omega) (by omega)), o5.eqs (fun a ha => c2 a (by omega) (by omega) (by omega) (by omega)), o6.eqs (by rw [c2 11 (by omega) (by omega) (by omega) (by omega)]) (m 35 (by omega) (by omega) (by omega) (by omega) (by omega)) (c2 _ (by omega) (by omega) (by omega) (by omega)) (c2 _ (by omega) (by omega) (by omega) (by omega))⟩
      · have : a ≠ 0 ∧ a ≠ 13 ∧ a ≠ 32 ∧ a < 57 := by revert a; decide
        exact c2 a this.1 this.2.1 this.2.2.1 (Or.inl this.2.2.2)
      · rw [c2 33 (by omega) (by omega) (by omega) (by omega), f2, e116 2 (by omega)]; exact a4
      · rw [c2 33 (by omega) (by omega) (by omega) (by omega), f5, e116 5 (by omega)]; exact a5
      · rcases ha with rfl | ha
        · exact c3 _ (by omega)
        · exact c2 a (by omega) (by omega) (by omega) (by omega)
      · rw [c1 0 (by omega) (by omega) (by omega) (by omega) (by omega) (by omega) (by omega) (by omega)]; exact b2
      · rw [s9 115 (by simp), s8 115 (by simp), e6, st_at]
      · rw [c1 13 (by omega) (by omega) (by omega) (by omega) (by omega) (by omega) (by omega) (by omega)]; exact b1 q hq
  · exact Pair.pure hI (-1) (fun Q hQ => S_X11_prove _ (d_isWithin (by omega) ⟨_, rfl, bk2 (fun p => absurd p ok) (fun _ => hQ)⟩)) (fun Q hQ => S_X12_prove _ (m_isPlan ⟨_, rfl, bk2 (fun p => absurd p ok) (fun _ => hQ)⟩))
end P15
