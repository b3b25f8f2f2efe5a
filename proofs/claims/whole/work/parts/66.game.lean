section P16
variable {E : EE} {d : Nat} {I : IH} {Q : QT} {T : Nat → Nat} {k e g r e1 g1 r1 : Nat} {x1 x2 x3 x4 : Int32}
/-! a game -/
def vlp (dd : Nat) (f : Nat → Nat) : Nat → Nat → Nat → Nat → Nat × Nat
  | 0, _, v, c => (v, c)
  | m + 1, a, v, c => if a = 0 ∨ (if dd % 2 = 0 then v < f a else f a < v) then vlp dd f m (a + 1) (f a) a else vlp dd f m (a + 1) v c
noncomputable def vlF : Nat → Nat → (Nat → Nat) → Nat × Nat
  | 0, _, _ => (0, 0)
  | n + 1, dd, T => vlp dd (fun a => (goA T a).2 + (vlF n (dd + 1) (goA T a).1).1) (T 6 + 1) 0 0 0
theorem vlp_le {dd B : Nat} {f : Nat → Nat} (hf : ∀ a, f a ≤ B) : ∀ (m a v c : Nat), v ≤ B → (vlp dd f m a v c).1 ≤ B := by
  intro m
  induction m with
  | zero => intro a v c h; exact h
  | succ m ih =>
    intro a v c h
    unfold vlp
    by_cases q : a = 0 ∨ (if dd % 2 = 0 then v < f a else f a < v)
    · rw [if_pos q]; exact ih _ _ _ (hf a)
    · rw [if_neg q]; exact ih _ _ _ h
theorem vlF_le : ∀ (n dd : Nat) (T : Nat → Nat), (vlF n dd T).1 ≤ 13 * n := by
  intro n
  induction n with
  | zero => intro dd T; exact Nat.le_refl _
  | succ n ih =>
    intro dd T
    unfold vlF
    refine vlp_le (fun a => ?_) _ _ _ _ (by omega)
    have h1 := goA_le T a
    have h2 := ih (dd + 1) (goA T a).1
    show (goA T a).2 + (vlF n (dd + 1) (goA T a).1).1 ≤ 13 * (n + 1)
    omega
/-- but the planner's cells, from depth dd on, all is as it was -/
def SV (dd : Nat) (I I2 : IH) : Prop := (∀ a, a ≠ 69 → a ≠ 32 → (a < 79 + 9 * dd ∨ 114 < a) → I2 a = I a) ∧ ∀ j, j < dd → I2 69 j = I 69 j
theorem SV.rf (dd : Nat) (I : IH) : SV dd I I := ⟨fun _ _ _ _ => rfl, fun _ _ => rfl⟩
theorem x_value {len : Nat} (hl : len ≤ 4) : ∀ (n dd : Nat) (T : Nat → Nat) (I : IH) (Q : QT), dd + n = len → EvR I (70 + 9 * dd) (71 + 9 * dd) T → (∀ j, dd < j → j ≤ len → EvS I (70 + 9 * j) (71 + 9 * j) T) → RuR I 27 T → WfE T → WfR T → T 0 + n ≤ T 1 → I 66 3 = nI len → (∀ I2, (0 < n → I2 69 dd = nI (vlF n dd T).2) → (∀ j, dd < j → j ≤ len → EvS I2 (70 + 9 * j) (71 + 9 * j) T) → SV dd I I2 → Q (some (.int (nI (vlF n dd T).1))) I2) → Mt E (d + n + 8) mX5_value [.ref (eb E + 66), .int (nI dd)] I Q := by
  intro n
  induction n with
  | zero =>
    intro dd T I Q hd h hS hr hW hR h01 h3 hQ
    refine S_X5_value _ ?_
    rw [h3, nI_ltI (by omega) (by omega)]
    exact ⟨fun q => by omega, fun _ => hQ I (fun z => by omega) hS (SV.rf _ _)⟩
  | succ n ih =>
    intro dd T I Q hd h hS hr hW hR h01 h3 hQ
    have h6 : T 6 ≤ 6 := hW.1
    have h1 : T 1 ≤ 16 := hW.2.2.1
    have ee : d + (n + 1) + 8 = (d + n + 8) + 1 := by omega
    rw [ee]
    have hE4 := levels_ev (j := dd) (by omega)
    have hE5 : isEv (70 + 9 * (dd + 1)) (71 + 9 * (dd + 1)) 27 := levels_ev (j := dd + 1) (by omega)
    obtain ⟨f, hf⟩ : ∃ f : Nat → Nat, f = fun a => (goA T a).2 + (vlF n (dd + 1) (goA T a).1).1 := ⟨_, rfl⟩
    have fa : ∀ a, f a = (goA T a).2 + (vlF n (dd + 1) (goA T a).1).1 := fun a => by rw [hf]
    have fle : ∀ a, f a ≤ 52 := fun a => by
      have h1 := goA_le T a
      have h2 := vlF_le n (dd + 1) (goA T a).1
      rw [fa]; omega
    have lp : ∀ (m a v c : Nat) (I2 : IH), a + m = T 6 + 1 → v ≤ 52 → (0 < a → I2 69 dd = nI c) → (∀ j, dd < j → j ≤ len → EvS I2 (70 + 9 * j) (71 + 9 * j) T) → SV dd I I2 → (∀ I3, (0 < a + m → I3 69 dd = nI (vlp dd f m a v c).2) → (∀ j, dd < j → j ≤ len → EvS I3 (70 + 9 * j) (71 + 9 * j) T) → SV dd I I3 → Q (some (.int (nI (vlp dd f m a v c).1))) I3) → J E (d + n + 8 + 1) mX5_value 32 [(0, .ref (eb E + 66)), (1, .int (nI dd)), (2, .ref (eb E + (70 + 9 * dd))), (3, .ref (eb E + (70 + 9 * (dd + 1)))), (4, .int (nI v)), (5, .int (nI a))] [] I2 Q := by
      intro m
      induction m with
      | zero =>
        intro a v c I2 ha hv hc hS2 hs hQ2
        have h2 : EvR I2 (70 + 9 * dd) (71 + 9 * dd) T := h.eqs (hs.1 _ (by omega) (by omega) (by omega)) (fun i hi => hs.1 _ (by omega) (by omega) (by omega))
        refine S_X5_value_32 _ hE4 hE5 _ _ ?_
        rw [h2.2.2.2.2.1, nI_ltI (by omega) (by omega)]
        exact ⟨fun _ => hQ2 I2 (fun _ => hc (by omega)) hS2 hs, fun q => by omega⟩
      | succ m ihm =>
        intro a v c I2 ha hv hc hS2 hs hQ2
        have h2 : EvR I2 (70 + 9 * dd) (71 + 9 * dd) T := h.eqs (hs.1 _ (by omega) (by omega) (by omega)) (fun i hi => hs.1 _ (by omega) (by omega) (by omega))
        have r2 : RuR I2 27 T := hr.eqs (fun i hi => hs.1 _ (by omega) (by omega) (by omega))
        have ha6 : a ≤ T 6 := by omega
        obtain ⟨g1, g2, g3⟩ := wf_goA hW (by omega) ha6
        refine S_X5_value_32 _ hE4 hE5 _ _ ?_
        rw [h2.2.2.2.2.1, nI_ltI (by omega) (by omega)]
        refine ⟨fun q => by omega, fun _ => c_moveTo hE5 hE4 (by omega) (hS2 (dd + 1) (by omega) (by omega)) h2 h6 (fun I3 h3' s3 e36 e39 => ⟨rfl, ?_⟩)⟩
        have t3 : ∀ c, (c < 79 + 9 * dd ∨ 87 + 9 * dd < c) → I3 c = I2 c := fun c hc => s3 c (by simp; omega)
        refine c_kgo hE5 h3' (r2.eqs (fun i hi => t3 _ (by omega))) hW hR rfl ha6 (fun I5 h5 G5 => ⟨_, rfl, ?_⟩)
        have t52 : ∀ c, (c < 79 + 9 * dd ∨ 87 + 9 * dd < c) → c ≠ 32 → I5 c = I2 c := fun c hc h32 => by rw [G5.1 c (by simp; omega), t3 c hc]
        have S5 : ∀ j, dd + 1 < j → j ≤ len → EvS I5 (70 + 9 * j) (71 + 9 * j) (goA T a).1 := fun j j1 j2 => ((hS2 j (by omega) j2).eqs (t52 _ (by omega) (by omega)) (fun i hi => t52 _ (by omega) (by omega))).ag h6 g2
        rw [nI_add dd 1]
        refine ih (dd + 1) (goA T a).1 I5 _ (by omega) h5 S5 (g2.ru (r2.eqs (fun i hi => t52 _ (by omega) (by omega)))) g1 (g2.R hR) (by rw [g3, g2 1 (by omega)]; omega) (by rw [t52 66 (by omega) (by omega), hs.1 66 (by omega) (by omega) (by omega)]; exact h3) (fun I6 c6 S6 s6 => ⟨_, rfl, ?_⟩)
        have S6' : ∀ j, dd < j → j ≤ len → EvS I6 (70 + 9 * j) (71 + 9 * j) T := fun j j1 j2 => by
          by_cases ej : j = dd + 1
          · subst ej
            exact (h5.S.eqs (s6.1 _ (by omega) (by omega) (by omega)) (fun i hi => s6.1 _ (by omega) (by omega) (by omega))).ag (by rw [g2 6 (by omega)]; exact h6) g2.sy
          · exact (S6 j (by omega) j2).ag (by rw [g2 6 (by omega)]; exact h6) g2.sy
        have s6' : SV dd I I6 := ⟨fun c c1 c2 c3 => by rw [s6.1 c c1 c2 (by omega), t52 c (by omega) c2, hs.1 c c1 c2 c3], fun j hj => by rw [s6.2 j (by omega), t52 69 (by omega) (by omega), hs.2 j hj]⟩
        have no : ¬ (a = 0 ∨ (if dd % 2 = 0 then v < f a else f a < v)) → J E (d + n + 8 + 1) mX5_value 32 [(0, .ref (eb E + 66)), (1, .int (nI dd)), (2, .ref (eb E + (70 + 9 * dd))), (3, .ref (eb E + (70 + 9 * (dd + 1)))), (4, .int (nI v)), (5, .int (nI a + nI 1))] [] I6 Q := by
          intro q
          unfold vlp at hQ2
          rw [if_neg q] at hQ2
          rw [nI_add]
          refine ihm (a + 1) v c I6 (by omega) hv (fun _ => ?_) S6' s6' (fun I7 c7 S7 s7 => hQ2 I7 (fun z => c7 (by omega)) S7 s7)
          rw [s6.2 dd (by omega), t52 69 (by omega) (by omega)]; exact hc (by omega)
        have yes : (a = 0 ∨ (if dd % 2 = 0 then v < f a else f a < v)) → ∃ j8 : Nat, nI dd = nI j8 ∧ j8 < 4 ∧ (∀ I6' : IH, I6' = stI I6 69 j8 (nI a) → J E (d + n + 8 + 1) mX5_value 32 [(0, .ref (eb E + 66)), (1, .int (nI dd)), (2, .ref (eb E + (70 + 9 * dd))), (3, .ref (eb E + (70 + 9 * (dd + 1)))), (4, .int (nI (f a))), (5, .int (nI a + nI 1))] [] I6' Q) := by
          intro q
          refine ⟨dd, rfl, by omega, fun I8 e8 => ?_⟩
          unfold vlp at hQ2
          rw [if_pos q] at hQ2
          rw [nI_add]
          have q8 : ∀ c, c ≠ 69 → I8 c = I6 c := fun c hc => by rw [e8, st_ne hc]
          refine ihm (a + 1) (f a) a I8 (by omega) (fle a) (fun _ => by rw [e8, st_at]) (fun j j1 j2 => (S6' j j1 j2).eqs (q8 _ (by omega)) (fun i hi => q8 _ (by omega))) ⟨fun c c1 c2 c3 => by rw [q8 c c1, s6'.1 c c1 c2 c3], fun j hj => by rw [e8, st_nj (by omega), s6'.2 j hj]⟩ (fun I7 c7 S7 s7 => hQ2 I7 (fun z => c7 (by omega)) S7 s7)
        have hfa := fle a
        have hm2 := Nat.mod_lt dd (show 0 < 2 by omega)
        rw [rem_eq (by omega) (by omega) (by omega), n0, nI_eq (by omega) (by omega), nI_add (goA T a).2, ← fa a, nI_leI (by omega) (by omega), nI_leI (by omega) (by omega), nI_eq (by omega) (by omega)]
        refine ⟨fun p => ⟨fun q => ⟨fun z => yes (Or.inl z), fun z => ⟨fun _ => no ?_, fun y => absurd rfl y⟩⟩, fun q => ⟨fun z => yes (Or.inl z), fun z => ⟨fun y => absurd y (by decide +kernel), fun _ => yes (Or.inr ?_)⟩⟩⟩, fun p => ⟨fun q => ⟨fun z => yes (Or.inl z), fun z => ⟨fun _ => no ?_, fun y => absurd rfl y⟩⟩, fun q => ⟨fun z => yes (Or.inl z), fun z => ⟨fun y => absurd y (by decide +kernel), fun _ => yes (Or.inr ?_)⟩⟩⟩⟩
        · rw [if_neg p]; omega
        · rw [if_neg p]; omega
        · rw [if_pos p]; omega
        · rw [if_pos p]; omega
    refine S_X5_value _ ?_
    rw [h3, nI_ltI (by omega) (by omega)]
    refine ⟨fun _ => ⟨dd, rfl, by omega, dd + 1, by rw [nI_add], by omega, lp (T 6 + 1) 0 0 0 I (by omega) (by omega) (fun z => by omega) hS (SV.rf _ _) (fun I3 c3 S3 s3 => ?_)⟩, fun q => by omega⟩
    unfold vlF at hQ
    rw [← hf] at hQ
    exact hQ I3 (fun _ => c3 (by omega)) S3 s3
/-- but what a game is made of, all is as it was -/
def SG (dd : Nat) (I I2 : IH) : Prop := (∀ a, a ≠ 116 → a ≠ 119 → a ≠ 124 → a ≠ 125 → I2 a = I a) ∧ (∀ j, j < 322 → I2 116 j = I 116 j) ∧ ∀ i, i < 74 * dd → I2 124 i = I 124 i
theorem SG.rf (dd : Nat) (I : IH) : SG dd I I := ⟨fun _ _ _ _ _ => rfl, fun _ _ => rfl, fun _ _ => rfl⟩
theorem m_played {len : Nat} (hl : len ≤ 4) : ∀ (n dd : Nat) (T : Nat → Nat) (I : IH) (Q : QT), dd + n = len → RM I T → WfE T → WfR T → T 0 + n ≤ T 1 → (∀ I2, (0 < n → I2 125 dd = nI (vlF n dd T).2) → SG dd I I2 → Q (some (.int (nI (vlF n dd T).1))) I2) → Mt E (d + n + 9) mX12_playedFrom [.ref (eb E + 115), .int (nI dd), .int (nI len)] I Q := by
  intro n
  induction n with
  | zero =>
    intro dd T I Q hd h hW hR h01 hQ
    refine S_X12_playedFrom _ _ ?_
    rw [nI_eq (by omega) (by omega)]
    exact ⟨fun q => by omega, fun _ => hQ I (fun z => by omega) (SG.rf _ _)⟩
  | succ n ih =>
    intro dd T I Q hd h hW hR h01 hQ
    have h6 : T 6 ≤ 6 := hW.1
    have h1 : T 1 ≤ 16 := hW.2.2.1
    have ee : d + (n + 1) + 9 = (d + n + 9) + 1 := by omega
    rw [ee]
    obtain ⟨f, hf⟩ : ∃ f : Nat → Nat, f = fun a => (goA T a).2 + (vlF n (dd + 1) (goA T a).1).1 := ⟨_, rfl⟩
    have fa : ∀ a, f a = (goA T a).2 + (vlF n (dd + 1) (goA T a).1).1 := fun a => by rw [hf]
    have fle : ∀ a, f a ≤ 52 := fun a => by
      have h1 := goA_le T a
      have h2 := vlF_le n (dd + 1) (goA T a).1
      rw [fa]; omega
    have lp : ∀ (m a v c : Nat) (x4 : Int32) (I2 : IH), a + m = T 6 + 1 → v ≤ 52 → c ≤ 6 → (a = 0 → x4 = (-1)) → (0 < a → x4 = nI c) → (∀ q, q < 74 → I2 124 (74 * dd + q) = I 116 q) → SG dd I I2 → (∀ I3, I3 125 dd = nI (vlp dd f m a v c).2 → SG dd I I3 → Q (some (.int (nI (vlp dd f m a v c).1))) I3) → J E (d + n + 9 + 1) mX12_playedFrom 20 [(0, .ref (eb E + 115)), (1, .int (nI dd)), (2, .int (nI len)), (3, .int (nI v)), (4, .int x4), (5, .int (nI a))] [] I2 Q := by
      intro m
      induction m with
      | zero =>
        intro a v c x4 I2 ha hv hc6 hx0 hx hsv hs hQ2
        refine S_X12_playedFrom_20 _ _ _ _ _ ?_
        rw [hs.2.1 6 (by omega), h.at 6 (by omega), nI_ltI (by omega) (by omega)]
        refine ⟨fun _ => ⟨dd, rfl, by omega, fun I1 e1 => hQ2 I1 ?_ ⟨fun b b1 b2 b3 b4 => ?_, fun j hj => ?_, fun i hi => ?_⟩⟩, fun q => by omega⟩
        · rw [e1, st_at]; exact hx (by omega)
        · rw [e1, st_ne b4, hs.1 b b1 b2 b3 b4]
        · rw [e1, st_ne (by omega), hs.2.1 j hj]
        · rw [e1, st_ne (by omega), hs.2.2 i hi]
      | succ m ihm =>
        intro a v c x4 I2 ha hv hc6 hx0 hx hsv hs hQ2
        have r2 : RM I2 T := h.eqs hs.2.1
        have ha6 : a ≤ T 6 := by omega
        obtain ⟨g1, g2, g3⟩ := wf_goA hW (by omega) ha6
        refine S_X12_playedFrom_20 _ _ _ _ _ ?_
        rw [hs.2.1 6 (by omega), h.at 6 (by omega), nI_ltI (by omega) (by omega)]
        refine ⟨fun q => by omega, fun _ => c_goesA r2 hW hR rfl ha6 (fun I4 r4 G4 => ⟨_, rfl, ?_⟩)⟩
        rw [nI_add dd 1]
        refine ih (dd + 1) (goA T a).1 I4 _ (by omega) r4 g1 (g2.R hR) (by rw [g3, g2 1 (by omega)]; omega) (fun I5 c5 s5 => ⟨_, rfl, m_restores (by omega) (fun I6 b1 b2 s6 => ⟨rfl, ?_⟩)⟩)
        have sv5 : ∀ i, i < 74 * (dd + 1) → I5 124 i = I2 124 i := fun i hi => by rw [s5.2.2 i hi, G4.1 124 (by simp)]
        have sv6 : ∀ q, q < 74 → I6 124 (74 * dd + q) = I 116 q := fun q hq => by rw [s6 124 (by simp), sv5 _ (by omega)]; exact hsv q hq
        have s6' : SG dd I I6 := by
          refine ⟨fun b d1 d2 d3 d4 => ?_, fun j hj => ?_, fun i hi => ?_⟩
          · rw [s6 b (by simp; omega), s5.1 b d1 d2 d3 d4, G4.1 b (by simp; omega), hs.1 b d1 d2 d3 d4]
          · by_cases j74 : j < 74
            · rw [b1 j j74, sv5 _ (by omega)]; exact hsv j j74
            · rw [b2 j (by omega), s5.2.1 j hj, r4 j hj (by omega) (by omega), g2 j (by omega), h j hj (by omega) (by omega)]
          · rw [s6 124 (by simp), sv5 i (by omega), hs.2.2 i hi]
        rw [nI_add (goA T a).2, ← fa a]
        have no : ¬ (a = 0 ∨ (if dd % 2 = 0 then v < f a else f a < v)) → J E (d + n + 9 + 1) mX12_playedFrom 88 [(0, .ref (eb E + 115)), (1, .int (nI dd)), (2, .int (nI len)), (3, .int (nI v)), (4, .int x4), (5, .int (nI a)), (7, .int (nI (f a)))] [] I6 Q := by
          intro q
          unfold vlp at hQ2
          rw [if_neg q] at hQ2
          refine S_X12_playedFrom_88 _ _ _ _ _ _ (S_X12_playedFrom_89 _ _ _ _ _ _ _ ⟨fun _ => ⟨fun _ => ?_, fun z => absurd (by decide +kernel) z⟩, fun z => absurd (by decide +kernel) z⟩)
          rw [nI_add]
          exact ihm (a + 1) v c x4 I6 (by omega) hv hc6 (fun z => by omega) (fun _ => hx (by omega)) sv6 s6' hQ2
        have yes : (a = 0 ∨ (if dd % 2 = 0 then v < f a else f a < v)) → J E (d + n + 9 + 1) mX12_playedFrom 84 [(0, .ref (eb E + 115)), (1, .int (nI dd)), (2, .int (nI len)), (3, .int (nI v)), (4, .int x4), (5, .int (nI a)), (7, .int (nI (f a)))] [] I6 Q := by
          intro q
          unfold vlp at hQ2
          rw [if_pos q] at hQ2
          refine S_X12_playedFrom_84 _ _ _ _ _ _ (S_X12_playedFrom_89 _ _ _ _ _ _ _ ⟨fun z => absurd z (by decide +kernel), fun _ => ⟨fun z => absurd z (by decide +kernel), fun _ => ?_⟩⟩)
          rw [nI_add]
          exact ihm (a + 1) (f a) a (nI a) I6 (by omega) (fle a) (by omega) (fun z => by omega) (fun _ => rfl) sv6 s6' hQ2
        have hfa := fle a
        have hm2 := Nat.mod_lt dd (show 0 < 2 by omega)
        have x0 : x4 < 0 ↔ a = 0 := by
          by_cases a0 : a = 0
          · rw [hx0 a0]; exact ⟨fun _ => a0, fun _ => by decide +kernel⟩
          · rw [hx (by omega)]; exact ⟨fun z => absurd z (nI_pos (by omega)), fun z => absurd z a0⟩
        rw [x0, rem_eq (by omega) (by omega) (by omega), n0, nI_eq (by omega) (by omega), nI_leI (by omega) (by omega), nI_leI (by omega) (by omega)]
        refine ⟨fun z => yes (Or.inl z), fun z => ⟨fun p => ⟨fun q => no ?_, fun q => yes (Or.inr ?_)⟩, fun p => ⟨fun q => no ?_, fun q => yes (Or.inr ?_)⟩⟩⟩
        · rw [if_neg p]; omega
        · rw [if_neg p]; omega
        · rw [if_pos p]; omega
        · rw [if_pos p]; omega
    refine S_X12_playedFrom _ _ ?_
    rw [nI_eq (by omega) (by omega)]
    refine ⟨fun _ => m_saves (by omega) (fun I3 v3 w3 s3 => ⟨rfl, lp (T 6 + 1) 0 0 0 (-1) I3 (by omega) (by omega) (by omega) (fun _ => rfl) (fun z => by omega) v3 ⟨fun b d1 d2 d3 d4 => s3 b (by simp; omega), fun j _ => by rw [s3 116 (by simp)], w3⟩ (fun I4 c4 s4 => ?_)⟩), fun q => by omega⟩
    unfold vlF at hQ
    rw [← hf] at hQ
    exact hQ I4 (fun _ => c4) s4
theorem x_contest {n : Nat} (h : EvR I 33 34 T) (hr : RuR I 27 T) (hW : WfE T) (hR : WfR T) (h8 : T 8 ≤ 6) (h01 : T 0 ≤ T 1) (hn : n ≤ 4) (hQ : ∀ I2, (0 < min n (T 1 - T 0) → I2 69 0 = nI (vlF (min n (T 1 - T 0)) 0 T).2) → SX I I2 → Q (some (.int (nI (vlF (min n (T 1 - T 0)) 0 T).1))) I2) : Mt E (d + 20) mX5_contest [.ref (eb E + 66), .ref (eb E + 33), .int (nI n)] I Q := by
  refine S_X5_contest isEv_ev _ (x_begin h hW h8 h01 hn (fun I1 L1 e1 s1 => ⟨rfl, ?_⟩))
  obtain ⟨len, hlen⟩ : ∃ len, len = min n (T 1 - T 0) := ⟨_, rfl⟩
  have hl4 : len ≤ 4 := by omega
  obtain ⟨d2, hd2⟩ : ∃ d2, d + 19 = d2 + len + 8 := ⟨d + 11 - len, by omega⟩
  rw [hd2]
  rw [← hlen] at L1 e1 hQ
  refine x_value hl4 len 0 T I1 _ (by omega) (L1 0 (by omega)) (fun j j1 j2 => (L1 j j2).S) (hr.eqs (fun i hi => s1 _ (by omega) (by omega))) hW hR (by omega) e1 (fun I2 c2 S2 s2 => ⟨_, rfl, hQ I2 c2 (fun a b1 b2 b3 b4 b5 => ?_)⟩)
  rw [s2.1 a b3 b4 (by omega), s1 a b1 b5]
theorem m_contest {n : Nat} (h : RM I T) (hW : WfE T) (hR : WfR T) (h01 : T 0 ≤ T 1) (hn : n ≤ 4) (hQ : ∀ I2, (0 < min n (T 1 - T 0) → I2 125 0 = nI (vlF (min n (T 1 - T 0)) 0 T).2) → SM 0 I I2 → Q (some (.int (nI (vlF (min n (T 1 - T 0)) 0 T).1))) I2) : Mt E (d + 20) mX12_playedFrom [.ref (eb E + 115), .int (nI 0), .int (nI (min n (T 1 - T 0)))] I Q := by
  obtain ⟨len, hlen⟩ : ∃ len, len = min n (T 1 - T 0) := ⟨_, rfl⟩
  have hl4 : len ≤ 4 := by omega
  obtain ⟨d2, hd2⟩ : ∃ d2, d + 20 = d2 + len + 9 := ⟨d + 11 - len, by omega⟩
  rw [hd2]
  rw [← hlen] at hQ ⊢
  exact m_played hl4 len 0 T I _ (by omega) h hW hR (by omega) (fun I2 c2 s2 => hQ I2 c2 ⟨fun a b1 b2 b3 b4 b5 b6 => s2.1 a b2 b3 b4 b5, fun s _ _ _ _ => by rw [s2.1 115 (by omega) (by omega) (by omega) (by omega)], s2.2.1, fun j hj => by omega, fun i hi => by omega⟩)
theorem p_game (hI : Inv I) : Pair E (d + 40) mX11_game mX12_game [.int x1] [.int x1] I := by
  obtain ⟨T, h⟩ := id hI
  obtain ⟨a1, a2, a3, a4, a5, a6⟩ := id h
  by_cases ok : inr x1 1 4
  · obtain ⟨n, hn, hn1, hn2⟩ := inr_n ok
    subst hn
    refine Pair.plan h (nI (vlF (min n (T 1 - T 0)) 0 T).1) (fun Q hQ => S_X11_game _ ?_) (fun I1 r1 Q hQ => S_X12_game _ (m_in1 (by omega) (by omega) ⟨_, rfl, bk (fun _ => m_daysOf r1 a2.1 a2.2.2.2.1 hn2 ⟨_, rfl, m_contest r1 a2.1 a2.2.1 a2.2.2.2.1 hn2 (fun I2 c2 s2 => ⟨_, rfl, hQ I2 s2⟩)⟩) (fun q => absurd ok q)⟩))
    rw [nI_ltI (by omega) (by omega), nI_leI (by omega) (by omega)]
    exact ⟨fun q => by omega, fun _ => ⟨fun _ => x_contest a3.1 a3.2 a2.1 a2.2.1 a2.2.2.1.1 a2.2.2.2.1 hn2 (fun I2 c2 s2 => ⟨_, rfl, hQ I2 s2⟩), fun q => by omega⟩⟩
  · refine Pair.pure hI (-1) (fun Q hQ => S_X11_game _ ?_) (fun Q hQ => S_X12_game _ (m_in1 (by omega) (by omega) ⟨_, rfl, bk (fun p => absurd p ok) (fun _ => hQ)⟩))
    rw [lt_x (by omega), le_x (by omega)]
    exact ⟨fun _ => hQ, fun q => ⟨fun z => absurd ⟨by omega, z⟩ ok, fun _ => hQ⟩⟩
theorem p_play (hI : Inv I) : Pair E (d + 40) mX11_play mX12_play [.int x1] [.int x1] I := by
  obtain ⟨T, h⟩ := id hI
  obtain ⟨a1, a2, a3, a4, a5, a6⟩ := id h
  by_cases ok : inr x1 1 4
  · obtain ⟨n, hn, hn1, hn2⟩ := inr_n ok
    subst hn
    have kx : nI n < nI 1 ↔ False := by rw [nI_ltI (by omega) (by omega)]; exact ⟨fun q => absurd hn1 (by omega), fun q => q.elim⟩
    have ky : nI n ≤ nI 4 ↔ True := by rw [nI_leI (by omega) (by omega)]; simp; omega
    by_cases ho : T 1 ≤ T 0
    · refine Pair.pure hI (-3) (fun Q hQ => S_X11_play _ ?_) (fun Q hQ => S_X12_play _ (m_in1 (by omega) (by omega) ⟨_, rfl, bk2 (fun _ => m_over a1 a2.1 ⟨_, rfl, bk (fun _ => hQ) (fun q => absurd ho q)⟩) (fun q => absurd ok q)⟩))
      rw [kx, ky]
      exact ⟨fun q => q.elim, fun _ => ⟨fun _ => d_over isEv_ev a3.1 a2.1 ⟨_, rfl, bk (fun _ => hQ) (fun q => absurd ho q)⟩, fun q => absurd trivial q⟩⟩
    · have hm : 0 < min n (T 1 - T 0) := by omega
      have hvl := vlF_le (min n (T 1 - T 0)) 0 T
      refine Pair.plan h (nI (vlF (min n (T 1 - T 0)) 0 T).2) (fun Q hQ => S_X11_play _ ?_) (fun I1 r1 Q hQ => S_X12_play _ (m_in1 (by omega) (by omega) ⟨_, rfl, bk2 (fun _ => m_over r1 a2.1 ⟨_, rfl, bk (fun q => absurd q ho) (fun _ => m_daysOf r1 a2.1 a2.2.2.2.1 hn2 ⟨_, rfl, m_contest r1 a2.1 a2.2.1 a2.2.2.2.1 hn2 (fun I2 c2 s2 => ⟨_, rfl, fun _ => ?_, fun q => absurd (nI_pos' (by omega)) q⟩)⟩)⟩) (fun q => absurd ok q)⟩))
      · rw [kx, ky]
        refine ⟨fun q => q.elim, fun _ => ⟨fun _ => d_over isEv_ev a3.1 a2.1 ⟨_, rfl, bk (fun q => absurd q ho) (fun _ => x_contest a3.1 a3.2 a2.1 a2.2.1 a2.2.2.1.1 a2.2.2.2.1 hn2 (fun I2 c2 s2 => ⟨_, rfl, ?_⟩))⟩, fun q => absurd trivial q⟩⟩
        rw [c2 hm]; exact hQ I2 s2
      · rw [c2 hm]; exact hQ I2 s2
  · refine Pair.pure hI (-1) (fun Q hQ => S_X11_play _ ?_) (fun Q hQ => S_X12_play _ (m_in1 (by omega) (by omega) ⟨_, rfl, bk2 (fun p => absurd p ok) (fun _ => hQ)⟩))
    rw [lt_x (by omega), le_x (by omega)]
    exact ⟨fun _ => hQ, fun q => ⟨fun z => absurd ⟨by omega, z⟩ ok, fun _ => hQ⟩⟩
end P16
