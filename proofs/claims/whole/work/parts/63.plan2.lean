section P13
variable {E : EE} {d : Nat} {I : IH} {Q : QT} {T : Nat → Nat} {k e g r e1 g1 r1 : Nat} {x1 x2 x3 x4 : Int32}
theorem ix74 (dd k : Nat) : nI 74 * nI dd + nI k = nI (74 * dd + k) := by rw [nI_mul, nI_add]
theorem m_saves_loop {dd : Nat} (hd : dd ≤ 4) : ∀ (n k : Nat) (I2 : IH), k + n = 74 → (∀ q, q < k → I2 124 (74 * dd + q) = I 116 q) → (∀ i, i < 74 * dd → I2 124 i = I 124 i) → Same [124] I I2 → (∀ I3, (∀ q, q < 74 → I3 124 (74 * dd + q) = I 116 q) → (∀ i, i < 74 * dd → I3 124 i = I 124 i) → Same [124] I I3 → Q none I3) → J E d mX12_saves 2 [(0, .ref (eb E + 115)), (1, .int (nI dd)), (2, .int (nI k))] [] I2 Q := by
  intro n
  induction n with
  | zero =>
    intro k I2 hk h1 h2 s hQ
    refine S_X12_saves_2 _ _ ?_
    rw [nI_leI (by omega) (by omega)]
    exact ⟨fun _ => hQ I2 (fun q hq => h1 q (by omega)) h2 s, fun q => by omega⟩
  | succ n ih =>
    intro k I2 hk h1 h2 s hQ
    refine S_X12_saves_2 _ _ ?_
    rw [nI_leI (by omega) (by omega), nI_add]
    refine ⟨fun q => by omega, fun _ => ⟨k, rfl, by omega, 74 * dd + k, ix74 dd k, by omega, fun I4 e4 => ih (k + 1) I4 (by omega) (fun q hq => ?_) (fun i hi => ?_) (s.tr (by rw [e4]; exact Same.st (by simp))) hQ⟩⟩
    · rw [e4]
      by_cases eq : q = k
      · subst eq; rw [st_at, s 116 (by simp)]
      · rw [st_nj (by omega)]; exact h1 q (by omega)
    · rw [e4, st_nj (by omega)]; exact h2 i hi
theorem m_saves {dd : Nat} (hd : dd ≤ 4) (hQ : ∀ I3, (∀ q, q < 74 → I3 124 (74 * dd + q) = I 116 q) → (∀ i, i < 74 * dd → I3 124 i = I 124 i) → Same [124] I I3 → Q none I3) : Mt E d mX12_saves [.ref (eb E + 115), .int (nI dd)] I Q :=
  S_X12_saves _ (m_saves_loop hd 74 0 I (by omega) (fun q hq => by omega) (fun _ _ => rfl) (Same.rf _ _) hQ)
theorem m_restores_loop {dd : Nat} (hd : dd ≤ 4) : ∀ (n k : Nat) (I2 : IH), k + n = 74 → (∀ q, q < k → I2 116 q = I 124 (74 * dd + q)) → (∀ q, k ≤ q → I2 116 q = I 116 q) → Same [116] I I2 → (∀ I3, (∀ q, q < 74 → I3 116 q = I 124 (74 * dd + q)) → (∀ q, 74 ≤ q → I3 116 q = I 116 q) → Same [116] I I3 → Q none I3) → J E d mX12_restores 2 [(0, .ref (eb E + 115)), (1, .int (nI dd)), (2, .int (nI k))] [] I2 Q := by
  intro n
  induction n with
  | zero =>
    intro k I2 hk h1 h2 s hQ
    refine S_X12_restores_2 _ _ ?_
    rw [nI_leI (by omega) (by omega)]
    exact ⟨fun _ => hQ I2 (fun q hq => h1 q (by omega)) (fun q hq => h2 q (by omega)) s, fun q => by omega⟩
  | succ n ih =>
    intro k I2 hk h1 h2 s hQ
    refine S_X12_restores_2 _ _ ?_
    rw [nI_leI (by omega) (by omega), nI_add]
    refine ⟨fun q => by omega, fun _ => ⟨74 * dd + k, ix74 dd k, by omega, k, rfl, by omega, fun I4 e4 => ih (k + 1) I4 (by omega) (fun q hq => ?_) (fun q hq => ?_) (s.tr (by rw [e4]; exact Same.st (by simp))) hQ⟩⟩
    · rw [e4]
      by_cases eq : q = k
      · subst eq; rw [st_at, s 124 (by simp)]
      · rw [st_nj (by omega)]; exact h1 q (by omega)
    · rw [e4, st_nj (by omega)]; exact h2 q (by omega)
theorem m_restores {dd : Nat} (hd : dd ≤ 4) (hQ : ∀ I3, (∀ q, q < 74 → I3 116 q = I 124 (74 * dd + q)) → (∀ q, 74 ≤ q → I3 116 q = I 116 q) → Same [116] I I3 → Q none I3) : Mt E d mX12_restores [.ref (eb E + 115), .int (nI dd)] I Q :=
  S_X12_restores _ (m_restores_loop hd 74 0 I (by omega) (fun q hq => by omega) (fun _ _ => rfl) (Same.rf _ _) hQ)
/-! the reference's plans -/
def PlM (I : IH) (len : Nat) (A : Acc) : Prop := I 115 21 = (if A.2.1 = 0 then (-1) else nI A.1) ∧ I 115 22 = nI A.2.1 ∧ I 115 23 = nI A.2.2.1 ∧ I 115 24 = A.2.2.2.1 ∧ (A.2.1 ≠ 0 → ∀ j, j < len → I 126 j = nI (A.2.2.2.2 j)) ∧ A.1 ≤ 52 ∧ A.2.2.1 ≤ 5
theorem PlM.eqs {I2 : IH} {len : Nat} {A : Acc} (h : PlM I len A) (h1 : I2 115 = I 115) (h2 : I2 126 = I 126) : PlM I2 len A := by
  unfold PlM; rw [h1, h2]; exact h
theorem sub_iff : ∀ s, s < 64 → ∀ p, p < 64 → (nI p &&& (nI s ^^^ (-1)) = 0 ↔ nI s &&& nI p = nI p) := by decide +kernel
theorem m_ends65 {c b to p fw : Nat} {ev : Int32} (h : RM I T) (hW : WfE T) (hp : p < 64) (h23 : I 115 23 = nI fw) (h24 : I 115 24 = ev) (hf : fw ≤ 5) (hto : to ≤ 4) (hQ : ∀ I2, I2 115 22 = nI (c + b) → I2 115 23 = nI (if dc (nI (swn T) &&& nI p = nI p) = true then min fw to else fw) → I2 115 24 = ev ||| nI (swn T) → (∀ s, s ≠ 22 → s ≠ 23 → s ≠ 24 → I2 115 s = I 115 s) → Same [115] I I2 → Q none I2) : J E (d + 2) mX12_endsPlan 65 [(0, .ref (eb E + 115)), (3, .int (nI to)), (4, .int (nI p))] [.int (nI b), .int (nI c), .ref (eb E + 115)] I Q := by
  have hs := swn_lt hW
  refine S_X12_endsPlan_65 _ _ _ _ (fun I1 e1 => c_those (by rw [e1]; exact h.same (Same.st (L := [115]) (by simp)) (by simp)) hW rfl ⟨_, rfl, ?_⟩)
  rw [nI_add] at e1
  have q1 : ∀ s, s ≠ 22 → I1 115 s = I 115 s := fun s hs => by rw [e1, st_nj hs]
  rw [sub_iff _ hs _ hp, q1 23 (by omega), h23, nI_leI (by omega) (by omega)]
  have fin : ∀ (f2 : Nat) (I3 I5 : IH), I3 = stI I1 115 23 (nI f2) → I5 = stI I3 115 24 (I3 115 24 ||| nI (swn T)) → f2 = (if dc (nI (swn T) &&& nI p = nI p) = true then min fw to else fw) → Q none I5 := by
    intro f2 I3 I5 e3 e5 ef
    have v24 : I3 115 24 = ev := by rw [e3, st_nj (by omega), q1 24 (by omega), h24]
    rw [v24] at e5
    refine hQ I5 ?_ ?_ ?_ (fun s a b c => ?_) (fun a ha => ?_)
    · rw [e5, st_nj (by omega), e3, st_nj (by omega), e1, st_at]
    · rw [e5, st_nj (by omega), e3, st_at, ef]
    · rw [e5, st_at]
    · rw [e5, st_nj c, e3, st_nj b, q1 s a]
    · simp at ha
      rw [e5, st_ne ha, e3, st_ne ha, e1, st_ne ha]
  refine ⟨fun z I3 e3 I5 e5 => fin fw I3 I5 e3 e5 (by rw [dc_f z]; rfl), fun z => ⟨fun y I3 e3 I5 e5 => fin fw I3 I5 e3 e5 ?_, fun y I3 e3 I5 e5 => fin to I3 I5 e3 e5 ?_⟩⟩
  · rw [dc_t z]; simp only [if_true]; omega
  · rw [dc_t z]; simp only [if_true]; omega
theorem m_ends21 {len wo to p : Nat} (hl : len ≤ 4) : ∀ (n j : Nat) (I2 : IH), j + n = len → (∀ q, q < j → I2 126 q = I 125 q) → Same [126] I I2 → (∀ I3, (∀ q, q < len → I3 126 q = I 125 q) → Same [126] I I3 → J E (d + 2) mX12_endsPlan 47 [(0, .ref (eb E + 115)), (2, .int (nI wo)), (3, .int (nI to)), (4, .int (nI p))] [] I3 Q) → J E (d + 2) mX12_endsPlan 21 [(0, .ref (eb E + 115)), (1, .int (nI len)), (2, .int (nI wo)), (3, .int (nI to)), (4, .int (nI p)), (5, .int (nI j))] [] I2 Q := by
  intro n
  induction n with
  | zero =>
    intro j I2 hj h1 s hQ
    refine S_X12_endsPlan_21 _ _ _ _ _ ?_
    rw [nI_leI (by omega) (by omega)]
    exact ⟨fun _ => hQ I2 (fun q hq => h1 q (by omega)) s, fun q => by omega⟩
  | succ n ih =>
    intro j I2 hj h1 s hQ
    refine S_X12_endsPlan_21 _ _ _ _ _ ?_
    rw [nI_leI (by omega) (by omega), nI_add]
    refine ⟨fun q => by omega, fun _ => ⟨j, rfl, by omega, j, rfl, by omega, fun I4 e4 => ih (j + 1) I4 (by omega) (fun q hq => ?_) (s.tr (by rw [e4]; exact Same.st (by simp))) hQ⟩⟩
    rw [e4]
    by_cases eq : q = j
    · subst eq; rw [st_at, s 125 (by simp)]
    · rw [st_nj (by omega)]; exact h1 q (by omega)
theorem m_ends {len wo to p : Nat} {pl : Nat → Nat} {A : Acc} (hl : len ≤ 4) (h : RM I T) (hW : WfE T) (hP : PlM I len A) (hp : ∀ j, j < len → I 125 j = nI (pl j)) (hwo : wo ≤ 52) (hto : to ≤ 4) (hc : A.2.1 ≤ 10000) (hpp : p < 64) (hQ : ∀ I2, PlM I2 len (nte (nI p) T wo to pl A) → (∀ s, s ≠ 21 → s ≠ 22 → s ≠ 23 → s ≠ 24 → I2 115 s = I 115 s) → Same [115, 126] I I2 → Q none I2) : Mt E (d + 2) mX12_endsPlan [.ref (eb E + 115), .int (nI len), .int (nI wo), .int (nI to), .int (nI p)] I Q := by
  obtain ⟨h21, h22, h23, h24, hb, hmo, hf⟩ := hP
  unfold nte at hQ
  have le : (nI wo ≤ I 115 21 ↔ ¬ (A.2.1 = 0 ∨ A.1 < wo)) := by
    rw [h21]
    by_cases c0 : A.2.1 = 0
    · rw [if_pos c0, zI_neg1, nI_lez (by omega) (by omega) (by omega)]; omega
    · rw [if_neg c0, nI_leI (by omega) (by omega)]; omega
  have hf2 : (if dc (nI (swn T) &&& nI p = nI p) = true then min A.2.2.1 to else A.2.2.1) ≤ 5 := by split <;> omega
  refine S_X12_endsPlan _ _ _ _ ?_
  rw [le]
  refine ⟨fun q => ?_, fun q I1 e1 I3 e3 => ?_⟩
  · simp only [if_neg q] at hQ
    have c0 : ¬ A.2.1 = 0 := by omega
    rw [if_neg c0] at h21
    refine S_X12_endsPlan_47 _ _ _ ?_
    rw [h21, h22, nI_eq (by omega) (by omega)]
    refine ⟨fun z => m_ends65 h hW hpp h23 h24 hf hto (fun I2 g22 g23 g24 gs s2 => hQ I2 ⟨?_, ?_, g23, g24, fun _ j hj => ?_, hmo, hf2⟩ (fun s a b c f => gs s b c f) (s2.mono (by simp))), fun z => m_ends65 h hW hpp h23 h24 hf hto (fun I2 g22 g23 g24 gs s2 => hQ I2 ⟨?_, ?_, g23, g24, fun _ j hj => ?_, hmo, hf2⟩ (fun s a b c f => gs s b c f) (s2.mono (by simp)))⟩
    · simp only [if_neg z]; rw [if_neg c0, gs 21 (by omega) (by omega) (by omega)]; exact h21
    · simp only [if_neg z]; exact g22
    · rw [s2 126 (by simp)]; exact hb c0 j hj
    · simp only [if_pos z]; rw [if_neg (by omega), gs 21 (by omega) (by omega) (by omega)]; exact h21
    · simp only [if_pos z]; exact g22
    · rw [s2 126 (by simp)]; exact hb c0 j hj
  · have q : A.2.1 = 0 ∨ A.1 < wo := by omega
    simp only [if_pos q] at hQ
    have s13 : Same [115] I I3 := by rw [e3, e1]; exact (Same.st (by simp)).tr (Same.st (by simp))
    refine m_ends21 (I := I3) hl len 0 I3 (by omega) (fun q hq => by omega) (Same.rf _ _) (fun I4 b4 s4 => ?_)
    have c115 : I4 115 = I3 115 := s4 115 (by simp)
    have v21 : I4 115 21 = nI wo := by rw [c115, e3, st_at]
    have v22 : I4 115 22 = nI 0 := by rw [c115, e3, st_nj (by omega), e1, st_at]
    refine S_X12_endsPlan_47 _ _ _ ?_
    rw [v21, v22]
    refine ⟨fun z => absurd rfl z, fun _ => m_ends65 (fw := A.2.2.1) (ev := A.2.2.2.1) ((h.same s13 (by simp)).same s4 (by simp)) hW hpp (by rw [c115, e3, st_nj (by omega), e1, st_nj (by omega)]; exact h23) (by rw [c115, e3, st_nj (by omega), e1, st_nj (by omega)]; exact h24) hf hto (fun I2 g22 g23 g24 gs s2 => hQ I2 ⟨?_, g22, g23, g24, fun _ j hj => ?_, hwo, hf2⟩ (fun s a b c f => ?_) (((s13.mono (by simp)).tr (s4.mono (by simp))).tr (s2.mono (by simp))))⟩
    · show I2 115 21 = (if (1 : Nat) = 0 then (-1) else nI wo)
      rw [if_neg (by omega), gs 21 (by omega) (by omega) (by omega)]; exact v21
    · rw [s2 126 (by simp), b4 j hj, s13 125 (by simp)]; exact hp j hj
    · rw [gs s b c f, c115, e3, st_nj a, e1, st_nj b]
/-- but what plans are made of, all is as it was -/
def SM (dd : Nat) (I I2 : IH) : Prop := (∀ a, a ≠ 115 → a ≠ 116 → a ≠ 119 → a ≠ 124 → a ≠ 125 → a ≠ 126 → I2 a = I a) ∧ (∀ s, s ≠ 21 → s ≠ 22 → s ≠ 23 → s ≠ 24 → I2 115 s = I 115 s) ∧ (∀ j, j < 322 → I2 116 j = I 116 j) ∧ (∀ j, j < dd → I2 125 j = I 125 j) ∧ ∀ i, i < 74 * dd → I2 124 i = I 124 i
theorem SM.rf (dd : Nat) (I : IH) : SM dd I I := ⟨fun _ _ _ _ _ _ _ => rfl, fun _ _ _ _ _ => rfl, fun _ _ => rfl, fun _ _ => rfl, fun _ _ => rfl⟩
theorem RM.eqs {I2 : IH} (h : RM I T) (hs : ∀ j, j < 322 → I2 116 j = I 116 j) : RM I2 T := fun j h1 h2 h3 => by rw [hs j h1]; exact h j h1 h2 h3
theorem m_plans {len p : Nat} (hl : len ≤ 4) (hpp : p < 64) : ∀ (n dd : Nat) (T : Nat → Nat) (wo to : Nat) (pl : Nat → Nat) (A : Acc) (I : IH) (Q : QT), dd + n = len → RM I T → WfE T → WfR T → T 0 + n ≤ T 1 → PlM I len A → (∀ j, j < dd → I 125 j = nI (pl j)) → A.2.1 + 7 ^ n ≤ 10000 → wo ≤ 13 * dd → to ≤ dd → (∀ I2, PlM I2 len (exF (nI p) len n T wo to pl A) → SM dd I I2 → Q none I2) → Mt E (d + n + 9) mX12_goesPlans [.ref (eb E + 115), .int (nI dd), .int (nI len), .int (nI wo), .int (nI to), .int (nI p)] I Q := by
  intro n
  induction n with
  | zero =>
    intro dd T wo to pl A I Q hd h hW hR h01 hP hp hc hwo hto hQ
    refine S_X12_goesPlans _ _ _ _ _ ?_
    rw [nI_eq (by omega) (by omega)]
    refine ⟨fun q => by omega, fun _ => m_ends (pl := pl) hl h hW hP (fun j hj => hp j (by omega)) (by omega) (by omega) (by omega) hpp (fun I2 p2 g2 s2 => ⟨rfl, hQ I2 p2 ⟨fun a a1 a2 a3 a4 a5 a6 => s2 a (by simp; omega), g2, fun j hj => by rw [s2 116 (by simp)], fun j hj => by rw [s2 125 (by simp)], fun i hi => by rw [s2 124 (by simp)]⟩⟩)⟩
  | succ n ih =>
    intro dd T wo to pl A I Q hd h hW hR h01 hP hp hc hwo hto hQ
    have h6 : T 6 ≤ 6 := hW.1
    have h1 : T 1 ≤ 16 := hW.2.2.1
    have ee : d + (n + 1) + 9 = (d + n + 9) + 1 := by omega
    have hdd : len - (n + 1) = dd := by omega
    rw [ee]
    have p7 : 7 ^ (n + 1) = 7 * 7 ^ n := by rw [Nat.pow_succ, Nat.mul_comm]
    have lp : ∀ (m a : Nat) (A2 : Acc) (I2 : IH), a + m = T 6 + 1 → A2.2.1 + m * 7 ^ n ≤ 10000 → PlM I2 len A2 → (∀ q, q < 74 → I2 124 (74 * dd + q) = I 116 q) → SM dd I I2 → (∀ I3, PlM I3 len (lpA (fun a A => exF (nI p) len n (goA T a).1 (wo + (goA T a).2) (if a = 0 then to else to + 1) (up pl dd a) A) m a A2) → SM dd I I3 → Q none I3) → J E (d + n + 9 + 1) mX12_goesPlans 24 [(0, .ref (eb E + 115)), (1, .int (nI dd)), (2, .int (nI len)), (3, .int (nI wo)), (4, .int (nI to)), (5, .int (nI p)), (6, .int (nI a))] [] I2 Q := by
      intro m
      induction m with
      | zero =>
        intro a A2 I2 ha hc2 hP2 hv hs hQ2
        refine S_X12_goesPlans_24 _ _ _ _ _ _ ?_
        rw [hs.2.2.1 6 (by omega), h.at 6 (by omega), nI_ltI (by omega) (by omega)]
        exact ⟨fun _ => hQ2 I2 hP2 hs, fun q => by omega⟩
      | succ m ihm =>
        intro a A2 I2 ha hc2 hP2 hv hs hQ2
        have em : (m + 1) * 7 ^ n = m * 7 ^ n + 7 ^ n := Nat.succ_mul m (7 ^ n)
        have r2 : RM I2 T := h.eqs hs.2.2.1
        have ha6 : a ≤ T 6 := by omega
        obtain ⟨g1, g2, g3⟩ := wf_goA hW (by omega) ha6
        have hg := goA_le T a
        refine S_X12_goesPlans_24 _ _ _ _ _ _ ?_
        rw [hs.2.2.1 6 (by omega), h.at 6 (by omega), nI_ltI (by omega) (by omega)]
        refine ⟨fun q => by omega, fun _ => ⟨dd, rfl, by omega, fun I3 e3 => ?_⟩⟩
        have q3 : ∀ c, c ≠ 125 → I3 c = I2 c := fun c hc => by rw [e3, st_ne hc]
        have r3 : RM I3 T := r2.eqs (fun j _ => by rw [q3 116 (by omega)])
        refine c_goesA r3 hW hR rfl ha6 (fun I4 r4 G4 => ⟨_, rfl, ?_⟩)
        have t4 : ∀ c, c ≠ 116 → c ≠ 119 → c ≠ 125 → I4 c = I2 c := fun c c1 c2 c3 => by rw [G4.1 c (by simp; omega), q3 c c3]
        have P4 : PlM I4 len A2 := hP2.eqs (t4 _ (by omega) (by omega) (by omega)) (t4 _ (by omega) (by omega) (by omega))
        have pl4 : ∀ j, j < dd + 1 → I4 125 j = nI (up pl dd a j) := fun j hj => by
          rw [G4.1 125 (by simp), e3]
          by_cases ej : j = dd
          · subst ej; rw [st_at, up_eq]
          · rw [st_nj ej, up_ne ej, hs.2.2.2.1 j (by omega)]; exact hp j (by omega)
        have nxt5 : ∀ to2 : Nat, to2 = (if a = 0 then to else to + 1) → J E (d + n + 9 + 1) mX12_goesPlans 75 [(0, .ref (eb E + 115)), (1, .int (nI dd)), (2, .int (nI len)), (3, .int (nI wo)), (4, .int (nI to)), (5, .int (nI p)), (6, .int (nI a))] [.int (nI to2), .int (nI (wo + (goA T a).2)), .int (nI len), .int (nI (dd + 1)), .ref (eb E + 115)] I4 Q := by
          intro to2 eto
          have hto2 : to2 ≤ dd + 1 := by rw [eto]; split <;> omega
          refine S_X12_goesPlans_75 _ _ _ _ _ _ _ _ _ _ (ih (dd + 1) (goA T a).1 (wo + (goA T a).2) to2 (up pl dd a) A2 I4 _ (by omega) r4 g1 (g2.R hR) (by rw [g3, g2 1 (by omega)]; omega) P4 pl4 (by omega) (by omega) hto2 (fun I5 P5 s5 => ⟨rfl, m_restores (by omega) (fun I6 b1 b2 s6 => ⟨rfl, ?_⟩)⟩))
          have cb := exF_cnt (nI p) len n (goA T a).1 (wo + (goA T a).2) to2 (up pl dd a) A2 g1 (by rw [g3, g2 1 (by omega)]; omega)
          have sv5 : ∀ i, i < 74 * (dd + 1) → I5 124 i = I2 124 i := fun i hi => by rw [s5.2.2.2.2 i hi, t4 124 (by omega) (by omega) (by omega)]
          rw [nI_add]
          refine ihm (a + 1) _ I6 (by omega) (by omega) (P5.eqs (s6 115 (by simp)) (s6 126 (by simp))) (fun q hq => ?_) ⟨fun c c1 c2 c3 c4 c5 c6 => ?_, fun s f1 f2 f3 f4 => ?_, fun j hj => ?_, fun j hj => ?_, fun i hi => ?_⟩ (fun I7 P7 s7 => hQ2 I7 ?_ s7)
          · rw [s6 124 (by simp), sv5 _ (by omega)]; exact hv q hq
          · rw [s6 c (by simp; omega), s5.1 c c1 c2 c3 c4 c5 c6, t4 c c2 c3 c5, hs.1 c c1 c2 c3 c4 c5 c6]
          · rw [s6 115 (by simp), s5.2.1 s f1 f2 f3 f4, t4 115 (by omega) (by omega) (by omega), hs.2.1 s f1 f2 f3 f4]
          · by_cases j74 : j < 74
            · rw [b1 j j74, sv5 _ (by omega)]; exact hv j j74
            · rw [b2 j (by omega), s5.2.2.1 j hj, r4 j hj (by omega) (by omega), g2 j (by omega), h j hj (by omega) (by omega)]
          · rw [s6 125 (by simp), s5.2.2.2.1 j (by omega), G4.1 125 (by simp), e3, st_nj (by omega), hs.2.2.2.1 j hj]
          · rw [s6 124 (by simp), sv5 i (by omega), hs.2.2.2.2 i hi]
          · unfold lpA
            rw [← eto]; exact P7
        rw [nI_add, nI_add, nI_add, n0, nI_leI (by omega) (by omega)]
        exact ⟨fun q => nxt5 to (by rw [if_pos (by omega)]), fun q => nxt5 (to + 1) (by rw [if_neg (by omega)])⟩
    refine S_X12_goesPlans _ _ _ _ _ ?_
    rw [nI_eq (by omega) (by omega)]
    refine ⟨fun _ => m_saves (by omega) (fun I3 v3 w3 s3 => ⟨rfl, lp (T 6 + 1) 0 A I3 (by omega) ?_ (hP.eqs (s3 115 (by simp)) (s3 126 (by simp))) v3 ⟨fun c c1 c2 c3 c4 c5 c6 => s3 c (by simp; omega), fun s _ _ _ _ => by rw [s3 115 (by simp)], fun j _ => by rw [s3 116 (by simp)], fun j _ => by rw [s3 125 (by simp)], w3⟩ (fun I4 P4 s4 => hQ I4 ?_ s4)⟩), fun q => by omega⟩
    · have : (T 6 + 1) * 7 ^ n ≤ 7 * 7 ^ n := Nat.mul_le_mul_right _ (by omega)
      omega
    · unfold exF
      rw [hdd]; exact P4
theorem m_daysOf {n : Nat} (h : RM I T) (hW : WfE T) (h01 : T 0 ≤ T 1) (hn : n ≤ 4) (hQ : Q (some (.int (nI (min n (T 1 - T 0))))) I) : Mt E (d + 1) mX12_daysOf [.ref (eb E + 115), .int (nI n)] I Q := by
  have h0 : T 0 ≤ 16 := hW.2.1
  have h1 : T 1 ≤ 16 := hW.2.2.1
  have es : nI (T 1) - nI (T 0) = nI (T 1 - T 0) := pk_sub (by omega)
  refine S_X12_daysOf _ (m_over h hW ⟨_, rfl, bk (fun p => ?_) (fun p => ?_)⟩)
  · rw [nI_leI (by omega) (by omega)]
    refine ⟨fun q => ?_, fun q => by omega⟩
    rw [show min n (T 1 - T 0) = 0 by omega] at hQ; exact hQ
  · rw [h 1 (by omega) (by omega) (by omega), h 0 (by omega) (by omega) (by omega), es, nI_leI (by omega) (by omega)]
    refine ⟨fun q => ?_, fun q => ?_⟩
    · rw [show min n (T 1 - T 0) = T 1 - T 0 by omega] at hQ; exact hQ
    · rw [show min n (T 1 - T 0) = n by omega] at hQ; exact hQ
theorem m_triesAll {n p : Nat} (h : RM I T) (hW : WfE T) (hR : WfR T) (h01 : T 0 ≤ T 1) (hn : n ≤ 4) (hpp : p < 64) (hQ : ∀ I2, PlM I2 (min n (T 1 - T 0)) (srA (nI p) T n) → SM 0 I I2 → Q none I2) : Mt E (d + 20) mX12_triesAll [.ref (eb E + 115), .int (nI n), .int (nI p)] I Q := by
  refine S_X12_triesAll _ _ (fun I1 q1 I3 q3 I5 q5 I7 q7 => ?_)
  have t : ∀ a, a ≠ 115 → I7 a = I a := fun a ha => by rw [q7, st_ne ha, q5, st_ne ha, q3, st_ne ha, q1, st_ne ha]
  have r7 : RM I7 T := h.eqs (fun j _ => by rw [t 116 (by omega)])
  refine m_daysOf r7 hW h01 hn ⟨_, rfl, ?_⟩
  obtain ⟨len, hlen⟩ : ∃ len, len = min n (T 1 - T 0) := ⟨_, rfl⟩
  have hl4 : len ≤ 4 := by omega
  obtain ⟨d2, hd2⟩ : ∃ d2, d + 19 = d2 + len + 9 := ⟨d + 10 - len, by omega⟩
  rw [hd2]
  unfold srA at hQ
  rw [← hlen] at hQ ⊢
  have p7 : 7 ^ len ≤ 7 ^ 4 := Nat.pow_le_pow_right (by omega) hl4
  refine m_plans hl4 hpp len 0 T 0 0 (fun _ => 0) (0, 0, 5, nI 0, fun _ => 0) I7 _ (by omega) r7 hW hR (by omega) ⟨?_, ?_, ?_, ?_, fun z => absurd rfl z, Nat.zero_le _, Nat.le_refl _⟩ (fun j hj => by omega) ?_ (by omega) (by omega) (fun I8 P8 s8 => ⟨rfl, hQ I8 P8 ⟨fun a a1 a2 a3 a4 a5 a6 => ?_, fun s f1 f2 f3 f4 => ?_, fun j hj => ?_, fun j hj => by omega, fun i hi => by omega⟩⟩)
  · rw [q7, st_nj (by omega), q5, st_nj (by omega), q3, st_nj (by omega), q1, st_at]; rfl
  · rw [q7, st_nj (by omega), q5, st_nj (by omega), q3, st_at]
  · rw [q7, st_nj (by omega), q5, st_at]
  · rw [q7, st_at]
  · show 0 + 7 ^ len ≤ 10000
    omega
  · rw [s8.1 a a1 a2 a3 a4 a5 a6, t a a1]
  · rw [s8.2.1 s f1 f2 f3 f4, q7, st_nj f4, q5, st_nj f3, q3, st_nj f2, q1, st_nj f1]
  · rw [s8.2.2.1 j hj, t 116 (by omega)]
end P13
