section L4
variable {E : EE} {d : Nat} {I : IH} {Q : QT} {t : Nat → Nat} {K i j k c D : Nat} {x x3 y : Int32} {B : Nat → Nat} {n : Nat}
theorem end_lt (hend : t K = 301) (h1 : i ≤ K) (h2 : t i ≠ 301) : i < K := by
  rcases Nat.lt_or_ge i K with z | z
  · exact z
  · have : i = K := by omega
    rw [this] at h2; exact absurd hend h2
theorem x_allOf (hK : K ≤ 200) (ht : ∀ j, t j ≤ 10999) (hend : t K = 301) (hk : k ≤ 3) (h1 : H1 E t K D k) : H2 E t K (D + 1) k := by
  intro I i c Q h hi2 hc hQ
  have g0 : ∀ i, i ≤ K → PG t K (12 - 2 * k) i (pOne (bas t k) t i) := fun i hi => pOne_g hend (fun i hi => bas_g hend k (12 - 2 * k) i (by omega) hi) hi
  have lp : ∀ (F n i2 : Nat) (a b : List Op3) (I1 : IH), F + n = 200 → i2 ≤ K → c + sz a ≤ i2 → CS t K I1 i2 (c + sz a) → FrP I I1 → (∀ j, j < c → I1 9 j = I 9 j) → spC (I1 9) c (c + sz a) a → (∀ I2, OC t K I c (andL (bas t k) t F i2 a b) I2 → Q none I2) → J E (D + 1) mX9_readAll 8 [(0, .ref (eb E + 1)), (1, .ref (eb E + 5)), (2, .int (nI (3 - k))), (3, .int (nI n))] [] I1 Q := by
    intro F
    induction F with
    | zero =>
      intro n i2 a b I1 hF hi3 hca s1 f1 p1 c1 hQ
      refine S_X9_readAll_8 isRu5 _ _ ?_
      rw [nI_leI (by omega) (by omega)]
      exact ⟨fun _ => hQ I1 ⟨f1, s1, p1, c1⟩, fun z => by omega⟩
    | succ F ih =>
      intro n i2 a b I1 hF hi3 hca s1 f1 p1 c1 hQ
      refine S_X9_readAll_8 isRu5 _ _ ?_
      rw [nI_leI (by omega) (by omega)]
      refine ⟨fun z => by omega, fun _ => x_passes hK ht s1 hi3 rfl (by omega) (fun z I2 s2 f2 g2 => ⟨_, rfl, fun w => absurd w one_ne, fun _ => ?_⟩) (fun z => ⟨_, rfl, fun _ => hQ I1 ?_, fun w => absurd rfl w⟩)⟩
      · have hi4 := end_lt hend hi3 (by omega)
        have gg := g0 (i2 + 1) hi4
        refine h1 I2 (i2 + 1) (c + sz a) _ s2 hi4 (by omega) (fun I3 o3 => ⟨rfl, ?_⟩)
        cases hr : pOne (bas t k) t (i2 + 1) with
        | inl q =>
          rw [hr] at o3
          refine x_emitF o3.2 (fun I4 s4 f4 => ⟨rfl, x_all8F s4 (hQ I4 ?_)⟩)
          have e : andL (bas t k) t (F + 1) i2 a b = .inl q := by unfold andL; rw [if_pos z, hr]
          rw [e]; exact ⟨((f1.tr f2).tr o3.1).tr f4, s4⟩
        | inr r =>
          rw [hr] at o3 gg
          obtain ⟨f3, s3, p3, c3⟩ := o3
          obtain ⟨q1, q2, q3⟩ := gg
          have q4 := q3.1
          refine x_emit s3 (by omega) (fun I4 s4 f4 p4 v4 => ⟨rfl, ?_⟩)
          rw [nI_add]
          have es : sz (a ++ (r.2.1 ++ [(4, 0, 0)])) = sz a + sz r.2.1 + 1 := by rw [sz_app, sz_app, ← Nat.add_assoc]; rfl
          refine ih (n + 1) r.1 (a ++ (r.2.1 ++ [(4, 0, 0)])) (b ++ (r.2.2 ++ [(4, 0, 0)])) I4 (by omega) q2 (by omega) ?_ (((f1.tr f2).tr f3).tr f4) (fun j hj => ?_) ?_ (fun I5 o5 => hQ I5 ?_)
          · rw [es, show c + (sz a + sz r.2.1 + 1) = c + sz a + sz r.2.1 + 1 by omega]; exact s4
          · rw [p4 j (by omega), p3 j (by omega), g2, p1 j hj]
          · rw [es, show c + (sz a + sz r.2.1 + 1) = c + sz a + sz r.2.1 + 1 by omega]
            refine spC_app _ _ _ (c + sz a) _ (spC_eq _ _ _ (fun j _ hj => by rw [p4 j (by omega), p3 j (by omega), g2]) c1) (spC_app _ _ _ (c + sz a + sz r.2.1) _ (spC_eq _ _ _ (fun j _ hj => p4 j (by omega)) c3) (spC_one (by omega) (by omega) v4))
          · have e : andL (bas t k) t (F + 1) i2 a b = andL (bas t k) t F r.1 (a ++ (r.2.1 ++ [(4, 0, 0)])) (b ++ (r.2.2 ++ [(4, 0, 0)])) := by
              show (if t i2 = 11 then _ else _) = _
              rw [if_pos z, hr]
            rw [e]; exact o5
      · have e : andL (bas t k) t (F + 1) i2 a b = .inr (i2, a, b) := by unfold andL; rw [if_neg z]
        rw [e]; exact ⟨f1, s1, p1, c1⟩
  refine S_X9_readAll isRu5 _ (h1 I i c _ h hi2 hc (fun I1 o1 => ⟨rfl, ?_⟩))
  have gg := g0 i hi2
  cases hr : pOne (bas t k) t i with
  | inl q =>
    rw [hr] at o1
    refine x_all8F o1.2 (hQ I1 ?_)
    have e : pAll (bas t k) t i = .inl q := by unfold pAll; rw [hr]
    rw [e]; exact o1
  | inr r =>
    rw [hr] at o1 gg
    obtain ⟨f1, s1, p1, c1⟩ := o1
    obtain ⟨q1, q2, q3⟩ := gg
    have q4 := q3.1
    refine lp 200 0 r.1 r.2.1 r.2.2 I1 (by omega) q2 (by omega) s1 f1 p1 c1 (fun I2 o2 => hQ I2 ?_)
    have e : pAll (bas t k) t i = andL (bas t k) t 200 r.1 r.2.1 r.2.2 := by unfold pAll; rw [hr]
    rw [e]; exact o2
theorem x_cdOf (hK : K ≤ 200) (ht : ∀ j, t j ≤ 10999) (hend : t K = 301) (hk : k ≤ 3) (h1 : H2 E t K D k) : H3 E t K (D + 1) k := by
  intro I i c Q h hi2 hc hQ
  have g0 : ∀ i, i ≤ K → PG t K (11 - 2 * k) i (pAll (bas t k) t i) := fun i hi => pAll_g hend (fun i hi => bas_g hend k (11 - 2 * k + 1) i (by omega) hi) hi
  have lp : ∀ (F n i2 : Nat) (a b : List Op3) (I1 : IH), F + n = 200 → i2 ≤ K → c + sz a ≤ i2 → CS t K I1 i2 (c + sz a) → FrP I I1 → (∀ j, j < c → I1 9 j = I 9 j) → spC (I1 9) c (c + sz a) a → (∀ I2, OC t K I c (orL (bas t k) t F i2 a b) I2 → Q none I2) → J E (D + 1) mX9_readCondition 8 [(0, .ref (eb E + 1)), (1, .ref (eb E + 5)), (2, .int (nI (3 - k))), (3, .int (nI n))] [] I1 Q := by
    intro F
    induction F with
    | zero =>
      intro n i2 a b I1 hF hi3 hca s1 f1 p1 c1 hQ
      refine S_X9_readCondition_8 isRu5 _ _ ?_
      rw [nI_leI (by omega) (by omega)]
      exact ⟨fun _ => hQ I1 ⟨f1, s1, p1, c1⟩, fun z => by omega⟩
    | succ F ih =>
      intro n i2 a b I1 hF hi3 hca s1 f1 p1 c1 hQ
      refine S_X9_readCondition_8 isRu5 _ _ ?_
      rw [nI_leI (by omega) (by omega)]
      refine ⟨fun z => by omega, fun _ => x_passes hK ht s1 hi3 rfl (by omega) (fun z I2 s2 f2 g2 => ⟨_, rfl, fun w => absurd w one_ne, fun _ => ?_⟩) (fun z => ⟨_, rfl, fun _ => hQ I1 ?_, fun w => absurd rfl w⟩)⟩
      · have hi4 := end_lt hend hi3 (by omega)
        have gg := g0 (i2 + 1) hi4
        refine h1 I2 (i2 + 1) (c + sz a) _ s2 hi4 (by omega) (fun I3 o3 => ⟨rfl, ?_⟩)
        cases hr : pAll (bas t k) t (i2 + 1) with
        | inl q =>
          rw [hr] at o3
          refine x_emitF o3.2 (fun I4 s4 f4 => ⟨rfl, x_cd8F s4 (hQ I4 ?_)⟩)
          have e : orL (bas t k) t (F + 1) i2 a b = .inl q := by unfold orL; rw [if_pos z, hr]
          rw [e]; exact ⟨((f1.tr f2).tr o3.1).tr f4, s4⟩
        | inr r =>
          rw [hr] at o3 gg
          obtain ⟨f3, s3, p3, c3⟩ := o3
          obtain ⟨q1, q2, q3⟩ := gg
          have q4 := q3.1
          refine x_emit s3 (by omega) (fun I4 s4 f4 p4 v4 => ⟨rfl, ?_⟩)
          rw [nI_add]
          have es : sz (a ++ (r.2.1 ++ [(5, 0, 0)])) = sz a + sz r.2.1 + 1 := by rw [sz_app, sz_app, ← Nat.add_assoc]; rfl
          refine ih (n + 1) r.1 (a ++ (r.2.1 ++ [(5, 0, 0)])) (b ++ (r.2.2 ++ [(5, 0, 0)])) I4 (by omega) q2 (by omega) ?_ (((f1.tr f2).tr f3).tr f4) (fun j hj => ?_) ?_ (fun I5 o5 => hQ I5 ?_)
          · rw [es, show c + (sz a + sz r.2.1 + 1) = c + sz a + sz r.2.1 + 1 by omega]; exact s4
          · rw [p4 j (by omega), p3 j (by omega), g2, p1 j hj]
          · rw [es, show c + (sz a + sz r.2.1 + 1) = c + sz a + sz r.2.1 + 1 by omega]
            refine spC_app _ _ _ (c + sz a) _ (spC_eq _ _ _ (fun j _ hj => by rw [p4 j (by omega), p3 j (by omega), g2]) c1) (spC_app _ _ _ (c + sz a + sz r.2.1) _ (spC_eq _ _ _ (fun j _ hj => p4 j (by omega)) c3) (spC_one (by omega) (by omega) v4))
          · have e : orL (bas t k) t (F + 1) i2 a b = orL (bas t k) t F r.1 (a ++ (r.2.1 ++ [(5, 0, 0)])) (b ++ (r.2.2 ++ [(5, 0, 0)])) := by
              show (if t i2 = 10 then _ else _) = _
              rw [if_pos z, hr]
            rw [e]; exact o5
      · have e : orL (bas t k) t (F + 1) i2 a b = .inr (i2, a, b) := by unfold orL; rw [if_neg z]
        rw [e]; exact ⟨f1, s1, p1, c1⟩
  refine S_X9_readCondition isRu5 _ (h1 I i c _ h hi2 hc (fun I1 o1 => ⟨rfl, ?_⟩))
  have gg := g0 i hi2
  cases hr : pAll (bas t k) t i with
  | inl q =>
    rw [hr] at o1
    refine x_cd8F o1.2 (hQ I1 ?_)
    have e : pCd (bas t k) t i = .inl q := by unfold pCd; rw [hr]
    rw [e]; exact o1
  | inr r =>
    rw [hr] at o1 gg
    obtain ⟨f1, s1, p1, c1⟩ := o1
    obtain ⟨q1, q2, q3⟩ := gg
    have q4 := q3.1
    refine lp 200 0 r.1 r.2.1 r.2.2 I1 (by omega) q2 (by omega) s1 f1 p1 c1 (fun I2 o2 => hQ I2 ?_)
    have e : pCd (bas t k) t i = orL (bas t k) t 200 r.1 r.2.1 r.2.2 := by unfold pCd; rw [hr]
    rw [e]; exact o2
theorem x_cond (hK : K ≤ 200) (ht : ∀ j, t j ≤ 10999) (hend : t K = 301) : ∀ k, k ≤ 3 → H3 E t K (d + 3 * k + 4) k := by
  intro k
  induction k with
  | zero =>
    intro hk
    have hb : HB E t K (d + 1) 0 := by
      intro I i c x3 Q h hi2 hc hQ
      refine S_X9_readOne_38 isRu5 _ _ ⟨fun _ => S_X9_readOne_72 isRu5 _ (x_cmp hK ht hend h hi2 hc (fun I1 o1 => ⟨rfl, hQ I1 o1⟩)), fun z => absurd (by rw [nI_leI (by omega) (by omega)]; omega) z⟩
    exact x_cdOf hK ht hend hk (x_allOf hK ht hend hk (x_oneOf hK ht hend hk hb))
  | succ k ih =>
    intro hk
    have h3 : H3 E t K (d + 3 * k + 4) k := ih (by omega)
    have hb : HB E t K (d + 3 * k + 4) (k + 1) := by
      intro I i c x3 Q h hi2 hc hQ
      have j72 : t i ≠ 40 → J E (d + 3 * k + 4 + 1) mX9_readOne 72 [(0, .ref (eb E + 1)), (1, .ref (eb E + 5)), (3, .int x3)] [] I Q := by
        intro z
        refine S_X9_readOne_72 isRu5 _ (x_cmp (d := d + 3 * k + 3) hK ht hend h hi2 hc (fun I1 o1 => ⟨rfl, hQ I1 ?_⟩))
        have e : bas t (k + 1) i = pCmp t i := by unfold bas; rw [if_neg z]
        rw [e]; exact o1
      refine S_X9_readOne_38 isRu5 _ _ ⟨fun z => absurd z (by rw [nI_leI (by omega) (by omega)]; omega), fun _ => x_passes hK ht h hi2 rfl (by omega) (fun z I1 s1 f1 g1 => ⟨_, rfl, fun w => absurd w one_ne, fun _ => ?_⟩) (fun z => ⟨_, rfl, fun _ => j72 z, fun w => absurd rfl w⟩)⟩
      have hi3 := end_lt hend hi2 (by omega)
      have gg := pCd_g (M := 10 - 2 * k) (bs := bas t k) hend (fun i hi => bas_g hend k (10 - 2 * k + 1 + 1) i (by omega) hi) (i := i + 1) hi3
      rw [nI_add, show 3 - (k + 1) + 1 = 3 - k by omega]
      refine h3 I1 (i + 1) c _ s1 hi3 (by omega) (fun I2 o2 => ⟨rfl, ?_⟩)
      have e : bas t (k + 1) i = clo t (pCd (bas t k) t (i + 1)) := by
        show (if t i = 40 then _ else _) = _
        rw [if_pos z]
      cases hr : pCd (bas t k) t (i + 1) with
      | inl q =>
        rw [hr] at o2 e
        refine x_expectF o2.2 (fun I3 s3 f3 => ⟨_, rfl, hQ I3 ?_⟩)
        rw [e]; exact ⟨(f1.tr o2.1).tr f3, s3⟩
      | inr r =>
        rw [hr] at o2 e gg
        obtain ⟨f2, s2, p2, c2⟩ := o2
        obtain ⟨q1, q2, q3⟩ := gg
        have q4 := q3.1
        refine x_expect hK ht s2 q2 rfl rfl (by omega) (by omega) (fun l1 u1 I3 s3 f3 g3 => ⟨_, rfl, hQ I3 ?_⟩) (fun nn I3 s3 f3 => ⟨_, rfl, hQ I3 ?_⟩) (by omega)
        · have e2 : clo t (.inr r) = .inr (r.1 + 1, r.2.1, r.2.2) := by unfold clo; exact if_pos (by omega)
          rw [e, e2]
          refine ⟨(f1.tr f2).tr f3, s3, fun j hj => by rw [g3, p2 j hj, g1], ?_⟩
          show spC (I3 9) c (c + sz r.2.1) r.2.1
          rw [g3]; exact c2
        · have e2 : clo t (.inr r) = .inl r.1 := by unfold clo; exact if_neg (by omega)
          rw [e, e2]
          exact ⟨(f1.tr f2).tr f3, s3⟩
    exact x_cdOf hK ht hend hk (x_allOf hK ht hend hk (x_oneOf hK ht hend hk hb))
/-! a rule -/
abbrev RU : Type := Nat × Nat × Nat × List Op3 × List Op3
noncomputable def pFin (t : Nat → Nat) (k i : Nat) (a b : List Op3) : Nat ⊕ RU := if dc (6 ≤ t i ∧ t i ≤ 8) = true then (if t (i + 1) = 59 then .inr (i + 2, k, t i - 6, a, b) else .inl (i + 1)) else .inl i
noncomputable def pIf (t : Nat → Nat) (k : Nat) (r : PR) : Nat ⊕ RU := match r with
  | .inl j => .inl j
  | .inr q => pFin t k q.1 q.2.1 q.2.2
noncomputable def pRule (t : Nat → Nat) (r i : Nat) : Nat ⊕ RU := if r = 8 then .inl i else if t i ≤ 5 then (if t (i + 1) = 9 then pIf t (t i) (pCd (bas t 3) t (i + 2)) else pFin t (t i) (i + 1) [] []) else .inl i
def RG (K i : Nat) (r : Nat ⊕ RU) : Prop := match r with
  | .inl j => i ≤ j ∧ j ≤ K
  | .inr q => i < q.1 ∧ q.1 ≤ K ∧ q.2.1 ≤ 5 ∧ q.2.2.1 ≤ 2 ∧ sz q.2.2.2.1 ≤ q.1 - i ∧ sz q.2.2.2.2 ≤ q.1 - i ∧ ((q.2.2.2.1 = [] ∧ q.2.2.2.2 = []) ∨ Gd 4 (q.1 - i) q.2.2.2.1 q.2.2.2.2)
theorem pFin_g {s : Nat} {a b : List Op3} (hend : t K = 301) (hs : s ≤ i) (hi2 : i ≤ K) (hk : k ≤ 5) (ha : sz a ≤ i - s) (hb : sz b ≤ i - s) (hg : (a = [] ∧ b = []) ∨ Gd 4 (i - s) a b) : RG K s (pFin t k i a b) := by
  unfold pFin
  by_cases h1 : 6 ≤ t i ∧ t i ≤ 8
  · rw [if_pos (dc_t h1)]
    have i1 := end_lt hend hi2 (by omega)
    split
    · rename_i h2
      have i2 := end_lt (i := i + 1) hend i1 (by omega)
      refine ⟨by show s < i + 2; omega, i2, hk, by show t i - 6 ≤ 2; omega, by show sz a ≤ i + 2 - s; omega, by show sz b ≤ i + 2 - s; omega, ?_⟩
      rcases hg with hg | hg
      · exact Or.inl hg
      · exact Or.inr (hg.mono (by show i - s ≤ i + 2 - s; omega) (Nat.le_refl _))
    · exact ⟨by omega, i1⟩
  · rw [if_neg (by rw [dc_i]; exact h1)]; exact ⟨hs, hi2⟩
theorem pRule_g {r : Nat} (hend : t K = 301) (hi2 : i ≤ K) : RG K i (pRule t r i) := by
  unfold pRule
  split
  · exact ⟨Nat.le_refl i, hi2⟩
  · split
    · rename_i h1
      have i1 := end_lt hend hi2 (by omega)
      split
      · rename_i h2
        have i2 := end_lt (i := i + 1) hend i1 (by omega)
        have gg := pCd_g (M := 4) (bs := bas t 3) hend (fun i hi => bas_g hend 3 6 i (by omega) hi) (i := i + 2) i2
        cases hr : pCd (bas t 3) t (i + 2) with
        | inl q => rw [hr] at gg; exact ⟨by have := gg.1; omega, gg.2⟩
        | inr q =>
          rw [hr] at gg
          obtain ⟨q1, q2, q3⟩ := gg
          have q4 := q3.1
          have q5 := q3.2.1
          exact pFin_g hend (by omega) q2 h1 (by omega) (by omega) (Or.inr (q3.mono (by omega) (Nat.le_refl _)))
      · exact pFin_g hend (by omega) i1 h1 (Nat.zero_le _) (Nat.zero_le _) (Or.inl ⟨rfl, rfl⟩)
    · exact ⟨Nat.le_refl i, hi2⟩
/-- the cells that the reading of rules changes -/
def FrQ (I I2 : IH) : Prop := Same [1, 5, 6, 7, 8, 9] I I2 ∧ ∀ j, j ≠ 4 → j ≠ 5 → I2 1 j = I 1 j
theorem FrP.q {I2 : IH} (h : FrP I I2) : FrQ I I2 := ⟨h.1.mono (by decide), h.2.1⟩
theorem FrQ.tr {I2 I3 : IH} (h : FrQ I I2) (h2 : FrQ I2 I3) : FrQ I I3 := ⟨h.1.tr h2.1, fun j a b => (h2.2 j a b).trans (h.2 j a b)⟩
theorem FrP.ar {I2 : IH} (h : FrP I I2) : I2 6 = I 6 ∧ I2 7 = I 7 ∧ I2 8 = I 8 := ⟨h.1 6 (by decide), h.1 7 (by decide), h.1 8 (by decide)⟩
/-- the class has told one rule more -/
def OR1 (t : Nat → Nat) (K : Nat) (I : IH) (r c : Nat) (o : Nat ⊕ RU) (I2 : IH) : Prop := FrQ I I2 ∧ match o with
  | .inl j => Fl t K I2 j
  | .inr q => CS t K I2 q.1 (c + sz q.2.2.2.1) ∧ (∀ j, j < c → I2 9 j = I 9 j) ∧ spC (I2 9) c (c + sz q.2.2.2.1) q.2.2.2.1 ∧ I2 5 0 = nI (r + 1) ∧ (∀ j, j ≠ r → I2 6 j = I 6 j ∧ I2 7 j = I 7 j ∧ I2 8 j = I 8 j) ∧ I2 6 r = nI q.2.1 ∧ I2 7 r = nI q.2.2.1 ∧ I2 8 r = nI (c + sz q.2.2.2.1)
theorem x_addF {r : Nat} (h : Fl t K I j) (h0 : I 5 0 = nI r) (hr : r < 8) (hQ : ∀ I2, Fl t K I2 j → FrQ I I2 → Q none I2) : Mt E d mX6_add [.ref (eb E + 5), .int x, .int y] I Q := by
  obtain ⟨s1, s2, s3, c, hc, s4⟩ := h
  refine S_X6_add isRu5 _ _ ?_
  rw [h0, nI_leI (by omega) (by omega)]
  refine ⟨fun z => by omega, fun _ => ⟨r, rfl, hr, fun I1 e1 => ⟨r, by rw [e1, st_ne (by omega)]; exact h0, hr, fun I6 e6 => ⟨r, by rw [e6, st_ne (by omega), e1, st_ne (by omega)]; exact h0, hr, fun I11 e11 I16 e16 => ?_⟩⟩⟩⟩
  have q : ∀ a, a ≠ 5 → a ≠ 6 → a ≠ 7 → a ≠ 8 → I16 a = I a := fun a a5 a6 a7 a8 => by rw [e16, st_ne a5, e11, st_ne a8, e6, st_ne a7, e1, st_ne a6]
  refine hQ I16 ⟨fun j hj => by rw [q 3 (by omega) (by omega) (by omega) (by omega)]; exact s1 j hj, by rw [q 1 (by omega) (by omega) (by omega) (by omega)]; exact s2, by rw [q 1 (by omega) (by omega) (by omega) (by omega)]; exact s3, c, hc, ?_⟩ ⟨fun a ha => ?_, fun j _ _ => by rw [q 1 (by omega) (by omega) (by omega) (by omega)]⟩
  · rw [e16, st_nj (by omega), e11, st_ne (by omega), e6, st_ne (by omega), e1, st_ne (by omega)]; exact s4
  · have : a ≠ 5 ∧ a ≠ 6 ∧ a ≠ 7 ∧ a ≠ 8 := by simp at ha; omega
    exact q a this.1 this.2.1 this.2.2.1 this.2.2.2
theorem x_add {r : Nat} (h : CS t K I i c) (h0 : I 5 0 = nI r) (hr : r < 8) (hQ : ∀ I2, CS t K I2 i c → FrQ I I2 → I2 9 = I 9 → I2 5 0 = nI (r + 1) → (∀ j, j ≠ r → I2 6 j = I 6 j ∧ I2 7 j = I 7 j ∧ I2 8 j = I 8 j) → I2 6 r = x → I2 7 r = y → I2 8 r = nI c → Q none I2) : Mt E d mX6_add [.ref (eb E + 5), .int x, .int y] I Q := by
  obtain ⟨s1, s2, s3, s4⟩ := h
  refine S_X6_add isRu5 _ _ ?_
  rw [h0, nI_leI (by omega) (by omega)]
  refine ⟨fun z => by omega, fun _ => ⟨r, rfl, hr, fun I1 e1 => ⟨r, by rw [e1, st_ne (by omega)]; exact h0, hr, fun I6 e6 => ⟨r, by rw [e6, st_ne (by omega), e1, st_ne (by omega)]; exact h0, hr, fun I11 e11 I16 e16 => ?_⟩⟩⟩⟩
  have q : ∀ a, a ≠ 5 → a ≠ 6 → a ≠ 7 → a ≠ 8 → I16 a = I a := fun a a5 a6 a7 a8 => by rw [e16, st_ne a5, e11, st_ne a8, e6, st_ne a7, e1, st_ne a6]
  have c5 : I6 5 = I 5 := by rw [e6, st_ne (by omega), e1, st_ne (by omega)]
  refine hQ I16 ⟨fun j hj => by rw [q 3 (by omega) (by omega) (by omega) (by omega)]; exact s1 j hj, by rw [q 1 (by omega) (by omega) (by omega) (by omega)]; exact s2, by rw [q 1 (by omega) (by omega) (by omega) (by omega)]; exact s3, ?_⟩ ⟨fun a ha => ?_, fun j _ _ => by rw [q 1 (by omega) (by omega) (by omega) (by omega)]⟩ (q 9 (by omega) (by omega) (by omega) (by omega)) ?_ (fun j hj => ⟨?_, ?_, ?_⟩) ?_ ?_ ?_
  · rw [e16, st_nj (by omega), e11, st_ne (by omega), c5]; exact s4
  · have : a ≠ 5 ∧ a ≠ 6 ∧ a ≠ 7 ∧ a ≠ 8 := by simp at ha; omega
    exact q a this.1 this.2.1 this.2.2.1 this.2.2.2
  · rw [e16, st_at, e11, st_ne (by omega), c5, h0, nI_add]
  · rw [e16, st_ne (by omega), e11, st_ne (by omega), e6, st_ne (by omega), e1]; exact st_nj hj
  · rw [e16, st_ne (by omega), e11, st_ne (by omega), e6, st_nj hj, e1, st_ne (by omega)]
  · rw [e16, st_ne (by omega), e11, st_nj hj, e6, st_ne (by omega), e1, st_ne (by omega)]
  · rw [e16, st_ne (by omega), e11, st_ne (by omega), e6, st_ne (by omega), e1]; exact st_at
  · rw [e16, st_ne (by omega), e11, st_ne (by omega), e6]; exact st_at
  · rw [e16, st_ne (by omega), e11, c5, s4]; exact st_at
theorem x_rule37F {r : Nat} (h : Fl t K I j) (h0 : I 5 0 = nI r) (hr : r < 8) (hQ : ∀ I2, Fl t K I2 j → FrQ I I2 → Q none I2) : J E (d + 1) mX9_readRule 37 [(0, .ref (eb E + 1)), (1, .ref (eb E + 5)), (2, .int x)] [] I Q :=
  S_X9_readRule_37 isRu5 _ (x_expectF h (fun I1 s1 f1 => ⟨_, rfl, x_expectF s1 (fun I2 s2 f2 => ⟨_, rfl, x_addF s2 (by rw [f2.2.2, f1.2.2]; exact h0) hr (fun I3 s3 f3 => ⟨rfl, hQ I3 s3 ((f1.q.tr f2.q).tr f3)⟩)⟩)⟩))
theorem x_rule37 {r : Nat} {a b : List Op3} (hK : K ≤ 200) (ht : ∀ j, t j ≤ 10999) (hend : t K = 301) (h : CS t K I i (c + sz a)) (hi2 : i ≤ K) (hc : c + sz a ≤ 200) (h0 : I 5 0 = nI r) (hr : r < 8) (hsp : spC (I 9) c (c + sz a) a) (hQ : ∀ I2, OR1 t K I r c (pFin t k i a b) I2 → Q none I2) : J E (d + 1) mX9_readRule 37 [(0, .ref (eb E + 1)), (1, .ref (eb E + 5)), (2, .int (nI k))] [] I Q := by
  refine S_X9_readRule_37 isRu5 _ (x_expect hK ht h hi2 rfl rfl (by omega) (by omega) (fun l1 u1 I1 s1 f1 g1 => ⟨_, rfl, ?_⟩) (fun n1 I1 s1 f1 => ⟨_, rfl, x_expectF s1 (fun I2 s2 f2 => ⟨_, rfl, x_addF s2 (by rw [f2.2.2, f1.2.2]; exact h0) hr (fun I3 s3 f3 => ⟨rfl, hQ I3 ?_⟩)⟩)⟩) hc)
  · have i1 := end_lt hend hi2 (by omega)
    refine x_expect hK ht s1 i1 rfl rfl (by omega) (by omega) (fun l2 u2 I2 s2 f2 g2 => ⟨_, rfl, x_add s2 (by rw [f2.2.2, f1.2.2]; exact h0) hr (fun I3 s3 f3 g3 v5 p3 v6 v7 v8 => ⟨rfl, hQ I3 ?_⟩)⟩) (fun n2 I2 s2 f2 => ⟨_, rfl, x_addF s2 (by rw [f2.2.2, f1.2.2]; exact h0) hr (fun I3 s3 f3 => ⟨rfl, hQ I3 ?_⟩)⟩) hc
    · have e : pFin t k i a b = .inr (i + 2, k, t i - 6, a, b) := by unfold pFin; rw [if_pos (dc_t ⟨l1, u1⟩), if_pos (by omega)]
      rw [e]
      obtain ⟨a1, a2, a3⟩ := f1.ar
      obtain ⟨b1, b2, b3⟩ := f2.ar
      refine ⟨(f1.q.tr f2.q).tr f3, s3, fun j hj => by rw [g3, g2, g1], ?_, v5, fun j hj => ?_, v6, ?_, v8⟩
      · show spC (I3 9) c (c + sz a) a
        rw [g3, g2, g1]; exact hsp
      · obtain ⟨w1, w2, w3⟩ := p3 j hj
        rw [w1, w2, w3, b1, b2, b3, a1, a2, a3]; exact ⟨rfl, rfl, rfl⟩
      · rw [v7, nI_subB l1]
    · have e : pFin t k i a b = .inl (i + 1) := by unfold pFin; rw [if_pos (dc_t ⟨l1, u1⟩), if_neg (by omega)]
      rw [e]; exact ⟨(f1.q.tr f2.q).tr f3, s3⟩
  · have e : pFin t k i a b = .inl i := by unfold pFin; rw [if_neg (by rw [dc_i]; exact n1)]
    rw [e]; exact ⟨(f1.q.tr f2.q).tr f3, s3⟩
theorem OR1.of {I1 I2 : IH} {r : Nat} {o : Nat ⊕ RU} (f : FrP I I1) (p : ∀ j, j < c → I1 9 j = I 9 j) (h : OR1 t K I1 r c o I2) : OR1 t K I r c o I2 := by
  obtain ⟨f2, h2⟩ := h
  refine ⟨f.q.tr f2, ?_⟩
  cases o with
  | inl j => exact h2
  | inr q =>
    obtain ⟨g1, g2, g3, g4, g5, g6⟩ := h2
    obtain ⟨a1, a2, a3⟩ := f.ar
    refine ⟨g1, fun j hj => by rw [g2 j hj, p j hj], g3, g4, fun j hj => ?_, g6⟩
    obtain ⟨w1, w2, w3⟩ := g5 j hj
    rw [w1, w2, w3, a1, a2, a3]; exact ⟨rfl, rfl, rfl⟩
theorem x_rule {r : Nat} (hK : K ≤ 200) (ht : ∀ j, t j ≤ 10999) (hend : t K = 301) (h : CS t K I i c) (hi2 : i ≤ K) (hc : c ≤ i) (h0 : I 5 0 = nI r) (hr : r ≤ 8) (hQ : ∀ I2, OR1 t K I r c (pRule t r i) I2 → Q none I2) : Mt E (d + 14) mX9_readRule [.ref (eb E + 1), .ref (eb E + 5)] I Q := by
  refine S_X9_readRule isRu5 ?_
  rw [h0, nI_eq (by omega) (by omega)]
  refine ⟨fun z => x_expect hK ht h hi2 rfl rfl (by omega) (by omega) (fun l1 u1 I1 s1 f1 g1 => ⟨_, rfl, ?_⟩) (fun n1 I1 s1 f1 => ⟨_, rfl, x_passesF s1 ⟨_, rfl, fun _ => x_rule37F s1 (by rw [f1.2.2]; exact h0) (by omega) (fun I2 s2 f2 => hQ I2 ?_), fun w => absurd rfl w⟩⟩) (by omega), fun z I6 e6 => hQ I6 ?_⟩
  · have i1 := end_lt hend hi2 (by omega)
    have h01 : I1 5 0 = nI r := by rw [f1.2.2]; exact h0
    refine x_passes hK ht s1 i1 rfl (by omega) (fun w I2 s2 f2 g2 => ⟨_, rfl, fun y => absurd y one_ne, fun _ => ?_⟩) (fun w => ⟨_, rfl, fun _ => ?_, fun y => absurd rfl y⟩)
    · have i2 := end_lt (i := i + 1) hend i1 (by omega)
      have gg := pCd_g (M := 4) (bs := bas t 3) hend (fun i hi => bas_g hend 3 6 i (by omega) hi) (i := i + 2) i2
      have h02 : I2 5 0 = nI r := by rw [f2.2.2]; exact h01
      refine x_cond (d := d) hK ht hend 3 (by omega) I2 (i + 2) c _ s2 i2 (by omega) (fun I3 o3 => ⟨rfl, ?_⟩)
      have e : pRule t r i = pIf t (t i) (pCd (bas t 3) t (i + 2)) := by unfold pRule; rw [if_neg z, if_pos (by omega), if_pos w]
      cases hr2 : pCd (bas t 3) t (i + 2) with
      | inl q =>
        rw [hr2] at o3 e
        refine x_rule37F o3.2 (by rw [o3.1.2.2]; exact h02) (by omega) (fun I4 s4 f4 => hQ I4 ?_)
        rw [e]; exact ⟨((f1.tr f2).tr o3.1).q.tr f4, s4⟩
      | inr q =>
        rw [hr2] at o3 e gg
        obtain ⟨f3, s3, p3, c3⟩ := o3
        obtain ⟨q1, q2, q3⟩ := gg
        have q4 := q3.1
        refine x_rule37 (c := c) (a := q.2.1) (b := q.2.2) hK ht hend s3 q2 (by omega) (by rw [f3.2.2]; exact h02) (by omega) c3 (fun I4 o4 => hQ I4 ?_)
        rw [e]
        exact OR1.of ((f1.tr f2).tr f3) (fun j hj => by rw [p3 j hj, g2, g1]) o4
    · have e : pRule t r i = pFin t (t i) (i + 1) [] [] := by unfold pRule; rw [if_neg z, if_pos (by omega), if_neg w]
      refine x_rule37 (c := c) (a := []) (b := []) hK ht hend s1 i1 (by show c + 0 ≤ 200; omega) h01 (by omega) rfl (fun I4 o4 => hQ I4 ?_)
      rw [e]
      exact OR1.of f1 (fun j hj => by rw [g1]) o4
  · have e : pRule t r i = .inl i := by unfold pRule; rw [if_neg z, if_neg (by omega)]
    rw [e]; exact ⟨f1.q.tr f2, s2⟩
  · have e : pRule t r i = .inl i := by unfold pRule; rw [if_pos z]
    rw [e]
    obtain ⟨s1, s2, s3, s4⟩ := h
    exact ⟨⟨by rw [e6]; exact Same.st (by simp), fun j _ hj => by rw [e6, st_nj hj]⟩, fun j hj => by rw [e6, st_ne (by omega)]; exact s1 j hj, by rw [e6, st_nj (by omega)]; exact s2, by rw [e6, st_at], c, by omega, by rw [e6, st_ne (by omega)]; exact s4⟩
end L4
