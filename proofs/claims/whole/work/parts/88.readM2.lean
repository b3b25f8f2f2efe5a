section L8
variable {E : EE} {d : Nat} {I : IH} {Q : QT} {B : Nat → Nat} {n K i j k c o D : Nat} {x y : Int32} {st st2 : Nat → Int32}
def MB (E : EE) (B : Nat → Nat) (n K D k : Nat) : Prop := ∀ (I : IH) (i c : Nat) (x1 : Int32) (Q : QT), CM B n I i c (3 - k) → i ≤ K → c ≤ i → (∀ v I2, OM B n I c (3 - k) (bas (tk B n) k i) v I2 → J E (D + 1) mX12_readsOne 41 [(0, .ref (eb E + 115)), (1, .int x1), (2, .int v), (3, .int (nI 0))] [] I2 Q) →
  ((¬ (I 115 10) = (nI 240) → (Mt E D mX12_readsLike [.ref (eb E + 115)] I (fun rv I3 => ∃ v4 : Int32, rv = some (.int v4) ∧
 J E (D + 1) mX12_readsOne 41 [(0, .ref (eb E + 115)), (1, .int x1), (2, .int v4), (3, .int (nI 0))] [] I3 Q))) ∧
 ((I 115 10) = (nI 240) → (Mt E D mX12_readsWithin [.ref (eb E + 115)] I (fun rv I5 => ∃ v6 : Int32, rv = some (.int v6) ∧
 J E (D + 1) mX12_readsOne 41 [(0, .ref (eb E + 115)), (1, .int x1), (2, .int v6), (3, .int (nI 0))] [] I5 Q))))
def M1 (E : EE) (B : Nat → Nat) (n K D k : Nat) : Prop := ∀ (I : IH) (i c : Nat) (Q : QT), CM B n I i c (3 - k) → i ≤ K → c ≤ i → (∀ v I2, OM B n I c (3 - k) (pOne (bas (tk B n) k) (tk B n) i) v I2 → Q (some (.int v)) I2) → Mt E D mX12_readsOne [.ref (eb E + 115)] I Q
def M2 (E : EE) (B : Nat → Nat) (n K D k : Nat) : Prop := ∀ (I : IH) (i c : Nat) (Q : QT), CM B n I i c (3 - k) → i ≤ K → c ≤ i → (∀ v I2, OM B n I c (3 - k) (pAll (bas (tk B n) k) (tk B n) i) v I2 → Q (some (.int v)) I2) → Mt E D mX12_readsAll [.ref (eb E + 115)] I Q
def M3 (E : EE) (B : Nat → Nat) (n K D k : Nat) : Prop := ∀ (I : IH) (i c : Nat) (Q : QT), CM B n I i c (3 - k) → i ≤ K → c ≤ i → (∀ v I2, OM B n I c (3 - k) (pCd (bas (tk B n) k) (tk B n) i) v I2 → Q (some (.int v)) I2) → Mt E D mX12_readsCondition [.ref (eb E + 115)] I Q
theorem m_one41_0 (h : Q (some (.int (nI 0))) I) : J E (d + 1) mX12_readsOne 41 [(0, .ref (eb E + 115)), (1, .int x), (2, .int (nI 0)), (3, .int y)] [] I Q :=
  S_X12_readsOne_41 _ _ _ ⟨fun _ => ⟨Or.inl rfl, h⟩, fun _ => ⟨fun _ => ⟨Or.inl rfl, h⟩, fun z => absurd rfl z⟩⟩
theorem m_one41 {nn : Nat} (hb : c + nn ≤ 200) (hnn : nn ≤ 200) (hQ : ∀ I2, FrM I I2 → CM B n I2 i (c + nn) o → (∀ j, j < c → I2 122 j = I 122 j) → spS (I2 122) c (c + nn) (List.replicate nn (3, 0, 0)) → Q (some (.int (nI 1))) I2) : ∀ (m q : Nat) (I1 : IH), q + m = nn → CM B n I1 i (c + q) o → FrM I I1 → (∀ j, j < c → I1 122 j = I 122 j) → spS (I1 122) c (c + q) (List.replicate q (3, 0, 0)) → J E (d + 1) mX12_readsOne 41 [(0, .ref (eb E + 115)), (1, .int (nI nn)), (2, .int (nI 1)), (3, .int (nI q))] [] I1 Q := by
  intro m
  induction m with
  | zero =>
    intro q I1 hq s1 f1 p1 c1
    have : q = nn := by omega
    subst this
    refine S_X12_readsOne_41 _ _ _ ?_
    rw [nI_leI (by omega) (by omega)]
    exact ⟨fun _ => ⟨Or.inr (by decide +kernel), hQ I1 f1 s1 p1 c1⟩, fun z => by omega⟩
  | succ m ih =>
    intro q I1 hq s1 f1 p1 c1
    refine S_X12_readsOne_41 _ _ _ ?_
    rw [nI_leI (by omega) (by omega)]
    refine ⟨fun z => by omega, fun _ => ⟨fun z => absurd z one_ne, fun _ => m_lays s1 (by omega) (fun I2 s2 f2 p2 v2 => ⟨rfl, ?_⟩)⟩⟩
    rw [nI_add]
    refine ih (q + 1) I2 (by omega) s2 (f1.tr f2) (fun j hj => by rw [p2 j (by omega), p1 j hj]) ?_
    rw [List.replicate_succ']
    exact spS_app _ _ _ (c + q) _ (spS_eq _ _ _ (fun j _ hj => p2 j (by omega)) c1) (spS_one (by omega) (by omega) v2)
theorem m_oneOf (lx : LX B n K) (hn : n ≤ 200) (hk : k ≤ 3) (hb : MB E B n K (D + 4) k) : M1 E B n K (D + 4 + 1) k := by
  intro I i c Q h hi2 hc hQ
  have hend := tk_end lx
  have hK : K ≤ 200 := Nat.le_trans lx.1 hn
  have g0 := bas_g hend k (12 - 2 * k)
  refine S_X12_readsOne ?_
  -- behind the nots
  have fin : ∀ (m : Nat) (I1 : IH), i + m ≤ K → CM B n I1 (i + m) c (3 - k) → FrM I I1 → I1 122 = I 122 → nts (tk B n) 200 i = m → ((¬ (I1 115 10) = (nI 240) → (Mt E (D + 4) mX12_readsLike [.ref (eb E + 115)] I1 (fun rv I3 => ∃ v4 : Int32, rv = some (.int v4) ∧ J E (D + 4 + 1) mX12_readsOne 41 [(0, .ref (eb E + 115)), (1, .int (nI m)), (2, .int v4), (3, .int (nI 0))] [] I3 Q))) ∧ ((I1 115 10) = (nI 240) → (Mt E (D + 4) mX12_readsWithin [.ref (eb E + 115)] I1 (fun rv I5 => ∃ v6 : Int32, rv = some (.int v6) ∧ J E (D + 4 + 1) mX12_readsOne 41 [(0, .ref (eb E + 115)), (1, .int (nI m)), (2, .int v6), (3, .int (nI 0))] [] I5 Q)))) := by
    intro m I1 hi3 s1 f1 g1 hm
    refine hb I1 (i + m) c _ Q s1 hi3 (by omega) (fun v I2 o2 => ?_)
    have gg := g0 (i + m) (by omega) hi3
    cases hr : bas (tk B n) k (i + m) with
    | inl q =>
      rw [hr] at o2
      obtain ⟨f2, e0, e9⟩ := o2
      subst e0
      refine m_one41_0 (hQ _ I2 ?_)
      rw [pOne_l hm hr]; exact ⟨f1.tr f2, rfl, e9⟩
    | inr r =>
      rw [hr] at o2 gg
      obtain ⟨f2, e1, s2, p2, c2⟩ := o2
      subst e1
      obtain ⟨q1, q2, q3⟩ := gg
      have q5 := q3.2.1
      refine m_one41 (I := I2) (c := c + sz r.2.2) (by omega) (by omega) (fun I3 f3 s3 p3 c3 => hQ _ I3 ?_) m 0 I2 (by omega) s2 (FrM.rf _) (fun _ _ => rfl) rfl
      rw [pOne_r hm hr]
      refine ⟨(f1.tr f2).tr f3, rfl, ?_, fun j hj => by rw [p3 j (by omega), p2 j hj, g1], ?_⟩
      · show CM B n I3 r.1 (c + sz (r.2.2 ++ List.replicate m (3, 0, 0))) (3 - k)
        rw [sz_app, sz_rep, ← Nat.add_assoc]; exact s3
      · show spS (I3 122) c (c + sz (r.2.2 ++ List.replicate m (3, 0, 0))) (r.2.2 ++ List.replicate m (3, 0, 0))
        rw [sz_app, sz_rep, ← Nat.add_assoc]
        exact spS_app _ _ _ (c + sz r.2.2) _ (spS_eq _ _ _ (fun j _ b => p3 j b) c2) c3
  have lp : ∀ (F m : Nat) (I1 : IH), F + m = 200 → i + m ≤ K → CM B n I1 (i + m) c (3 - k) → FrM I I1 → I1 122 = I 122 → nts (tk B n) 200 i = m + nts (tk B n) F (i + m) → J E (D + 4 + 1) mX12_readsOne 2 [(0, .ref (eb E + 115)), (1, .int (nI m))] [] I1 Q := by
    intro F
    induction F with
    | zero =>
      intro m I1 hF hi3 s1 f1 g1 hm
      refine S_X12_readsOne_2 _ (m_takes lx s1 hi3 (tr_not s1.2.1.2.1) (by omega) (fun z zi => ?_) (fun z => ⟨_, rfl, fun _ => fin m I1 hi3 s1 f1 g1 hm, fun w => absurd rfl w⟩))
      omega
    | succ F ih =>
      intro m I1 hF hi3 s1 f1 g1 hm
      refine S_X12_readsOne_2 _ (m_takes lx s1 hi3 (tr_not s1.2.1.2.1) (by omega) (fun z zi I2 s2 f2 g2 => ⟨_, rfl, fun w => absurd w one_ne, fun _ => ?_⟩) (fun z => ⟨_, rfl, fun _ => fin m I1 hi3 s1 f1 g1 ?_, fun w => absurd rfl w⟩))
      · rw [nI_add]
        refine ih (m + 1) I2 (by omega) (by omega) s2 (f1.tr f2) (g2.trans g1) ?_
        rw [hm]
        have e : nts (tk B n) (F + 1) (i + m) = nts (tk B n) F (i + m + 1) + 1 := by
          show (if tk B n (i + m) = 12 then nts (tk B n) F (i + m + 1) + 1 else 0) = _
          rw [if_pos z]
        rw [e, show i + (m + 1) = i + m + 1 by omega]; omega
      · rw [hm]
        have : nts (tk B n) (F + 1) (i + m) = 0 := by
          show (if tk B n (i + m) = 12 then nts (tk B n) F (i + m + 1) + 1 else 0) = _
          rw [if_neg z]
        omega
  exact lp 200 0 I (by omega) hi2 h (FrM.rf I) rfl (by rw [Nat.zero_add]; rfl)
theorem m_all5_0 (h : Q (some (.int (nI 0))) I) : J E (d + 1) mX12_readsAll 5 [(0, .ref (eb E + 115)), (1, .int (nI 0))] [] I Q :=
  S_X12_readsAll_5 _ ⟨fun _ => ⟨Or.inl rfl, h⟩, fun z => absurd rfl z⟩
theorem m_cd5_0 (h : Q (some (.int (nI 0))) I) : J E (d + 1) mX12_readsCondition 5 [(0, .ref (eb E + 115)), (1, .int (nI 0))] [] I Q :=
  S_X12_readsCondition_5 _ ⟨fun _ => ⟨Or.inl rfl, h⟩, fun z => absurd rfl z⟩
theorem m_allOf (lx : LX B n K) (hn : n ≤ 200) (hk : k ≤ 3) (h1 : M1 E B n K (D + 4) k) : M2 E B n K (D + 4 + 1) k := by
  intro I i c Q h hi2 hc hQ
  have hend := tk_end lx
  have hK : K ≤ 200 := Nat.le_trans lx.1 hn
  have g0 : ∀ i, i ≤ K → PG (tk B n) K (12 - 2 * k) i (pOne (bas (tk B n) k) (tk B n) i) := fun i hi => pOne_g hend (fun i hi => bas_g hend k (12 - 2 * k) i (by omega) hi) hi
  have lp : ∀ (F m i2 : Nat) (a b : List Op3) (I1 : IH), F + m = 200 → m ≤ i2 → i2 ≤ K → c + sz b ≤ i2 → CM B n I1 i2 (c + sz b) (3 - k) → FrM I I1 → (∀ j, j < c → I1 122 j = I 122 j) → spS (I1 122) c (c + sz b) b → (∀ v I2, OM B n I c (3 - k) (andL (bas (tk B n) k) (tk B n) F i2 a b) v I2 → Q (some (.int v)) I2) → J E (D + 4 + 1) mX12_readsAll 5 [(0, .ref (eb E + 115)), (1, .int (nI 1))] [] I1 Q := by
    intro F
    induction F with
    | zero =>
      intro m i2 a b I1 hF hm hi3 hcb s1 f1 p1 c1 hQ
      refine S_X12_readsAll_5 _ ⟨fun z => absurd z one_ne, fun _ => m_takes lx s1 hi3 (tr_and s1.2.1.2.1) (by omega) (fun z zi => ?_) (fun z => ⟨_, rfl, fun _ => ⟨Or.inr (by decide +kernel), hQ _ I1 ⟨f1, rfl, s1, p1, c1⟩⟩, fun w => absurd rfl w⟩)⟩
      omega
    | succ F ih =>
      intro m i2 a b I1 hF hm hi3 hcb s1 f1 p1 c1 hQ
      refine S_X12_readsAll_5 _ ⟨fun z => absurd z one_ne, fun _ => m_takes lx s1 hi3 (tr_and s1.2.1.2.1) (by omega) (fun z zi I2 s2 f2 g2 => ⟨_, rfl, fun w => absurd w one_ne, fun _ => ?_⟩) (fun z => ⟨_, rfl, fun _ => ⟨Or.inr (by decide +kernel), hQ _ I1 ?_⟩, fun w => absurd rfl w⟩)⟩
      · have gg := g0 (i2 + 1) zi
        refine h1 I2 (i2 + 1) (c + sz b) _ s2 zi (by omega) (fun v I3 o3 => ⟨_, rfl, ?_⟩)
        cases hr : pOne (bas (tk B n) k) (tk B n) (i2 + 1) with
        | inl q =>
          rw [hr] at o3
          obtain ⟨f3, e0, e9⟩ := o3
          subst e0
          refine ⟨fun _ => m_all5_0 (hQ _ I3 ?_), fun w => absurd rfl w⟩
          have e : andL (bas (tk B n) k) (tk B n) (F + 1) i2 a b = .inl q := by unfold andL; rw [if_pos z, hr]
          rw [e]; exact ⟨(f1.tr f2).tr f3, rfl, e9⟩
        | inr r =>
          rw [hr] at o3 gg
          obtain ⟨f3, e1, s3, p3, c3⟩ := o3
          subst e1
          obtain ⟨q1, q2, q3⟩ := gg
          have q5 := q3.2.1
          refine ⟨fun w => absurd w one_ne, fun _ => m_lays s3 (by omega) (fun I4 s4 f4 p4 v4 => ⟨rfl, ?_⟩)⟩
          have es : sz (b ++ (r.2.2 ++ [(4, 0, 0)])) = sz b + sz r.2.2 + 1 := by rw [sz_app, sz_app, ← Nat.add_assoc]; rfl
          refine ih (m + 1) r.1 (a ++ (r.2.1 ++ [(4, 0, 0)])) (b ++ (r.2.2 ++ [(4, 0, 0)])) I4 (by omega) (by omega) q2 (by omega) ?_ (((f1.tr f2).tr f3).tr f4) (fun j hj => ?_) ?_ (fun v I5 o5 => hQ v I5 ?_)
          · rw [es, show c + (sz b + sz r.2.2 + 1) = c + sz b + sz r.2.2 + 1 by omega]; exact s4
          · rw [p4 j (by omega), p3 j (by omega), g2, p1 j hj]
          · rw [es, show c + (sz b + sz r.2.2 + 1) = c + sz b + sz r.2.2 + 1 by omega]
            refine spS_app _ _ _ (c + sz b) _ (spS_eq _ _ _ (fun j _ hj => by rw [p4 j (by omega), p3 j (by omega), g2]) c1) (spS_app _ _ _ (c + sz b + sz r.2.2) _ (spS_eq _ _ _ (fun j _ hj => p4 j (by omega)) c3) (spS_one (by omega) (by omega) v4))
          · have e : andL (bas (tk B n) k) (tk B n) (F + 1) i2 a b = andL (bas (tk B n) k) (tk B n) F r.1 (a ++ (r.2.1 ++ [(4, 0, 0)])) (b ++ (r.2.2 ++ [(4, 0, 0)])) := by
              show (if tk B n i2 = 11 then _ else _) = _
              rw [if_pos z, hr]
            rw [e]; exact o5
      · have e : andL (bas (tk B n) k) (tk B n) (F + 1) i2 a b = .inr (i2, a, b) := by unfold andL; rw [if_neg z]
        rw [e]; exact ⟨f1, rfl, s1, p1, c1⟩
  refine S_X12_readsAll (h1 I i c _ h hi2 hc (fun v I1 o1 => ⟨_, rfl, ?_⟩))
  have gg := g0 i hi2
  cases hr : pOne (bas (tk B n) k) (tk B n) i with
  | inl q =>
    rw [hr] at o1
    obtain ⟨f1, e0, e9⟩ := o1
    subst e0
    refine m_all5_0 (hQ _ I1 ?_)
    have e : pAll (bas (tk B n) k) (tk B n) i = .inl q := by unfold pAll; rw [hr]
    rw [e]; exact ⟨f1, rfl, e9⟩
  | inr r =>
    rw [hr] at o1 gg
    obtain ⟨f1, e1, s1, p1, c1⟩ := o1
    subst e1
    obtain ⟨q1, q2, q3⟩ := gg
    have q5 := q3.2.1
    refine lp 200 0 r.1 r.2.1 r.2.2 I1 (by omega) (by omega) q2 (by omega) s1 f1 p1 c1 (fun v I2 o2 => hQ v I2 ?_)
    have e : pAll (bas (tk B n) k) (tk B n) i = andL (bas (tk B n) k) (tk B n) 200 r.1 r.2.1 r.2.2 := by unfold pAll; rw [hr]
    rw [e]; exact o2
theorem m_cdOf (lx : LX B n K) (hn : n ≤ 200) (hk : k ≤ 3) (h1 : M2 E B n K (D + 4) k) : M3 E B n K (D + 4 + 1) k := by
  intro I i c Q h hi2 hc hQ
  have hend := tk_end lx
  have hK : K ≤ 200 := Nat.le_trans lx.1 hn
  have g0 : ∀ i, i ≤ K → PG (tk B n) K (11 - 2 * k) i (pAll (bas (tk B n) k) (tk B n) i) := fun i hi => pAll_g hend (fun i hi => bas_g hend k (11 - 2 * k + 1) i (by omega) hi) hi
  have lp : ∀ (F m i2 : Nat) (a b : List Op3) (I1 : IH), F + m = 200 → m ≤ i2 → i2 ≤ K → c + sz b ≤ i2 → CM B n I1 i2 (c + sz b) (3 - k) → FrM I I1 → (∀ j, j < c → I1 122 j = I 122 j) → spS (I1 122) c (c + sz b) b → (∀ v I2, OM B n I c (3 - k) (orL (bas (tk B n) k) (tk B n) F i2 a b) v I2 → Q (some (.int v)) I2) → J E (D + 4 + 1) mX12_readsCondition 5 [(0, .ref (eb E + 115)), (1, .int (nI 1))] [] I1 Q := by
    intro F
    induction F with
    | zero =>
      intro m i2 a b I1 hF hm hi3 hcb s1 f1 p1 c1 hQ
      refine S_X12_readsCondition_5 _ ⟨fun z => absurd z one_ne, fun _ => m_takes lx s1 hi3 (tr_or s1.2.1.2.1) (by omega) (fun z zi => ?_) (fun z => ⟨_, rfl, fun _ => ⟨Or.inr (by decide +kernel), hQ _ I1 ⟨f1, rfl, s1, p1, c1⟩⟩, fun w => absurd rfl w⟩)⟩
      omega
    | succ F ih =>
      intro m i2 a b I1 hF hm hi3 hcb s1 f1 p1 c1 hQ
      refine S_X12_readsCondition_5 _ ⟨fun z => absurd z one_ne, fun _ => m_takes lx s1 hi3 (tr_or s1.2.1.2.1) (by omega) (fun z zi I2 s2 f2 g2 => ⟨_, rfl, fun w => absurd w one_ne, fun _ => ?_⟩) (fun z => ⟨_, rfl, fun _ => ⟨Or.inr (by decide +kernel), hQ _ I1 ?_⟩, fun w => absurd rfl w⟩)⟩
      · have gg := g0 (i2 + 1) zi
        refine h1 I2 (i2 + 1) (c + sz b) _ s2 zi (by omega) (fun v I3 o3 => ⟨_, rfl, ?_⟩)
        cases hr : pAll (bas (tk B n) k) (tk B n) (i2 + 1) with
        | inl q =>
          rw [hr] at o3
          obtain ⟨f3, e0, e9⟩ := o3
          subst e0
          refine ⟨fun _ => m_cd5_0 (hQ _ I3 ?_), fun w => absurd rfl w⟩
          have e : orL (bas (tk B n) k) (tk B n) (F + 1) i2 a b = .inl q := by unfold orL; rw [if_pos z, hr]
          rw [e]; exact ⟨(f1.tr f2).tr f3, rfl, e9⟩
        | inr r =>
          rw [hr] at o3 gg
          obtain ⟨f3, e1, s3, p3, c3⟩ := o3
          subst e1
          obtain ⟨q1, q2, q3⟩ := gg
          have q5 := q3.2.1
          refine ⟨fun w => absurd w one_ne, fun _ => m_lays s3 (by omega) (fun I4 s4 f4 p4 v4 => ⟨rfl, ?_⟩)⟩
          have es : sz (b ++ (r.2.2 ++ [(5, 0, 0)])) = sz b + sz r.2.2 + 1 := by rw [sz_app, sz_app, ← Nat.add_assoc]; rfl
          refine ih (m + 1) r.1 (a ++ (r.2.1 ++ [(5, 0, 0)])) (b ++ (r.2.2 ++ [(5, 0, 0)])) I4 (by omega) (by omega) q2 (by omega) ?_ (((f1.tr f2).tr f3).tr f4) (fun j hj => ?_) ?_ (fun v I5 o5 => hQ v I5 ?_)
          · rw [es, show c + (sz b + sz r.2.2 + 1) = c + sz b + sz r.2.2 + 1 by omega]; exact s4
          · rw [p4 j (by omega), p3 j (by omega), g2, p1 j hj]
          · rw [es, show c + (sz b + sz r.2.2 + 1) = c + sz b + sz r.2.2 + 1 by omega]
            refine spS_app _ _ _ (c + sz b) _ (spS_eq _ _ _ (fun j _ hj => by rw [p4 j (by omega), p3 j (by omega), g2]) c1) (spS_app _ _ _ (c + sz b + sz r.2.2) _ (spS_eq _ _ _ (fun j _ hj => p4 j (by omega)) c3) (spS_one (by omega) (by omega) v4))
          · have e : orL (bas (tk B n) k) (tk B n) (F + 1) i2 a b = orL (bas (tk B n) k) (tk B n) F r.1 (a ++ (r.2.1 ++ [(5, 0, 0)])) (b ++ (r.2.2 ++ [(5, 0, 0)])) := by
              show (if tk B n i2 = 10 then _ else _) = _
              rw [if_pos z, hr]
            rw [e]; exact o5
      · have e : orL (bas (tk B n) k) (tk B n) (F + 1) i2 a b = .inr (i2, a, b) := by unfold orL; rw [if_neg z]
        rw [e]; exact ⟨f1, rfl, s1, p1, c1⟩
  refine S_X12_readsCondition (h1 I i c _ h hi2 hc (fun v I1 o1 => ⟨_, rfl, ?_⟩))
  have gg := g0 i hi2
  cases hr : pAll (bas (tk B n) k) (tk B n) i with
  | inl q =>
    rw [hr] at o1
    obtain ⟨f1, e0, e9⟩ := o1
    subst e0
    refine m_cd5_0 (hQ _ I1 ?_)
    have e : pCd (bas (tk B n) k) (tk B n) i = .inl q := by unfold pCd; rw [hr]
    rw [e]; exact ⟨f1, rfl, e9⟩
  | inr r =>
    rw [hr] at o1 gg
    obtain ⟨f1, e1, s1, p1, c1⟩ := o1
    subst e1
    obtain ⟨q1, q2, q3⟩ := gg
    have q5 := q3.2.1
    refine lp 200 0 r.1 r.2.1 r.2.2 I1 (by omega) (by omega) q2 (by omega) s1 f1 p1 c1 (fun v I2 o2 => hQ v I2 ?_)
    have e : pCd (bas (tk B n) k) (tk B n) i = orL (bas (tk B n) k) (tk B n) 200 r.1 r.2.1 r.2.2 := by unfold pCd; rw [hr]
    rw [e]; exact o2
theorem CM.opn {I2 : IH} {o2 : Nat} (h : CM B n I i c o) (e : I2 = stI I 115 12 (nI o2)) : CM B n I2 i c o2 ∧ FrM I I2 ∧ I2 122 = I 122 := by
  obtain ⟨hM, ⟨m1, ⟨z, m2, m4, m5⟩, m3⟩, hc2, ho⟩ := h
  have q : ∀ j, j ≠ 12 → I2 115 j = I 115 j := fun j hj => by rw [e, st_nj hj]
  have f : FrM I I2 := ⟨by rw [e]; exact Same.st (by simp), fun j hj => q j (by omega)⟩
  exact ⟨⟨hM.frm f, ⟨by rw [q 9 (by omega)]; exact m1, ⟨z, by rw [q 10 (by omega)]; exact m2, m4, fun y => by rw [q 11 (by omega)]; exact m5 y⟩, by rw [q 8 (by omega)]; exact m3⟩, by rw [q 13 (by omega)]; exact hc2, by rw [e, st_at]⟩, f, by rw [e, st_ne (by omega)]⟩
theorem m_cond (lx : LX B n K) (hn : n ≤ 200) : ∀ k, k ≤ 3 → M3 E B n K (d + 4 * k + 8) k := by
  have hend := tk_end lx
  have hK : K ≤ 200 := Nat.le_trans lx.1 hn
  intro k
  induction k with
  | zero =>
    intro hk
    have hb : MB E B n K (d + 5) 0 := by
      intro I i c x1 Q h hi2 hc hQ
      refine ⟨fun _ => m_like lx h hi2 hc (fun v I1 o1 => ⟨_, rfl, hQ v I1 o1⟩), fun z => S_X12_readsWithin ⟨fun w => absurd h.2.2.2 w, fun _ => ⟨_, rfl, hQ _ I ⟨FrM.rf I, ?_⟩⟩⟩⟩
      have z := (tr_240 h.2.1.2.1).mp z
      have e : bas (tk B n) 0 i = .inl i := by show pCmp (tk B n) i = _; unfold pCmp; rw [if_neg (by rw [dc_i]; unfold isV; omega)]
      rw [e]; exact ⟨rfl, h.2.1.1⟩
    exact m_cdOf (D := d + 3) lx hn hk (m_allOf (D := d + 2) lx hn hk (m_oneOf (D := d + 1) lx hn hk hb))
  | succ k ih =>
    intro hk
    have h3 : M3 E B n K (d + 4 * k + 8) k := ih (by omega)
    have hb : MB E B n K (d + 4 * k + 9) (k + 1) := by
      intro I i c x1 Q h hi2 hc hQ
      have hT : TokR (tk B n i) I := h.2.1.2.1
      refine ⟨fun z => m_like (d := d + 4 * k + 4) lx h hi2 hc (fun v I1 o1 => ⟨_, rfl, hQ v I1 ?_⟩), fun z => S_X12_readsWithin ⟨fun _ I1 e1 => ?_, fun w => absurd (h.2.2.2.symm.trans w) (by rw [nI_eq (by omega) (by omega)]; omega)⟩⟩
      · rw [tr_240 hT] at z
        have e : bas (tk B n) (k + 1) i = pCmp (tk B n) i := by unfold bas; rw [if_neg z]
        rw [e]; exact o1
      · have z := (tr_240 hT).mp z
        have hi3 := end_lt hend hi2 (by omega)
        rw [h.2.2.2, nI_add, show 3 - (k + 1) + 1 = 3 - k by omega] at e1
        obtain ⟨s1, f1, g1⟩ := CM.opn h e1
        have gg := pCd_g (M := 10 - 2 * k) (bs := bas (tk B n) k) hend (fun i hi => bas_g hend k (10 - 2 * k + 1 + 1) i (by omega) hi) (i := i + 1) hi3
        have e : bas (tk B n) (k + 1) i = clo (tk B n) (pCd (bas (tk B n) k) (tk B n) (i + 1)) := by
          show (if tk B n i = 40 then _ else _) = _
          rw [if_pos z]
        refine m_next (d := d + 4 * k + 5) lx s1 hi3 (fun I2 s2 f2 g2 => ⟨rfl, h3 I2 (i + 1) c _ s2 hi3 (by omega) (fun v I3 o3 => ⟨_, rfl, ?_⟩)⟩)
        cases hr : pCd (bas (tk B n) k) (tk B n) (i + 1) with
        | inl q =>
          rw [hr] at o3 e
          obtain ⟨f3, e0, e9⟩ := o3
          subst e0
          refine ⟨fun _ => ⟨_, rfl, hQ _ I3 ?_⟩, fun w => absurd rfl w⟩
          rw [e]; exact ⟨(f1.tr f2).tr f3, rfl, e9⟩
        | inr r =>
          rw [hr] at o3 e gg
          obtain ⟨f3, e1, s3, p3, c3⟩ := o3
          subst e1
          obtain ⟨q1, q2, q3⟩ := gg
          refine ⟨fun w => absurd w one_ne, fun _ => m_takes (d := d + 4 * k + 4) lx s3 q2 (tr_241 s3.2.1.2.1) (by omega) (fun y yi I4 s4 f4 g4 => ⟨_, rfl, fun _ I8 e8 => ⟨_, rfl, hQ _ I8 ?_⟩, fun w => absurd w one_ne⟩) (fun y => ⟨_, rfl, fun w => absurd rfl w, fun _ => ⟨_, rfl, hQ _ I3 ?_⟩⟩)⟩
          · rw [s4.2.2.2, nI_subB (by omega), show 3 - k - 1 = 3 - (k + 1) by omega] at e8
            obtain ⟨s8, f8, g8⟩ := CM.opn s4 e8
            have e2 : clo (tk B n) (.inr r) = .inr (r.1 + 1, r.2.1, r.2.2) := by unfold clo; exact if_pos y
            rw [e, e2]
            refine ⟨(((f1.tr f2).tr f3).tr f4).tr f8, rfl, s8, fun j hj => by rw [g8, g4, p3 j hj, g2, g1], ?_⟩
            show spS (I8 122) c (c + sz r.2.2) r.2.2
            rw [g8, g4]; exact c3
          · have e2 : clo (tk B n) (.inr r) = .inl r.1 := by unfold clo; exact if_neg y
            rw [e, e2]
            exact ⟨(f1.tr f2).tr f3, rfl, s3.2.1.1⟩
    exact m_cdOf (D := d + 4 * k + 7) lx hn hk (m_allOf (D := d + 4 * k + 6) lx hn hk (m_oneOf (D := d + 4 * k + 5) lx hn hk hb))
end L8
