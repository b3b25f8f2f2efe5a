section L9
variable {E : EE} {d : Nat} {I : IH} {Q : QT} {B : Nat → Nat} {n K i j k c o r : Nat} {x y : Int32}
def FrR (I I2 : IH) : Prop := Same [115, 122, 123] I I2 ∧ ∀ j, j < 8 ∨ 13 < j → I2 115 j = I 115 j
theorem FrM.rr {I2 : IH} (h : FrM I I2) : FrR I I2 := ⟨h.1.mono (by decide), h.2⟩
theorem FrR.rf (I : IH) : FrR I I := ⟨Same.rf _ _, fun _ _ => rfl⟩
theorem FrR.tr {I2 I3 : IH} (h : FrR I I2) (h2 : FrR I2 I3) : FrR I I3 := ⟨h.1.tr h2.1, fun j a => (h2.2 j a).trans (h.2 j a)⟩
theorem FrR.st {v : Int32} : FrR I (stI I 123 j v) := ⟨Same.st (by simp), fun i _ => by rw [st_ne (by omega)]⟩
theorem CM.st3 {v : Int32} (h : CM B n I i c o) : CM B n (stI I 123 j v) i c o := by
  have e115 : stI I 123 j v 115 = I 115 := st_ne (by omega)
  have e120 : stI I 123 j v 120 = I 120 := st_ne (by omega)
  have e121 : stI I 123 j v 121 = I 121 := st_ne (by omega)
  unfold CM MP MS TokR at h ⊢
  rw [e115, e120, e121]
  exact h
def ORM (B : Nat → Nat) (n : Nat) (I : IH) (r c : Nat) (u : Nat ⊕ RU) (v : Int32) (I2 : IH) : Prop := FrR I I2 ∧ match u with
  | .inl j => v = nI 0 ∧ I2 115 9 = nI (pl B n j)
  | .inr q => v = nI 1 ∧ (∃ o2, CM B n I2 q.1 (c + sz q.2.2.2.2) o2) ∧ (∀ j, j < c → I2 122 j = I 122 j) ∧ spS (I2 122) c (c + sz q.2.2.2.2) q.2.2.2.2 ∧ (∀ j, j < 3 * r → I2 123 j = I 123 j) ∧ I2 123 (3 * r) = nI q.2.1 ∧ I2 123 (3 * r + 1) = nI q.2.2.1 ∧ I2 123 (3 * r + 2) = nI (c + sz q.2.2.2.2)
theorem m_rule59 {a b : List Op3} (lx : LX B n K) (hi : i ≤ K) (hr : r < 8) (h : CM B n I i (c + sz b) o) (h123 : I 123 (3 * r) = nI k) (hsp : spS (I 122) c (c + sz b) b) (hQ : ∀ v I2, ORM B n I r c (pFin (tk B n) k i a b) v I2 → Q (some (.int v)) I2) : J E (d + 5) mX12_readsRule 59 [(0, .ref (eb E + 115)), (1, .int (nI r))] [] I Q := by
  have hend := tk_end lx
  have hT : TokR (tk B n i) I := h.2.1.2.1
  refine S_X12_readsRule_59 _ (m_in1 (by omega) (by omega) ⟨_, rfl, ?_⟩)
  rw [bn_c (tr_will hT)]
  refine bk2 (fun w => ⟨3 * r + 1, by rw [nI_mul, nI_add], by omega, fun I3 e3 => ⟨3 * r + 2, by rw [nI_mul, nI_add], by omega, fun I8 e8 => ?_⟩⟩) (fun w => hQ _ I ⟨FrR.rf I, ?_⟩)
  · have hi2 := end_lt hend hi (by omega)
    have s8 : CM B n I8 i (c + sz b) o := by rw [e8, e3]; exact CM.st3 (CM.st3 h)
    have f8 : FrR I I8 := by rw [e8, e3]; exact FrR.st.tr FrR.st
    have e122 : I8 122 = I 122 := by rw [e8, st_ne (by omega), e3, st_ne (by omega)]
    have t1 : I8 123 (3 * r + 1) = nI (tk B n i - 6) := by rw [e8, st_nj (by omega), e3, st_at, tr_val hT (by omega), nI_subB (by omega)]
    have t2 : I8 123 (3 * r + 2) = nI (c + sz b) := by rw [e8, st_at, e3, st_ne (by omega), h.2.2.1]
    have t0 : ∀ j, j < 3 * r + 1 → I8 123 j = I 123 j := fun j hj => by rw [e8, st_nj (by omega), e3, st_nj (by omega)]
    refine m_next (d := d + 1) lx s8 hi2 (fun I9 s9 f9 g9 => ⟨rfl, m_takes lx s9 hi2 (tr_259 s9.2.1.2.1) (by omega) (fun z zi I10 s10 f10 g10 => ⟨_, rfl, Or.inr (by decide +kernel), hQ _ I10 ⟨(f8.tr f9.rr).tr f10.rr, ?_⟩⟩) (fun z => ⟨_, rfl, Or.inl rfl, hQ _ I9 ⟨f8.tr f9.rr, ?_⟩⟩)⟩)
    · have e : pFin (tk B n) k i a b = .inr (i + 2, k, tk B n i - 6, a, b) := by unfold pFin; rw [if_pos (dc_t w), if_pos z]
      rw [e]
      have e123 : I10 123 = I8 123 := by rw [f10.1 123 (by decide), f9.1 123 (by decide)]
      refine ⟨rfl, ⟨o, s10⟩, fun j hj => by rw [g10, g9, e122], ?_, fun j hj => by rw [e123, t0 j (by omega)], by rw [e123, t0 _ (by omega)]; exact h123, by rw [e123]; exact t1, by rw [e123]; exact t2⟩
      show spS (I10 122) c (c + sz b) b
      rw [g10, g9, e122]; exact hsp
    · have e : pFin (tk B n) k i a b = .inl (i + 1) := by unfold pFin; rw [if_pos (dc_t w), if_neg z]
      rw [e]; exact ⟨rfl, s9.2.1.1⟩
  · have e : pFin (tk B n) k i a b = .inl i := by unfold pFin; rw [if_neg (by rw [dc_i]; exact w)]
    rw [e]; exact ⟨rfl, h.2.1.1⟩
theorem ORM.of {I1 I2 : IH} {u : Nat ⊕ RU} {v : Int32} (f : FrR I I1) (p : ∀ j, j < c → I1 122 j = I 122 j) (p3 : ∀ j, j < 3 * r → I1 123 j = I 123 j) (h : ORM B n I1 r c u v I2) : ORM B n I r c u v I2 := by
  obtain ⟨f2, h2⟩ := h
  refine ⟨f.tr f2, ?_⟩
  cases u with
  | inl j => exact h2
  | inr q =>
    obtain ⟨g1, g2, g3, g4, g5, g6⟩ := h2
    exact ⟨g1, g2, fun j hj => by rw [g3 j hj, p j hj], g4, fun j hj => by rw [g5 j hj, p3 j hj], g6⟩
theorem m_rule (lx : LX B n K) (hn : n ≤ 200) (hi : i ≤ K) (hc : c ≤ i) (hr : r ≤ 8) (h : CM B n I i c o) (hQ : ∀ v I2, ORM B n I r c (pRule (tk B n) r i) v I2 → Q (some (.int v)) I2) : Mt E (d + 21) mX12_readsRule [.ref (eb E + 115), .int (nI r)] I Q := by
  have hend := tk_end lx
  have hT : TokR (tk B n i) I := h.2.1.2.1
  refine S_X12_readsRule _ ?_
  rw [nI_eq (by omega) (by omega)]
  refine ⟨fun z => hQ _ I ⟨FrR.rf I, ?_⟩, fun z => m_in1 (by omega) (by omega) ⟨_, rfl, ?_⟩⟩
  · have e : pRule (tk B n) r i = .inl i := by unfold pRule; rw [if_pos z]
    rw [e]; exact ⟨rfl, h.2.1.1⟩
  · rw [bn_c (tr_kind hT)]
    refine bk2 (fun w => ⟨3 * r, by rw [nI_mul], by omega, fun I3 e3 => ?_⟩) (fun w => hQ _ I ⟨FrR.rf I, ?_⟩)
    · have hi2 := end_lt hend hi (by omega)
      rw [tr_val hT (by omega)] at e3
      have s3 : CM B n I3 i c o := by rw [e3]; exact CM.st3 h
      have f3 : FrR I I3 := by rw [e3]; exact FrR.st
      have e122 : I3 122 = I 122 := by rw [e3, st_ne (by omega)]
      have t0 : ∀ j, j < 3 * r → I3 123 j = I 123 j := fun j hj => by rw [e3, st_nj (by omega)]
      have t1 : I3 123 (3 * r) = nI (tk B n i) := by rw [e3, st_at]
      refine m_next (d := d + 17) lx s3 hi2 (fun I8 s8 f8 g8 => ⟨rfl, fun I9 e9 => ?_⟩)
      obtain ⟨s9, f9, g9⟩ := CM.opn (o2 := 0) s8 e9
      have fa := (f3.tr f8.rr).tr f9.rr
      have e123 : I9 123 = I3 123 := by rw [f9.1 123 (by decide), f8.1 123 (by decide)]
      refine m_takes (d := d + 16) lx s9 hi2 (tr_if s9.2.1.2.1) (by omega) (fun y yi I11 s11 f11 g11 => ⟨_, rfl, fun q => absurd q one_ne, fun _ => ?_⟩) (fun y => ⟨_, rfl, fun _ => ?_, fun q => absurd rfl q⟩)
      · have gg := pCd_g (M := 4) (bs := bas (tk B n) 3) hend (fun i hi => bas_g hend 3 6 i (by omega) hi) (i := i + 2) yi
        have e : pRule (tk B n) r i = pIf (tk B n) (tk B n i) (pCd (bas (tk B n) 3) (tk B n) (i + 2)) := by unfold pRule; rw [if_neg z, if_pos w, if_pos y]
        refine m_cond (d := d) lx hn 3 (by omega) I11 (i + 2) c _ s11 yi (by omega) (fun v I13 o13 => ⟨_, rfl, ?_⟩)
        cases hr2 : pCd (bas (tk B n) 3) (tk B n) (i + 2) with
        | inl q =>
          rw [hr2] at o13 e
          obtain ⟨f13, e0, e9⟩ := o13
          subst e0
          refine ⟨fun q => absurd rfl q, fun _ => hQ _ I13 ?_⟩
          rw [e]; exact ⟨(fa.tr f11.rr).tr f13.rr, rfl, e9⟩
        | inr q =>
          rw [hr2] at o13 e gg
          obtain ⟨f13, e1, s13, p13, c13⟩ := o13
          subst e1
          have k123 : I13 123 = I3 123 := by rw [f13.1 123 (by decide), f11.1 123 (by decide), e123]
          refine ⟨fun _ => m_rule59 (d := d + 16) (c := c) (a := q.2.1) (b := q.2.2) lx gg.2.1 (by omega) s13 (by rw [k123]; exact t1) c13 (fun v I14 o14 => hQ v I14 ?_), fun q => absurd q one_ne⟩
          rw [e]
          exact ORM.of ((fa.tr f11.rr).tr f13.rr) (fun j hj => by rw [p13 j hj, g11, g9, g8, e122]) (fun j hj => by rw [k123, t0 j hj]) o14
      · have e : pRule (tk B n) r i = pFin (tk B n) (tk B n i) (i + 1) [] [] := by unfold pRule; rw [if_neg z, if_pos w, if_neg y]
        refine m_rule59 (d := d + 16) (c := c) (a := []) (b := []) lx hi2 (by omega) s9 (by rw [e123]; exact t1) rfl (fun v I14 o14 => hQ v I14 ?_)
        rw [e]
        exact ORM.of fa (fun j hj => by rw [g9, g8, e122]) (fun j hj => by rw [e123, t0 j hj]) o14
    · have e : pRule (tk B n) r i = .inl i := by unfold pRule; rw [if_neg z, if_neg w]
      rw [e]; exact ⟨rfl, h.2.1.1⟩
/-- the reference has told the rules below r -/
def RMr (t : Nat → Nat) (I : IH) (r : Nat) : Prop := ∀ j, j < r → ∀ q, pRule t j (rix t j).1 = .inr q → I 123 (3 * j) = nI q.2.1 ∧ I 123 (3 * j + 1) = nI q.2.2.1 ∧ I 123 (3 * j + 2) = nI (rix t (j + 1)).2.2 ∧ spS (I 122) (rix t j).2.2 (rix t (j + 1)).2.2 q.2.2.2.2
theorem rix_monoM {t : Nat → Nat} (ok : OKr t c) : ∀ r, r ≤ c → ∀ j, j ≤ r → (rix t j).2.2 ≤ (rix t r).2.2 := by
  intro r
  induction r with
  | zero => intro _ j hj; rw [show j = 0 by omega]; exact Nat.le_refl _
  | succ r ih =>
    intro hr j hj
    by_cases e : j = r + 1
    · rw [e]; exact Nat.le_refl _
    · obtain ⟨-, q, hq⟩ := ok r (by omega)
      rw [rix_s hq]
      have := ih (by omega) j (by omega)
      show _ ≤ (rix t r).2.2 + _
      omega
theorem m_rules18 (lx : LX B n K) (hn : n ≤ 200) (hs : Stop (tk B n) c) (hQ1 : tk B n (rix (tk B n) c).1 = 301 → ∀ I2, RMr (tk B n) I2 c → FrR I I2 → I2 115 13 = nI (rix (tk B n) c).2.2 → J E (d + 22) mX12_rules 42 [(0, .ref (eb E + 115)), (1, .int (nI c)), (2, .int (nI 1))] [] I2 Q) (hQ2 : ∀ j, pRule (tk B n) c (rix (tk B n) c).1 = .inl j → tk B n (rix (tk B n) c).1 ≠ 301 → ∀ I2 y, FrR I I2 → I2 115 9 = nI (pl B n j) → J E (d + 22) mX12_rules 42 [(0, .ref (eb E + 115)), (1, .int y), (2, .int (nI 0))] [] I2 Q) : ∀ (m r : Nat) (I1 : IH), r + m = c → (∃ o, CM B n I1 (rix (tk B n) r).1 (rix (tk B n) r).2.2 o) → RMr (tk B n) I1 r → FrR I I1 → J E (d + 22) mX12_rules 18 [(0, .ref (eb E + 115)), (1, .int (nI r)), (2, .int (nI 1))] [] I1 Q := by
  obtain ⟨hc8, ok, hst⟩ := hs
  have hend := tk_end lx
  intro m
  induction m with
  | zero =>
    intro r I1 hr s1 r1 f1
    obtain ⟨o, s1⟩ := s1
    have : r = c := by omega
    subst this
    obtain ⟨l1, l2, l3⟩ := rix_le hend r
    refine S_X12_rules_18 _ _ ⟨fun z => absurd z one_ne, fun _ => ?_⟩
    rw [tr_end s1.2.1.2.1]
    refine ⟨fun z => hQ1 z I1 r1 f1 s1.2.2.1, fun z => ?_⟩
    rcases hst with h | ⟨h, j, hj⟩
    · exact absurd h z
    · refine m_rule lx hn l1 l3 hc8 s1 (fun v I2 o2 => ⟨_, rfl, ?_⟩)
      rw [hj] at o2
      obtain ⟨f2, e0, e9⟩ := o2
      subst e0
      exact S_X12_rules_18 _ _ ⟨fun _ => hQ2 j hj h I2 _ (f1.tr f2) e9, fun q => absurd rfl q⟩
  | succ m ih =>
    intro r I1 hr s1 r1 f1
    obtain ⟨o, s1⟩ := s1
    obtain ⟨l1, l2, l3⟩ := rix_le hend r
    obtain ⟨hne, q, hq⟩ := ok r (by omega)
    refine S_X12_rules_18 _ _ ⟨fun z => absurd z one_ne, fun _ => ?_⟩
    rw [tr_end s1.2.1.2.1]
    refine ⟨fun z => absurd z hne, fun z => m_rule lx hn l1 l3 (by omega) s1 (fun v I2 o2 => ⟨_, rfl, ?_⟩)⟩
    rw [hq] at o2
    obtain ⟨f2, e1, s2, p2, c2, p3, v0, v1, v2⟩ := o2
    subst e1
    have es := rix_s hq
    rw [nI_add]
    refine ih (r + 1) I2 (by omega) ?_ (fun j hj q2 hq2 => ?_) (f1.tr f2)
    · rw [es]; exact s2
    · by_cases hj2 : j = r
      · subst hj2
        rw [hq] at hq2
        cases hq2
        refine ⟨v0, v1, ?_, ?_⟩
        · rw [es]; exact v2
        · rw [es]; exact c2
      · obtain ⟨w1, w2, w3, w4⟩ := r1 j (by omega) q2 hq2
        refine ⟨by rw [p3 _ (by omega)]; exact w1, by rw [p3 _ (by omega)]; exact w2, by rw [p3 _ (by omega)]; exact w3, spS_eq _ _ _ (fun i _ hi => p2 i ?_) w4⟩
        have := rix_monoM ok r (by omega) (j + 1) (by omega)
        omega
/-! the reference lays its rules down -/
theorem m_rules99 {S : Nat} (hS : S ≤ 200) (hQ : ∀ I2, (∀ j, j < 122 ∨ 122 + S ≤ j → I2 116 j = I 116 j) → (∀ j, j < S → I2 116 (122 + j) = I 122 j) → Same [116] I I2 → Q (some (.int x)) I2) (h13 : I 115 13 = nI S) : ∀ (m q : Nat) (I1 : IH), q + m = S → Same [116] I I1 → (∀ j, j < 122 ∨ 122 + q ≤ j → I1 116 j = I 116 j) → (∀ j, j < q → I1 116 (122 + j) = I 122 j) → J E (d + 1) mX12_rules 99 [(0, .ref (eb E + 115)), (1, .int x), (3, .int (nI q))] [] I1 Q := by
  intro m
  induction m with
  | zero =>
    intro q I1 hq f1 p1 c1
    have : q = S := by omega
    subst this
    refine S_X12_rules_99 _ _ ?_
    rw [f1 115 (by decide), h13, nI_leI (by omega) (by omega)]
    exact ⟨fun _ => hQ I1 p1 c1 f1, fun z => by omega⟩
  | succ m ih =>
    intro q I1 hq f1 p1 c1
    refine S_X12_rules_99 _ _ ?_
    rw [f1 115 (by decide), h13, nI_leI (by omega) (by omega)]
    refine ⟨fun z => by omega, fun _ => ⟨q, rfl, by omega, 122 + q, by rw [nI_add], by omega, fun I4 e4 => ?_⟩⟩
    rw [nI_add]
    refine ih (q + 1) I4 (by omega) (f1.tr (by rw [e4]; exact Same.st (by simp))) (fun j hj => by rw [e4, st_nj (by omega)]; exact p1 j (by omega)) (fun j hj => ?_)
    by_cases hjq : j = q
    · subst hjq; rw [e4, st_at, f1 122 (by decide)]
    · rw [e4, st_nj (by omega)]; exact c1 j (by omega)
theorem m_rules69 {c : Nat} (hc : c ≤ 8) (hQ : ∀ I2, (∀ j, j < 98 ∨ 98 + 3 * c ≤ j → I2 116 j = I 116 j) → (∀ j, j < 3 * c → I2 116 (98 + j) = I 123 j) → Same [116] I I2 → J E (d + 1) mX12_rules 99 [(0, .ref (eb E + 115)), (1, .int (nI c)), (3, .int (nI 0))] [] I2 Q) : ∀ (m q : Nat) (I1 : IH), q + m = 3 * c → Same [116] I I1 → (∀ j, j < 98 ∨ 98 + q ≤ j → I1 116 j = I 116 j) → (∀ j, j < q → I1 116 (98 + j) = I 123 j) → J E (d + 1) mX12_rules 69 [(0, .ref (eb E + 115)), (1, .int (nI c)), (3, .int (nI q))] [] I1 Q := by
  intro m
  induction m with
  | zero =>
    intro q I1 hq f1 p1 c1
    have : q = 3 * c := by omega
    subst this
    refine S_X12_rules_69 _ _ ?_
    rw [nI_mul, nI_leI (by omega) (by omega)]
    exact ⟨fun _ => hQ I1 p1 c1 f1, fun z => by omega⟩
  | succ m ih =>
    intro q I1 hq f1 p1 c1
    refine S_X12_rules_69 _ _ ?_
    rw [nI_mul, nI_leI (by omega) (by omega)]
    refine ⟨fun z => by omega, fun _ => ⟨q, rfl, by omega, 98 + q, by rw [nI_add], by omega, fun I4 e4 => ?_⟩⟩
    rw [nI_add]
    refine ih (q + 1) I4 (by omega) (f1.tr (by rw [e4]; exact Same.st (by simp))) (fun j hj => by rw [e4, st_nj (by omega)]; exact p1 j (by omega)) (fun j hj => ?_)
    by_cases hjq : j = q
    · subst hjq; rw [e4, st_at, f1 123 (by decide)]
    · rw [e4, st_nj (by omega)]; exact c1 j (by omega)
end L9
