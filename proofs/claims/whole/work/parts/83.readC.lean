section L3
variable {E : EE} {d : Nat} {I : IH} {Q : QT} {t : Nat → Nat} {K i j k c lo hi : Nat} {x x3 y : Int32}
/-! the class's parser: at token i, c words told; or at fault at token j -/
def CS (t : Nat → Nat) (K : Nat) (I : IH) (i c : Nat) : Prop := (∀ j, j ≤ K → I 3 j = nI (t j)) ∧ I 1 4 = nI i ∧ I 1 5 = nI 0 ∧ I 5 1 = nI c
def Fl (t : Nat → Nat) (K : Nat) (I : IH) (j : Nat) : Prop := (∀ j, j ≤ K → I 3 j = nI (t j)) ∧ I 1 4 = nI j ∧ I 1 5 = nI 1 ∧ ∃ c, c ≤ 200 ∧ I 5 1 = nI c
def FrP (I I2 : IH) : Prop := Same [1, 5, 9] I I2 ∧ (∀ j, j ≠ 4 → j ≠ 5 → I2 1 j = I 1 j) ∧ I2 5 0 = I 5 0
theorem FrP.rf (I : IH) : FrP I I := ⟨Same.rf _ _, fun _ _ _ => rfl, rfl⟩
theorem FrP.tr {I2 I3 : IH} (h : FrP I I2) (h2 : FrP I2 I3) : FrP I I3 := ⟨h.1.tr h2.1, fun j a b => (h2.2.1 j a b).trans (h.2.1 j a b), h2.2.2.trans h.2.2⟩
theorem x_expect (hK : K ≤ 200) (ht : ∀ j, t j ≤ 10999) (h : CS t K I i c) (hi2 : i ≤ K) (hx : x = nI lo) (hy : y = nI hi) (h1 : lo < 20000) (h2 : hi < 20000) (hok : lo ≤ t i → t i ≤ hi → ∀ I2, CS t K I2 (i + 1) c → FrP I I2 → I2 9 = I 9 → Q (some (.int (nI (t i)))) I2) (hf : ¬ (lo ≤ t i ∧ t i ≤ hi) → ∀ I2, Fl t K I2 i → FrP I I2 → Q (some (.int (nI lo))) I2) (hc : c ≤ 200) : Mt E d mX9_expect [.ref (eb E + 1), .int x, .int y] I Q := by
  subst hx; subst hy
  obtain ⟨s1, s2, s3, s4⟩ := h
  have hti := ht i
  have bad : ∀ I2, I2 = stI I 1 5 (nI 1) → ¬ (lo ≤ t i ∧ t i ≤ hi) → Q (some (.int (nI lo))) I2 := by
    intro I2 e2 hn
    refine hf hn I2 ⟨fun j hj => by rw [e2, st_ne (by omega)]; exact s1 j hj, by rw [e2, st_nj (by omega)]; exact s2, by rw [e2, st_at], c, hc, by rw [e2, st_ne (by omega)]; exact s4⟩ ⟨by rw [e2]; exact Same.st (by simp), fun j _ hj => by rw [e2, st_nj hj], by rw [e2, st_ne (by omega)]⟩
  refine S_X9_expect _ _ ?_
  rw [s3]
  refine ⟨fun z => absurd rfl z, fun _ => ⟨i, s2, by omega, ?_⟩⟩
  rw [s1 i hi2, nI_ltI (by omega) (by omega)]
  refine ⟨fun z I6 e6 => bad I6 e6 (by omega), fun z => ⟨i, s2, by omega, ?_⟩⟩
  rw [s1 i hi2, nI_leI (by omega) (by omega)]
  refine ⟨fun w => ⟨i, s2, by omega, fun I14 e14 => ?_⟩, fun w I16 e16 => bad I16 e16 (by omega)⟩
  rw [s1 i hi2]
  rw [s2, nI_add] at e14
  exact hok (by omega) w I14 ⟨fun j hj => by rw [e14, st_ne (by omega)]; exact s1 j hj, by rw [e14, st_at], by rw [e14, st_nj (by omega)]; exact s3, by rw [e14, st_ne (by omega)]; exact s4⟩ ⟨by rw [e14]; exact Same.st (by simp), fun j hj _ => by rw [e14, st_nj hj], by rw [e14, st_ne (by omega)]⟩ (by rw [e14, st_ne (by omega)])
theorem x_expectF (h : Fl t K I j) (hQ : ∀ I2, Fl t K I2 j → FrP I I2 → Q (some (.int x)) I2) : Mt E d mX9_expect [.ref (eb E + 1), .int x, .int y] I Q := by
  obtain ⟨s1, s2, s3, c, s4, s5⟩ := h
  refine S_X9_expect _ _ ?_
  rw [s3]
  refine ⟨fun _ I1 e1 => hQ I1 ⟨fun j hj => by rw [e1, st_ne (by omega)]; exact s1 j hj, by rw [e1, st_nj (by omega)]; exact s2, by rw [e1, st_at], c, s4, by rw [e1, st_ne (by omega)]; exact s5⟩ ⟨by rw [e1]; exact Same.st (by simp), fun j _ hj => by rw [e1, st_nj hj], by rw [e1, st_ne (by omega)]⟩, fun z => absurd z one_ne⟩
theorem x_passes {v : Nat} (hK : K ≤ 200) (ht : ∀ j, t j ≤ 10999) (h : CS t K I i c) (hi2 : i ≤ K) (hx : x = nI v) (hv : v < 20000) (hok : t i = v → ∀ I2, CS t K I2 (i + 1) c → FrP I I2 → I2 9 = I 9 → Q (some (.int (nI 1))) I2) (hf : ¬ t i = v → Q (some (.int (nI 0))) I) : Mt E d mX9_passes [.ref (eb E + 1), .int x] I Q := by
  subst hx
  obtain ⟨s1, s2, s3, s4⟩ := h
  have hti := ht i
  refine S_X9_passes _ ?_
  rw [s3]
  refine ⟨fun z => absurd rfl z, fun _ => ⟨i, s2, by omega, ?_⟩⟩
  rw [s1 i hi2, nI_eq (by omega) (by omega)]
  refine ⟨fun z I4 e4 => ?_, fun z => hf z⟩
  rw [s2, nI_add] at e4
  exact hok z I4 ⟨fun j hj => by rw [e4, st_ne (by omega)]; exact s1 j hj, by rw [e4, st_at], by rw [e4, st_nj (by omega)]; exact s3, by rw [e4, st_ne (by omega)]; exact s4⟩ ⟨by rw [e4]; exact Same.st (by simp), fun j hj _ => by rw [e4, st_nj hj], by rw [e4, st_ne (by omega)]⟩ (by rw [e4, st_ne (by omega)])
theorem x_passesF (h : Fl t K I j) (hQ : Q (some (.int (nI 0))) I) : Mt E d mX9_passes [.ref (eb E + 1), .int x] I Q := by
  refine S_X9_passes _ ?_
  rw [h.2.2.1]
  exact ⟨fun _ => hQ, fun z => absurd z one_ne⟩
theorem isRu5 : isRu 5 := Or.inl rfl
theorem x_emit (h : CS t K I i c) (hc : c < 200) (hQ : ∀ I2, CS t K I2 i (c + 1) → FrP I I2 → (∀ j, j ≠ c → I2 9 j = I 9 j) → I2 9 c = x → Q none I2) : Mt E d mX6_emit [.ref (eb E + 5), .int x] I Q := by
  obtain ⟨s1, s2, s3, s4⟩ := h
  refine S_X6_emit isRu5 _ ?_
  rw [s4, nI_leI (by omega) (by omega)]
  refine ⟨fun z => by omega, fun _ => ⟨c, rfl, hc, fun I1 e1 I6 e6 => ?_⟩⟩
  have e51 : I1 5 1 = nI c := by rw [e1, st_ne (by omega)]; exact s4
  rw [e51, nI_add] at e6
  exact hQ I6 ⟨fun j hj => by rw [e6, st_ne (by omega), e1, st_ne (by omega)]; exact s1 j hj, by rw [e6, st_ne (by omega), e1, st_ne (by omega)]; exact s2, by rw [e6, st_ne (by omega), e1, st_ne (by omega)]; exact s3, by rw [e6, st_at]⟩ ⟨by rw [e6, e1]; exact (Same.st (by simp)).tr (Same.st (by simp)), fun j _ _ => by rw [e6, st_ne (by omega), e1, st_ne (by omega)], by rw [e6, st_nj (by omega), e1, st_ne (by omega)]⟩ (fun j hj => by rw [e6, st_ne (by omega), e1]; exact st_nj hj) (by rw [e6, st_ne (by omega), e1]; exact st_at)
theorem x_emitF (h : Fl t K I j) (hQ : ∀ I2, Fl t K I2 j → FrP I I2 → Q none I2) : Mt E d mX6_emit [.ref (eb E + 5), .int x] I Q := by
  obtain ⟨s1, s2, s3, c, hc, s4⟩ := id h
  refine S_X6_emit isRu5 _ ?_
  rw [s4, nI_leI (by omega) (by omega)]
  refine ⟨fun z => hQ I h (FrP.rf I), fun z => ⟨c, rfl, by omega, fun I1 e1 I6 e6 => ?_⟩⟩
  have e51 : I1 5 1 = nI c := by rw [e1, st_ne (by omega)]; exact s4
  rw [e51, nI_add] at e6
  exact hQ I6 ⟨fun j hj => by rw [e6, st_ne (by omega), e1, st_ne (by omega)]; exact s1 j hj, by rw [e6, st_ne (by omega), e1, st_ne (by omega)]; exact s2, by rw [e6, st_ne (by omega), e1, st_ne (by omega)]; exact s3, c + 1, by omega, by rw [e6, st_at]⟩ ⟨by rw [e6, e1]; exact (Same.st (by simp)).tr (Same.st (by simp)), fun j _ _ => by rw [e6, st_ne (by omega), e1, st_ne (by omega)], by rw [e6, st_nj (by omega), e1, st_ne (by omega)]⟩
/-- how it goes on from token i with c words told -/
def OC (t : Nat → Nat) (K : Nat) (I : IH) (c : Nat) (r : PR) (I2 : IH) : Prop := FrP I I2 ∧ match r with
  | .inl j => Fl t K I2 j
  | .inr r => CS t K I2 r.1 (c + sz r.2.1) ∧ (∀ j, j < c → I2 9 j = I 9 j) ∧ spC (I2 9) c (c + sz r.2.1) r.2.1
theorem x_cmpF (h : Fl t K I j) (hQ : ∀ I2, Fl t K I2 j → FrP I I2 → Q none I2) : Mt E (d + 1) mX9_readComparison [.ref (eb E + 1), .ref (eb E + 5)] I Q := by
  refine S_X9_readComparison isRu5 (x_expectF h (fun I1 s1 f1 => ⟨_, rfl, x_expectF s1 (fun I2 s2 f2 => ⟨_, rfl, x_expectF s2 (fun I3 s3 f3 => ⟨_, rfl, x_emitF s3 (fun I4 s4 f4 => ⟨rfl, x_emitF s4 (fun I5 s5 f5 => ⟨rfl, x_emitF s5 (fun I6 s6 f6 => ⟨rfl, hQ I6 s6 (((((f1.tr f2).tr f3).tr f4).tr f5).tr f6)⟩)⟩)⟩)⟩)⟩)⟩))
theorem tv_cV {v : Nat} (h : isV v) : nI v - nI 1000 = cV (tv v) := by
  unfold isV at h
  unfold tv
  split
  · unfold cV
    rw [if_neg (by omega), nI_z, nI_z, zI_sub]
    congr 1; omega
  · unfold cV
    rw [if_pos (by omega), nI_subB (by omega)]
theorem x_cmp (hK : K ≤ 200) (ht : ∀ j, t j ≤ 10999) (hend : t K = 301) (h : CS t K I i c) (hi2 : i ≤ K) (hc : c ≤ i) (hQ : ∀ I2, OC t K I c (pCmp t i) I2 → Q none I2) : Mt E (d + 1) mX9_readComparison [.ref (eb E + 1), .ref (eb E + 5)] I Q := by
  have ne : ∀ j, j ≤ K → t j ≠ 301 → j < K := fun j h1 h2 => by
    rcases Nat.lt_or_ge j K with z | z
    · exact z
    · have : j = K := by omega
      rw [this] at h2; exact absurd hend h2
  refine S_X9_readComparison isRu5 (x_expect hK ht h hi2 rfl rfl (by omega) (by omega) (fun l1 u1 I1 s1 f1 g1 => ⟨_, rfl, ?_⟩) (fun n1 I1 s1 f1 => ⟨_, rfl, x_expectF s1 (fun I2 s2 f2 => ⟨_, rfl, x_expectF s2 (fun I3 s3 f3 => ⟨_, rfl, x_emitF s3 (fun I4 s4 f4 => ⟨rfl, x_emitF s4 (fun I5 s5 f5 => ⟨rfl, x_emitF s5 (fun I6 s6 f6 => ⟨rfl, hQ I6 ⟨((((f1.tr f2).tr f3).tr f4).tr f5).tr f6, ?_⟩⟩)⟩)⟩)⟩)⟩)⟩) (by omega))
  · have i1 := ne i hi2 (by omega)
    refine x_expect hK ht s1 i1 rfl rfl (by omega) (by omega) (fun l2 u2 I2 s2 f2 g2 => ⟨_, rfl, ?_⟩) (fun n2 I2 s2 f2 => ⟨_, rfl, x_expectF s2 (fun I3 s3 f3 => ⟨_, rfl, x_emitF s3 (fun I4 s4 f4 => ⟨rfl, x_emitF s4 (fun I5 s5 f5 => ⟨rfl, x_emitF s5 (fun I6 s6 f6 => ⟨rfl, hQ I6 ⟨((((f1.tr f2).tr f3).tr f4).tr f5).tr f6, ?_⟩⟩)⟩)⟩)⟩)⟩) (by omega)
    · have i2 := ne (i + 1) i1 (by omega)
      refine x_expect hK ht s2 i2 rfl rfl (by omega) (by omega) (fun l3 u3 I3 s3 f3 g3 => ⟨_, rfl, ?_⟩) (fun n3 I3 s3 f3 => ⟨_, rfl, x_emitF s3 (fun I4 s4 f4 => ⟨rfl, x_emitF s4 (fun I5 s5 f5 => ⟨rfl, x_emitF s5 (fun I6 s6 f6 => ⟨rfl, hQ I6 ⟨((((f1.tr f2).tr f3).tr f4).tr f5).tr f6, ?_⟩⟩)⟩)⟩)⟩) (by omega)
      · have i3 := ne (i + 1 + 1) i2 (by omega)
        refine x_emit s3 (by omega) (fun I4 s4 f4 p4 v4 => ⟨rfl, x_emit s4 (by omega) (fun I5 s5 f5 p5 v5 => ⟨rfl, x_emit s5 (by omega) (fun I6 s6 f6 p6 v6 => ⟨rfl, hQ I6 ⟨((((f1.tr f2).tr f3).tr f4).tr f5).tr f6, ?_⟩⟩)⟩)⟩)
        have e : pCmp t i = .inr (i + 3, [(t (i + 1) - 60, tv (t i), tv (t (i + 2)))], [(t (i + 1) - 60, tv (t i), tv (t (i + 2)))]) := by
          unfold pCmp; rw [if_pos (dc_t ⟨l1, u1⟩), if_pos (dc_t ⟨l2, u2⟩), if_pos (dc_t ⟨l3, u3⟩)]
        rw [e]
        have o2 : t (i + 1) - 60 ≤ 2 := by omega
        have sz1 : sz [(t (i + 1) - 60, tv (t i), tv (t (i + 2)))] = 3 := by show (if t (i + 1) - 60 ≤ 2 then 3 else 1) + 0 = 3; rw [if_pos o2]
        show CS t K I6 (i + 3) (c + sz [(t (i + 1) - 60, tv (t i), tv (t (i + 2)))]) ∧ _ ∧ spC (I6 9) c (c + sz [(t (i + 1) - 60, tv (t i), tv (t (i + 2)))]) [(t (i + 1) - 60, tv (t i), tv (t (i + 2)))]
        rw [sz1]
        refine ⟨s6, fun j hj => by rw [p6 j (by omega), p5 j (by omega), p4 j (by omega), g3, g2, g1], ?_⟩
        unfold spC
        rw [if_pos o2]
        refine ⟨?_, ?_, ?_, tv_ok ⟨l1, u1⟩, tv_ok ⟨l3, u3⟩, rfl⟩
        · rw [p6 c (by omega), p5 c (by omega), v4, nI_subB l2]
        · rw [p6 (c + 1) (by omega), v5, tv_cV ⟨l1, u1⟩]
        · rw [v6, tv_cV ⟨l3, u3⟩]
      · have e : pCmp t i = .inl (i + 2) := by
          unfold pCmp; rw [if_pos (dc_t ⟨l1, u1⟩), if_pos (dc_t ⟨l2, u2⟩), if_neg (by rw [dc_i]; exact n3)]
        rw [e]; exact s6
    · have e : pCmp t i = .inl (i + 1) := by
        unfold pCmp; rw [if_pos (dc_t ⟨l1, u1⟩), if_neg (by rw [dc_i]; exact n2)]
      rw [e]; exact s6
  · have e : pCmp t i = .inl i := by unfold pCmp; rw [if_neg (by rw [dc_i]; exact n1)]
    rw [e]; exact s6
/-! from a fault on -/
theorem x_one77F (h : Fl t K I j) (hQ : ∀ I2, Fl t K I2 j → FrP I I2 → Q none I2) : J E (d + 1) mX9_readOne 77 [(1, .ref (eb E + 5)), (3, .int x3)] [] I Q :=
  S_X9_readOne_77 isRu5 _ ⟨fun _ => hQ I h (FrP.rf I), fun _ => x_emitF h (fun I1 s1 f1 => ⟨rfl, hQ I1 s1 f1⟩)⟩
theorem x_oneF (h : Fl t K I j) (hQ : ∀ I2, Fl t K I2 j → FrP I I2 → Q none I2) : Mt E (d + 2) mX9_readOne [.ref (eb E + 1), .ref (eb E + 5), .int x] I Q := by
  have j72 : J E (d + 2) mX9_readOne 72 [(0, .ref (eb E + 1)), (1, .ref (eb E + 5)), (3, .int (nI 0))] [] I Q := S_X9_readOne_72 isRu5 _ (x_cmpF h (fun I1 s1 f1 => ⟨rfl, x_one77F s1 (fun I2 s2 f2 => hQ I2 s2 (f1.tr f2))⟩))
  have j38 : J E (d + 2) mX9_readOne 38 [(0, .ref (eb E + 1)), (1, .ref (eb E + 5)), (2, .int x), (3, .int (nI 0))] [] I Q := S_X9_readOne_38 isRu5 _ _ ⟨fun _ => j72, fun _ => x_passesF h ⟨_, rfl, fun _ => j72, fun z => absurd rfl z⟩⟩
  exact S_X9_readOne isRu5 _ (S_X9_readOne_5 isRu5 _ _ _ ⟨fun _ => j38, fun _ => x_passesF h ⟨_, rfl, fun _ => j38, fun z => absurd rfl z⟩⟩)
theorem x_all8F (h : Fl t K I j) (hQ : Q none I) : J E (d + 1) mX9_readAll 8 [(0, .ref (eb E + 1)), (1, .ref (eb E + 5)), (2, .int x), (3, .int x3)] [] I Q :=
  S_X9_readAll_8 isRu5 _ _ ⟨fun _ => hQ, fun _ => x_passesF h ⟨_, rfl, fun _ => hQ, fun z => absurd rfl z⟩⟩
theorem x_allF (h : Fl t K I j) (hQ : ∀ I2, Fl t K I2 j → FrP I I2 → Q none I2) : Mt E (d + 3) mX9_readAll [.ref (eb E + 1), .ref (eb E + 5), .int x] I Q :=
  S_X9_readAll isRu5 _ (x_oneF h (fun I1 s1 f1 => ⟨rfl, x_all8F s1 (hQ I1 s1 f1)⟩))
theorem x_cd8F (h : Fl t K I j) (hQ : Q none I) : J E (d + 1) mX9_readCondition 8 [(0, .ref (eb E + 1)), (1, .ref (eb E + 5)), (2, .int x), (3, .int x3)] [] I Q :=
  S_X9_readCondition_8 isRu5 _ _ ⟨fun _ => hQ, fun _ => x_passesF h ⟨_, rfl, fun _ => hQ, fun z => absurd rfl z⟩⟩
/-! conditions -/
/-- from behind the nots on -/
def HB (E : EE) (t : Nat → Nat) (K D k : Nat) : Prop := ∀ (I : IH) (i c : Nat) (x3 : Int32) (Q : QT), CS t K I i c → i ≤ K → c ≤ i → (∀ I2, OC t K I c (bas t k i) I2 → J E (D + 1) mX9_readOne 77 [(1, .ref (eb E + 5)), (3, .int x3)] [] I2 Q) → J E (D + 1) mX9_readOne 38 [(0, .ref (eb E + 1)), (1, .ref (eb E + 5)), (2, .int (nI (3 - k))), (3, .int x3)] [] I Q
def H1 (E : EE) (t : Nat → Nat) (K D k : Nat) : Prop := ∀ (I : IH) (i c : Nat) (Q : QT), CS t K I i c → i ≤ K → c ≤ i → (∀ I2, OC t K I c (pOne (bas t k) t i) I2 → Q none I2) → Mt E D mX9_readOne [.ref (eb E + 1), .ref (eb E + 5), .int (nI (3 - k))] I Q
def H2 (E : EE) (t : Nat → Nat) (K D k : Nat) : Prop := ∀ (I : IH) (i c : Nat) (Q : QT), CS t K I i c → i ≤ K → c ≤ i → (∀ I2, OC t K I c (pAll (bas t k) t i) I2 → Q none I2) → Mt E D mX9_readAll [.ref (eb E + 1), .ref (eb E + 5), .int (nI (3 - k))] I Q
def H3 (E : EE) (t : Nat → Nat) (K D k : Nat) : Prop := ∀ (I : IH) (i c : Nat) (Q : QT), CS t K I i c → i ≤ K → c ≤ i → (∀ I2, OC t K I c (pCd (bas t k) t i) I2 → Q none I2) → Mt E D mX9_readCondition [.ref (eb E + 1), .ref (eb E + 5), .int (nI (3 - k))] I Q
theorem nts_200 (hend : t K = 301) (hK : K ≤ 200) : ∀ F i, i ≤ K → K ≤ i + F → t i ≠ 12 → nts t F i = 0 := by
  intro F i _ _ h
  cases F with
  | zero => rfl
  | succ F => unfold nts; rw [if_neg h]
theorem x_one77 (h : CS t K I i c) (hc : k % 2 = 1 → c < 200) (hn : x3 = nI (k % 2)) (hQ : ∀ I2, FrP I I2 → CS t K I2 i (c + sz (notC k)) → (∀ j, j < c → I2 9 j = I 9 j) → spC (I2 9) c (c + sz (notC k)) (notC k) → Q none I2) : J E (d + 1) mX9_readOne 77 [(1, .ref (eb E + 5)), (3, .int x3)] [] I Q := by
  subst hn
  refine S_X9_readOne_77 isRu5 _ ?_
  rw [n0, nI_eq (by omega) (by omega)]
  by_cases h2 : k % 2 = 1
  · refine ⟨fun z => by omega, fun _ => x_emit h (hc h2) (fun I1 s1 f1 p1 v1 => ⟨rfl, ?_⟩)⟩
    have e : notC k = [(3, 0, 0)] := by unfold notC; rw [if_pos h2]
    rw [e] at hQ
    exact hQ I1 f1 s1 (fun j hj => p1 j (by omega)) (spC_one (by omega) (by omega) v1)
  · refine ⟨fun _ => ?_, fun z => by omega⟩
    have e : notC k = [] := by unfold notC; rw [if_neg h2]
    rw [e] at hQ
    exact hQ I (FrP.rf I) h (fun _ _ => rfl) rfl
theorem pOne_l {bs : Nat → PR} {n j : Nat} (h0 : nts t 200 i = n) (hr : bs (i + n) = .inl j) : pOne bs t i = .inl j := by unfold pOne; rw [h0, hr]
theorem pOne_r {bs : Nat → PR} {n : Nat} {r : Nat × List Op3 × List Op3} (h0 : nts t 200 i = n) (hr : bs (i + n) = .inr r) : pOne bs t i = .inr (r.1, r.2.1 ++ notC n, r.2.2 ++ List.replicate n (3, 0, 0)) := by unfold pOne; rw [h0, hr]
theorem x_oneOf {D : Nat} (hK : K ≤ 200) (ht : ∀ j, t j ≤ 10999) (hend : t K = 301) (hk : k ≤ 3) (hb : HB E t K D k) : H1 E t K (D + 1) k := by
  intro I i c Q h hi2 hc hQ
  refine S_X9_readOne isRu5 _ ?_
  have g0 := bas_g hend k (12 - 2 * k)
  -- the nots
  have lp : ∀ (F n : Nat) (I1 : IH), F + n = 200 → n ≤ i + n → i + n ≤ K → CS t K I1 (i + n) c → FrP I I1 → I1 9 = I 9 → nts t 200 i = n + nts t F (i + n) → J E (D + 1) mX9_readOne 5 [(0, .ref (eb E + 1)), (1, .ref (eb E + 5)), (2, .int (nI (3 - k))), (3, .int (nI (n % 2))), (4, .int (nI n))] [] I1 Q := by
    intro F
    induction F with
    | zero =>
      intro n I1 hF _ hi3 s1 f1 g1 hn
      have hn0 : nts t 200 i = n := by rw [hn]; rfl
      refine S_X9_readOne_5 isRu5 _ _ _ ?_
      rw [nI_leI (by omega) (by omega)]
      refine ⟨fun _ => ?_, fun z => by omega⟩
      refine hb I1 (i + n) c _ Q s1 hi3 (by omega) (fun I2 o2 => ?_)
      have gg := g0 (i + n) (by omega) hi3
      cases hr : bas t k (i + n) with
      | inl j =>
        rw [hr] at o2
        refine x_one77F o2.2 (fun I3 s3 f3 => hQ I3 ?_)
        rw [pOne_l hn0 hr]; exact ⟨(f1.tr o2.1).tr f3, s3⟩
      | inr r =>
        rw [hr] at o2 gg
        obtain ⟨f2, s2, p2, c2⟩ := o2
        obtain ⟨q1, q2, q3⟩ := gg
        have q4 := q3.1
        refine x_one77 (k := n) s2 (fun _ => by omega) rfl (fun I3 f3 s3 p3 c3 => hQ I3 ?_)
        rw [pOne_r hn0 hr]
        refine ⟨(f1.tr f2).tr f3, ?_, fun j hj => by rw [p3 j (by omega), p2 j hj, g1], ?_⟩
        · show CS t K I3 r.1 (c + sz (r.2.1 ++ notC n))
          rw [sz_app, ← Nat.add_assoc]; exact s3
        · show spC (I3 9) c (c + sz (r.2.1 ++ notC n)) (r.2.1 ++ notC n)
          rw [sz_app, ← Nat.add_assoc]
          exact spC_app _ _ _ _ _ (spC_eq _ _ _ (fun j _ b => p3 j b) c2) c3
    | succ F ih =>
      intro n I1 hF _ hi3 s1 f1 g1 hn
      refine S_X9_readOne_5 isRu5 _ _ _ ?_
      rw [nI_leI (by omega) (by omega)]
      refine ⟨fun z => by omega, fun _ => x_passes hK ht s1 hi3 rfl (by omega) (fun z I2 s2 f2 g2 => ⟨_, rfl, fun w => absurd w one_ne, fun _ => ?_⟩) (fun z => ⟨_, rfl, fun _ => ?_, fun w => absurd rfl w⟩)⟩
      · have hi4 : i + n < K := by
          rcases Nat.lt_or_ge (i + n) K with y | y
          · exact y
          · have : i + n = K := by omega
            rw [this, hend] at z; omega
        have hn2 : nts t 200 i = (n + 1) + nts t F (i + (n + 1)) := by
          rw [hn]
          have e : nts t (F + 1) (i + n) = nts t F (i + n + 1) + 1 := by
            show (if t (i + n) = 12 then nts t F (i + n + 1) + 1 else 0) = _
            rw [if_pos z]
          rw [e, show i + (n + 1) = i + n + 1 by omega]; omega
        have rc := ih (n + 1) I2 (by omega) (by omega) (by omega) s2 (f1.tr f2) (g2.trans g1) hn2
        rw [nI_add, n0, nI_eq (by omega) (by omega)]
        refine ⟨fun w => ?_, fun w => ?_⟩
        · rw [show (n + 1) % 2 = 0 by omega] at rc; exact rc
        · rw [show (n + 1) % 2 = 1 by omega] at rc; exact rc
      · have hn0 : nts t 200 i = n := by
          rw [hn]
          have : nts t (F + 1) (i + n) = 0 := by
            show (if t (i + n) = 12 then nts t F (i + n + 1) + 1 else 0) = _
            rw [if_neg z]
          omega
        refine hb I1 (i + n) c _ Q s1 hi3 (by omega) (fun I2 o2 => ?_)
        have gg := g0 (i + n) (by omega) hi3
        cases hr : bas t k (i + n) with
        | inl j =>
          rw [hr] at o2
          refine x_one77F o2.2 (fun I3 s3 f3 => hQ I3 ?_)
          rw [pOne_l hn0 hr]; exact ⟨(f1.tr o2.1).tr f3, s3⟩
        | inr r =>
          rw [hr] at o2 gg
          obtain ⟨f2, s2, p2, c2⟩ := o2
          obtain ⟨q1, q2, q3⟩ := gg
          have q4 := q3.1
          refine x_one77 (k := n) s2 (fun _ => by omega) rfl (fun I3 f3 s3 p3 c3 => hQ I3 ?_)
          rw [pOne_r hn0 hr]
          refine ⟨(f1.tr f2).tr f3, ?_, fun j hj => by rw [p3 j (by omega), p2 j hj, g1], ?_⟩
          · show CS t K I3 r.1 (c + sz (r.2.1 ++ notC n))
            rw [sz_app, ← Nat.add_assoc]; exact s3
          · show spC (I3 9) c (c + sz (r.2.1 ++ notC n)) (r.2.1 ++ notC n)
            rw [sz_app, ← Nat.add_assoc]
            exact spC_app _ _ _ _ _ (spC_eq _ _ _ (fun j _ b => p3 j b) c2) c3
  exact lp 200 0 I (by omega) (by omega) hi2 h (FrP.rf I) rfl (by rw [Nat.zero_add]; rfl)
end L3
