section L7
variable {E : EE} {d : Nat} {I : IH} {Q : QT} {B : Nat → Nat} {n K i j k c o D : Nat} {x y : Int32} {st st2 : Nat → Int32}
/-! the reference's parser: at token i, c words told, o brackets not closed -/
def MS (B : Nat → Nat) (n : Nat) (I : IH) (i : Nat) : Prop := I 115 9 = nI (pl B n i) ∧ TokR (tk B n i) I ∧ I 115 8 = nI (tenE B n (pl B n i))
def FrM (I I2 : IH) : Prop := Same [115, 122] I I2 ∧ ∀ j, j < 8 ∨ 13 < j → I2 115 j = I 115 j
def CM (B : Nat → Nat) (n : Nat) (I : IH) (i c o : Nat) : Prop := MP I B n ∧ MS B n I i ∧ I 115 13 = nI c ∧ I 115 12 = nI o
theorem FrM.rf (I : IH) : FrM I I := ⟨Same.rf _ _, fun _ _ => rfl⟩
theorem FrM.tr {I2 I3 : IH} (h : FrM I I2) (h2 : FrM I2 I3) : FrM I I3 := ⟨h.1.tr h2.1, fun j a => (h2.2 j a).trans (h.2 j a)⟩
theorem FrN.m {I2 : IH} (h : FrN I I2) : FrM I I2 := ⟨h.1.mono (by decide), fun j a => h.2 j (by omega) (by omega) (by omega) (by omega)⟩
theorem MP.frm {I2 : IH} (h : MP I B n) (f : FrM I I2) : MP I2 B n := by
  obtain ⟨h1, h2, h3, h4⟩ := h
  refine ⟨by rw [f.2 6 (by omega)]; exact h1, h2, fun i hi => by rw [f.1 120 (by decide)]; exact h3 i hi, fun j hj => by rw [f.1 121 (by decide)]; exact h4 j hj⟩
theorem J_next_0 (h : J E (d + 1) mX12_next 0 [(0, .ref (eb E + 115))] [] I Q) : Mt E (d + 1) mX12_next [.ref (eb E + 115)] I Q :=
  Mt_of [(0, .ref (eb E + 115))] (by decide +kernel) (by simp [lg_sl, Value.category, mX12_next]) rfl h
theorem pl_n (lx : LX B n K) (i : Nat) : pl B n i ≤ n := by
  induction i with
  | zero => show skp B n 0 ≤ n; exact runB_n _ _ (Nat.zero_le _)
  | succ i ih =>
    show (if pl B n i < n then skp B n (ten B n (pl B n i)) else pl B n i) ≤ n
    split
    · rename_i h; exact runB_n _ _ (ten_le h)
    · exact ih
theorem m_nextF {p : Nat} (hM : MP I B n) (h8 : I 115 8 = nI p) (hp : p ≤ n) (hQ : ∀ s I2, s = skp B n p → FrN I I2 → I2 115 9 = nI s → I2 115 8 = nI (tenE B n s) → TokR (tokE B n s) I2 → Q none I2) : Mt E (d + 3) mX12_next [.ref (eb E + 115)] I Q :=
  J_next_0 (d := d + 2) (m_next0 hM hQ (n - p) p I (by omega) rfl (FrN.rf I) h8)
theorem m_next (lx : LX B n K) (h : CM B n I i c o) (hi : i < K) (hQ : ∀ I2, CM B n I2 (i + 1) c o → FrM I I2 → I2 122 = I 122 → Q none I2) : Mt E (d + 3) mX12_next [.ref (eb E + 115)] I Q := by
  obtain ⟨hM, ⟨m1, m2, m3⟩, hc, ho⟩ := h
  have hl := lx.2.2 i hi
  have e1 : tenE B n (pl B n i) = ten B n (pl B n i) := by unfold tenE; rw [if_pos hl]
  rw [e1] at m3
  refine m_nextF hM m3 (ten_le hl) (fun s I2 hs f2 g9 g8 g10 => ?_)
  have es : pl B n (i + 1) = s := by
    show (if pl B n i < n then skp B n (ten B n (pl B n i)) else pl B n i) = s
    rw [if_pos hl, hs]
  refine hQ I2 ⟨hM.fr f2, ⟨by rw [es]; exact g9, ?_, by rw [es]; exact g8⟩, by rw [f2.2 13 (by omega) (by omega) (by omega) (by omega)]; exact hc, by rw [f2.2 12 (by omega) (by omega) (by omega) (by omega)]; exact ho⟩ f2.m (f2.1 122 (by decide))
  have ek : tk B n (i + 1) = tokE B n s := by unfold tk tokE; rw [es]
  rw [ek]; exact g10
/-! what the reference's token says -/
theorem tz_b {t : Nat} {z : Int} (h : TZ t z) : -1 ≤ z ∧ z ≤ 455 := by unfold TZ at h; omega
theorem tr_eq {t v : Nat} (h : TokR t I) (m : Nat) (hm : m < 1000) (hz : ∀ z, TZ t z → (z = m ↔ t = v)) : I 115 10 = nI m ↔ t = v := by
  obtain ⟨z, h1, h2, h3⟩ := h
  have hb := tz_b h2
  rw [h1, nI_z, zI_eq (by omega) (by omega) (by omega) (by omega)]
  exact hz z h2
theorem tr_inr {t : Nat} {P : Prop} (h : TokR t I) (b c : Nat) (hz : ∀ z, TZ t z → ((b : Int) ≤ z ∧ z ≤ c ↔ P)) : inr (I 115 10) b c ↔ P := by
  obtain ⟨z, h1, h2, h3⟩ := h
  have hb := tz_b h2
  unfold inr
  rw [h1, zI_toInt (by omega) (by omega)]
  exact hz z h2
theorem tr_or {t : Nat} (h : TokR t I) : I 115 10 = nI 12 ↔ t = 10 := tr_eq h 12 (by omega) (fun z hz => by unfold TZ at hz; omega)
theorem tr_and {t : Nat} (h : TokR t I) : I 115 10 = nI 11 ↔ t = 11 := tr_eq h 11 (by omega) (fun z hz => by unfold TZ at hz; omega)
theorem tr_not {t : Nat} (h : TokR t I) : I 115 10 = nI 10 ↔ t = 12 := tr_eq h 10 (by omega) (fun z hz => by unfold TZ at hz; omega)
theorem tr_if {t : Nat} (h : TokR t I) : I 115 10 = nI 9 ↔ t = 9 := tr_eq h 9 (by omega) (fun z hz => by unfold TZ at hz; omega)
theorem tr_240 {t : Nat} (h : TokR t I) : I 115 10 = nI 240 ↔ t = 40 := tr_eq h 240 (by omega) (fun z hz => by unfold TZ at hz; omega)
theorem tr_241 {t : Nat} (h : TokR t I) : I 115 10 = nI 241 ↔ t = 41 := tr_eq h 241 (by omega) (fun z hz => by unfold TZ at hz; omega)
theorem tr_259 {t : Nat} (h : TokR t I) : I 115 10 = nI 259 ↔ t = 59 := tr_eq h 259 (by omega) (fun z hz => by unfold TZ at hz; omega)
theorem tr_260 {t : Nat} (h : TokR t I) : I 115 10 = nI 260 ↔ t = 60 := tr_eq h 260 (by omega) (fun z hz => by unfold TZ at hz; omega)
theorem tr_261 {t : Nat} (h : TokR t I) : I 115 10 = nI 261 ↔ t = 61 := tr_eq h 261 (by omega) (fun z hz => by unfold TZ at hz; omega)
theorem tr_262 {t : Nat} (h : TokR t I) : I 115 10 = nI 262 ↔ t = 62 := tr_eq h 262 (by omega) (fun z hz => by unfold TZ at hz; omega)
theorem tr_100 {t : Nat} (h : TokR t I) (ht : t ≤ 10999) : I 115 10 = nI 100 ↔ 1000 ≤ t := by
  obtain ⟨z, h1, h2, h3⟩ := h
  have hb := tz_b h2
  rw [h1, nI_z, zI_eq (by omega) (by omega) (by omega) (by omega)]
  unfold TZ at h2; omega
theorem tr_end {t : Nat} (h : TokR t I) : I 115 10 = (-1) ↔ t = 301 := by
  obtain ⟨z, h1, h2, h3⟩ := h
  have hb := tz_b h2
  rw [h1, zI_neg1, zI_eq (by omega) (by omega) (by omega) (by omega)]
  unfold TZ at h2; omega
theorem tr_kind {t : Nat} (h : TokR t I) : inr (I 115 10) 0 5 ↔ t ≤ 5 := tr_inr h 0 5 (fun z hz => by unfold TZ at hz; omega)
theorem tr_will {t : Nat} (h : TokR t I) : inr (I 115 10) 6 8 ↔ 6 ≤ t ∧ t ≤ 8 := tr_inr h 6 8 (fun z hz => by unfold TZ at hz; omega)
theorem tr_fact {t : Nat} (h : TokR t I) : inr (I 115 10) 13 17 ↔ 995 ≤ t ∧ t ≤ 999 := tr_inr h 13 17 (fun z hz => by unfold TZ at hz; omega)
theorem tr_val {t : Nat} (h : TokR t I) (ht : t ≤ 9) : I 115 10 = nI t := by
  obtain ⟨z, h1, h2, h3⟩ := h
  rw [h1, nI_z]; congr 1
  unfold TZ at h2; omega
theorem tr_fv {t : Nat} (h : TokR t I) (ht : 995 ≤ t ∧ t ≤ 999) : I 115 10 = nI (t - 982) := by
  obtain ⟨z, h1, h2, h3⟩ := h
  rw [h1, nI_z]; congr 1
  unfold TZ at h2; omega
/-! words told -/
def spS (c : Nat → Int32) : Nat → Nat → List Op3 → Prop
  | i, z, [] => i = z
  | i, z, q :: ops => if q.1 ≤ 2 then c i = nI q.2.1 ∧ c (i + 1) = nI q.2.2 ∧ c (i + 2) = nI (10010 + q.1) ∧ okv q.2.1 ∧ okv q.2.2 ∧ spS c (i + 3) z ops else c i = nI (if q.1 = 3 then 10015 else 10009 + q.1) ∧ q.1 ≤ 5 ∧ spS c (i + 1) z ops
theorem spS_le : ∀ (ops : List Op3) (i z : Nat), spS st i z ops → i ≤ z := by
  intro ops
  induction ops with
  | nil => intro i z h; exact Nat.le_of_eq h
  | cons q ops ih =>
    intro i z h
    unfold spS at h
    split at h
    · have := ih _ _ h.2.2.2.2.2; omega
    · have := ih _ _ h.2.2; omega
theorem spS_app : ∀ (a b : List Op3) (i z z2 : Nat), spS st i z a → spS st z z2 b → spS st i z2 (a ++ b) := by
  intro a
  induction a with
  | nil => intro b i z z2 h h2; have h : i = z := h; rw [h]; exact h2
  | cons q a ih =>
    intro b i z z2 h h2
    show spS st i z2 (q :: (a ++ b))
    unfold spS at h ⊢
    split
    · rename_i g; rw [if_pos g] at h
      exact ⟨h.1, h.2.1, h.2.2.1, h.2.2.2.1, h.2.2.2.2.1, ih b _ z z2 h.2.2.2.2.2 h2⟩
    · rename_i g; rw [if_neg g] at h
      exact ⟨h.1, h.2.1, ih b _ z z2 h.2.2 h2⟩
theorem spS_eq : ∀ (a : List Op3) (i z : Nat), (∀ j, i ≤ j → j < z → st2 j = st j) → spS st i z a → spS st2 i z a := by
  intro a
  induction a with
  | nil => intro i z _ h; exact h
  | cons q a ih =>
    intro i z he h
    unfold spS at h ⊢
    split
    · rename_i g; rw [if_pos g] at h
      have := spS_le _ _ _ h.2.2.2.2.2
      exact ⟨by rw [he i (by omega) (by omega)]; exact h.1, by rw [he (i + 1) (by omega) (by omega)]; exact h.2.1, by rw [he (i + 2) (by omega) (by omega)]; exact h.2.2.1, h.2.2.2.1, h.2.2.2.2.1, ih _ _ (fun j a b => he j (by omega) b) h.2.2.2.2.2⟩
    · rename_i g; rw [if_neg g] at h
      have := spS_le _ _ _ h.2.2
      exact ⟨by rw [he i (by omega) (by omega)]; exact h.1, h.2.1, ih _ _ (fun j a b => he j (by omega) b) h.2.2⟩
theorem spS_one {q : Nat} (h : 2 < q) (h2 : q ≤ 5) (hc : st i = nI (if q = 3 then 10015 else 10009 + q)) : spS st i (i + 1) [(q, 0, 0)] := by
  unfold spS
  rw [if_neg (by show ¬ q ≤ 2; omega)]
  exact ⟨hc, h2, rfl⟩
theorem m_lays (h : CM B n I i c o) (hc : c < 200) (hQ : ∀ I2, CM B n I2 i (c + 1) o → FrM I I2 → (∀ j, j ≠ c → I2 122 j = I 122 j) → I2 122 c = x → Q none I2) : Mt E d mX12_lays [.ref (eb E + 115), .int x] I Q := by
  obtain ⟨hM, ⟨m1, ⟨z, m2, m4, m5⟩, m3⟩, hc2, ho⟩ := h
  refine S_X12_lays _ ⟨c, hc2, hc, fun I1 e1 I6 e6 => ?_⟩
  have k : I1 115 = I 115 := by rw [e1, st_ne (by omega)]
  rw [k, hc2, nI_add] at e6
  have q : ∀ j, j ≠ 13 → I6 115 j = I 115 j := fun j hj => by rw [e6, st_nj hj, k]
  have f : FrM I I6 := ⟨by rw [e6, e1]; exact (Same.st (by simp)).tr (Same.st (by simp)), fun j hj => q j (by omega)⟩
  refine hQ I6 ⟨hM.frm f, ⟨by rw [q 9 (by omega)]; exact m1, ⟨z, by rw [q 10 (by omega)]; exact m2, m4, fun y => by rw [q 11 (by omega)]; exact m5 y⟩, by rw [q 8 (by omega)]; exact m3⟩, by rw [e6, st_at], by rw [q 12 (by omega)]; exact ho⟩ f (fun j hj => by rw [e6, st_ne (by omega), e1]; exact st_nj hj) (by rw [e6, st_ne (by omega), e1]; exact st_at)
theorem m_takes {v : Nat} (lx : LX B n K) (h : CM B n I i c o) (hi : i ≤ K) (hx : I 115 10 = x ↔ tk B n i = v) (hv : v ≠ 301) (h1 : tk B n i = v → i < K → ∀ I2, CM B n I2 (i + 1) c o → FrM I I2 → I2 122 = I 122 → Q (some (.int (nI 1))) I2) (h0 : tk B n i ≠ v → Q (some (.int (nI 0))) I) : Mt E (d + 4) mX12_takes [.ref (eb E + 115), .int x] I Q := by
  have hend := tk_end lx
  refine S_X12_takes _ ?_
  rw [hx]
  refine ⟨fun z => S_X12_takes_13 _ ⟨fun _ => ⟨Or.inl rfl, h0 z⟩, fun w => absurd rfl w⟩, fun z => S_X12_takes_13 _ ⟨fun w => absurd w one_ne, fun _ => ?_⟩⟩
  have hi2 := end_lt hend hi (by omega)
  exact m_next lx h hi2 (fun I2 s2 f2 g2 => ⟨rfl, Or.inr (by decide +kernel), h1 z hi2 I2 s2 f2 g2⟩)
theorem m_value (lx : LX B n K) (h : CM B n I i c o) (hi : i ≤ K) (hc : c ≤ i) (h1 : isV (tk B n i) → i < K → ∀ I2, CM B n I2 (i + 1) (c + 1) o → FrM I I2 → (∀ j, j ≠ c → I2 122 j = I 122 j) → I2 122 c = nI (tv (tk B n i)) → Q (some (.int (nI 1))) I2) (h0 : ¬ isV (tk B n i) → Q (some (.int (nI 0))) I) : Mt E (d + 4) mX12_readsValue [.ref (eb E + 115)] I Q := by
  have hend := tk_end lx
  have hK : K ≤ 200 := Nat.le_trans lx.1 h.1.2.1
  have hT : TokR (tk B n i) I := h.2.1.2.1
  have hle := tk_le (B := B) (n := n) i
  have h100 := tr_100 hT hle
  have yes : isV (tk B n i) → J E (d + 4) mX12_readsValue 28 [(0, .ref (eb E + 115))] [.int (nI 1)] I Q := by
    intro hv
    have hi2 := end_lt hend hi (by unfold isV at hv; omega)
    have j61 : ∀ y : Int32, y = nI (tv (tk B n i)) → J E (d + 4) mX12_readsValue 61 [(0, .ref (eb E + 115)), (1, .int (nI 1))] [.int y, .ref (eb E + 115)] I Q := by
      intro y hy
      subst hy
      exact S_X12_readsValue_61 _ _ (m_lays h (by omega) (fun I1 s1 f1 p1 v1 => ⟨rfl, m_next lx s1 hi2 (fun I2 s2 f2 g2 => ⟨rfl, Or.inr (by decide +kernel), h1 hv hi2 I2 s2 (f1.tr f2) (fun j hj => by rw [g2, p1 j hj]) (by rw [g2, v1])⟩)⟩))
    refine S_X12_readsValue_28 _ ⟨fun w => absurd w one_ne, fun _ => ⟨fun z => j61 _ ?_, fun z => j61 _ ?_⟩⟩
    · have hf : 995 ≤ tk B n i ∧ tk B n i ≤ 999 := by
        rw [h100] at z; unfold isV at hv; omega
      have ev : tv (tk B n i) = 9005 + tk B n i := by unfold tv; rw [if_pos (by omega)]
      rw [tr_fv hT hf, nI_add, nI_subB (by omega), ev, show 10000 + (tk B n i - 982) - 13 = 9005 + tk B n i by omega]
    · have hf := h100.mp z
      obtain ⟨zz, -, -, h3⟩ := hT
      have ev : tv (tk B n i) = tk B n i - 1000 := by unfold tv; rw [if_neg (by omega)]
      rw [h3 hf, ev]
  refine S_X12_readsValue ⟨fun z => S_X12_readsValue_23 (yes ?_), fun z => m_in1 (by omega) (by omega) ⟨_, rfl, ?_⟩⟩
  · have := h100.mp z; unfold isV; omega
  · rw [bn_c (tr_fact hT)]
    refine bk (fun w => S_X12_readsValue_23 (yes (by unfold isV; omega))) (fun w => S_X12_readsValue_28 _ ⟨fun _ => ⟨Or.inl rfl, h0 ?_⟩, fun y => absurd rfl y⟩)
    rw [h100] at z; unfold isV; omega
/-- how it goes on -/
def OM (B : Nat → Nat) (n : Nat) (I : IH) (c o : Nat) (r : PR) (v : Int32) (I2 : IH) : Prop := FrM I I2 ∧ match r with
  | .inl j => v = nI 0 ∧ I2 115 9 = nI (pl B n j)
  | .inr r => v = nI 1 ∧ CM B n I2 r.1 (c + sz r.2.2) o ∧ (∀ j, j < c → I2 122 j = I 122 j) ∧ spS (I2 122) c (c + sz r.2.2) r.2.2
theorem m_like (lx : LX B n K) (h : CM B n I i c o) (hi : i ≤ K) (hc : c ≤ i) (hQ : ∀ v I2, OM B n I c o (pCmp (tk B n) i) v I2 → Q (some (.int v)) I2) : Mt E (d + 5) mX12_readsLike [.ref (eb E + 115)] I Q := by
  have hend := tk_end lx
  have hK : K ≤ 200 := Nat.le_trans lx.1 h.1.2.1
  refine S_X12_readsLike (m_value lx h hi hc (fun v1 i1 I1 s1 f1 p1 w1 => ⟨_, rfl, fun _ => ?_, fun z => absurd z one_ne⟩) (fun n1 => ⟨_, rfl, fun z => absurd rfl z, fun _ => hQ _ I ⟨FrM.rf I, ?_⟩⟩))
  · have hT1 : TokR (tk B n (i + 1)) I1 := s1.2.1.2.1
    have sgn : ∀ q, tk B n (i + 1) = 60 + q → q ≤ 2 → J E (d + 5) mX12_readsLike 58 [(0, .ref (eb E + 115))] [.int (nI (10010 + q))] I1 Q := by
      intro q hq hq2
      have i2 := end_lt hend (i := i + 1) i1 (by omega)
      refine S_X12_readsLike_58 _ ⟨fun _ => m_next (d := d + 1) lx s1 i2 (fun I2 s2 f2 g2 => ⟨rfl, m_value lx s2 i2 (by omega) (fun v3 i3 I3 s3 f3 p3 w3 => ⟨_, rfl, fun _ => m_lays s3 (by omega) (fun I4 s4 f4 p4 w4 => ⟨rfl, hQ _ I4 ⟨((f1.tr f2).tr f3).tr f4, ?_⟩⟩), fun z => absurd z one_ne⟩) (fun n3 => ⟨_, rfl, fun z => absurd rfl z, fun _ => hQ _ I2 ⟨f1.tr f2, ?_⟩⟩)⟩), fun z => ?_⟩
      · have e : pCmp (tk B n) i = .inr (i + 3, [(tk B n (i + 1) - 60, tv (tk B n i), tv (tk B n (i + 2)))], [(tk B n (i + 1) - 60, tv (tk B n i), tv (tk B n (i + 2)))]) := by
          unfold pCmp; rw [if_pos (dc_t v1), if_pos (dc_t (by omega)), if_pos (dc_t v3)]
        rw [e]
        have o2 : tk B n (i + 1) - 60 ≤ 2 := by omega
        have sz1 : sz [(tk B n (i + 1) - 60, tv (tk B n i), tv (tk B n (i + 2)))] = 3 := by show (if tk B n (i + 1) - 60 ≤ 2 then 3 else 1) + 0 = 3; rw [if_pos o2]
        show nI 1 = nI 1 ∧ CM B n I4 (i + 3) (c + sz [(tk B n (i + 1) - 60, tv (tk B n i), tv (tk B n (i + 2)))]) o ∧ _ ∧ spS (I4 122) c (c + sz [(tk B n (i + 1) - 60, tv (tk B n i), tv (tk B n (i + 2)))]) [(tk B n (i + 1) - 60, tv (tk B n i), tv (tk B n (i + 2)))]
        rw [sz1]
        refine ⟨rfl, s4, fun j hj => by rw [p4 j (by omega), p3 j (by omega), g2, p1 j (by omega)], ?_⟩
        unfold spS
        rw [if_pos o2]
        refine ⟨?_, ?_, ?_, tv_ok v1, tv_ok v3, rfl⟩
        · rw [p4 c (by omega), p3 c (by omega), g2]; exact w1
        · rw [p4 (c + 1) (by omega)]; exact w3
        · rw [w4]; congr 1; show 10010 + q = 10010 + (tk B n (i + 1) - 60); omega
      · have e : pCmp (tk B n) i = .inl (i + 2) := by
          unfold pCmp; rw [if_pos (dc_t v1), if_pos (dc_t (by omega)), if_neg (by rw [dc_i]; exact n3)]
        rw [e]; exact ⟨rfl, s2.2.1.1⟩
      · rw [n0, nI_eq (by omega) (by omega)] at z; omega
    rw [tr_260 hT1, tr_261 hT1, tr_262 hT1]
    refine ⟨fun y0 => ⟨fun y1 => ⟨fun y2 => S_X12_readsLike_58 _ ⟨fun z => absurd rfl z, fun _ => hQ _ I1 ⟨f1, ?_⟩⟩, fun y2 => sgn 2 (by omega) (by omega)⟩, fun y1 => sgn 1 (by omega) (by omega)⟩, fun y0 => sgn 0 (by omega) (by omega)⟩
    have e : pCmp (tk B n) i = .inl (i + 1) := by
      unfold pCmp; rw [if_pos (dc_t v1), if_neg (by rw [dc_i]; omega)]
    rw [e]; exact ⟨rfl, s1.2.1.1⟩
  · have e : pCmp (tk B n) i = .inl i := by unfold pCmp; rw [if_neg (by rw [dc_i]; exact n1)]
    rw [e]; exact ⟨rfl, h.2.1.1⟩
end L7
