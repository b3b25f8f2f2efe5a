section L6
variable {E : EE} {d : Nat} {I : IH} {Q : QT} {B : Nat → Nat} {n p e k w i : Nat} {x y : Int32}
/-! the reference's tokens -/
def MP (I : IH) (B : Nat → Nat) (n : Nat) : Prop := I 115 6 = nI n ∧ n ≤ 200 ∧ (∀ i, i < n → B i < 256 ∧ I 120 i = nI (B i)) ∧ ∀ j, j < 144 → I 121 j = nI (ltL.getD j 0)
def FrN (I I2 : IH) : Prop := Same [115] I I2 ∧ ∀ j, j ≠ 8 → j ≠ 9 → j ≠ 10 → j ≠ 11 → I2 115 j = I 115 j
theorem FrN.rf (I : IH) : FrN I I := ⟨Same.rf _ _, fun _ _ _ _ _ => rfl⟩
theorem FrN.tr {I2 I3 : IH} (h : FrN I I2) (h2 : FrN I2 I3) : FrN I I3 := ⟨h.1.tr h2.1, fun j a b c g => (h2.2 j a b c g).trans (h.2 j a b c g)⟩
theorem FrN.st {j : Nat} {v : Int32} (h : j = 8 ∨ j = 9 ∨ j = 10 ∨ j = 11) : FrN I (stI I 115 j v) := ⟨Same.st (by simp), fun i a b c g => st_nj (by omega)⟩
theorem MP.fr {I2 : IH} (h : MP I B n) (f : FrN I I2) : MP I2 B n := by
  obtain ⟨h1, h2, h3, h4⟩ := h
  refine ⟨by rw [f.2 6 (by omega) (by omega) (by omega) (by omega)]; exact h1, h2, fun i hi => by rw [f.1 120 (by decide)]; exact h3 i hi, fun j hj => by rw [f.1 121 (by decide)]; exact h4 j hj⟩
def bAt (B : Nat → Nat) (n p : Nat) : Int32 := if p < n then nI (B p) else (-1)
theorem m_byteAt (hM : MP I B n) (hx : x = nI p) (hp : p ≤ 1000) (hQ : Q (some (.int (bAt B n p))) I) : Mt E d mX12_byteAt [.ref (eb E + 115), .int x] I Q := by
  subst hx
  obtain ⟨h1, h2, h3, h4⟩ := hM
  refine S_X12_byteAt _ ?_
  rw [h1, nI_leI (by omega) (by omega)]
  refine ⟨fun z => ?_, fun z => ⟨p, rfl, by omega, ?_⟩⟩
  · unfold bAt at hQ; rw [if_neg (by omega)] at hQ; exact hQ
  · unfold bAt at hQ; rw [if_pos (by omega)] at hQ; rw [(h3 p (by omega)).2]; exact hQ
theorem bAt_inr {b c : Nat} (hB : p < n → B p < 256) (hc : c < 1000) : inr (bAt B n p) b c ↔ p < n ∧ b ≤ B p ∧ B p ≤ c := by
  unfold bAt
  by_cases h : p < n
  · rw [if_pos h, inr_i (by have := hB h; omega)]
    exact ⟨fun z => ⟨h, z⟩, fun z => z.2⟩
  · rw [if_neg h]
    constructor
    · intro z
      have : (-1 : Int32).toInt = -1 := by decide
      unfold inr at z
      rw [this] at z
      omega
    · intro z; exact absurd z.1 h
theorem MP.b (hM : MP I B n) : p < n → B p < 256 := fun h => (hM.2.2.1 p h).1
/-! names -/
def sgm (w : Nat) : Nat := if w = 10 then 12 else if w = 12 then 10 else w
theorem lt_tab : ∀ w, w < 18 → ∀ k, k < 8 → ltL.getD (8 * w + k) 0 = if k < lnW (sgm w) then WB.getD (stW (sgm w) + k) 0 else 32 := by decide +kernel
theorem w_dist : ∀ a, a < 18 → ∀ b, b < 18 → a ≠ b → lnW a ≠ lnW b ∨ ∃ i, i < lnW a ∧ WB.getD (stW a + i) 0 ≠ WB.getD (stW b + i) 0 := by decide +kernel
theorem sgm_lt {w : Nat} (h : w < 18) : sgm w < 18 := by
  unfold sgm
  repeat' split
  all_goals omega
theorem sgm_sgm (w : Nat) : sgm (sgm w) = w := by
  unfold sgm
  repeat' split
  all_goals omega
theorem word_uni {a b : Nat} (ha : a < 18) (hb : b < 18) (hpe : p ≤ e) (h1 : wordAt B p e a) (h2 : wordAt B p e b) : a = b := by
  rcases Nat.decEq a b with hne | heq
  · exfalso
    rcases w_dist a ha b hb hne with h | ⟨i, hi, h⟩
    · have := h1.1; have := h2.1; omega
    · have e1 := h1.2 (p + i) (by omega) (by have := h1.1; omega)
      have e2 := h2.2 (p + i) (by omega) (by have := h1.1; omega)
      rw [show p + i - p = i by omega] at e1 e2
      exact h (e1.symm.trans e2)
  · exact heq
def cnd (B : Nat → Nat) (p e w k : Nat) : Prop := ltL.getD (8 * w + k) 0 = if p + k < e then B (p + k) else 32
def nmP (B : Nat → Nat) (p e w k : Nat) : Prop := e - p ≤ 8 ∧ ∀ j, j < k → cnd B p e w j
theorem nmP_word (hw : w < 18) (hpe : p < e) (hL : ∀ j, p ≤ j → j < e → isL (B j)) : nmP B p e w 8 ↔ wordAt B p e (sgm w) := by
  have t2 := w_tab2 (sgm w) (sgm_lt hw)
  have t1 := (w_tab (sgm w) (sgm_lt hw)).2.2.2
  constructor
  · intro h
    obtain ⟨h1, h2⟩ := h
    have hm : e - p = lnW (sgm w) := by
      rcases Nat.lt_trichotomy (e - p) (lnW (sgm w)) with z | z | z
      · have := h2 (e - p) (by omega)
        unfold cnd at this
        rw [lt_tab w hw _ (by omega), if_pos z, if_neg (by omega)] at this
        have := t2 (e - p) z
        omega
      · exact z
      · have := h2 (lnW (sgm w)) (by omega)
        unfold cnd at this
        rw [lt_tab w hw _ (by omega), if_neg (by omega), if_pos (by omega)] at this
        have := hL (p + lnW (sgm w)) (by omega) (by omega)
        omega
    refine ⟨hm, fun j a b => ?_⟩
    have := h2 (j - p) (by omega)
    unfold cnd at this
    rw [lt_tab w hw _ (by omega), if_pos (by omega), if_pos (by omega), show p + (j - p) = j by omega] at this
    exact this.symm
  · intro h
    obtain ⟨h1, h2⟩ := h
    refine ⟨by omega, fun j hj => ?_⟩
    unfold cnd
    rw [lt_tab w hw _ hj]
    by_cases z : j < lnW (sgm w)
    · rw [if_pos z, if_pos (by omega), h2 (p + j) (by omega) (by omega), show p + j - p = j by omega]
    · rw [if_neg z, if_neg (by omega)]
theorem ltL_b : ∀ j, j < 144 → ltL.getD j 0 < 256 := by decide +kernel
theorem m_nameOf22 (hM : MP I B n) (h8 : I 115 8 = nI e) (h9 : I 115 9 = nI p) (he : e ≤ n) (hpe : p ≤ e) (hw : w < 18) (hQ : Q (some (.int (nI (bn (nmP B p e w 8))))) I) : ∀ (m k : Nat), k + m = 8 → J E (d + 1) mX12_isNameOf 22 [(0, .ref (eb E + 115)), (1, .int (nI w)), (2, .int (nI (bn (nmP B p e w k)))), (3, .int (nI k))] [] I Q := by
  have h2 := hM.2.1
  intro m
  induction m with
  | zero =>
    intro k hk
    have : k = 8 := by omega
    subst this
    refine S_X12_isNameOf_22 _ _ _ ?_
    rw [nI_leI (by omega) (by omega)]
    exact ⟨fun _ => ⟨bz _, hQ⟩, fun z => by omega⟩
  | succ m ih =>
    intro k hk
    refine S_X12_isNameOf_22 _ _ _ ?_
    rw [nI_leI (by omega) (by omega)]
    refine ⟨fun z => by omega, fun _ => ?_⟩
    by_cases hp : nmP B p e w k
    · rw [bn_t hp]
      refine ⟨fun z => absurd z one_ne, fun _ => ⟨8 * w + k, by rw [nI_mul, nI_add], by omega, ?_⟩⟩
      have hl := ltL_b (8 * w + k) (by omega)
      rw [hM.2.2.2 _ (by omega), h8, h9, nI_add, nI_leI (by omega) (by omega), nI_add]
      have yes : cnd B p e w k → J E (d + 1) mX12_isNameOf 22 [(0, .ref (eb E + 115)), (1, .int (nI w)), (2, .int (nI 1)), (3, .int (nI (k + 1)))] [] I Q := by
        intro hc
        have := ih (k + 1) (by omega)
        rw [bn_t (p := nmP B p e w (k + 1)) ⟨hp.1, fun j hj => by
          by_cases z : j = k
          · rw [z]; exact hc
          · exact hp.2 j (by omega)⟩] at this
        exact this
      have no : ¬ cnd B p e w k → J E (d + 1) mX12_isNameOf 22 [(0, .ref (eb E + 115)), (1, .int (nI w)), (2, .int (nI 0)), (3, .int (nI (k + 1)))] [] I Q := by
        intro hc
        have := ih (k + 1) (by omega)
        rw [bn_f (p := nmP B p e w (k + 1)) (fun z => hc (z.2 k (by omega)))] at this
        exact this
      refine ⟨fun z => ?_, fun z => m_byteAt hM rfl (by omega) ⟨_, rfl, ?_⟩⟩
      · rw [nI_eq (by omega) (by omega)]
        refine ⟨fun y => no (fun c => y ?_), fun y => yes ?_⟩
        · unfold cnd at c; rw [if_neg (by omega)] at c; exact c
        · unfold cnd; rw [if_neg (by omega)]; exact y
      · have hb := hM.b (p := p + k) (by omega)
        have e1 : bAt B n (p + k) = nI (B (p + k)) := by unfold bAt; rw [if_pos (by omega)]
        rw [e1, nI_eq (by omega) (by omega)]
        refine ⟨fun y => no (fun c => y ?_), fun y => yes ?_⟩
        · unfold cnd at c; rw [if_pos (by omega)] at c; exact c
        · unfold cnd; rw [if_pos (by omega)]; exact y
    · rw [bn_f hp]
      refine ⟨fun _ => ⟨Or.inl rfl, ?_⟩, fun z => absurd rfl z⟩
      rw [bn_f (p := nmP B p e w 8) (fun z => hp ⟨z.1, fun j hj => z.2 j (by omega)⟩)] at hQ
      exact hQ
theorem m_nameOf (hM : MP I B n) (h8 : I 115 8 = nI e) (h9 : I 115 9 = nI p) (he : e ≤ n) (hpe : p < e) (hL : ∀ j, p ≤ j → j < e → isL (B j)) (hw : w < 18) (hQ : Q (some (.int (nI (bn (wordAt B p e (sgm w)))))) I) : Mt E (d + 1) mX12_isNameOf [.ref (eb E + 115), .int (nI w)] I Q := by
  have h2 := hM.2.1
  rw [← bn_c (nmP_word hw hpe hL)] at hQ
  refine S_X12_isNameOf _ ?_
  rw [h8, h9, nI_subB (by omega), nI_ltI (by omega) (by omega)]
  have go := m_nameOf22 (E := E) (d := d) hM h8 h9 he (by omega) hw hQ 8 0 (by omega)
  refine ⟨fun z => ?_, fun z => ?_⟩
  · rw [bn_f (p := nmP B p e w 0) (fun y => by have := y.1; omega)] at go; exact go
  · rw [bn_t (p := nmP B p e w 0) ⟨by omega, fun j hj => by omega⟩] at go; exact go
/-- the name that will be found from the w-th on -/
def Hit (B : Nat → Nat) (p e w : Nat) (cur fin : Int32) : Prop := (∃ u, w ≤ u ∧ u < 18 ∧ wordAt B p e (sgm u) ∧ fin = nI u) ∨ ((∀ u, w ≤ u → u < 18 → ¬ wordAt B p e (sgm u)) ∧ cur = fin)
theorem m_name39 {fin : Int32} (he : e ≤ n) (hpe : p < e) (hL : ∀ j, p ≤ j → j < e → isL (B j)) (hM : MP I B n) (h8 : I 115 8 = nI e) (h9 : I 115 9 = nI p) (hQ : ∀ I2, FrN I I2 → I2 115 8 = nI e → I2 115 9 = nI p → I2 115 10 = fin → Q none I2) : ∀ (m w : Nat) (I1 : IH), w + m = 18 → FrN I I1 → I1 115 8 = nI e → I1 115 9 = nI p → Hit B p e w (I1 115 10) fin → J E (d + 2) mX12_readsName 39 [(0, .ref (eb E + 115)), (1, .int (nI w))] [] I1 Q := by
  intro m
  induction m with
  | zero =>
    intro w I1 hw f1 g8 g9 ht
    refine S_X12_readsName_39 _ ?_
    rw [nI_leI (by omega) (by omega)]
    refine ⟨fun _ => hQ I1 f1 g8 g9 ?_, fun z => by omega⟩
    rcases ht with ⟨u, a, b, -⟩ | ⟨-, h⟩
    · omega
    · exact h
  | succ m ih =>
    intro w I1 hw f1 g8 g9 ht
    refine S_X12_readsName_39 _ ?_
    rw [nI_leI (by omega) (by omega)]
    refine ⟨fun z => by omega, fun _ => m_nameOf (hM.fr f1) g8 g9 he hpe hL (by omega) ⟨_, rfl, bk (fun q I5 e5 => ?_) (fun q I3 e3 => ?_)⟩⟩
    · rw [nI_add]
      refine ih (w + 1) I5 (by omega) (f1.tr (by rw [e5]; exact FrN.st (by omega))) (by rw [e5, st_nj (by omega)]; exact g8) (by rw [e5, st_nj (by omega)]; exact g9) (Or.inr ⟨fun u a b c => ?_, ?_⟩)
      · have := word_uni (sgm_lt (by omega)) (sgm_lt b) (by omega) q c
        have h3 := sgm_sgm w
        rw [this, sgm_sgm] at h3
        omega
      · rw [e5, st_at]
        rcases ht with ⟨u, a, b, c, dd⟩ | ⟨h, -⟩
        · have := word_uni (sgm_lt (by omega)) (sgm_lt b) (by omega) q c
          have h3 := sgm_sgm w
          rw [this, sgm_sgm] at h3
          rw [dd, h3]
        · exact absurd q (h w (Nat.le_refl w) (by omega))
    · rw [nI_add]
      have e10 : I3 115 10 = I1 115 10 := by rw [e3, st_at]
      refine ih (w + 1) I3 (by omega) (f1.tr (by rw [e3]; exact FrN.st (by omega))) (by rw [e3, st_nj (by omega)]; exact g8) (by rw [e3, st_nj (by omega)]; exact g9) ?_
      rw [e10]
      rcases ht with ⟨u, a, b, c, dd⟩ | ⟨h, hh⟩
      · refine Or.inl ⟨u, ?_, b, c, dd⟩
        rcases Nat.lt_or_ge w u with z | z
        · exact z
        · have : u = w := by omega
          rw [this] at c; exact absurd c q
      · exact Or.inr ⟨fun u a b => h u (by omega) b, hh⟩
theorem m_name0 (he : e ≤ n) (hpe : p < e) (hL : ∀ j, p ≤ j → j < e → isL (B j)) (hE : ¬ (e < n ∧ lB (B e) = true)) {fin : Int32} (ht : Hit B p e 0 (nI 101) fin) (hM : MP I B n) (h9 : I 115 9 = nI p) (hQ : ∀ I2, FrN I I2 → I2 115 8 = nI e → I2 115 9 = nI p → I2 115 10 = fin → Q none I2) : ∀ (m q : Nat) (I1 : IH), q + m = e → p ≤ q → FrN I I1 → I1 115 8 = nI q → I1 115 9 = nI p → J E (d + 2) mX12_readsName 0 [(0, .ref (eb E + 115))] [] I1 Q := by
  have h2 := hM.2.1
  intro m
  induction m with
  | zero =>
    intro q I1 hq hpq f1 g8 g9
    have : q = e := by omega
    subst this
    have hM1 := hM.fr f1
    refine S_X12_readsName_0 (m_byteAt hM1 g8 (by omega) ⟨_, rfl, m_in1 (by omega) (by omega) ⟨_, rfl, ?_⟩⟩)
    rw [bn_f (p := inr (bAt B n q) 97 122) (fun z => hE (by have := (bAt_inr hM.b (by omega)).mp z; exact ⟨this.1, by simp [lB]; exact this.2⟩))]
    refine ⟨fun _ I5 e5 => ?_, fun z => absurd rfl z⟩
    exact m_name39 he hpe hL hM1 g8 g9 (fun I2 f2 k8 k9 k10 => hQ I2 (f1.tr f2) k8 k9 k10) 18 0 I5 (by omega) (by rw [e5]; exact FrN.st (by omega)) (by rw [e5, st_nj (by omega)]; exact g8) (by rw [e5, st_nj (by omega)]; exact g9) (by rw [e5, st_at]; exact ht)
  | succ m ih =>
    intro q I1 hq hpq f1 g8 g9
    have hM1 := hM.fr f1
    refine S_X12_readsName_0 (m_byteAt hM1 g8 (by omega) ⟨_, rfl, m_in1 (by omega) (by omega) ⟨_, rfl, ?_⟩⟩)
    rw [bn_t (p := inr (bAt B n q) 97 122) ((bAt_inr hM.b (by omega)).mpr ⟨by omega, hL q hpq (by omega)⟩)]
    refine ⟨fun z => absurd z one_ne, fun _ I7 e7 => ?_⟩
    rw [g8, nI_add] at e7
    exact ih (q + 1) I7 (by omega) (by omega) (f1.tr (by rw [e7]; exact FrN.st (by omega))) (by rw [e7, st_at]) (by rw [e7, st_nj (by omega)]; exact g9)
theorem J_name_0 (h : J E (d + 1) mX12_readsName 0 [(0, .ref (eb E + 115))] [] I Q) : Mt E (d + 1) mX12_readsName [.ref (eb E + 115)] I Q :=
  Mt_of [(0, .ref (eb E + 115))] (by decide +kernel) (by simp [lg_sl, Value.category, mX12_readsName]) rfl h
/-! numbers -/
theorem nmv_snoc : ∀ (k p a : Nat), nmv B (k + 1) p a = nmv B k p a * 10 + B (p + k) - 48 := by
  intro k
  induction k with
  | zero => intro p a; rfl
  | succ k ih =>
    intro p a
    show nmv B (k + 1) (p + 1) (a * 10 + B p - 48) = nmv B k (p + 1) (a * 10 + B p - 48) * 10 + B (p + (k + 1)) - 48
    rw [ih, show p + 1 + k = p + (k + 1) by omega]
theorem m_number5 (he : e ≤ n) (hpe : p < e) (hD : ∀ j, p ≤ j → j < e → isD (B j)) (hE : ¬ (e < n ∧ dB (B e) = true)) (hM : MP I B n) (hQ : ∀ I2, FrN I I2 → I2 115 8 = nI e → I2 115 9 = nI p → (e - p ≤ 4 → I2 115 10 = nI 100 ∧ I2 115 11 = nI (nmv B (e - p) p 0)) → (4 < e - p → I2 115 10 = nI 101) → Q none I2) : ∀ (m q v : Nat) (I1 : IH), q + m = e → p ≤ q → FrN I I1 → I1 115 8 = nI q → I1 115 9 = nI p → I1 115 11 = nI v → (q - p ≤ 4 → v = nmv B (q - p) p 0) → J E (d + 1) mX12_readsNumber 5 [(0, .ref (eb E + 115))] [] I1 Q := by
  have h2 := hM.2.1
  intro m
  induction m with
  | zero =>
    intro q v I1 hq hpq f1 g8 g9 g11 hv
    have : q = e := by omega
    subst this
    have hM1 := hM.fr f1
    refine S_X12_readsNumber_5 (m_byteAt hM1 g8 (by omega) ⟨_, rfl, m_in1 (by omega) (by omega) ⟨_, rfl, ?_⟩⟩)
    rw [bn_f (p := inr (bAt B n q) 48 57) (fun z => hE (by have := (bAt_inr hM.b (by omega)).mp z; exact ⟨this.1, by simp [dB]; exact this.2⟩))]
    rw [g8, g9, nI_subB (by omega), nI_leI (by omega) (by omega)]
    refine ⟨fun _ => ⟨fun z I5 e5 => ?_, fun z I7 e7 => ?_⟩, fun z => absurd rfl z⟩
    · exact hQ I5 (f1.tr (by rw [e5]; exact FrN.st (by omega))) (by rw [e5, st_nj (by omega)]; exact g8) (by rw [e5, st_nj (by omega)]; exact g9) (fun _ => ⟨by rw [e5, st_at], by rw [e5, st_nj (by omega), g11, hv z]⟩) (fun y => by omega)
    · exact hQ I7 (f1.tr (by rw [e7]; exact FrN.st (by omega))) (by rw [e7, st_nj (by omega)]; exact g8) (by rw [e7, st_nj (by omega)]; exact g9) (fun y => absurd y z) (fun _ => by rw [e7, st_at])
  | succ m ih =>
    intro q v I1 hq hpq f1 g8 g9 g11 hv
    have hM1 := hM.fr f1
    have hd := hD q hpq (by omega)
    refine S_X12_readsNumber_5 (m_byteAt hM1 g8 (by omega) ⟨_, rfl, m_in1 (by omega) (by omega) ⟨_, rfl, ?_⟩⟩)
    rw [bn_t (p := inr (bAt B n q) 48 57) ((bAt_inr hM.b (by omega)).mpr ⟨by omega, hd⟩)]
    rw [g8, g9, nI_subB (by omega), nI_leI (by omega) (by omega), nI_leI (by omega) (by omega)]
    refine ⟨fun z => absurd z one_ne, fun _ => ⟨fun z I9 e9 I11 e11 => ?_, fun z => m_byteAt hM1 rfl (by omega) ⟨_, rfl, fun I15 e15 I17 e17 => ?_⟩⟩⟩
    · have k8 : I9 115 8 = nI q := by rw [e9, st_nj (by omega)]; exact g8
      rw [k8, nI_add] at e11
      have f9 : FrN I1 I9 := by rw [e9]; exact FrN.st (by omega)
      have f11 : FrN I9 I11 := by rw [e11]; exact FrN.st (by omega)
      refine ih (q + 1) v I11 (by omega) (by omega) ((f1.tr f9).tr f11) (by rw [e11, st_at]) ?_ ?_ (fun y => by omega)
      · rw [e11, st_nj (by omega), e9, st_nj (by omega)]; exact g9
      · rw [e11, st_nj (by omega), e9, st_at]; exact g11
    · have k8 : I15 115 8 = nI q := by rw [e15, st_nj (by omega)]; exact g8
      rw [k8, nI_add] at e17
      have eb : bAt B n q = nI (B q) := by unfold bAt; rw [if_pos (by omega)]
      have f15 : FrN I1 I15 := by rw [e15]; exact FrN.st (by omega)
      have f17 : FrN I15 I17 := by rw [e17]; exact FrN.st (by omega)
      refine ih (q + 1) (v * 10 + B q - 48) I17 (by omega) (by omega) ((f1.tr f15).tr f17) (by rw [e17, st_at]) ?_ ?_ (fun y => ?_)
      · rw [e17, st_nj (by omega), e15, st_nj (by omega)]; exact g9
      · rw [e17, st_nj (by omega), e15, st_at, g11, eb, nI_mul, nI_add, nI_subB (by omega), Nat.mul_comm 10 v]
      · rw [show q + 1 - p = (q - p) + 1 by omega, nmv_snoc, ← hv (by omega), show p + (q - p) = q by omega]
/-! a token -/
def TZ (t : Nat) (z : Int) : Prop := (t ≤ 9 ∧ z = t) ∨ (t = 10 ∧ z = 12) ∨ (t = 11 ∧ z = 11) ∨ (t = 12 ∧ z = 10) ∨ (995 ≤ t ∧ t ≤ 999 ∧ z = t - 982) ∨ (1000 ≤ t ∧ t ≤ 10999 ∧ z = 100) ∨ (isSg t ∧ z = 200 + t) ∨ (t = 300 ∧ (z = 101 ∨ (200 ≤ z ∧ z ≤ 455 ∧ z ≠ 240 ∧ z ≠ 241 ∧ z ≠ 259 ∧ z ≠ 260 ∧ z ≠ 261 ∧ z ≠ 262))) ∨ (t = 301 ∧ z = -1)
def TokR (t : Nat) (I : IH) : Prop := ∃ z : Int, I 115 10 = zI z ∧ TZ t z ∧ (1000 ≤ t → I 115 11 = nI (t - 1000))
noncomputable def tokE (B : Nat → Nat) (n p : Nat) : Nat := if p < n then tok B n p else 301
def tenE (B : Nat → Nat) (n p : Nat) : Nat := if p < n then ten B n p else n
theorem wsr_hit (hpe : p ≤ e) {u : Nat} (hu : u < 18) (hw : wordAt B p e u) : ∀ F k, F + k = 18 → k ≤ u → wsr B p e F k = if u < 13 then u else 982 + u := by
  intro F
  induction F with
  | zero => intro k h1 h2; omega
  | succ F ih =>
    intro k h1 h2
    unfold wsr
    by_cases z : wordAt B p e k
    · have := word_uni (by omega) hu hpe z hw
      rw [if_pos (dc_t z), this]
    · rw [if_neg (by rw [dc_i]; exact z)]
      refine ih (k + 1) (by omega) ?_
      rcases Nat.lt_or_ge k u with y | y
      · exact y
      · have : k = u := by omega
        rw [this] at z; exact absurd hw z
theorem wsr_none (h : ∀ u, u < 18 → ¬ wordAt B p e u) : ∀ F k, F + k = 18 → wsr B p e F k = 300 := by
  intro F
  induction F with
  | zero => intro k _; rfl
  | succ F ih =>
    intro k h1
    unfold wsr
    rw [if_neg (by rw [dc_i]; exact h k (by omega))]
    exact ih (k + 1) (by omega)
theorem m_next0 (hM : MP I B n) (hQ : ∀ s I2, s = skp B n p → FrN I I2 → I2 115 9 = nI s → I2 115 8 = nI (tenE B n s) → TokR (tokE B n s) I2 → Q none I2) : ∀ (m q : Nat) (I1 : IH), q + m = n → skp B n q = skp B n p → FrN I I1 → I1 115 8 = nI q → J E (d + 3) mX12_next 0 [(0, .ref (eb E + 115))] [] I1 Q := by
  have h2 := hM.2.1
  intro m
  induction m with
  | zero =>
    intro q I1 hq hs f1 g8
    have : q = n := by omega
    subst this
    have hM1 := hM.fr f1
    have eb1 : bAt B q q = (-1) := by unfold bAt; rw [if_neg (by omega)]
    have es : skp B q q = q := by unfold skp; exact runB_0 (by omega)
    refine S_X12_next_0 (m_byteAt hM1 g8 (by omega) ⟨_, rfl, ?_⟩)
    rw [eb1]
    refine ⟨fun _ I3 e3 => ?_, fun z => absurd z (by decide +kernel)⟩
    have k8 : I3 115 8 = nI q := by rw [e3, st_nj (by omega)]; exact g8
    have f3 : FrN I1 I3 := by rw [e3]; exact FrN.st (by omega)
    refine m_byteAt (hM1.fr f3) k8 (by omega) ⟨_, rfl, ?_⟩
    rw [eb1]
    refine ⟨fun z => absurd z (by decide +kernel), fun _ I17 e17 => hQ q I17 (by rw [← hs, es]) ((f1.tr f3).tr (by rw [e17]; exact FrN.st (by omega))) ?_ ?_ ?_⟩
    · rw [e17, st_nj (by omega), e3, st_at, g8]
    · rw [e17, st_nj (by omega), k8]; unfold tenE; rw [if_neg (by omega)]
    · have et : tokE B q q = 301 := by unfold tokE; rw [if_neg (by omega)]
      rw [et]
      exact ⟨-1, by rw [e17, st_at]; decide +kernel, Or.inr (Or.inr (Or.inr (Or.inr (Or.inr (Or.inr (Or.inr (Or.inr ⟨rfl, rfl⟩))))))), fun z => by omega⟩
  | succ m ih =>
    intro q I1 hq hs f1 g8
    have hM1 := hM.fr f1
    have hqn : q < n := by omega
    have hb := hM.b hqn
    have eb1 : bAt B n q = nI (B q) := by unfold bAt; rw [if_pos hqn]
    refine S_X12_next_0 (m_byteAt hM1 g8 (by omega) ⟨_, rfl, ?_⟩)
    rw [eb1, nI_eq (by omega) (by omega)]
    refine ⟨fun z I3 e3 => ?_, fun z I19 e19 => ?_⟩
    · have es : skp B n q = q := by unfold skp; exact runB_0 (fun y => z (by have := y.2; simp [sB] at this; exact this))
      have k8 : I3 115 8 = nI q := by rw [e3, st_nj (by omega)]; exact g8
      have k9 : I3 115 9 = nI q := by rw [e3, st_at]; exact g8
      have f3 : FrN I I3 := f1.tr (by rw [e3]; exact FrN.st (by omega))
      have hM3 := hM.fr f3
      have hsq : q = skp B n p := by rw [← hs, es]
      have g1 : q < ten B n q := ten_gt
      have g2 : ten B n q ≤ n := ten_le hqn
      have et : tenE B n q = ten B n q := by unfold tenE; rw [if_pos hqn]
      have ek : tokE B n q = tok B n q := by unfold tokE; rw [if_pos hqn]
      refine m_byteAt hM3 k8 (by omega) ⟨_, rfl, ?_⟩
      rw [eb1]
      refine ⟨fun _ => m_in1 (by omega) (by omega) ⟨_, rfl, ?_⟩, fun y => absurd (nI_pos' (by omega)) y⟩
      rw [bn_c (inr_i (by omega))]
      by_cases hl : 97 ≤ B q ∧ B q ≤ 122
      · -- a name
        have lq : lB (B q) = true := by simp [lB]; exact hl
        have ee : ten B n q = runB lB B n (n - (q + 1)) (q + 1) := by unfold ten; rw [if_pos lq]
        have hL : ∀ j, q ≤ j → j < ten B n q → isL (B j) := by
          intro j a b
          by_cases y : j = q
          · rw [y]; exact hl
          · have : lB (B j) = true := runB_all (n := n) (n - (q + 1)) (q + 1) j (by omega) (by omega)
            simp [lB] at this; exact this
        have hE : ¬ (ten B n q < n ∧ lB (B (ten B n q)) = true) := by
          rw [ee]; exact runB_end _ _ (Nat.le_refl _)
        rw [bn_t hl]
        refine ⟨fun y => absurd y one_ne, fun _ => ?_⟩
        by_cases hit : ∃ u, u < 18 ∧ wordAt B q (ten B n q) u
        · obtain ⟨u, hu, hw⟩ := hit
          have ew : tok B n q = if u < 13 then u else 982 + u := by
            unfold tok; rw [if_pos lq]; exact wsr_hit (by omega) hu hw 18 0 (by omega) (by omega)
          refine J_name_0 (d := d + 1) (m_name0 (fin := nI (sgm u)) g2 g1 hL hE (Or.inl ⟨sgm u, by omega, sgm_lt hu, by rw [sgm_sgm]; exact hw, rfl⟩) hM3 k9 (fun I5 f5 y8 y9 y10 => ⟨rfl, hQ q I5 hsq (f3.tr f5) y9 (by rw [et]; exact y8) ?_⟩) (ten B n q - q) q I3 (by omega) (by omega) (FrN.rf _) k8 k9)
          rw [ek, ew]
          refine ⟨(sgm u : Nat), by rw [y10, nI_z], ?_, fun y => ?_⟩
          · unfold sgm TZ
            by_cases c1 : u < 13
            · rw [if_pos c1]
              by_cases c2 : u = 10
              · rw [if_pos c2]; omega
              · rw [if_neg c2]
                by_cases c3 : u = 12
                · rw [if_pos c3]; omega
                · rw [if_neg c3]; omega
            · rw [if_neg c1, if_neg (by omega), if_neg (by omega)]; omega
          · split at y <;> omega
        · have ew : tok B n q = 300 := by
            unfold tok; rw [if_pos lq]; exact wsr_none (fun u a b => hit ⟨u, a, b⟩) 18 0 (by omega)
          refine J_name_0 (d := d + 1) (m_name0 (fin := nI 101) g2 g1 hL hE (Or.inr ⟨fun u _ a b => hit ⟨sgm u, sgm_lt a, b⟩, rfl⟩) hM3 k9 (fun I5 f5 y8 y9 y10 => ⟨rfl, hQ q I5 hsq (f3.tr f5) y9 (by rw [et]; exact y8) ?_⟩) (ten B n q - q) q I3 (by omega) (by omega) (FrN.rf _) k8 k9)
          rw [ek, ew]
          exact ⟨(101 : Nat), by rw [y10, nI_z], by unfold TZ; omega, fun y => by omega⟩
      · have lq : ¬ lB (B q) = true := by simp [lB]; omega
        rw [bn_f hl]
        refine ⟨fun _ => m_in1 (by omega) (by omega) ⟨_, rfl, ?_⟩, fun y => absurd rfl y⟩
        rw [bn_c (inr_i (by omega))]
        by_cases hd : 48 ≤ B q ∧ B q ≤ 57
        · have dq : dB (B q) = true := by simp [dB]; exact hd
          have ee : ten B n q = runB dB B n (n - (q + 1)) (q + 1) := by unfold ten; rw [if_neg lq, if_pos dq]
          have hD : ∀ j, q ≤ j → j < ten B n q → isD (B j) := by
            intro j a b
            by_cases y : j = q
            · rw [y]; exact hd
            · have : dB (B j) = true := runB_all (n := n) (n - (q + 1)) (q + 1) j (by omega) (by omega)
              simp [dB] at this; exact this
          have hE : ¬ (ten B n q < n ∧ dB (B (ten B n q)) = true) := by
            rw [ee]; exact runB_end _ _ (Nat.le_refl _)
          rw [bn_t hd]
          refine ⟨fun y => absurd y one_ne, fun _ => S_X12_readsNumber (fun I4 e4 => ?_)⟩
          have f4 : FrN I3 I4 := by rw [e4]; exact FrN.st (by omega)
          refine m_number5 (d := d + 1) (I := I3) g2 g1 hD hE hM3 (fun I5 f5 y8 y9 y10 y11 => ⟨rfl, hQ q I5 hsq (f3.tr f5) y9 (by rw [et]; exact y8) ?_⟩) (ten B n q - q) q 0 I4 (by omega) (by omega) f4 (by rw [e4, st_nj (by omega)]; exact k8) (by rw [e4, st_nj (by omega)]; exact k9) (by rw [e4, st_at]) (fun _ => by rw [Nat.sub_self]; rfl)
          rw [ek]
          by_cases h4 : ten B n q - q ≤ 4
          · have ew : tok B n q = 1000 + nmv B (ten B n q - q) q 0 := by unfold tok; rw [if_neg lq, if_pos dq, if_pos h4]
            have := tok_le (B := B) hqn
            rw [ew] at this ⊢
            refine ⟨(100 : Nat), by rw [(y10 h4).1, nI_z], by unfold TZ; omega, fun _ => by rw [(y10 h4).2, Nat.add_sub_cancel_left]⟩
          · have ew : tok B n q = 300 := by unfold tok; rw [if_neg lq, if_pos dq, if_neg h4]
            rw [ew]
            exact ⟨(101 : Nat), by rw [y11 (by omega), nI_z], by unfold TZ; omega, fun y => by omega⟩
        · have dq : ¬ dB (B q) = true := by simp [dB]; omega
          have ee : ten B n q = q + 1 := by unfold ten; rw [if_neg lq, if_neg dq]
          rw [bn_f hd]
          refine ⟨fun _ I11 e11 I13 e13 => ?_, fun y => absurd rfl y⟩
          rw [nI_add] at e11
          have m8 : I11 115 8 = nI q := by rw [e11, st_nj (by omega)]; exact k8
          rw [m8, nI_add] at e13
          have f11 : FrN I3 I11 := by rw [e11]; exact FrN.st (by omega)
          have f13 : FrN I11 I13 := by rw [e13]; exact FrN.st (by omega)
          refine hQ q I13 hsq ((f3.tr f11).tr f13) (by rw [e13, st_nj (by omega), e11, st_nj (by omega)]; exact k9) (by rw [e13, st_at, et, ee]) ?_
          rw [ek]
          have t10 : I13 115 10 = nI (200 + B q) := by rw [e13, st_nj (by omega), e11, st_at]
          by_cases sg : isSg (B q)
          · have ew : tok B n q = B q := by unfold tok; rw [if_neg lq, if_neg dq, if_pos sg]
            rw [ew]
            refine ⟨(200 + B q : Nat), by rw [t10, nI_z], ?_, fun y => by omega⟩
            unfold TZ
            exact Or.inr (Or.inr (Or.inr (Or.inr (Or.inr (Or.inr (Or.inl ⟨sg, by omega⟩))))))
          · have ew : tok B n q = 300 := by unfold tok; rw [if_neg lq, if_neg dq, if_neg sg]
            rw [ew]
            exact ⟨(200 + B q : Nat), by rw [t10, nI_z], by unfold TZ; omega, fun y => by omega⟩
    · rw [g8, nI_add] at e19
      refine ih (q + 1) I19 (by omega) ?_ (f1.tr (by rw [e19]; exact FrN.st (by omega))) (by rw [e19, st_at])
      rw [← hs]; unfold skp; exact (runB_s hqn (by simp [sB]; exact z)).symm
end L6
