section P12
variable {E : EE} {d : Nat} {I : IH} {Q : QT} {T : Nat → Nat} {L : List Nat} {q n w z b k : Nat} {x x1 x2 x3 y : Int32}
/-! the reference's trace -/
def StM (I : IH) (L : List Nat) (z n q w : Nat) : Prop := I 115 35 = nI L.length ∧ I 115 36 = nI n ∧ I 115 37 = nI z ∧ I 116 (38 + 6 * n + 0) = nI q ∧ I 116 (38 + 6 * n + 3) = nI w ∧ ∀ i b, L[i]? = some b → I 134 i = nI b
def Fr2 (I I2 : IH) : Prop := Same [115, 134] I I2 ∧ ∀ j, j ≠ 35 → j ≠ 37 → I2 115 j = I 115 j
theorem Fr2.tr {I2 I3 : IH} (h : Fr2 I I2) (h2 : Fr2 I2 I3) : Fr2 I I3 := ⟨h.1.tr h2.1, fun j a c => (h2.2 j a c).trans (h.2 j a c)⟩
theorem m_starts (h : StM I L z n q w) (hl : L.length < 30) (hQ : ∀ I2, StM I2 (L ++ [b]) z n q w → Fr2 I I2 → Q none I2) : Mt E d mX12_starts [.ref (eb E + 115), .int (nI b)] I Q := by
  obtain ⟨h1, h2, h3, h4, h5, h6⟩ := h
  refine S_X12_starts _ ?_
  rw [h1, nI_leI (by omega) (by omega)]
  refine ⟨fun q => by omega, fun _ => ⟨L.length, rfl, hl, fun I1 e1 I6 e6 => ?_⟩⟩
  have e11 : I1 115 = I 115 := by rw [e1, st_ne (by omega)]
  have e16 : I6 116 = I 116 := by rw [e6, st_ne (by omega), e1, st_ne (by omega)]
  refine hQ I6 ⟨?_, ?_, ?_, by rw [e16]; exact h4, by rw [e16]; exact h5, fun i c hc => ?_⟩ ⟨fun a ha => ?_, fun j hj _ => ?_⟩
  · rw [e6, st_at, e11, h1, nI_add, List.length_append]; rfl
  · rw [e6, st_nj (by omega), e11, h2]
  · rw [e6, st_nj (by omega), e11, h3]
  · rw [e6, st_ne (by omega), e1]
    by_cases hi : i < L.length
    · rw [st_nj (by omega)]
      rw [List.getElem?_append_left hi] at hc
      exact h6 i c hc
    · rw [List.getElem?_append_right (by omega)] at hc
      have : i - L.length = 0 := by
        rcases Nat.eq_zero_or_pos (i - L.length) with z | z
        · exact z
        · rw [List.getElem?_eq_none (by simp; omega)] at hc; cases hc
      rw [this] at hc
      cases hc
      rw [show i = L.length by omega, st_at]
  · have : a ≠ 115 ∧ a ≠ 134 := by simp at ha; omega
    rw [e6, st_ne this.1, e1, st_ne this.2]
  · rw [e6, st_nj hj, e11]
theorem m_kind (h : StM I L z n q w) (hn : n < 6) (hQ : Q (some (.int (nI q))) I) : Mt E d mX12_get [.ref (eb E + 115), .int (I 115 36), .int (nI 0)] I Q := c_get n 0 h.2.1 rfl (by omega) (by rw [h.2.2.2.1]; exact hQ)
theorem m_ward (h : StM I L z n q w) (hn : n < 6) (hQ : Q (some (.int (nI w))) I) : Mt E d mX12_get [.ref (eb E + 115), .int (I 115 36), .int (nI 3)] I Q := c_get n 3 h.2.1 rfl (by omega) (by rw [h.2.2.2.2.1]; exact hQ)
theorem ne_k {a b : Nat} (ha : a < 10) (hb : b < 10) (h : a ≠ b) : ¬ nI a = nI b := by rw [nI_eq (by omega) (by omega)]; exact h
theorem m_glows0 (hk : k = 0 ∨ k = 2 ∨ k = 4 ∨ k = 5) (h : StM I L 0 n q w) (hl : L.length < 30) (hQ : ∀ I2, StM I2 (L ++ [10]) 0 n q w → Fr2 I I2 → Q (some (.int (x + nI 3 * nI n))) I2) : Mt E (d + 1) mX12_glowsAs [.ref (eb E + 115), .int (nI k), .int x] I Q := by
  refine S_X12_glowsAs _ _ ⟨fun _ => ⟨fun _ => m_starts h hl (fun I2 s f => ⟨rfl, ?_⟩), fun c => absurd c (ne_k (by omega) (by omega) (by omega))⟩, fun c => absurd c (ne_k (by omega) (by omega) (by omega))⟩
  rw [s.2.1]; exact hQ I2 s f
theorem m_glows (hk : k ≤ 5) (hn : n < 6) (h : StM I L 0 n q w) (hl : L.length ≤ 28) (hQ : ∀ I2, StM I2 (L ++ glB k) 0 n q w → Fr2 I I2 → Q (some (.int (glV k n w x))) I2) : Mt E (d + 2) mX12_glowsAs [.ref (eb E + 115), .int (nI k), .int x] I Q := by
  by_cases h1 : k = 1
  · subst h1
    refine S_X12_glowsAs _ _ ⟨fun c => absurd rfl c, fun _ => m_starts h (by omega) (fun I2 s f => ⟨rfl, m_glows0 (by omega) s (by simp; omega) (fun I3 s3 f3 => ⟨_, rfl, ?_⟩)⟩)⟩
    exact hQ I3 (by simpa [glB] using s3) (f.tr f3)
  · by_cases h3 : k = 3
    · subst h3
      refine S_X12_glowsAs _ _ ⟨fun _ => ⟨fun c => absurd rfl c, fun _ => m_starts h (by omega) (fun I2 s f => ⟨rfl, m_glows0 (by omega) s (by simp; omega) (fun I3 s3 f3 => ⟨_, rfl, m_ward s3 hn ⟨_, rfl, ?_⟩⟩)⟩)⟩, fun c => absurd c (ne_k (by omega) (by omega) (by omega))⟩
      exact hQ I3 (by simpa [glB] using s3) (f.tr f3)
    · refine m_glows0 (d := d + 1) (by omega) h (by omega) (fun I3 s3 f3 => ?_)
      have e : glB k = [10] := by unfold glB; rw [if_neg h1, if_neg h3]
      have e2 : glV k n w x = x + nI 3 * nI n := by unfold glV; rw [if_neg h1, if_neg h3]
      rw [e, e2] at hQ
      exact hQ I3 s3 f3
theorem m_smokes0 (hk : k = 0 ∨ k = 1 ∨ k = 4) (hq : 1 ≤ q ∧ q ≤ 5) (hn : n < 6) (h : StM I L 0 n q w) (hl : L.length ≤ 27) (hQ : ∀ I2, StM I2 (L ++ (11 :: glB q)) 0 n q w → Fr2 I I2 → Q (some (.int (glV q n w x ^^^ (nI 2 * nI w)))) I2) : Mt E (d + 3) mX12_smokesAs [.ref (eb E + 115), .int (nI k), .int x] I Q := by
  refine S_X12_smokesAs _ _ ⟨fun c => absurd c (ne_k (by omega) (by omega) (by omega)), fun _ => ⟨fun _ => ⟨fun _ => m_starts h (by omega) (fun I2 s f => ⟨rfl, m_kind s hn ⟨_, rfl, m_glows hq.2 hn s (by simp; omega) (fun I3 s3 f3 => ⟨_, rfl, m_ward s3 hn ⟨_, rfl, ?_⟩⟩)⟩⟩), fun c => absurd c (ne_k (by omega) (by omega) (by omega))⟩, fun c => absurd c (ne_k (by omega) (by omega) (by omega))⟩⟩
  exact hQ I3 (by simpa using s3) (f.tr f3)
theorem m_smokes (hq : 1 ≤ q ∧ q ≤ 5) (hn : n < 6) (h : StM I L 0 n q w) (hl : L.length ≤ 26) (hQ : ∀ I2, StM I2 (L ++ smB q) 0 n q w → Fr2 I I2 → Q (some (.int (smV q n w x))) I2) : Mt E (d + 4) mX12_smokesAs [.ref (eb E + 115), .int (nI q), .int x] I Q := by
  by_cases h23 : q = 2 ∨ q = 3
  · have j10 : J E (d + 4) mX12_smokesAs 10 [(0, .ref (eb E + 115)), (2, .int x)] [] I Q := by
      refine S_X12_smokesAs_10 _ (m_starts h (by omega) (fun I2 s f => ⟨rfl, ?_⟩))
      rw [s.2.1]
      refine m_smokes0 (by omega) hq hn s (by simp; omega) (fun I3 s3 f3 => ⟨_, rfl, ?_⟩)
      have e : smB q = 30 :: 11 :: glB q := by unfold smB; rw [if_pos h23]
      have e2 : smV q n w x = glV q n w (x - nI n) ^^^ (nI 2 * nI w) := by unfold smV; rw [if_pos h23]
      rw [e, e2] at hQ
      exact hQ I3 (by simpa using s3) (f.tr f3)
    exact S_X12_smokesAs _ _ ⟨fun _ => j10, fun c2 => ⟨fun c3 => by rcases h23 with rfl | rfl; exact absurd rfl c2; exact absurd rfl c3, fun _ => j10⟩⟩
  · by_cases h5 : q = 5
    · subst h5
      refine S_X12_smokesAs _ _ ⟨fun c => absurd c (ne_k (by omega) (by omega) (by omega)), fun _ => ⟨fun _ => ⟨fun c => absurd rfl c, fun _ => m_starts h (by omega) (fun I2 s f => ⟨rfl, m_smokes0 (by omega) hq hn s (by simp; omega) (fun I3 s3 f3 => ⟨_, rfl, ?_⟩)⟩)⟩, fun c => absurd c (ne_k (by omega) (by omega) (by omega))⟩⟩
      exact hQ I3 (by simpa [smB] using s3) (f.tr f3)
    · refine m_smokes0 (d := d + 1) (by omega) hq hn h (by omega) (fun I3 s3 f3 => ?_)
      have e : smB q = 11 :: glB q := by unfold smB; rw [if_neg h23, if_neg h5]
      have e2 : smV q n w x = glV q n w x ^^^ (nI 2 * nI w) := by unfold smV; rw [if_neg h23, if_neg h5]
      rw [e, e2] at hQ
      exact hQ I3 s3 f3
theorem m_waves0 (hk : k ≤ 3) (hn : n < 6) (h : StM I L 0 n q w) (hl : L.length ≤ 28) (hQ : ∀ (v : Int32) (I2 : IH), (¬ ptd n w → v = mdV n w x) → StM I2 (L ++ [12]) (zP n w) n q w → Fr2 I I2 → Q (some (.int v)) I2) : Mt E (d + 1) mX12_wavesAs [.ref (eb E + 115), .int (nI k), .int x] I Q := by
  refine S_X12_wavesAs _ _ ⟨fun _ => ⟨fun _ => m_starts h (by omega) (fun I2 s f => ⟨rfl, m_ward s hn ⟨_, rfl, ?_⟩⟩), fun c => absurd c (ne_k (by omega) (by omega) (by omega))⟩, fun c => absurd c (ne_k (by omega) (by omega) (by omega))⟩
  have set : ∀ (v : Nat) (I4 : IH), I4 = stI I2 115 37 (nI v) → StM I4 (L ++ [12]) v n q w ∧ Fr2 I I4 := by
    intro v I4 e4
    obtain ⟨s1, s2, s3, s4, s5, s6⟩ := s
    have e16 : I4 116 = I2 116 := by rw [e4, st_ne (by omega)]
    refine ⟨⟨by rw [e4, st_nj (by omega)]; exact s1, by rw [e4, st_nj (by omega)]; exact s2, by rw [e4, st_at], by rw [e16]; exact s4, by rw [e16]; exact s5, fun i c hc => by rw [e4, st_ne (by omega)]; exact s6 i c hc⟩, f.tr ⟨by rw [e4]; exact Same.st (by simp), fun j _ hj => by rw [e4, st_nj hj]⟩⟩
  rw [s.2.1, s.2.2.1]
  refine ⟨fun c => absurd rfl c, fun _ => ⟨fun p I7 e7 => ?_, fun p I10 e10 => ?_⟩⟩
  · obtain ⟨s7, f7⟩ := set 0 I7 e7
    rw [s7.2.2.1]
    exact ⟨fun _ => ⟨p, hQ _ I7 (fun _ => rfl) (by rw [zP_f p]; exact s7) f7⟩, fun c => absurd rfl c⟩
  · obtain ⟨s7, f7⟩ := set 1 I10 e10
    rw [s7.2.2.1]
    exact ⟨fun c => absurd c one_ne, fun _ => hQ _ I10 (fun c => absurd p c) (by rw [zP_t p]; exact s7) f7⟩
theorem m_waves4 (hn : n < 6) (h : StM I L 0 n q w) (hl : L.length ≤ 26) (hQ : ∀ (v : Int32) (I2 : IH), (¬ ptd n w → v = mdV n w x * nI 3) → StM I2 (L ++ [40, 12]) (zP n w) n q w → Fr2 I I2 → Q (some (.int v)) I2) : Mt E (d + 2) mX12_wavesAs [.ref (eb E + 115), .int (nI 4), .int x] I Q := by
  refine S_X12_wavesAs _ _ ⟨fun _ => ⟨fun c => absurd rfl c, fun _ => m_starts h (by omega) (fun I2 s f => ⟨rfl, m_waves0 (by omega) hn s (by simp; omega) (fun v I3 hv s3 f3 => ⟨_, rfl, hQ _ I3 (fun c => by rw [hv c]) (by simpa using s3) (f.tr f3)⟩)⟩)⟩, fun c => absurd c (ne_k (by omega) (by omega) (by omega))⟩
theorem m_waves (hq : 1 ≤ q ∧ q ≤ 5) (hn : n < 6) (h : StM I L 0 n q w) (hl : L.length ≤ 24) (hQ : ∀ (v : Int32) (I2 : IH), (¬ ptd n w → v = waV q n w x) → StM I2 (L ++ waB q n w) (zP n w) n q w → Fr2 I I2 → Q (some (.int v)) I2) : Mt E (d + 3) mX12_wavesAs [.ref (eb E + 115), .int (nI q), .int x] I Q := by
  by_cases h4 : q = 4
  · subst h4
    exact m_waves4 (d := d + 1) hn h (by omega) (fun v I3 hv s3 f3 => hQ v I3 hv (by simpa [waB] using s3) f3)
  · by_cases h5 : q = 5
    · subst h5
      refine S_X12_wavesAs _ _ ⟨fun c => absurd rfl c, fun _ => m_starts h (by omega) (fun I2 s f => ⟨rfl, m_waves4 hn s (by simp; omega) (fun v I3 hv s3 f3 => ⟨_, rfl, ?_⟩)⟩)⟩
      rw [s3.2.1, s3.2.2.1]
      by_cases p : ptd n w
      · rw [zP_t p] at s3 ⊢
        refine ⟨fun c => absurd c one_ne, fun _ => hQ _ I3 (fun c => absurd p c) ?_ (f.tr f3)⟩
        rw [zP_t p]
        have e : waB 5 n w = [61, 40, 12] := by unfold waB; rw [if_neg (by omega), if_pos rfl, if_pos (dc_t p)]
        rw [e]; simpa using s3
      · rw [zP_f p] at s3 ⊢
        refine ⟨fun _ => m_glows0 (d := d + 1) (by omega) s3 (by simp; omega) (fun I4 s4 f4 => ⟨_, rfl, hQ _ I4 (fun c => ?_) ?_ ((f.tr f3).tr f4)⟩), fun c => absurd rfl c⟩
        · rw [hv c]; rfl
        · rw [zP_f p]
          have e : waB 5 n w = [61, 40, 12, 10] := by unfold waB; rw [if_neg (by omega), if_pos rfl, if_neg (by rw [dc_f p]; decide)]
          rw [e]; simpa using s4
    · refine m_waves0 (d := d + 2) (by omega) hn h (by omega) (fun v I3 hv s3 f3 => ?_)
      have e : waB q n w = [12] := by unfold waB; rw [if_neg h4, if_neg h5]
      have e2 : waV q n w x = mdV n w x := by unfold waV; rw [if_neg h4, if_neg h5]
      rw [e, e2] at hQ
      exact hQ v I3 hv s3 f3
theorem m_begs0 (hk : k ≤ 5 ∧ k ≠ 3) (hq : 1 ≤ q ∧ q ≤ 5) (hn : n < 6) (h : StM I L 0 n q w) (hl : L.length ≤ 16) (hQ : ∀ (v : Int32) (I2 : IH), (¬ ptd n w → v = smV q n w x - waV q n w x) → StM I2 (L ++ (13 :: (smB q ++ waB q n w))) (zP n w) n q w → Fr2 I I2 → Q (some (.int v)) I2) : Mt E (d + 5) mX12_begsAs [.ref (eb E + 115), .int (nI k), .int x] I Q := by
  have hs := smB_l q
  refine S_X12_begsAs _ _ ⟨fun _ => m_starts h (by omega) (fun I2 s f => ⟨rfl, m_kind s hn ⟨_, rfl, m_smokes hq hn s (by simp; omega) (fun I3 s3 f3 => ⟨_, rfl, m_kind s3 hn ⟨_, rfl, m_waves (d := d + 1) hq hn s3 (by simp; omega) (fun v I4 hv s4 f4 => ⟨_, rfl, ?_⟩)⟩⟩)⟩⟩), fun c => absurd c (ne_k (by omega) (by omega) (by omega))⟩
  exact hQ _ I4 (fun c => by rw [hv c]) (by simpa using s4) ((f.tr f3).tr f4)
theorem m_begs (hq : 1 ≤ q ∧ q ≤ 5) (hn : n < 6) (h : StM I L 0 n q w) (hl : L.length ≤ 8) (hQ : ∀ (v : Int32) (I2 : IH), (¬ ptd n w → v = beV q n w x) → StM I2 (L ++ beB q n w) (zP n w) n q w → Fr2 I I2 → Q (some (.int v)) I2) : Mt E (d + 6) mX12_begsAs [.ref (eb E + 115), .int (nI q), .int x] I Q := by
  have hs := smB_l 3
  have hw := waB_l 3 n w
  by_cases h3 : q = 3
  · subst h3
    refine S_X12_begsAs _ _ ⟨fun c => absurd rfl c, fun _ => m_starts h (by omega) (fun I2 s f => ⟨rfl, m_begs0 (by omega) hq hn s (by simp; omega) (fun v I3 hv s3 f3 => ⟨_, rfl, ?_⟩)⟩)⟩
    rw [s3.2.2.1]
    by_cases p : ptd n w
    · rw [zP_t p] at s3 ⊢
      refine ⟨fun c => absurd c one_ne, fun _ => hQ _ I3 (fun c => absurd p c) ?_ (f.tr f3)⟩
      rw [zP_t p]
      have e : beB 3 n w = 51 :: 13 :: (smB 3 ++ (waB 3 n w ++ [])) := by unfold beB; rw [if_pos rfl, if_pos (dc_t p)]
      rw [e]; simpa using s3
    · rw [zP_f p] at s3 ⊢
      refine ⟨fun _ => m_smokes (d := d + 1) hq hn s3 (by simp; omega) (fun I4 s4 f4 => ⟨_, rfl, hQ _ I4 (fun c => ?_) ?_ ((f.tr f3).tr f4)⟩), fun c => absurd rfl c⟩
      · rw [hv c]; rfl
      · rw [zP_f p]
        have e : beB 3 n w = 51 :: 13 :: (smB 3 ++ (waB 3 n w ++ smB 3)) := by unfold beB; rw [if_pos rfl, if_neg (by rw [dc_f p]; decide)]
        rw [e]; simpa using s4
  · refine m_begs0 (d := d + 1) (by omega) hq hn h (by omega) (fun v I3 hv s3 f3 => ?_)
    have e : beB q n w = 13 :: (smB q ++ waB q n w) := by unfold beB; rw [if_neg h3]
    have e2 : beV q n w x = smV q n w x - waV q n w x := by unfold beV; rw [if_neg h3]
    rw [e, e2] at hQ
    exact hQ v I3 hv s3 f3
/-! act -/
theorem act_inv {I1 I2 : IH} (hI : Inv I) (hl : L.length ≤ 30) (f1 : Fr1 I I1) (t1 : I1 11 1 = nI L.length) (t2 : ∀ i b, L[i]? = some b → I1 12 i = nI b) (f2 : Same [115, 134] I1 I2) (f3 : ∀ j, j ≠ 35 → j ≠ 36 → j ≠ 37 → I2 115 j = I1 115 j) (t3 : I2 115 35 = nI L.length) (t4 : ∀ i b, L[i]? = some b → I2 134 i = nI b) : Inv I2 := by
  obtain ⟨T, h⟩ := hI
  obtain ⟨o1, o2, o3, o4, o5, o6⟩ := h.2.2.2.2.2
  have q : ∀ a, a ≠ 11 ∧ a ≠ 12 ∧ a ≠ 115 ∧ a ≠ 134 → I2 a = I a := fun a ha => by rw [f2 a (by simp; omega), f1 a (by simp; omega)]
  have q115 : ∀ j, j ≠ 35 → j ≠ 36 → j ≠ 37 → I2 115 j = I 115 j := fun j a b c => by rw [f3 j a b c, f1 115 (by decide)]
  have e11 : I2 11 = I1 11 := f2 11 (by decide)
  have e12 : I2 12 = I1 12 := f2 12 (by decide)
  refine ⟨T, h.oth (fun a ha => ?_) ⟨o1.eqs (by rw [q 0 (by omega)]) (q115 _ (by omega) (by omega) (by omega)) (fun a ha => q a (by omega)), o2.eqs (by rw [q 1 (by omega)]) (q115 _ (by omega) (by omega) (by omega)) (q _ (by omega)) (q _ (by omega)), o3.eqs (by rw [q 0 (by omega)]) (q115 _ (by omega) (by omega) (by omega)) (q _ (by omega)) (q _ (by omega)), o4.eqs (fun a ha => q a (by omega)), o5.eqs (fun a ha => q a (by omega)), ⟨L.length, hl, by rw [e11]; exact t1, t3, fun i hi => ?_⟩⟩⟩
  · rcases ha with rfl | ha
    · exact q _ (by omega)
    · exact q a (by revert a; decide)
  · have hi2 : L[i]? = some L[i] := List.getElem?_eq_getElem hi
    rw [e12, t2 i _ hi2, t4 i _ hi2]
theorem held_c {s : Nat} (h : InvT I T) (hs : s < 4) : (hasP I T s → hvl I T s = 0 ∧ I 133 s = I 18 s) ∧ (¬ hasP I T s → ¬ hvl I T s = 0) := by
  obtain ⟨o1, o2, o3, o4, o5, o6⟩ := h.2.2.2.2.2
  rcases o5 s hs with ⟨c1, c2⟩ | ⟨c1, c2, m, c3, c4, c5⟩ | ⟨c1, so, sz, c2, c3, c4, c5, c6, c7⟩
  · refine ⟨fun p => ?_, fun _ => ?_⟩
    · have := p.1; rw [c1] at this; exact absurd this (by decide +kernel)
    · unfold hvl
      split
      · decide +kernel
      · rw [c2]; decide +kernel
  · refine ⟨fun p => ⟨?_, by rw [c4, c5]⟩, fun p => ?_⟩
    · unfold hvl
      rw [if_neg (by rw [dc_i]; intro z; exact z.2 (by rw [c5, ← c4]; exact p.2)), c2]; rfl
    · unfold hvl
      rw [if_pos (by rw [dc_i]; exact ⟨by rw [c2]; rfl, fun z => p ⟨c1, by rw [c4, ← c5]; exact z⟩⟩)]
      decide +kernel
  · refine ⟨fun p => ?_, fun _ => ?_⟩
    · have := p.1; rw [c1] at this; exact absurd this (by decide +kernel)
    · unfold hvl
      split
      · decide +kernel
      · rw [c6, n0, nI_eq (by omega) (by omega)]; omega
end P12
