section P11
variable {E : EE} {d : Nat} {I : IH} {Q : QT} {T : Nat → Nat} {L : List Nat} {q n w z b : Nat} {x x1 x2 x3 : Int32}
/-! what acts do: number n, ward w, kind q -/
def glV (q n w : Nat) (x : Int32) : Int32 := if q = 1 then (x + nI 3 * nI n) ^^^ nI 21 else if q = 3 then (x + nI 3 * nI n) - nI w else x + nI 3 * nI n
def glB (q : Nat) : List Nat := if q = 1 then [20, 10] else if q = 3 then [50, 10] else [10]
def smV (q n w : Nat) (x : Int32) : Int32 := if q = 2 ∨ q = 3 then glV q n w (x - nI n) ^^^ (nI 2 * nI w) else if q = 5 then (glV q n w x ^^^ (nI 2 * nI w)) + nI 9 else glV q n w x ^^^ (nI 2 * nI w)
def smB (q : Nat) : List Nat := if q = 2 ∨ q = 3 then 30 :: 11 :: glB q else if q = 5 then 60 :: 11 :: glB q else 11 :: glB q
def ptd (n w : Nat) : Prop := ((nI n - nI 2 * nI w) + nI 1) = 0
noncomputable def zP (n w : Nat) : Nat := if dc (ptd n w) = true then 1 else 0
def mdV (n w : Nat) (x : Int32) : Int32 := x - x / ((nI n - nI 2 * nI w) + nI 1) * ((nI n - nI 2 * nI w) + nI 1)
noncomputable def waB (q n w : Nat) : List Nat := if q = 4 then [40, 12] else if q = 5 then (if dc (ptd n w) = true then [61, 40, 12] else [61, 40, 12, 10]) else [12]
def waV (q n w : Nat) (x : Int32) : Int32 := if q = 4 then mdV n w x * nI 3 else if q = 5 then mdV n w x * nI 3 - (nI n + nI 3 * nI n) else mdV n w x
noncomputable def beB (q n w : Nat) : List Nat := if q = 3 then 51 :: 13 :: (smB 3 ++ (waB 3 n w ++ (if dc (ptd n w) = true then [] else smB 3))) else 13 :: (smB q ++ waB q n w)
def beV (q n w : Nat) (x : Int32) : Int32 := if q = 3 then (smV 3 n w x - waV 3 n w x) ^^^ smV 3 n w (nI 2) else smV q n w x - waV q n w x
theorem glB_l (q : Nat) : (glB q).length ≤ 2 := by
  unfold glB
  repeat' split
  all_goals simp
theorem smB_l (q : Nat) : (smB q).length ≤ 4 := by
  have := glB_l q
  unfold smB
  repeat' split
  all_goals (simp; omega)
theorem waB_l (q n w : Nat) : (waB q n w).length ≤ 4 := by
  unfold waB
  repeat' split
  all_goals simp
theorem zP_t (h : ptd n w) : zP n w = 1 := by unfold zP; rw [if_pos (dc_t h)]
theorem zP_f (h : ¬ ptd n w) : zP n w = 0 := by unfold zP; rw [if_neg (by rw [dc_f h]; decide)]
/-! the class's stage -/
def StX (I : IH) (L : List Nat) (z n w : Nat) : Prop := I 11 1 = nI L.length ∧ I 11 2 = nI n ∧ I 11 3 = nI w ∧ I 11 4 = nI z ∧ ∀ i b, L[i]? = some b → I 12 i = nI b
abbrev Fr1 (I I2 : IH) : Prop := Same [11, 12] I I2
theorem x_begins (h : StX I L 0 n w) (hl : L.length < 30) (hQ : ∀ I2, StX I2 (L ++ [b]) 0 n w → Fr1 I I2 → Q (some (.int (nI 1))) I2) : Mt E d mX8_begins [.ref (eb E + 11), .int (nI b)] I Q := by
  obtain ⟨h1, h2, h3, h4, h5⟩ := h
  refine S_X8_begins _ ?_
  rw [h4, h1, nI_leI (by omega) (by omega)]
  refine ⟨fun _ => ⟨fun q => by omega, fun _ => ⟨L.length, rfl, hl, fun I1 e1 I6 e6 => ?_⟩⟩, fun q => absurd rfl q⟩
  have e11 : I1 11 = I 11 := by rw [e1, st_ne (by omega)]
  refine hQ I6 ⟨?_, ?_, ?_, ?_, fun i c hc => ?_⟩ (fun a ha => ?_)
  · rw [e6, st_at, e11, h1, nI_add, List.length_append]; rfl
  · rw [e6, st_nj (by omega), e11, h2]
  · rw [e6, st_nj (by omega), e11, h3]
  · rw [e6, st_nj (by omega), e11, h4]
  · rw [e6, st_ne (by omega), e1]
    by_cases hi : i < L.length
    · rw [st_nj (by omega)]
      rw [List.getElem?_append_left hi] at hc
      exact h5 i c hc
    · rw [List.getElem?_append_right (by omega)] at hc
      have : i - L.length = 0 := by
        rcases Nat.eq_zero_or_pos (i - L.length) with z | z
        · exact z
        · rw [List.getElem?_eq_none (by simp; omega)] at hc; cases hc
      rw [this] at hc
      cases hc
      rw [show i = L.length by omega, st_at]
  · have : a ≠ 11 ∧ a ≠ 12 := by simp at ha; omega
    rw [e6, st_ne this.1, e1, st_ne this.2]
theorem x_begins0 (h : StX I L 1 n w) (hQ : Q (some (.int (nI 0))) I) : Mt E d mX8_begins [.ref (eb E + 11), .int (nI b)] I Q := by
  refine S_X8_begins _ ?_
  rw [h.2.2.2.1]
  exact ⟨fun q => absurd q (by decide +kernel), fun _ => hQ⟩
theorem one_ne : ¬ nI 1 = 0 := by decide +kernel
theorem kcase (hq : 1 ≤ q ∧ q ≤ 5) {P : Nat → Prop} (h1 : P 1) (h2 : P 2) (h3 : P 3) (h4 : P 4) (h5 : P 5) : P q := by
  rcases (show q = 1 ∨ q = 2 ∨ q = 3 ∨ q = 4 ∨ q = 5 by omega) with rfl | rfl | rfl | rfl | rfl <;> assumption
theorem x_glows4 (hq : 1 ≤ q ∧ q ≤ 5) (h : StX I L 0 n w) (hl : L.length < 30) (hQ : ∀ I2, StX I2 (L ++ [10]) 0 n w → Fr1 I I2 → Q (some (.int (x + nI 3 * nI n))) I2) : Mt E (d + 1) mX4_glows [.ref (eb E + (21 + q)), .ref (eb E + 11), .int x] I Q := by
  have f : Mt E d mX8_begins [.ref (eb E + 11), .int (nI 10)] I (fun rv I1 => ∃ v2 : Int32, rv = some (.int v2) ∧ ((¬ v2 = 0 → Q (some (.int (x + ((nI 3) * (I1 11 2))))) I1) ∧ (v2 = 0 → Q (some (.int (nI 0))) I1))) := by
    refine x_begins h hl (fun I2 s f => ⟨_, rfl, fun _ => ?_, fun q => absurd q one_ne⟩)
    rw [s.2.1]; exact hQ I2 s f
  exact kcase hq (P := fun q => Mt E (d + 1) mX4_glows [.ref (eb E + (21 + q)), .ref (eb E + 11), .int x] I Q) (S_X4_glows_22 _ f) (S_X4_glows_23 _ f) (S_X4_glows_24 _ f) (S_X4_glows_25 _ f) (S_X4_glows_26 _ f)
theorem x_glows (hq : 1 ≤ q ∧ q ≤ 5) (h : StX I L 0 n w) (hl : L.length ≤ 28) (hQ : ∀ I2, StX I2 (L ++ glB q) 0 n w → Fr1 I I2 → Q (some (.int (glV q n w x))) I2) : Mt E (d + 2) (sel_glows q) [.ref (eb E + (21 + q)), .ref (eb E + 11), .int x] I Q := by
  rcases (show q = 1 ∨ q = 2 ∨ q = 3 ∨ q = 4 ∨ q = 5 by omega) with rfl | rfl | rfl | rfl | rfl
  · refine S_X3_glows _ (x_begins h (by omega) (fun I2 s f => ⟨_, rfl, fun _ => ?_, fun q => absurd q one_ne⟩))
    refine x_glows4 (q := 1) (by omega) s (by simp; omega) (fun I3 s3 f3 => ⟨_, rfl, ?_⟩)
    exact hQ I3 (by simpa [glB] using s3) (f.tr f3)
  · exact x_glows4 (q := 2) (by omega) h (by omega) (fun I3 s3 f3 => hQ I3 (by simpa [glB] using s3) f3)
  · refine S_X10_glows _ (x_begins h (by omega) (fun I2 s f => ⟨_, rfl, fun _ => ?_, fun q => absurd q one_ne⟩))
    refine x_glows4 (q := 3) (by omega) s (by simp; omega) (fun I3 s3 f3 => ⟨_, rfl, ?_⟩)
    rw [s3.2.2.1]
    exact hQ I3 (by simpa [glB] using s3) (f.tr f3)
  · exact x_glows4 (q := 4) (by omega) h (by omega) (fun I3 s3 f3 => hQ I3 (by simpa [glB] using s3) f3)
  · exact x_glows4 (q := 5) (by omega) h (by omega) (fun I3 s3 f3 => hQ I3 (by simpa [glB] using s3) f3)
theorem x_smokes4 (hq : 1 ≤ q ∧ q ≤ 5) (h : StX I L 0 n w) (hl : L.length ≤ 27) (hQ : ∀ I2, StX I2 (L ++ (11 :: glB q)) 0 n w → Fr1 I I2 → Q (some (.int (glV q n w x ^^^ (nI 2 * nI w)))) I2) : Mt E (d + 3) mX4_smokes [.ref (eb E + (21 + q)), .ref (eb E + 11), .int x] I Q := by
  have f : Mt E (d + 2) mX8_begins [.ref (eb E + 11), .int (nI 11)] I (fun rv I1 => ∃ v2 : Int32, rv = some (.int v2) ∧ ((¬ v2 = 0 → (Mt E (d + 2) (sel_glows q) [.ref (eb E + (21 + q)), .ref (eb E + 11), .int x] I1 (fun rv I3 => ∃ v4 : Int32, rv = some (.int v4) ∧ Q (some (.int (v4 ^^^ ((nI 2) * (I3 11 3))))) I3))) ∧ (v2 = 0 → Q (some (.int (nI 0))) I1))) := by
    refine x_begins h (by omega) (fun I2 s f => ⟨_, rfl, fun _ => ?_, fun q => absurd q one_ne⟩)
    refine x_glows hq s (by simp; omega) (fun I3 s3 f3 => ⟨_, rfl, ?_⟩)
    rw [s3.2.2.1]
    exact hQ I3 (by simpa using s3) (f.tr f3)
  rcases (show q = 1 ∨ q = 2 ∨ q = 3 ∨ q = 4 ∨ q = 5 by omega) with rfl | rfl | rfl | rfl | rfl
  · exact S_X4_smokes_22 _ f
  · exact S_X4_smokes_23 _ f
  · exact S_X4_smokes_24 _ f
  · exact S_X4_smokes_25 _ f
  · exact S_X4_smokes_26 _ f
theorem x_smokes (hq : 1 ≤ q ∧ q ≤ 5) (h : StX I L 0 n w) (hl : L.length ≤ 26) (hQ : ∀ I2, StX I2 (L ++ smB q) 0 n w → Fr1 I I2 → Q (some (.int (smV q n w x))) I2) : Mt E (d + 4) (sel_smokes q) [.ref (eb E + (21 + q)), .ref (eb E + 11), .int x] I Q := by
  rcases (show q = 1 ∨ q = 2 ∨ q = 3 ∨ q = 4 ∨ q = 5 by omega) with rfl | rfl | rfl | rfl | rfl
  · exact x_smokes4 (d := d + 1) (q := 1) (by omega) h (by omega) (fun I3 s3 f3 => hQ I3 (by simpa [smB] using s3) f3)
  · refine S_X7_smokes_23 _ (x_begins h (by omega) (fun I2 s f => ⟨_, rfl, fun _ => ?_, fun q => absurd q one_ne⟩))
    rw [s.2.1]
    refine x_smokes4 (q := 2) (by omega) s (by simp; omega) (fun I3 s3 f3 => ⟨_, rfl, ?_⟩)
    exact hQ I3 (by simpa [smB] using s3) (f.tr f3)
  · refine S_X7_smokes_24 _ (x_begins h (by omega) (fun I2 s f => ⟨_, rfl, fun _ => ?_, fun q => absurd q one_ne⟩))
    rw [s.2.1]
    refine x_smokes4 (q := 3) (by omega) s (by simp; omega) (fun I3 s3 f3 => ⟨_, rfl, ?_⟩)
    exact hQ I3 (by simpa [smB] using s3) (f.tr f3)
  · exact x_smokes4 (d := d + 1) (q := 4) (by omega) h (by omega) (fun I3 s3 f3 => hQ I3 (by simpa [smB] using s3) f3)
  · refine S_X0_smokes _ (x_begins h (by omega) (fun I2 s f => ⟨_, rfl, fun _ => ?_, fun q => absurd q one_ne⟩))
    refine x_smokes4 (q := 5) (by omega) s (by simp; omega) (fun I3 s3 f3 => ⟨_, rfl, ?_⟩)
    exact hQ I3 (by simpa [smB] using s3) (f.tr f3)
theorem x_waves4 (hq : 1 ≤ q ∧ q ≤ 5) (h : StX I L 0 n w) (hl : L.length ≤ 28) (hQ : ∀ (v : Int32) (I2 : IH), (¬ ptd n w → v = mdV n w x) → StX I2 (L ++ [12]) (zP n w) n w → Fr1 I I2 → Q (some (.int v)) I2) : Mt E (d + 1) mX4_waves [.ref (eb E + (21 + q)), .ref (eb E + 11), .int x] I Q := by
  have f : (Mt E d mX8_begins [.ref (eb E + 11), .int (nI 12)] I (fun rv I1 => ∃ v2 : Int32, rv = some (.int v2) ∧
 ((¬ v2 = 0 → ((¬ (((I1 11 2) - ((nI 2) * (I1 11 3))) + (nI 1)) = 0 → (¬ (((I1 11 2) - ((nI 2) * (I1 11 3))) + (nI 1)) = 0 ∧ Q (some (.int (x - x / (((I1 11 2) - ((nI 2) * (I1 11 3))) + (nI 1)) * (((I1 11 2) - ((nI 2) * (I1 11 3))) + (nI 1))))) I1)) ∧
 ((((I1 11 2) - ((nI 2) * (I1 11 3))) + (nI 1)) = 0 → (∀ I4 : IH, I4 = stI I1 11 4 (nI 1) →
 Q (some (.int (nI 0))) I4)))) ∧
 (v2 = 0 → Q (some (.int (nI 0))) I1)))) := by
    refine x_begins h (by omega) (fun I2 s f => ⟨_, rfl, fun _ => ?_, fun q => absurd q one_ne⟩)
    rw [s.2.1, s.2.2.1]
    refine ⟨fun p => ⟨p, hQ _ I2 (fun _ => rfl) (by rw [zP_f p]; exact s) f⟩, fun p I4 e4 => hQ _ I4 (fun c => absurd p c) ?_ ?_⟩
    · rw [zP_t p, e4]
      obtain ⟨s1, s2, s3, s4, s5⟩ := s
      exact ⟨by rw [st_nj (by omega)]; exact s1, by rw [st_nj (by omega)]; exact s2, by rw [st_nj (by omega)]; exact s3, st_at, fun i c hc => by rw [st_ne (by omega)]; exact s5 i c hc⟩
    · exact f.tr (by rw [e4]; exact Same.st (by simp))
  exact kcase hq (P := fun q => Mt E (d + 1) mX4_waves [.ref (eb E + (21 + q)), .ref (eb E + 11), .int x] I Q) (S_X4_waves_22 _ f) (S_X4_waves_23 _ f) (S_X4_waves_24 _ f) (S_X4_waves_25 _ f) (S_X4_waves_26 _ f)
theorem x_wavesL (hq : q = 4 ∨ q = 5) (h : StX I L 0 n w) (hl : L.length ≤ 26) (hQ : ∀ (v : Int32) (I2 : IH), (¬ ptd n w → v = mdV n w x * nI 3) → StX I2 (L ++ [40, 12]) (zP n w) n w → Fr1 I I2 → Q (some (.int v)) I2) : Mt E (d + 2) mX2_waves [.ref (eb E + (21 + q)), .ref (eb E + 11), .int x] I Q := by
  have f : (Mt E (d + 1) mX8_begins [.ref (eb E + 11), .int (nI 40)] I (fun rv I1 => ∃ v2 : Int32, rv = some (.int v2) ∧
 ((¬ v2 = 0 → (Mt E (d + 1) mX4_waves [.ref (eb E + (21 + q)), .ref (eb E + 11), .int x] I1 (fun rv I3 => ∃ v4 : Int32, rv = some (.int v4) ∧
 Q (some (.int (v4 * (nI 3)))) I3))) ∧
 (v2 = 0 → Q (some (.int (nI 0))) I1)))) := by
    refine x_begins h (by omega) (fun I2 s f => ⟨_, rfl, fun _ => ?_, fun q => absurd q one_ne⟩)
    refine x_waves4 (by omega) s (by simp; omega) (fun v I3 hv s3 f3 => ⟨_, rfl, hQ _ I3 (fun c => by rw [hv c]) (by simpa using s3) (f.tr f3)⟩)
  rcases hq with rfl | rfl
  · exact S_X2_waves_25 _ f
  · exact S_X2_waves_26 _ f
theorem x_waves (hq : 1 ≤ q ∧ q ≤ 5) (h : StX I L 0 n w) (hl : L.length ≤ 24) (hQ : ∀ (v : Int32) (I2 : IH), (¬ ptd n w → v = waV q n w x) → StX I2 (L ++ waB q n w) (zP n w) n w → Fr1 I I2 → Q (some (.int v)) I2) : Mt E (d + 3) (sel_waves q) [.ref (eb E + (21 + q)), .ref (eb E + 11), .int x] I Q := by
  rcases (show q = 1 ∨ q = 2 ∨ q = 3 ∨ q = 4 ∨ q = 5 by omega) with rfl | rfl | rfl | rfl | rfl
  · exact x_waves4 (d := d + 2) (q := 1) (by omega) h (by omega) (fun v I3 hv s3 f3 => hQ v I3 hv (by simpa [waB] using s3) f3)
  · exact x_waves4 (d := d + 2) (q := 2) (by omega) h (by omega) (fun v I3 hv s3 f3 => hQ v I3 hv (by simpa [waB] using s3) f3)
  · exact x_waves4 (d := d + 2) (q := 3) (by omega) h (by omega) (fun v I3 hv s3 f3 => hQ v I3 hv (by simpa [waB] using s3) f3)
  · exact x_wavesL (d := d + 1) (q := 4) (by omega) h (by omega) (fun v I3 hv s3 f3 => hQ v I3 hv (by simpa [waB] using s3) f3)
  · refine S_X0_waves _ (x_begins h (by omega) (fun I2 s f => ⟨_, rfl, fun _ => ?_, fun q => absurd q one_ne⟩))
    refine x_wavesL (q := 5) (by omega) s (by simp; omega) (fun v I3 hv s3 f3 => ⟨_, rfl, ?_⟩)
    rw [s3.2.1]
    by_cases p : ptd n w
    · rw [zP_t p] at s3
      refine S_X4_glows_26 _ (x_begins0 s3 ⟨_, rfl, fun c => absurd rfl c, fun _ => ⟨_, rfl, hQ _ I3 (fun c => absurd p c) ?_ (f.tr f3)⟩⟩)
      rw [zP_t p]
      have e : waB 5 n w = [61, 40, 12] := by unfold waB; rw [if_neg (by omega), if_pos rfl, if_pos (dc_t p)]
      rw [e]; simpa using s3
    · rw [zP_f p] at s3
      refine x_glows4 (d := d + 1) (q := 5) (by omega) s3 (by simp; omega) (fun I4 s4 f4 => ⟨_, rfl, hQ _ I4 (fun c => ?_) ?_ ((f.tr f3).tr f4)⟩)
      · rw [hv c]; rfl
      · rw [zP_f p]
        have e : waB 5 n w = [61, 40, 12, 10] := by unfold waB; rw [if_neg (by omega), if_pos rfl, if_neg (by rw [dc_f p]; decide)]
        rw [e]; simpa using s4
theorem x_begs4 (hq : 1 ≤ q ∧ q ≤ 5) (h : StX I L 0 n w) (hl : L.length ≤ 16) (hQ : ∀ (v : Int32) (I2 : IH), (¬ ptd n w → v = smV q n w x - waV q n w x) → StX I2 (L ++ (13 :: (smB q ++ waB q n w))) (zP n w) n w → Fr1 I I2 → Q (some (.int v)) I2) : Mt E (d + 5) mX4_begs [.ref (eb E + (21 + q)), .ref (eb E + 11), .int x] I Q := by
  have hs := smB_l q
  have f : (Mt E (d + 4) mX8_begins [.ref (eb E + 11), .int (nI 13)] I (fun rv I1 => ∃ v2 : Int32, rv = some (.int v2) ∧
 ((¬ v2 = 0 → (Mt E (d + 4) (sel_smokes q) [.ref (eb E + (21 + q)), .ref (eb E + 11), .int x] I1 (fun rv I3 => ∃ v4 : Int32, rv = some (.int v4) ∧
 (Mt E (d + 4) (sel_waves q) [.ref (eb E + (21 + q)), .ref (eb E + 11), .int x] I3 (fun rv I5 => ∃ v6 : Int32, rv = some (.int v6) ∧
 Q (some (.int (v4 - v6))) I5))))) ∧
 (v2 = 0 → Q (some (.int (nI 0))) I1)))) := by
    refine x_begins h (by omega) (fun I2 s f => ⟨_, rfl, fun _ => ?_, fun q => absurd q one_ne⟩)
    refine x_smokes hq s (by simp; omega) (fun I3 s3 f3 => ⟨_, rfl, ?_⟩)
    refine x_waves (d := d + 1) hq s3 (by simp; omega) (fun v I4 hv s4 f4 => ⟨_, rfl, hQ _ I4 (fun c => by rw [hv c]) (by simpa using s4) ((f.tr f3).tr f4)⟩)
  rcases (show q = 1 ∨ q = 2 ∨ q = 3 ∨ q = 4 ∨ q = 5 by omega) with rfl | rfl | rfl | rfl | rfl
  · exact S_X4_begs_22 _ f
  · exact S_X4_begs_23 _ f
  · exact S_X4_begs_24 _ f
  · exact S_X4_begs_25 _ f
  · exact S_X4_begs_26 _ f
theorem x_begs (hq : 1 ≤ q ∧ q ≤ 5) (h : StX I L 0 n w) (hl : L.length ≤ 8) (hQ : ∀ (v : Int32) (I2 : IH), (¬ ptd n w → v = beV q n w x) → StX I2 (L ++ beB q n w) (zP n w) n w → Fr1 I I2 → Q (some (.int v)) I2) : Mt E (d + 6) (sel_begs q) [.ref (eb E + (21 + q)), .ref (eb E + 11), .int x] I Q := by
  have hs := smB_l 3
  have hw := waB_l 3 n w
  rcases (show q = 1 ∨ q = 2 ∨ q = 3 ∨ q = 4 ∨ q = 5 by omega) with rfl | rfl | rfl | rfl | rfl
  · exact x_begs4 (d := d + 1) (q := 1) (by omega) h (by omega) (fun v I3 hv s3 f3 => hQ v I3 hv (by simpa [beB] using s3) f3)
  · exact x_begs4 (d := d + 1) (q := 2) (by omega) h (by omega) (fun v I3 hv s3 f3 => hQ v I3 hv (by simpa [beB] using s3) f3)
  · refine S_X10_begs _ (x_begins h (by omega) (fun I2 s f => ⟨_, rfl, fun _ => ?_, fun q => absurd q one_ne⟩))
    refine x_begs4 (q := 3) (by omega) s (by simp; omega) (fun v I3 hv s3 f3 => ⟨_, rfl, ?_⟩)
    by_cases p : ptd n w
    · rw [zP_t p] at s3
      refine S_X7_smokes_24 _ (x_begins0 s3 ⟨_, rfl, fun c => absurd rfl c, fun _ => ⟨_, rfl, hQ _ I3 (fun c => absurd p c) ?_ (f.tr f3)⟩⟩)
      rw [zP_t p]
      have e : beB 3 n w = 51 :: 13 :: (smB 3 ++ (waB 3 n w ++ [])) := by unfold beB; rw [if_pos rfl, if_pos (dc_t p)]
      rw [e]; simpa using s3
    · rw [zP_f p] at s3
      refine x_smokes (d := d + 1) (q := 3) (by omega) s3 (by simp; omega) (fun I4 s4 f4 => ⟨_, rfl, hQ _ I4 (fun c => ?_) ?_ ((f.tr f3).tr f4)⟩)
      · rw [hv c]; rfl
      · rw [zP_f p]
        have e : beB 3 n w = 51 :: 13 :: (smB 3 ++ (waB 3 n w ++ smB 3)) := by unfold beB; rw [if_pos rfl, if_neg (by rw [dc_f p]; decide)]
        rw [e]; simpa using s4
  · exact x_begs4 (d := d + 1) (q := 4) (by omega) h (by omega) (fun v I3 hv s3 f3 => hQ v I3 hv (by simpa [beB] using s3) f3)
  · exact x_begs4 (d := d + 1) (q := 5) (by omega) h (by omega) (fun v I3 hv s3 f3 => hQ v I3 hv (by simpa [beB] using s3) f3)
end P11
