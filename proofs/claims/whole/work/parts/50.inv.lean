section P0
variable {E : EE} {d : Nat} {I : IH} {Q : QT} {T : Nat → Nat} {k e g r : Nat}
/-! truths of methods -/
theorem bk {p A B : Prop} (h1 : p → B) (h0 : ¬ p → A) : (nI (bn p) = 0 → A) ∧ (¬ nI (bn p) = 0 → B) := by
  by_cases hp : p
  · rw [bn_t hp]; exact ⟨fun q => absurd q (by decide +kernel), fun _ => h1 hp⟩
  · rw [bn_f hp]; exact ⟨fun _ => h0 hp, fun q => absurd rfl q⟩
theorem bk2 {p A B : Prop} (h1 : p → B) (h0 : ¬ p → A) : (¬ nI (bn p) = 0 → B) ∧ (nI (bn p) = 0 → A) := ⟨(bk h1 h0).2, (bk h1 h0).1⟩
theorem bz (p : Prop) : nI (bn p) = 0 ∨ nI (bn p) = 1 := by
  by_cases hp : p
  · rw [bn_t hp]; exact Or.inr (by decide +kernel)
  · rw [bn_f hp]; exact Or.inl rfl
/-- an int between two numbers -/
def inr (x : Int32) (b c : Nat) : Prop := (b : Int) ≤ x.toInt ∧ x.toInt ≤ c
theorem x_z (x : Int32) : x = zI x.toInt := by unfold zI; simp
theorem x_b (x : Int32) : -2147483648 ≤ x.toInt ∧ x.toInt < 2147483648 := by
  have h1 := Int32.le_toInt x
  have h2 := Int32.toInt_lt x
  simp at h1 h2
  exact ⟨h1, h2⟩
theorem x_n {x : Int32} (h : 0 ≤ x.toInt) : x = nI x.toInt.toNat := by
  conv => lhs; rw [x_z x]
  rw [nI_z]; congr 1; omega
theorem inr_n {x : Int32} {b c : Nat} (h : inr x b c) : ∃ v : Nat, x = nI v ∧ b ≤ v ∧ v ≤ c := ⟨x.toInt.toNat, x_n (by have := h.1; omega), by have := h.1; omega, by have := h.2; omega⟩
theorem inr_i {v b c : Nat} (hv : v < 2147483648) : inr (nI v) b c ↔ b ≤ v ∧ v ≤ c := by
  unfold inr
  rw [nI_toInt (by omega)]
  omega
theorem lt_x {x : Int32} {n : Nat} (hn : n < 2147483648) : (x < nI n ↔ x.toInt < n) := by
  rw [Int32.lt_iff_toInt_lt, nI_toInt (by omega)]
theorem x_lt {x : Int32} {n : Nat} (hn : n < 2147483648) : (nI n < x ↔ (n : Int) < x.toInt) := by
  rw [Int32.lt_iff_toInt_lt, nI_toInt (by omega)]
theorem le_x {x : Int32} {n : Nat} (hn : n < 2147483648) : (x ≤ nI n ↔ x.toInt ≤ n) := by
  rw [Int32.le_iff_toInt_le, nI_toInt (by omega)]
theorem x_le {x : Int32} {n : Nat} (hn : n < 2147483648) : (nI n ≤ x ↔ (n : Int) ≤ x.toInt) := by
  rw [Int32.le_iff_toInt_le, nI_toInt (by omega)]
theorem x_eq {x : Int32} {n : Nat} (hn : n < 2147483648) : (x = nI n ↔ x.toInt = n) := by
  rw [← Int32.toInt_inj, nI_toInt (by omega)]
theorem x_lt0 {x : Int32} : (x < 0 ↔ x.toInt < 0) := by rw [Int32.lt_iff_toInt_lt, Int32.toInt_zero]
theorem x_eq0 {x : Int32} : (x = 0 ↔ x.toInt = 0) := by rw [← Int32.toInt_inj, Int32.toInt_zero]
theorem x_ge0 {x : Int32} : (0 ≤ x ↔ 0 ≤ x.toInt) := by rw [Int32.le_iff_toInt_le, Int32.toInt_zero]
theorem m_in1 {x : Int32} {b c : Nat} (hb : b < 2147483648) (hc : c < 2147483648) (hQ : Q (some (.int (nI (bn (inr x b c))))) I) : Mt E d mX12_in1 [.int x, .int (nI b), .int (nI c)] I Q := by
  refine c_in1x x b c hb hc ?_
  have e : (if (b : Int) ≤ x.toInt ∧ x.toInt ≤ c then 1 else 0) = bn (inr x b c) := by
    by_cases h : inr x b c
    · rw [bn_t h]; exact if_pos h
    · rw [bn_f h]; exact if_neg h
  rw [e]; exact hQ
theorem m_isScene {x : Int32} (hQ : Q (some (.int (nI (bn (inr x 0 255))))) I) : Mt E (d + 1) mX12_isScene [.int x] I Q := S_X12_isScene _ (m_in1 (by omega) (by omega) ⟨_, rfl, bz _, hQ⟩)
theorem m_isWard {x : Int32} (hQ : Q (some (.int (nI (bn (inr x 0 5))))) I) : Mt E (d + 1) mX12_isWard [.int x] I Q := S_X12_isWard _ (m_in1 (by omega) (by omega) ⟨_, rfl, bz _, hQ⟩)
theorem m_isDigit {x : Int32} (hQ : Q (some (.int (nI (bn (inr x 0 9))))) I) : Mt E (d + 1) mX12_isDigit [.int x] I Q := S_X12_isDigit _ (m_in1 (by omega) (by omega) ⟨_, rfl, bz _, hQ⟩)
/-- a pane there is -/
def isP (T : Nat → Nat) (x : Int32) : Prop := 0 ≤ x.toInt ∧ x.toInt < T 6
theorem isP_n {x : Int32} (h : isP T x) : ∃ k : Nat, x = nI k ∧ k < T 6 := ⟨x.toInt.toNat, x_n h.1, by have := h.2; have := h.1; omega⟩
theorem m_isPane {x : Int32} (h : RM I T) (h6 : T 6 ≤ 6) (hQ : Q (some (.int (nI (bn (isP T x))))) I) : Mt E (d + 1) mX12_isPane [.ref (eb E + 115), .int x] I Q := by
  refine c_isPane h h6 x ?_
  have e : (if 0 ≤ x.toInt ∧ x.toInt < T 6 then 1 else 0) = bn (isP T x) := by
    by_cases h : isP T x
    · rw [bn_t h]; exact if_pos h
    · rw [bn_f h]; exact if_neg h
  rw [e]; exact hQ
theorem d_isPane {x : Int32} (h : I 33 7 = nI (T 6)) (h6 : T 6 ≤ 6) (hQ : Q (some (.int (nI (bn (isP T x))))) I) : Mt E d mX11_isPane [.ref (eb E + 0), .int x] I Q := by
  refine S_X11_isPane _ ?_
  rw [h, x_lt0, x_le (by omega)]
  refine ⟨fun q => ?_, fun q => ⟨fun z => ?_, fun z => ?_⟩⟩
  · rw [bn_f (fun w => by have := w.1; omega)] at hQ; exact hQ
  · rw [bn_f (fun w => by have := w.2; omega)] at hQ; exact hQ
  · rw [bn_t ⟨by omega, by omega⟩] at hQ; exact hQ
theorem d_isPaneKind {x : Int32} (hQ : Q (some (.int (nI (bn (inr x 1 5))))) I) : Mt E d mX11_isPaneKind [.int x] I Q := by
  refine S_X11_isPaneKind _ ?_
  rw [lt_x (by omega), x_lt (by omega)]
  refine ⟨fun q => ?_, fun q => ⟨fun z => ?_, fun z => ?_⟩⟩
  · rw [bn_f (fun w => by have := w.1; omega)] at hQ; exact hQ
  · rw [bn_f (fun w => by have := w.2; omega)] at hQ; exact hQ
  · rw [bn_t ⟨by omega, by omega⟩] at hQ; exact hQ
theorem d_isWard {x : Int32} (hQ : Q (some (.int (nI (bn (inr x 0 5))))) I) : Mt E d mX11_isWard [.int x] I Q := by
  refine S_X11_isWard _ ?_
  rw [x_lt0, x_le (by omega)]
  refine ⟨fun q => ?_, fun q => ⟨fun z => ?_, fun z => ?_⟩⟩
  · rw [bn_f (fun w => by have := w.1; omega)] at hQ; exact hQ
  · rw [bn_f (fun w => by have := w.2; omega)] at hQ; exact hQ
  · rw [bn_t ⟨by omega, by omega⟩] at hQ; exact hQ
theorem d_isWithin {x : Int32} {c : Nat} (hc : c < 2147483648) (hQ : Q (some (.int (nI (bn (inr x 0 c))))) I) : Mt E d mX11_isWithin [.int x, .int (nI c)] I Q := by
  refine S_X11_isWithin _ _ ?_
  rw [x_lt0, x_lt hc]
  refine ⟨fun q => ?_, fun q => ⟨fun z => ?_, fun z => ?_⟩⟩
  · rw [bn_f (fun w => by have := w.1; omega)] at hQ; exact hQ
  · rw [bn_f (fun w => by have := w.2; omega)] at hQ; exact hQ
  · rw [bn_t ⟨by omega, by omega⟩] at hQ; exact hQ
/-- an element becomes v -/
theorem d_put {x v : Int32} {o n c : Nat} (hs : shape[o]? = some (.inr (0, n, []))) (hn : n < 1000) (hc : c < 2147483648) (h1 : ¬ ((0 ≤ x.toInt ∧ x.toInt < n) ∧ inr v 0 c) → Q (some (.int (-1))) I) (h2 : ∀ j : Nat, x = nI j → j < n → inr v 0 c → Q (some (.int (I o j))) (stI I o j v)) : Mt E (d + 1) mX11_put [.ref (eb E + o), .int x, .int v, .int (nI c)] I Q := by
  refine S_X11_put hs (by omega) _ _ _ ?_
  rw [x_lt0, x_le (by omega)]
  refine ⟨fun q => h1 (fun w => by have := w.1.1; omega), fun q => ⟨fun z => h1 (fun w => by have := w.1.2; omega), fun z => d_isWithin hc ⟨_, rfl, bk2 (fun p => ?_) (fun p => h1 (fun w => p w.2))⟩⟩⟩
  refine ⟨x.toInt.toNat, x_n (by omega), by omega, x.toInt.toNat, x_n (by omega), by omega, fun I6 e6 => ?_⟩
  rw [e6]
  exact h2 _ (x_n (by omega)) (by omega) p
/-! the whole: class and reference -/
def WfQ (T : Nat → Nat) : Prop := T 8 ≤ 6 ∧ ∀ i, i < T 8 → T (74 + 4 * i) ≤ 15 ∧ T (75 + 4 * i) ≤ 1 ∧ T (76 + 4 * i) ≤ T (77 + 4 * i) ∧ T (77 + 4 * i) ≤ 15
def Wf (T : Nat → Nat) : Prop := WfE T ∧ WfR T ∧ WfQ T ∧ T 0 ≤ T 1 ∧ 1 ≤ T 1
def KeptR (I : IH) : Prop := (I 0 3 = nI 0 ∧ I 115 3 = nI 0) ∨ (I 0 3 = nI 1 ∧ I 115 3 = nI 1 ∧ ∃ K : Nat → Nat, (∀ j, j < 322 → j ≠ 2 → j ≠ 5 → I 117 j = nI (K j)) ∧ Wf K ∧ EvR I 42 49 K ∧ RuR I 43 K ∧ I 42 6 = I 117 2 ∧ I 42 9 = I 117 5)
def TapeR (I : IH) : Prop := ∃ n : Nat, n ≤ 200 ∧ I 1 0 = nI n ∧ I 115 6 = nI n ∧ ∀ i, i < n → ∃ b : Nat, b < 256 ∧ I 120 i = nI b ∧ I 2 i = (nI b).toInt8.toInt32
def RowsR (I : IH) : Prop := ∃ n : Nat, n ≤ 4 ∧ I 0 9 = nI n ∧ I 115 28 = nI n ∧ ∀ i, i < 3 * n → I 13 i = I 128 i
/-- the letters of the reference's names, eight places each -/
def ltL : List Nat := [112, 97, 110, 101, 32, 32, 32, 32, 110, 97, 118, 118, 121, 32, 32, 32, 115, 101, 119, 101, 114, 32, 32, 32, 119, 105, 100, 111, 119, 32, 32, 32, 108, 97, 100, 32, 32, 32, 32, 32, 100, 111, 103, 32, 32, 32, 32, 32, 108, 111, 111, 107, 32, 32, 32, 32, 112, 97, 115, 115, 32, 32, 32, 32, 114, 97, 103, 32, 32, 32, 32, 32, 105, 102, 32, 32, 32, 32, 32, 32, 110, 111, 116, 32, 32, 32, 32, 32, 97, 110, 100, 32, 32, 32, 32, 32, 111, 114, 32, 32, 32, 32, 32, 32, 109, 105, 110, 117, 116, 101, 32, 32, 108, 105, 103, 104, 116, 115, 32, 32, 108, 111, 111, 107, 101, 100, 32, 32, 102, 111, 103, 32, 32, 32, 32, 32, 110, 117, 109, 98, 101, 114, 32, 32]
/-- the sheets, and the reference's letters, which nothing changes -/
def SheetR (I : IH) : Prop := (∀ s, s < 4 → I 129 s = I 14 s ∧ I 130 s = I 15 s ∧ ((I 14 s = (-1) ∧ I 15 s = nI 0) ∨ ∃ so sz : Nat, so ≤ 4 ∧ sz ≤ 40 ∧ I 14 s = nI so ∧ I 15 s = nI sz)) ∧ (∀ i, i < 160 → I 131 i = I 16 i) ∧ ∀ j, j < 144 → I 121 j = nI (ltL.getD j 0)
def ShelfR (I : IH) : Prop := ∀ s, s < 4 → (I 17 s = nI 0 ∧ I 132 s = (-1)) ∨ (I 17 s = nI 1 ∧ I 132 s = nI 0 ∧ ∃ n : Nat, n < 6 ∧ I 18 s = nI n ∧ I 133 s = nI n) ∨ (I 17 s = nI 2 ∧ ∃ so sz : Nat, so ≤ 4 ∧ sz ≤ 40 ∧ I 18 s = nI so ∧ I 19 s = nI sz ∧ I 132 s = nI (10 + so) ∧ I 133 s = nI sz)
def TraceR (I : IH) : Prop := ∃ n : Nat, n ≤ 30 ∧ I 11 1 = nI n ∧ I 115 35 = nI n ∧ ∀ i, i < n → I 12 i = I 134 i
def Oth (I : IH) : Prop := KeptR I ∧ TapeR I ∧ RowsR I ∧ SheetR I ∧ ShelfR I ∧ TraceR I
/-- the cells that none but their own methods change -/
def othC : List Nat := [0, 1, 2, 11, 12, 13, 14, 15, 16, 17, 18, 19, 42, 43, 44, 45, 46, 47, 49, 50, 51, 52, 53, 54, 55, 56, 115, 117, 120, 121, 128, 129, 130, 131, 132, 133, 134]
theorem isEv_kept : isEv 42 49 43 := by unfold isEv evL; decide
theorem isEv_ev : isEv 33 34 27 := by unfold isEv evL; decide
theorem isEv_tr : isEv 57 58 27 := by unfold isEv evL; decide
theorem Oth.eqs {I2 : IH} (h : Oth I) (hs : ∀ a ∈ othC, I2 a = I a) : Oth I2 := by
  have q : ∀ a, a ∈ othC → I2 a = I a := hs
  obtain ⟨h1, h2, h3, h4, h5, h6⟩ := h
  refine ⟨?_, ?_, ?_, ?_, ?_, ?_⟩
  · unfold KeptR at h1 ⊢
    rw [q 0 (by decide), q 115 (by decide), q 117 (by decide), q 42 (by decide)]
    rcases h1 with h1 | ⟨a, b, K, c, dd, ee, f, gg⟩
    · exact Or.inl h1
    · refine Or.inr ⟨a, b, K, c, dd, ?_, ?_, gg⟩
      · unfold EvR at ee ⊢
        rw [q 42 (by decide), q 49 (by decide), q (49 + 1) (by decide), q (49 + 2) (by decide), q (49 + 3) (by decide), q (49 + 4) (by decide), q (49 + 5) (by decide), q (49 + 6) (by decide), q (49 + 7) (by decide)]
        exact ee
      · unfold RuR at f ⊢
        rw [q 43 (by decide), q (43 + 1) (by decide), q (43 + 2) (by decide), q (43 + 3) (by decide), q (43 + 4) (by decide)]
        exact f
  · unfold TapeR at h2 ⊢
    rw [q 1 (by decide), q 115 (by decide), q 120 (by decide), q 2 (by decide)]; exact h2
  · unfold RowsR at h3 ⊢
    rw [q 0 (by decide), q 115 (by decide), q 13 (by decide), q 128 (by decide)]; exact h3
  · unfold SheetR at h4 ⊢
    rw [q 14 (by decide), q 15 (by decide), q 16 (by decide), q 129 (by decide), q 130 (by decide), q 131 (by decide), q 121 (by decide)]; exact h4
  · unfold ShelfR at h5 ⊢
    rw [q 17 (by decide), q 18 (by decide), q 19 (by decide), q 132 (by decide), q 133 (by decide)]; exact h5
  · unfold TraceR at h6 ⊢
    rw [q 11 (by decide), q 115 (by decide), q 12 (by decide), q 134 (by decide)]; exact h6
/-- the class's part of the evening -/
def XE (I : IH) (T : Nat → Nat) : Prop := EvR I 33 34 T ∧ RuR I 27 T
/-- class and reference hold the same -/
def InvT (I : IH) (T : Nat → Nat) : Prop := RM I T ∧ Wf T ∧ XE I T ∧ I 33 6 = I 116 2 ∧ I 33 9 = I 116 5 ∧ Oth I
def Inv (I : IH) : Prop := ∃ T, InvT I T
/-- the two answer alike, and hold the same behind it -/
def Pair (E : EE) (d : Nat) (Mx Mm : MD) (ax am : List Value) (I : IH) : Prop := ∃ (v : Int32) (P : IH → Prop), (∀ Q : QT, (∀ I1, P I1 → Q (some (.int v)) I1) → Mt E d Mx (.ref (eb E + 0) :: ax) I Q) ∧ ∀ I1, P I1 → ∀ Q : QT, (∀ I2, Inv I2 → Q (some (.int v)) I2) → Mt E d Mm (.ref (eb E + 115) :: am) I1 Q
/-- nothing changes -/
theorem Pair.pure {Mx Mm : MD} {ax am : List Value} (hI : Inv I) (v : Int32) (hx : ∀ Q : QT, Q (some (.int v)) I → Mt E d Mx (.ref (eb E + 0) :: ax) I Q) (hm : ∀ Q : QT, Q (some (.int v)) I → Mt E d Mm (.ref (eb E + 115) :: am) I Q) : Pair E d Mx Mm ax am I :=
  ⟨v, fun I1 => I1 = I, fun Q hQ => hx Q (hQ I rfl), fun I1 e Q hQ => by subst e; exact hm Q (hQ _ hI)⟩
/-- behind a change of the evening on both sides -/
theorem InvT.step {I1 I2 : IH} {T2 : Nat → Nat} (h : InvT I T) (hs1 : Same [32, 33, 34, 35, 36, 37, 38, 39, 40, 41] I I1) (hx : EvR I1 33 34 T2) (hs2 : Same [116, 119] I1 I2) (hm : RM I2 T2) (hw : Wf T2) (h7 : T2 7 = T 7) (ha : ∀ j, 98 ≤ j → T2 j = T j) (hsc : I1 33 6 = I2 116 2) (hz : I1 33 9 = I2 116 5) : InvT I2 T2 := by
  obtain ⟨a1, a2, a3, a4, a5, a6⟩ := h
  have e33 : I2 33 = I1 33 := hs2 33 (by decide)
  refine ⟨hm, hw, ⟨?_, ?_⟩, by rw [e33]; exact hsc, by rw [e33]; exact hz, ?_⟩
  · exact hx.same hs2 (by decide) (fun i hi => by simp; omega)
  · have r1 : RuR I1 27 T := a3.2.same hs1 (fun i hi => by simp; omega)
    have r2 : RuR I2 27 T := r1.same hs2 (fun i hi => by simp; omega)
    obtain ⟨h1, en, h2, h3⟩ := r2
    have sp : ∀ (ops : List Op3) (i z : Nat), spM T i z ops → spM T2 i z ops := by
      intro ops
      induction ops with
      | nil => intro i z h; exact h
      | cons q ops ih =>
        intro i z h
        unfold spM at h ⊢
        rw [ha _ (by omega), ha _ (by omega), ha _ (by omega)]
        split
        · rename_i hq; rw [if_pos hq] at h
          exact ⟨h.1, h.2.1, h.2.2.1, h.2.2.2.1, h.2.2.2.2.1, ih _ _ h.2.2.2.2.2⟩
        · rename_i hq; rw [if_neg hq] at h
          exact ⟨h.1, h.2.1, ih _ _ h.2.2⟩
    refine ⟨by rw [h7]; exact h1, en, h2, fun i hi => ?_⟩
    rw [h7] at hi
    obtain ⟨b1, b2, b3, b4, oC, oM, c1, c2, c3⟩ := h3 i hi
    refine ⟨by rw [ha _ (by omega)]; exact b1, by rw [ha _ (by omega)]; exact b2, b3, b4, oC, oM, c1, ?_, c3⟩
    have e1 : rfr T2 i = rfr T i := by
      unfold rfr; split
      · rfl
      · rw [ha _ (by omega)]
    have e2 : rto T2 i = rto T i := by unfold rto; rw [ha _ (by omega)]
    rw [e1, e2]
    exact sp _ _ _ c2
  · refine a6.eqs (fun a h => ?_)
    rw [hs2 a (by revert a; decide), hs1 a (by revert a; decide)]
end P0
