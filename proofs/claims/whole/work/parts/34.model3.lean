section M3
variable {E : EE} {d : Nat} {I : IH} {Q : QT} {T : Nat → Nat} {k : Nat}
def abv (a : Nat) : Nat := if a = 3 then 2 else if a = 5 then 4 else 0
theorem under_abv : ∀ a, a < 6 → ∀ b, b < 6 → a ≠ b → a ≠ 0 → (under a b ↔ under (abv a) b) ∧ abv a < a := by
  intro a ha b hb h1 h2
  refine ⟨?_, ?_⟩
  · unfold under abv
    repeat' split
    all_goals omega
  · unfold abv
    repeat' split
    all_goals omega
theorem c_above {x : Int32} (a : Nat) (hx : x = nI a) (ha : a < 6) (hQ : Q (some (.int (nI (abv a)))) I) : Mt E d mX12_above [.int x] I Q := by
  subst hx
  have ke : ∀ c : Nat, c < 100 → (nI a = nI c ↔ a = c) := fun c hc => nI_eq (by omega) (by omega)
  refine S_X12_above _ ?_
  rw [ke _ (by omega), ke _ (by omega)]
  refine ⟨fun q => ⟨fun z => ?_, fun z => ?_⟩, fun q => ?_⟩
  · simpa [abv, q, z] using hQ
  · simpa [abv, z] using hQ
  · simpa [abv, q] using hQ
theorem c_isUnder_loop (b : Nat) (hb : b < 6) : ∀ (n a : Nat), a < n → a < 6 → Q (some (.int (nI (bn (under a b))))) I → J E (d + 1) mX12_isUnder 2 [(1, .int (nI b)), (2, .int (nI a))] [] I Q := by
  intro n
  induction n with
  | zero => intro a h; omega
  | succ n ih =>
    intro a hn ha hQ
    have ke : ∀ c : Nat, c < 100 → (nI a = nI c ↔ a = c) := fun c hc => nI_eq (by omega) (by omega)
    refine S_X12_isUnder_2 _ _ ?_
    rw [ke b (by omega), n0, ke 0 (by omega)]
    refine ⟨fun q => ⟨fun z => absurd q z, fun z => ?_⟩, fun q => ⟨fun z => ⟨fun w => ?_, fun w => absurd w q⟩, fun z => ?_⟩⟩
    · rw [bn_t (p := under a b) (Or.inl q)] at hQ; exact hQ
    · rw [bn_f (by unfold under; omega)] at hQ; exact hQ
    · obtain ⟨h1, h2⟩ := under_abv a ha b hb q z
      refine c_above a rfl ha ⟨_, rfl, ih _ (by omega) (by omega) ?_⟩
      rw [bn_c h1] at hQ; exact hQ
theorem c_isUnder {x y : Int32} (a b : Nat) (hx : x = nI a) (hy : y = nI b) (ha : a < 6) (hb : b < 6) (hQ : Q (some (.int (nI (bn (under a b))))) I) : Mt E (d + 1) mX12_isUnder [.int x, .int y] I Q := by
  subst hx; subst hy
  exact S_X12_isUnder _ _ (c_isUnder_loop b hb (a + 1) a (by omega) ha hQ)
/-! a condition: the pile -/
def tyr : List Nat → List Bool → Prop
  | [], [] => True
  | v :: st, b :: ts => (v < 10000 ∧ (b = true → v ≤ 1)) ∧ tyr st ts
  | _, _ => False
theorem tyr_len : ∀ {st : List Nat} {ts : List Bool}, tyr st ts → st.length = ts.length
  | [], [], _ => rfl
  | _ :: st, _ :: ts, h => by simp [tyr_len (st := st) (ts := ts) h.2]
  | [], _ :: _, h => h.elim
  | _ :: _, [], h => h.elim
/-- the pile holds st, its top at the place st.length - 1 -/
def RP (I : IH) (st : List Nat) : Prop := ∀ i, i < st.length → I 119 i = nI (st.reverse.getD i 0)
theorem RP.push {st : List Nat} (v : Nat) (h : RP I st) : RP (stI I 119 st.length (nI v)) (v :: st) := by
  intro i hi
  simp only [List.length_cons] at hi
  by_cases e : i = st.length
  · subst e
    rw [st_at]
    simp [List.getD, List.getElem?_append_right]
  · rw [st_nj e, h i (by omega)]
    congr 1
    simp only [List.getD, List.reverse_cons]
    rw [List.getElem?_append_left (by simp; omega)]
theorem RP.top {v : Nat} {st : List Nat} (h : RP I (v :: st)) : I 119 st.length = nI v := by
  rw [h st.length (by simp)]
  congr 1
  simp [List.getD, List.getElem?_append_right]
theorem RP.tail {v : Nat} {st : List Nat} (h : RP I (v :: st)) : RP I st := by
  intro i hi
  rw [h i (by simp; omega)]
  congr 1
  simp only [List.getD, List.reverse_cons]
  rw [List.getElem?_append_left (by simp; omega)]
theorem RP.bot {st : List Nat} (h : RP I st) (hs : st ≠ []) : I 119 0 = nI (st.getLast hs) := by
  rw [h 0 (List.length_pos_iff.mpr hs)]
  congr 1
  rw [List.getD, ← List.head?_eq_getElem?, List.head?_reverse, List.getLast?_eq_some_getLast hs]
  rfl
theorem kn_lt (hW : WfE T) (hk : k < T 6) (w : Nat) : kn T k w < 10000 := by
  obtain ⟨k6, p1, p2, p3, p4, p5, p6⟩ := hW.p hk
  have hl := lt8_le T k
  have h0 : T 0 ≤ 16 := hW.2.1
  have h3 : T 3 ≤ 9 := hW.2.2.2.1
  unfold kn
  repeat' split
  all_goals omega
theorem jn_le (sg a b : Nat) : jn sg a b ≤ 1 := by
  unfold jn
  repeat' split
  all_goals omega
/-- a step whose sorts are right -/
theorem stp_ty (hW : WfE T) (hk : k < T 6) {step : Nat} {st : List Nat} {ts ts2 : List Bool} (h : tyr st ts) (ht : tst step ts = some ts2) : tyr (stp T k step st) ts2 := by
  unfold tst at ht
  split at ht
  · cases ht
    rename_i hs
    unfold stp
    rw [if_pos (by omega)]
    refine ⟨⟨?_, by simp⟩, h⟩
    split
    · assumption
    · exact kn_lt hW hk _
  · split at ht
    · cases ht
    · split at ht
      · rename_i h1 h2 h3
        subst h3
        match ts, st, h, ht with
        | true :: q, v :: st, h, ht =>
          cases ht
          unfold stp
          rw [if_neg (by omega), if_pos rfl]
          exact ⟨⟨by omega, fun _ => by omega⟩, h.2⟩
      · split at ht
        · match ts, st, h, ht with
          | false :: false :: q, b :: a :: st, h, ht =>
            cases ht
            unfold stp
            rw [if_neg (by omega), if_neg (by omega)]
            have := jn_le step a b
            exact ⟨⟨by omega, fun _ => this⟩, h.2.2⟩
        · split at ht
          · match ts, st, h, ht with
            | true :: true :: q, b :: a :: st, h, ht =>
              cases ht
              unfold stp
              rw [if_neg (by omega), if_neg (by omega)]
              have := jn_le step a b
              exact ⟨⟨by omega, fun _ => this⟩, h.2.2⟩
          · cases ht
theorem stp_len (step : Nat) (st : List Nat) : (stp T k step st).length ≤ st.length + 1 := by
  unfold stp
  split
  · simp
  · split
    · cases st <;> simp
    · match st with
      | [] => simp
      | [_] => simp
      | _ :: _ :: _ => simp
theorem c_holdsFor_loop (hW : WfE T) (hk : k < T 6) (r : Nat) (hr : r < 8) (h200 : rto T r ≤ 200) : ∀ (n i : Nat) (I : IH) (st : List Nat) (ts : List Bool), i + n = rto T r → st.length ≤ i → RM I T → RP I st → tyr st ts → (tvs T i n ts = some [true] ∨ (n = 0 ∧ st = [])) →
    (∀ I2, RM I2 T → Kp I I2 → Q (some (.int (nI (bn (match evs T k i n st with | [] => True | a :: q => (a :: q).getLast (by simp) ≠ 0))))) I2) → J E (d + 3) mX12_holdsFor 20 [(0, .ref (eb E + 115)), (1, .int (nI r)), (2, .int (nI k)), (3, .int (nI st.length)), (4, .int (nI i))] [] I Q := by
  intro n
  have hrt : rto T r = T (98 + 3 * r + 2) := by unfold rto; congr 1; omega
  obtain ⟨k6, -⟩ := hW.p hk
  induction n with
  | zero =>
    intro i I st ts hi hl h hp hy ht hQ
    refine S_X12_holdsFor_20 _ _ _ _ (c_ruleOf r 2 h rfl rfl (by omega) ⟨_, rfl, ?_⟩)
    rw [← hrt, nI_leI (by omega) (by omega), n0, nI_eq (by omega) (by omega)]
    refine ⟨fun _ => ⟨fun z => ?_, fun z => ?_⟩, fun q => by omega⟩
    · have : st = [] := List.length_eq_zero_iff.mp z
      subst this
      have := hQ I h (Kp.rf I)
      rw [bn_t (by simp [evs])] at this
      exact this
    · have hs : st ≠ [] := fun e => z (by rw [e]; rfl)
      have hv : st.getLast hs < 10000 := by
        rcases ht with ht | ⟨-, ht⟩
        · simp only [tvs, Option.some.injEq] at ht
          subst ht
          match st, hy with
          | [v], hy => exact hy.1.1
        · exact absurd ht hs
      rw [hp.bot hs, nI_eq (by omega) (by omega)]
      have hq := hQ I h (Kp.rf I)
      have e : (match evs T k i 0 st with | [] => True | a :: q => (a :: q).getLast (by simp) ≠ 0) ↔ st.getLast hs ≠ 0 := by
        match st, hs with
        | a :: q, _ => exact Iff.rfl
      rw [bn_c e] at hq
      refine ⟨fun w => ?_, fun w => ?_⟩
      · rw [bn_f (fun y => y w)] at hq; exact hq
      · rw [bn_t w] at hq; exact hq
  | succ n ih =>
    intro i I st ts hi hl h hp hy ht hQ
    obtain ⟨ts2, ht1, ht2⟩ : ∃ ts2, tst (T (122 + i)) ts = some ts2 ∧ tvs T (i + 1) n ts2 = some [true] := by
      rcases ht with ht | ⟨e, -⟩
      · exact Option.bind_eq_some_iff.mp ht
      · omega
    have hy2 := stp_ty hW hk hy ht1
    have hl2 := stp_len (T := T) (k := k) (T (122 + i)) st
    have hlen := tyr_len hy
    -- what is left, once the pile holds the step's result
    have go : ∀ I2 : IH, RM I2 T → Kp I I2 → RP I2 (stp T k (T (122 + i)) st) → J E (d + 3) mX12_holdsFor 20 [(0, .ref (eb E + 115)), (1, .int (nI r)), (2, .int (nI k)), (3, .int (nI (stp T k (T (122 + i)) st).length)), (4, .int (nI (i + 1)))] [] I2 Q := by
      intro I2 h2 hK hp2
      exact ih (i + 1) I2 _ ts2 (by omega) (by omega) h2 hp2 hy2 (Or.inl ht2) (fun I3 h3 hK3 => hQ I3 h3 (hK.tr hK3))
    refine S_X12_holdsFor_20 _ _ _ _ (c_ruleOf r 2 h rfl rfl (by omega) ⟨_, rfl, ?_⟩)
    rw [← hrt, nI_leI (by omega) (by omega)]
    refine ⟨fun q => by omega, fun _ => ⟨122 + i, by rw [nI_add], by omega, ?_⟩⟩
    rw [h.at (122 + i) (by omega)]
    have hb : T (122 + i) < 20000 := by
      unfold tst at ht1
      repeat' split at ht1
      all_goals first | omega | cases ht1
    rw [nI_leI (by omega) (by omega), nI_leI (by omega) (by omega), nI_eq (by omega) (by omega)]
    refine ⟨fun q => ⟨fun z => ?_, fun z => ?_⟩, fun q => ⟨fun z => ?_, fun z => ?_⟩⟩
    · -- joins two
      obtain ⟨b, a, s0, rfl, ha, hb2⟩ : ∃ b a s0, st = b :: a :: s0 ∧ a < 10000 ∧ b < 10000 := by
        unfold tst at ht1
        rw [if_neg (by omega), if_neg (by omega), if_neg z] at ht1
        split at ht1
        · match ts, st, hy, ht1 with
          | false :: false :: q, b :: a :: s0, hy, _ => exact ⟨b, a, s0, rfl, hy.2.1.1, hy.1.1⟩
        · split at ht1
          · match ts, st, hy, ht1 with
            | true :: true :: q, b :: a :: s0, hy, _ => exact ⟨b, a, s0, rfl, hy.2.1.1, hy.1.1⟩
          · cases ht1
      have e1 : nI (b :: a :: s0).length + (-1) - nI 1 = nI s0.length := by
        simp only [List.length_cons, nI_z, zI_neg1, zI_add, zI_sub]
        congr 1; push_cast; omega
      have e2 : nI (b :: a :: s0).length + (-1) = nI (s0.length + 1) := by
        simp only [List.length_cons, nI_z, zI_neg1, zI_add]
        congr 1; push_cast; omega
      simp only [List.length_cons] at hl
      refine ⟨s0.length, e1, by omega, s0.length + 1, e2, by omega, ?_⟩
      have t1 : I 119 (s0.length + 1) = nI b := hp.top
      have t2 : I 119 s0.length = nI a := hp.tail.top
      rw [t1, t2]
      refine c_joined _ a b rfl rfl rfl hb (by omega) (by omega) ⟨_, rfl, s0.length, e1, by omega, fun I14 e14 => ?_⟩
      rw [e14, e2, nI_add]
      have es : stp T k (T (122 + i)) (b :: a :: s0) = jn (T (122 + i)) a b :: s0 := by
        unfold stp
        rw [if_neg (by omega), if_neg z]
      have := go (stI I 119 s0.length (nI (jn (T (122 + i)) a b))) h.q Kp.q (by rw [es]; exact hp.tail.tail.push _)
      rw [es] at this
      exact this
    · -- not
      obtain ⟨a, s0, rfl, ha⟩ : ∃ a s0, st = a :: s0 ∧ a ≤ 1 := by
        unfold tst at ht1
        rw [if_neg (by omega), if_neg (by omega), if_pos z] at ht1
        match ts, st, hy, ht1 with
        | true :: q, a :: s0, hy, _ => exact ⟨a, s0, rfl, hy.1.2 rfl⟩
      have e1 : nI (a :: s0).length - nI 1 = nI s0.length := by
        simp only [List.length_cons]
        rw [pk_sub (by omega)]
        congr 1
      simp only [List.length_cons] at hl
      refine ⟨s0.length, e1, by omega, s0.length, e1, by omega, fun I22 e22 => ?_⟩
      have t1 : I 119 s0.length = nI a := hp.top
      rw [e22, t1, pk_sub ha, nI_add]
      have es : stp T k (T (122 + i)) (a :: s0) = (1 - a) :: s0 := by
        unfold stp
        rw [if_neg (by omega), if_pos z]
      have := go (stI I 119 s0.length (nI (1 - a))) h.q Kp.q (by rw [es]; exact hp.tail.push _)
      rw [es] at this
      exact this
    · -- a fact
      have h5 : T (122 + i) - 10000 < 5 := by
        unfold tst at ht1
        split at ht1
        · omega
        · split at ht1
          · cases ht1
          · omega
      rw [pk_sub z]
      refine c_knownOf _ h hW rfl h5 rfl hk ⟨_, rfl, st.length, rfl, by omega, fun I29 e29 => ?_⟩
      rw [e29, nI_add, nI_add]
      have es : stp T k (T (122 + i)) st = kn T k (T (122 + i) - 10000) :: st := by
        unfold stp
        rw [if_pos (by omega), if_neg (by omega)]
      have := go (stI I 119 st.length (nI (kn T k (T (122 + i) - 10000)))) h.q Kp.q (by rw [es]; exact hp.push _)
      rw [es] at this
      exact this
    · refine ⟨st.length, rfl, by omega, fun I34 e34 => ?_⟩
      rw [e34, nI_add, nI_add]
      have es : stp T k (T (122 + i)) st = T (122 + i) :: st := by
        unfold stp
        rw [if_pos (by omega), if_pos (by omega)]
      have := go (stI I 119 st.length (nI (T (122 + i)))) h.q Kp.q (by rw [es]; exact hp.push _)
      rw [es] at this
      exact this
theorem c_holdsFor {x y : Int32} (r : Nat) (h : RM I T) (hW : WfE T) (hR : wfr T r) (hx : x = nI r) (hr : r < 8) (hy : y = nI k) (hk : k < T 6) (hQ : ∀ I2, RM I2 T → Kp I I2 → Q (some (.int (nI (bn (hld T r k))))) I2) : Mt E (d + 3) mX12_holdsFor [.ref (eb E + 115), .int x, .int y] I Q := by
  subst hx; subst hy
  obtain ⟨r1, r2, r3⟩ := hR
  have key : ∀ I2, RM I2 T → Kp I I2 → J E (d + 3) mX12_holdsFor 20 [(0, .ref (eb E + 115)), (1, .int (nI r)), (2, .int (nI k)), (3, .int (nI 0)), (4, .int (nI (rfr T r)))] [] I2 Q := by
    intro I2 h2 hK
    refine c_holdsFor_loop hW hk r hr r2 (rto T r - rfr T r) (rfr T r) I2 [] [] (by omega) (by simp) h2 (fun i hi => by simp at hi) trivial ?_ (fun I3 h3 hK3 => hQ I3 h3 (hK.tr hK3))
    rcases r3 with r3 | r3
    · exact Or.inr ⟨by omega, rfl⟩
    · exact Or.inl r3
  refine S_X12_holdsFor _ _ ?_
  rw [n0, nI_eq (by omega) (by omega)]
  refine ⟨fun q => ?_, fun q => ?_⟩
  · rw [pk_sub (by omega)]
    refine c_ruleOf (r - 1) 2 h rfl rfl (by omega) ⟨_, rfl, ?_⟩
    have e : rfr T r = T (98 + 3 * (r - 1) + 2) := by
      unfold rfr
      rw [if_neg q]
      congr 1; omega
    rw [← e]
    exact key I h (Kp.rf I)
  · have e : rfr T r = 0 := by unfold rfr; rw [if_pos q]
    have := key I h (Kp.rf I)
    rw [e] at this
    exact this
theorem c_willOf_loop (hW : WfE T) (hR : WfR T) (hk : k < T 6) : ∀ (n r : Nat) (I : IH), r + n = T 7 → RM I T → (∀ I2, RM I2 T → Kp I I2 → Q (some (.int (nI (wilF T k r n)))) I2) → J E (d + 4) mX12_willOf 2 [(0, .ref (eb E + 115)), (1, .int (nI k)), (2, .int (nI r))] [] I Q := by
  intro n
  have h8 : T 7 ≤ 8 := hR.1
  obtain ⟨k6, p1, p2, p3, p4, p5, p6⟩ := hW.p hk
  induction n with
  | zero =>
    intro r I hn h hQ
    refine S_X12_willOf_2 _ _ ?_
    rw [h.at 7 (by omega), nI_leI (by omega) (by omega)]
    exact ⟨fun _ => hQ I h (Kp.rf I), fun q => by omega⟩
  | succ n ih =>
    intro r I hn h hQ
    obtain ⟨q1, q2, q3⟩ := hR.2 r (by omega)
    refine S_X12_willOf_2 _ _ ?_
    rw [h.at 7 (by omega), nI_leI (by omega) (by omega)]
    refine ⟨fun q => by omega, fun _ => c_get k 0 rfl rfl (by omega) ⟨_, rfl, c_ruleOf r 0 h rfl rfl (by omega) ⟨_, rfl, ?_⟩⟩⟩
    rw [h.kd k6]
    refine c_isUnder (T (38 + 6 * k)) (T (98 + 3 * r)) rfl rfl (by omega) (by omega) ⟨_, rfl, ?_⟩
    by_cases hu : under (T (38 + 6 * k)) (T (98 + 3 * r))
    · rw [bn_t hu]
      refine ⟨fun q => absurd q (by decide +kernel), fun _ => c_holdsFor r h hW q3 rfl (by omega) rfl hk (fun I7 h7 hK7 => ⟨_, rfl, ?_⟩)⟩
      by_cases hh : hld T r k
      · rw [bn_t hh]
        refine ⟨fun q => absurd q (by decide +kernel), fun _ => c_ruleOf r 1 h7 rfl rfl (by omega) ⟨_, rfl, ?_⟩⟩
        have := hQ I7 h7 hK7
        have e : wilF T k r (n + 1) = T (98 + 3 * r + 1) := by
          unfold wilF
          rw [if_pos (dc_t ⟨hu, hh⟩)]
          congr 1; omega
        rw [e] at this; exact this
      · rw [bn_f hh]
        refine ⟨fun _ => ?_, fun q => absurd rfl q⟩
        rw [nI_add]
        refine ih (r + 1) I7 (by omega) h7 (fun I2 h2 hK2 => ?_)
        have := hQ I2 h2 (hK7.tr hK2)
        have e : wilF T k r (n + 1) = wilF T k (r + 1) n := by
          conv => lhs; unfold wilF
          rw [if_neg (by rw [dc_f (fun z => hh z.2)]; decide)]
        rw [e] at this; exact this
    · rw [bn_f hu]
      refine ⟨fun _ => ?_, fun q => absurd rfl q⟩
      rw [nI_add]
      refine ih (r + 1) I (by omega) h (fun I2 h2 hK2 => ?_)
      have := hQ I2 h2 hK2
      have e : wilF T k r (n + 1) = wilF T k (r + 1) n := by
        conv => lhs; unfold wilF
        rw [if_neg (by rw [dc_f (fun z => hu z.1)]; decide)]
      rw [e] at this; exact this
theorem c_willOf {x : Int32} (h : RM I T) (hW : WfE T) (hR : WfR T) (hx : x = nI k) (hk : k < T 6) (hQ : ∀ I2, RM I2 T → Kp I I2 → Q (some (.int (nI (wil T k)))) I2) : Mt E (d + 4) mX12_willOf [.ref (eb E + 115), .int x] I Q := by
  subst hx
  exact S_X12_willOf _ (c_willOf_loop hW hR hk (T 7) 0 I (by omega) h hQ)
end M3
