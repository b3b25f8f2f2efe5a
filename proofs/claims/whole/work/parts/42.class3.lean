section K3
variable {E : EE} {d : Nat} {I : IH} {Q : QT} {T : Nat → Nat} {k e g r : Nat}
def bN (b : Bool) : Nat := if b then 1 else 0
theorem cV_neg {c : Nat} (h : okv c) (h2 : 10000 ≤ c) : ¬ 0 ≤ cV c ∧ nI 5 + cV c = nI (c - 10000) := by
  unfold okv at h
  have e : cV c = zI ((c : Int) - 10005) := by unfold cV; rw [if_neg (by omega)]
  rw [e]
  refine ⟨?_, ?_⟩
  · rw [zI_0, zI_le (by omega) (by omega) (by omega) (by omega)]; omega
  · rw [nI_z, nI_z, zI_add]; congr 1; omega
theorem cV_pos {c : Nat} (h2 : c < 10000) : cV c = nI c := by unfold cV; rw [if_pos h2]
theorem pv_lt {f : Nat → Nat} (hf : ∀ w, f w < 10000) (c : Nat) : pv f c < 10000 := by
  unfold pv
  split
  · assumption
  · exact hf _
/-- from the two values on -/
theorem c_cmp {o a b z i v : Nat} (hR : isRu r) (ho : o ≤ 2) (ha : a < 10000) (hb : b < 10000) (hv : v < 4096) (k : J E d mX6_holds 14 [(0, .ref (eb E + r)), (2, .int (nI z)), (3, .int (nI (2 * v + bN (cmpB o a b)))), (4, .int (nI (i + 3)))] [] I Q) : J E d mX6_holds 125 [(0, .ref (eb E + r)), (2, .int (nI z)), (3, .int (nI v)), (4, .int (nI i)), (5, .int (nI o)), (6, .int (nI a))] [.int (nI b)] I Q := by
  have t : ∀ q : Bool, q = cmpB o a b → J E d mX6_holds 180 [(0, .ref (eb E + r)), (2, .int (nI z)), (3, .int (nI v)), (4, .int (nI i))] [.int (nI (bN q))] I Q := by
    intro q hq
    refine S_X6_holds_180 hR _ _ _ _ ?_
    obtain ⟨p0, p1⟩ := tp_push v hv
    rw [p0, p1, nI_add, nI_add, n0, nI_eq (by unfold bN; split <;> omega) (by omega)]
    subst hq
    refine ⟨fun z => ?_, fun z => ?_⟩
    · rw [z] at k; exact k
    · have e : bN (cmpB o a b) = 1 := by unfold bN at z ⊢; split at z <;> simp_all
      rw [e] at k; exact k
  refine S_X6_holds_125 hR _ _ _ _ _ _ ?_
  rw [n0, nI_eq (by omega) (by omega), nI_eq (by omega) (by omega), nI_eq (by omega) (by omega), nI_leI (by omega) (by omega), nI_leI (by omega) (by omega)]
  refine ⟨fun z0 => ⟨fun z1 => ⟨fun q => t false ?_, fun q => t true ?_⟩, fun z1 => ⟨fun q => t false ?_, fun q => t true ?_⟩⟩, fun z0 => ⟨fun q => t false ?_, fun q => t true ?_⟩⟩
  · simp [cmpB, z0, z1]; omega
  · simp [cmpB, z0, z1]; omega
  · simp [cmpB, z1]; omega
  · simp [cmpB, z1]; omega
  · simp [cmpB, z0]; omega
  · simp [cmpB, z0]; omega
theorem c_holds_loop (hR : isRu r) (f : Nat → Nat) (hf : ∀ w, f w < 10000) (hfa : ∀ w, w < 5 → I (r + 5) w = nI (f w)) (z : Nat) (hz : z ≤ 200) : ∀ (ops : List Op3) (i : Nat) (st : List Bool) (m : Nat), spC (I (r + 4)) i z ops → st.length ≤ 12 → dpt ops st.length = some m → Q (some (.int (nI (bn (tb (prun f ops st) % 2 = 1))))) I → J E d mX6_holds 14 [(0, .ref (eb E + r)), (2, .int (nI z)), (3, .int (nI (tb st))), (4, .int (nI i))] [] I Q := by
  intro ops
  induction ops with
  | nil =>
    intro i st m hs hl hd hQ
    have hs : i = z := hs
    subst hs
    refine S_X6_holds_14 hR _ _ _ ?_
    rw [nI_leI (by omega) (by omega), tp_low _ (tb_4096 hl), nI_eq (by omega) (by omega)]
    refine ⟨fun _ => ⟨fun q => ?_, fun q => ?_⟩, fun q => by omega⟩
    · rw [bn_f (show ¬ tb (prun f [] st) % 2 = 1 from q)] at hQ; exact hQ
    · rw [bn_t (show tb (prun f [] st) % 2 = 1 from q)] at hQ; exact hQ
  | cons q ops ih =>
    intro i st m hs hl hd hQ
    obtain ⟨o, a, b⟩ := q
    have hsl := tb_4096 hl
    obtain ⟨n2, hd1, hd2⟩ := Option.bind_eq_some_iff.mp hd
    unfold spC at hs
    by_cases ho : o ≤ 2
    · rw [if_pos ho] at hs
      obtain ⟨s1, s2, s3, s4, s5, s6⟩ := hs
      have s4 : okv a := s4
      have s5 : okv b := s5
      have s2 : I (r + 4) (i + 1) = cV a := s2
      have s3 : I (r + 4) (i + 2) = cV b := s3
      have hle := spC_le _ _ _ s6
      unfold dp1 at hd1
      rw [if_pos ho] at hd1
      split at hd1
      · rename_i hn
        cases hd1
        have go : J E d mX6_holds 14 [(0, .ref (eb E + r)), (2, .int (nI z)), (3, .int (nI (2 * tb st + bN (cmpB o (pv f a) (pv f b))))), (4, .int (nI (i + 3)))] [] I Q := by
          have e : prun f ((o, a, b) :: ops) st = prun f ops (cmpB o (pv f a) (pv f b) :: st) := by
            show prun f ops (pst f (o, a, b) st) = _
            unfold pst; rw [if_pos ho]
          rw [e] at hQ
          exact ih (i + 3) (cmpB o (pv f a) (pv f b) :: st) m s6 (by simp; omega) hd2 hQ
        have right : ∀ x : Nat, x = pv f a → J E d mX6_holds 83 [(0, .ref (eb E + r)), (2, .int (nI z)), (3, .int (nI (tb st))), (4, .int (nI i)), (5, .int (nI o))] [.int (nI x)] I Q := by
          intro x hx
          subst hx
          refine S_X6_holds_83 hR _ _ _ _ _ ⟨i + 2, by rw [nI_add], by omega, ?_⟩
          rw [s3]
          by_cases hb : b < 10000
          · rw [cV_pos hb]
            refine ⟨fun _ => ⟨i + 2, by rw [nI_add], by omega, ?_⟩, fun q => absurd (nI_pos' (by omega)) q⟩
            rw [s3, cV_pos hb]
            have e : pv f b = b := by unfold pv; rw [if_pos hb]
            rw [e] at go
            exact c_cmp hR ho (pv_lt hf a) hb hsl go
          · obtain ⟨g1, g2⟩ := cV_neg s5 (by omega)
            refine ⟨fun q => absurd q g1, fun _ => ⟨i + 2, by rw [nI_add], by omega, b - 10000, by rw [s3]; exact g2, by unfold okv at s5; omega, ?_⟩⟩
            rw [hfa _ (by unfold okv at s5; omega)]
            have e : pv f b = f (b - 10000) := by unfold pv; rw [if_neg hb]
            rw [e] at go
            exact c_cmp hR ho (pv_lt hf a) (hf _) hsl go
        refine S_X6_holds_14 hR _ _ _ ?_
        rw [nI_leI (by omega) (by omega), nI_add, nI_leI (by omega) (by omega)]
        refine ⟨fun q => by omega, fun _ => ⟨i, rfl, by omega, ?_⟩⟩
        rw [s1, nI_ltI (by omega) (by omega)]
        refine ⟨fun q => by omega, fun _ => ⟨fun q => by omega, fun _ => ⟨i + 1, by rw [nI_add], by omega, ?_⟩⟩⟩
        rw [s2]
        by_cases ha : a < 10000
        · rw [cV_pos ha]
          refine ⟨fun _ => ⟨i + 1, by rw [nI_add], by omega, ?_⟩, fun q => absurd (nI_pos' (by omega)) q⟩
          rw [s2, cV_pos ha]
          exact right a (by unfold pv; rw [if_pos ha])
        · obtain ⟨g1, g2⟩ := cV_neg s4 (by omega)
          refine ⟨fun q => absurd q g1, fun _ => ⟨i + 1, by rw [nI_add], by omega, a - 10000, by rw [s2]; exact g2, by unfold okv at s4; omega, ?_⟩⟩
          rw [hfa _ (by unfold okv at s4; omega)]
          exact right _ (by unfold pv; rw [if_neg ha])
      · cases hd1
    · rw [if_neg ho] at hs
      obtain ⟨s1, s2, s3⟩ := hs
      have hle := spC_le _ _ _ s3
      have t203 : J E d mX6_holds 203 [(0, .ref (eb E + r)), (2, .int (nI z)), (3, .int (nI (tb st))), (4, .int (nI i)), (5, .int (nI o))] [] I Q := by
        refine S_X6_holds_203 hR _ _ _ _ ?_
        rw [tp_not _ hsl, tp_and _ hsl, tp_or _ hsl, nI_add, nI_eq (by omega) (by omega), nI_eq (by omega) (by omega)]
        unfold dp1 at hd1
        rw [if_neg ho] at hd1
        have step : ∀ (w : List Bool) (v : Nat), w = pst f (o, a, b) st → w.length = n2 → n2 ≤ 12 → v = tb w → J E d mX6_holds 14 [(0, .ref (eb E + r)), (2, .int (nI z)), (3, .int (nI v)), (4, .int (nI (i + 1)))] [] I Q := by
          intro w v hw hwl hn2 hv
          subst hv
          have e : prun f ((o, a, b) :: ops) st = prun f ops w := by rw [hw]; rfl
          rw [e] at hQ
          exact ih (i + 1) w m s3 (by omega) (by rw [hwl]; exact hd2) hQ
        refine ⟨fun q3 => ⟨fun q4 => ?_, fun q4 => ?_⟩, fun q3 => ?_⟩
        · -- or
          rw [if_neg q3] at hd1
          rw [if_pos (by omega)] at hd1
          split at hd1
          · cases hd1
            match st, hl, step with
            | y :: x :: w, hl, step =>
              refine step ((x || y) :: w) _ (by unfold pst; rw [if_neg ho, if_neg q3, if_neg q4]) (by simp) (by simp at hl ⊢; omega) ?_
              simp only [tb]
              cases x <;> cases y <;> simp <;> omega
          · cases hd1
        · rw [if_neg q3] at hd1
          rw [if_pos (by omega)] at hd1
          split at hd1
          · cases hd1
            match st, hl, step with
            | y :: x :: w, hl, step =>
              refine step ((x && y) :: w) _ (by unfold pst; rw [if_neg ho, if_neg q3, if_pos q4]) (by simp) (by simp at hl ⊢; omega) ?_
              simp only [tb]
              cases x <;> cases y <;> simp <;> omega
          · cases hd1
        · rw [if_pos q3] at hd1
          split at hd1
          · cases hd1
            match st, hl, step with
            | x :: w, hl, step =>
              refine step ((!x) :: w) _ (by unfold pst; rw [if_neg ho, if_pos q3]) (by simp) (by simp at hl ⊢; omega) ?_
              simp only [tb]
              cases x <;> simp <;> omega
          · cases hd1
      refine S_X6_holds_14 hR _ _ _ ?_
      rw [nI_leI (by omega) (by omega)]
      refine ⟨fun q => by omega, fun _ => ⟨i, rfl, by omega, ?_⟩⟩
      rw [s1, nI_ltI (by omega) (by omega)]
      exact ⟨fun _ => t203, fun q => by omega⟩
def okO (ops : List Op3) : Prop := ops = [] ∨ dpt ops 0 = some 1
/-- a row of words holds: none do, or its last truth -/
def hop (f : Nat → Nat) (ops : List Op3) : Prop := ops = [] ∨ tb (prun f ops []) % 2 = 1
theorem c_holds {x y : Int32} (hR : isRu r) (f : Nat → Nat) (hf : ∀ w, f w < 10000) (hfa : ∀ w, w < 5 → I (r + 5) w = nI (f w)) (i z : Nat) (ops : List Op3) (hx : x = nI i) (hy : y = nI z) (hz : z ≤ 200) (hs : spC (I (r + 4)) i z ops) (ho : okO ops) (hQ : Q (some (.int (nI (bn (hop f ops))))) I) : Mt E d mX6_holds [.ref (eb E + r), .int x, .int y] I Q := by
  subst hx; subst hy
  have hle := spC_le _ _ _ hs
  refine S_X6_holds hR _ _ ?_
  rw [nI_eq (by omega) (by omega)]
  rcases ho with rfl | ho
  · have hs : i = z := hs
    refine ⟨fun q => absurd hs q, fun _ => ?_⟩
    rw [bn_t (p := hop f []) (Or.inl rfl)] at hQ
    have := c_holds_loop (E := E) (d := d) (Q := Q) hR f hf hfa z hz [] i [true] 1 hs (by simp) rfl (by rw [bn_t (show tb (prun f [] [true]) % 2 = 1 from rfl)]; exact hQ)
    exact this
  · refine ⟨fun _ => ?_, fun q => ?_⟩
    · refine c_holds_loop hR f hf hfa z hz ops i [] 1 hs (by simp) ho ?_
      have e : hop f ops ↔ tb (prun f ops []) % 2 = 1 := by
        constructor
        · intro h
          rcases h with h | h
          · subst h; cases ho
          · exact h
        · exact Or.inr
      rw [bn_c e] at hQ; exact hQ
    · exfalso
      cases ops with
      | nil => cases ho
      | cons q ops =>
        unfold spC at hs
        split at hs
        · have := spC_le _ _ _ hs.2.2.2.2.2; omega
        · have := spC_le _ _ _ hs.2.2; omega
/-! the reference's steps -/
def spM (T : Nat → Nat) : Nat → Nat → List Op3 → Prop
  | i, z, [] => i = z
  | i, z, q :: ops => if q.1 ≤ 2 then T (122 + i) = q.2.1 ∧ T (123 + i) = q.2.2 ∧ T (124 + i) = 10010 + q.1 ∧ okv q.2.1 ∧ okv q.2.2 ∧ spM T (i + 3) z ops else T (122 + i) = (if q.1 = 3 then 10015 else 10009 + q.1) ∧ q.1 ≤ 5 ∧ spM T (i + 1) z ops
theorem spM_le : ∀ (ops : List Op3) (i z : Nat), spM T i z ops → i ≤ z := by
  intro ops
  induction ops with
  | nil => intro i z h; exact Nat.le_of_eq h
  | cons q ops ih =>
    intro i z h
    unfold spM at h
    split at h
    · have := ih _ _ h.2.2.2.2.2; omega
    · have := ih _ _ h.2.2; omega
theorem evs_spM (z : Nat) : ∀ (ops : List Op3) (i : Nat) (bs : List Bool) (m : Nat), spM T i z ops → dpt ops bs.length = some m → evs T k i (z - i) (bs.map bN) = (prun (kn T k) ops bs).map bN := by
  intro ops
  induction ops with
  | nil =>
    intro i bs m hs _
    have hs : i = z := hs
    subst hs
    rw [Nat.sub_self]; rfl
  | cons q ops ih =>
    intro i bs m hs hd
    obtain ⟨o, a, b⟩ := q
    obtain ⟨n2, hd1, hd2⟩ := Option.bind_eq_some_iff.mp hd
    unfold spM at hs
    by_cases ho : o ≤ 2
    · rw [if_pos ho] at hs
      obtain ⟨s1, s2, s3, s4, s5, s6⟩ := hs
      simp only at s1 s2 s3 s4 s5
      unfold okv at s4 s5
      have hle := spM_le _ _ _ s6
      rw [show z - i = (z - (i + 3)) + 1 + 1 + 1 by omega]
      have pvs : ∀ c, c < 10005 → ∀ st, stp T k c st = pv (kn T k) c :: st := by
        intro c hc st
        unfold stp pv
        rw [if_pos (by omega)]
      show evs T k (i + 1 + 1 + 1) (z - (i + 3)) (stp T k (T (122 + (i + 1 + 1))) (stp T k (T (122 + (i + 1))) (stp T k (T (122 + i)) (bs.map bN)))) = _
      rw [show 122 + (i + 1 + 1) = 124 + i by omega, show 122 + (i + 1) = 123 + i by omega, s1, s2, s3, pvs a s4, pvs b s5]
      have ej : stp T k (10010 + o) (pv (kn T k) b :: pv (kn T k) a :: bs.map bN) = (cmpB o (pv (kn T k) a) (pv (kn T k) b) :: bs).map bN := by
        unfold stp
        rw [if_neg (by omega), if_neg (by omega)]
        show jn (10010 + o) _ _ :: _ = bN _ :: _
        congr 1
        rcases (show o = 0 ∨ o = 1 ∨ o = 2 by omega) with rfl | rfl | rfl <;> simp [jn, cmpB, bN]
      rw [ej, show i + 1 + 1 + 1 = i + 3 by omega]
      have e : prun (kn T k) ((o, a, b) :: ops) bs = prun (kn T k) ops (cmpB o (pv (kn T k) a) (pv (kn T k) b) :: bs) := by
        show prun (kn T k) ops (pst (kn T k) (o, a, b) bs) = _
        unfold pst; rw [if_pos ho]
      rw [e]
      refine ih (i + 3) _ m s6 ?_
      unfold dp1 at hd1
      rw [if_pos ho] at hd1
      split at hd1
      · cases hd1; exact hd2
      · cases hd1
    · rw [if_neg ho] at hs
      obtain ⟨s1, s2, s3⟩ := hs
      simp only at s1 s2
      have hle := spM_le _ _ _ s3
      rw [show z - i = (z - (i + 1)) + 1 by omega]
      show evs T k (i + 1) (z - (i + 1)) (stp T k (T (122 + i)) (bs.map bN)) = (prun (kn T k) ops (pst (kn T k) (o, a, b) bs)).map bN
      unfold dp1 at hd1
      rw [if_neg ho] at hd1
      have fin : ∀ w : List Bool, w = pst (kn T k) (o, a, b) bs → w.length = n2 → stp T k (T (122 + i)) (bs.map bN) = w.map bN → evs T k (i + 1) (z - (i + 1)) (stp T k (T (122 + i)) (bs.map bN)) = (prun (kn T k) ops (pst (kn T k) (o, a, b) bs)).map bN := by
        intro w hw hwl he
        rw [he, ← hw]
        exact ih (i + 1) w m s3 (by rw [hwl]; exact hd2)
      by_cases q3 : o = 3
      · subst q3
        rw [if_pos rfl] at hd1
        split at hd1
        · cases hd1
          match bs, fin with
          | x :: w, fin =>
            refine fin ((!x) :: w) rfl (by simp) ?_
            rw [s1, if_pos rfl]
            unfold stp
            rw [if_neg (by omega), if_pos rfl]
            cases x <;> rfl
        · cases hd1
      · rw [if_neg q3, if_pos (by omega)] at hd1
        rw [if_neg q3] at s1
        split at hd1
        · cases hd1
          match bs, fin with
          | y :: x :: w, fin =>
            rcases (show o = 4 ∨ o = 5 by omega) with rfl | rfl
            · refine fin ((x && y) :: w) rfl (by simp) ?_
              rw [s1]
              cases x <;> cases y <;> rfl
            · refine fin ((x || y) :: w) rfl (by simp) ?_
              rw [s1]
              cases x <;> cases y <;> rfl
        · cases hd1
theorem dpt_len (f : Nat → Nat) : ∀ (ops : List Op3) (st : List Bool) (m : Nat), dpt ops st.length = some m → (prun f ops st).length = m := by
  intro ops
  induction ops with
  | nil => intro st m h; cases h; rfl
  | cons q ops ih =>
    intro st m h
    obtain ⟨o, a, b⟩ := q
    obtain ⟨n2, hd1, hd2⟩ := Option.bind_eq_some_iff.mp h
    refine ih _ m ?_
    have : (pst f (o, a, b) st).length = n2 := by
      unfold dp1 at hd1
      unfold pst
      repeat' split at hd1
      all_goals first | cases hd1 | skip
      · rename_i h1 h2; rw [if_pos h1]; rfl
      · rename_i h1 h2 h3
        rw [if_neg h1, if_pos h2]
        match st, h3 with
        | x :: w, _ => rfl
      · rename_i h1 h2 h3 h4
        rw [if_neg h1, if_neg h2]
        match st, h4 with
        | y :: x :: w, _ => split <;> simp
    rw [this]; exact hd2
theorem hld_hop {i : Nat} {ops : List Op3} (hs : spM T (rfr T i) (rto T i) ops) (ho : okO ops) : hld T i k ↔ hop (kn T k) ops := by
  unfold hld
  rcases ho with rfl | ho
  · have hs : rfr T i = rto T i := hs
    rw [hs, Nat.sub_self]
    exact ⟨fun _ => Or.inl rfl, fun _ => trivial⟩
  · have h := evs_spM (T := T) (k := k) (rto T i) ops (rfr T i) [] 1 hs ho
    have hl := dpt_len (kn T k) ops [] 1 ho
    have hne : ops ≠ [] := fun e => by subst e; cases ho
    rw [show ([] : List Nat) = ([] : List Bool).map bN from rfl, h]
    obtain ⟨x, hx⟩ := List.length_eq_one_iff.mp hl
    rw [hx]
    show [bN x].getLast _ ≠ 0 ↔ _
    unfold hop
    rw [hx]
    simp only [hne, false_or, tb, List.getLast_singleton]
    cases x <;> simp [bN]
end K3
