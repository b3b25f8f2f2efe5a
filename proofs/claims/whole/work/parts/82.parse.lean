section L2
variable {t : Nat → Nat} {K i j k m s M : Nat} {a b a2 b2 : List Op3} {c c2 : Nat → Int32} {T : Nat → Nat}
/-! rules out of tokens: a fault at a token, or what comes behind, and the words of class and reference -/
abbrev PR : Type := Nat ⊕ (Nat × List Op3 × List Op3)
def isV (v : Nat) : Prop := 995 ≤ v ∧ v ≤ 10999
def tv (v : Nat) : Nat := if v < 1000 then 9005 + v else v - 1000
noncomputable def pCmp (t : Nat → Nat) (i : Nat) : PR := if dc (isV (t i)) = true then (if dc (60 ≤ t (i + 1) ∧ t (i + 1) ≤ 62) = true then (if dc (isV (t (i + 2))) = true then .inr (i + 3, [(t (i + 1) - 60, tv (t i), tv (t (i + 2)))], [(t (i + 1) - 60, tv (t i), tv (t (i + 2)))]) else .inl (i + 2)) else .inl (i + 1)) else .inl i
def nts (t : Nat → Nat) : Nat → Nat → Nat
  | 0, _ => 0
  | F + 1, i => if t i = 12 then nts t F (i + 1) + 1 else 0
def notC (n : Nat) : List Op3 := if n % 2 = 1 then [(3, 0, 0)] else []
noncomputable def pOne (bs : Nat → PR) (t : Nat → Nat) (i : Nat) : PR := match bs (i + nts t 200 i) with
  | .inl j => .inl j
  | .inr r => .inr (r.1, r.2.1 ++ notC (nts t 200 i), r.2.2 ++ List.replicate (nts t 200 i) (3, 0, 0))
noncomputable def andL (bs : Nat → PR) (t : Nat → Nat) : Nat → Nat → List Op3 → List Op3 → PR
  | 0, i, a, b => .inr (i, a, b)
  | F + 1, i, a, b => if t i = 11 then (match pOne bs t (i + 1) with
    | .inl j => .inl j
    | .inr r => andL bs t F r.1 (a ++ (r.2.1 ++ [(4, 0, 0)])) (b ++ (r.2.2 ++ [(4, 0, 0)]))) else .inr (i, a, b)
noncomputable def pAll (bs : Nat → PR) (t : Nat → Nat) (i : Nat) : PR := match pOne bs t i with
  | .inl j => .inl j
  | .inr r => andL bs t 200 r.1 r.2.1 r.2.2
noncomputable def orL (bs : Nat → PR) (t : Nat → Nat) : Nat → Nat → List Op3 → List Op3 → PR
  | 0, i, a, b => .inr (i, a, b)
  | F + 1, i, a, b => if t i = 10 then (match pAll bs t (i + 1) with
    | .inl j => .inl j
    | .inr r => orL bs t F r.1 (a ++ (r.2.1 ++ [(5, 0, 0)])) (b ++ (r.2.2 ++ [(5, 0, 0)]))) else .inr (i, a, b)
noncomputable def pCd (bs : Nat → PR) (t : Nat → Nat) (i : Nat) : PR := match pAll bs t i with
  | .inl j => .inl j
  | .inr r => orL bs t 200 r.1 r.2.1 r.2.2
def clo (t : Nat → Nat) (r : PR) : PR := match r with
  | .inl j => .inl j
  | .inr r => if t r.1 = 41 then .inr (r.1 + 1, r.2.1, r.2.2) else .inl r.1
noncomputable def bas (t : Nat → Nat) : Nat → Nat → PR
  | 0, j => pCmp t j
  | k + 1, j => if t j = 40 then clo t (pCd (bas t k) t (j + 1)) else pCmp t j
/-! what is so of these words -/
def sz : List Op3 → Nat
  | [] => 0
  | q :: ops => (if q.1 ≤ 2 then 3 else 1) + sz ops
theorem sz_app : ∀ (a b : List Op3), sz (a ++ b) = sz a + sz b := by
  intro a b
  induction a with
  | nil => simp [sz]
  | cons q a ih => show _ + sz (a ++ b) = (_ + sz a) + sz b; rw [ih]; omega
theorem sz_rep (n : Nat) : sz (List.replicate n (3, 0, 0)) = n := by
  induction n with
  | zero => rfl
  | succ n ih => rw [List.replicate_succ]; show 1 + sz _ = _; rw [ih]; omega
theorem sz_notC (n : Nat) : sz (notC n) ≤ n ∧ sz (notC n) ≤ 1 := by
  unfold notC
  split
  · show 1 + 0 ≤ n ∧ 1 + 0 ≤ 1
    omega
  · exact ⟨Nat.zero_le _, Nat.zero_le _⟩
def wfo (ops : List Op3) : Prop := ∀ q ∈ ops, q.1 ≤ 5 ∧ (q.1 ≤ 2 → okv q.2.1 ∧ okv q.2.2)
theorem wfo_app (h1 : wfo a) (h2 : wfo b) : wfo (a ++ b) := fun q hq => by
  rcases List.mem_append.mp hq with h | h
  · exact h1 q h
  · exact h2 q h
theorem wfo_one {o : Nat} (h : o ≤ 5) (h2 : 2 < o) : wfo [(o, 0, 0)] := fun q hq => by
  rw [List.mem_singleton] at hq
  subst hq
  exact ⟨h, fun z => absurd z (by show ¬ o ≤ 2; omega)⟩
theorem prun_app (f : Nat → Nat) : ∀ (a b : List Op3) (st : List Bool), prun f (a ++ b) st = prun f b (prun f a st) := by
  intro a
  induction a with
  | nil => intro b st; rfl
  | cons q a ih => intro b st; exact ih b _
theorem dpt_app : ∀ (a b : List Op3) (n n2 : Nat), dpt a n = some n2 → dpt (a ++ b) n = dpt b n2 := by
  intro a
  induction a with
  | nil => intro b n n2 h; cases h; rfl
  | cons q a ih =>
    intro b n n2 h
    show (dp1 q.1 n).bind (dpt (a ++ b)) = _
    obtain ⟨n3, h1, h2⟩ := Option.bind_eq_some_iff.mp h
    rw [h1]
    exact ih b n3 n2 h2
def Gd (M s : Nat) (a b : List Op3) : Prop := sz a ≤ s ∧ sz b ≤ s ∧ wfo a ∧ wfo b ∧ (∃ V : (Nat → Nat) → Bool, ∀ f st, prun f a st = V f :: st ∧ prun f b st = V f :: st) ∧ ∀ m, m < M → dpt a m = some (m + 1) ∧ dpt b m = some (m + 1)
def PG (t : Nat → Nat) (K M i : Nat) (r : PR) : Prop := match r with
  | .inl j => i ≤ j ∧ j ≤ K
  | .inr r => i < r.1 ∧ r.1 ≤ K ∧ Gd M (r.1 - i) r.2.1 r.2.2
theorem Gd.mono {s2 M2 : Nat} (h : Gd M s a b) (h1 : s ≤ s2) (h2 : M2 ≤ M) : Gd M2 s2 a b := by
  obtain ⟨g1, g2, g3, g4, g5, g6⟩ := h
  exact ⟨by omega, by omega, g3, g4, g5, fun m hm => g6 m (by omega)⟩
/-- behind so many nots -/
theorem nots_run (f : Nat → Nat) (x : Bool) (st : List Bool) : ∀ n, prun f (List.replicate n (3, 0, 0)) (x :: st) = prun f (notC n) (x :: st) := by
  intro n
  induction n using Nat.strongRecOn with
  | ind n ih =>
    match n with
    | 0 => rfl
    | 1 => rfl
    | n + 2 =>
      rw [List.replicate_succ, List.replicate_succ]
      show prun f (List.replicate n (3, 0, 0)) (pst f (3, 0, 0) (pst f (3, 0, 0) (x :: st))) = _
      have e : pst f (3, 0, 0) (pst f (3, 0, 0) (x :: st)) = x :: st := by
        show (!(!x)) :: st = _
        simp
      rw [e, ih n (by omega)]
      unfold notC
      rw [show (n + 2) % 2 = n % 2 by omega]
theorem notC_run (f : Nat → Nat) (x : Bool) (st : List Bool) (n : Nat) : prun f (notC n) (x :: st) = (if n % 2 = 1 then !x else x) :: st := by
  unfold notC
  split
  · rfl
  · rfl
theorem dpt_rep : ∀ (n m : Nat), 1 ≤ m → dpt (List.replicate n (3, 0, 0)) m = some m := by
  intro n
  induction n with
  | zero => intro m _; rfl
  | succ n ih =>
    intro m hm
    rw [List.replicate_succ]
    show (dp1 3 m).bind _ = _
    have : dp1 3 m = some m := by unfold dp1; rw [if_neg (by omega), if_pos rfl, if_pos hm]
    rw [this]
    exact ih m hm
theorem dpt_notC (n m : Nat) (h : 1 ≤ m) : dpt (notC n) m = some m := by
  unfold notC
  split
  · exact dpt_rep 1 m h
  · rfl
theorem wfo_rep (n : Nat) : wfo (List.replicate n (3, 0, 0)) := fun q hq => by
  have := List.eq_of_mem_replicate hq
  subst this
  exact ⟨by decide, fun z => absurd z (by decide)⟩
theorem wfo_notC (n : Nat) : wfo (notC n) := by
  unfold notC
  split
  · exact wfo_rep 1
  · intro q hq; cases hq
theorem Gd.nots {n : Nat} (h : Gd M s a b) : Gd M (s + n) (a ++ notC n) (b ++ List.replicate n (3, 0, 0)) := by
  obtain ⟨g1, g2, g3, g4, ⟨V, g5⟩, g6⟩ := h
  refine ⟨?_, ?_, wfo_app g3 (wfo_notC n), wfo_app g4 (wfo_rep n), ⟨fun f => if n % 2 = 1 then !(V f) else V f, fun f st => ?_⟩, fun m hm => ?_⟩
  · rw [sz_app]; have := (sz_notC n).1; omega
  · rw [sz_app, sz_rep]; omega
  · rw [prun_app, prun_app, (g5 f st).1, (g5 f st).2, nots_run, notC_run]; exact ⟨rfl, rfl⟩
  · rw [dpt_app _ _ _ _ (g6 m hm).1, dpt_app _ _ _ _ (g6 m hm).2]
    exact ⟨dpt_notC n _ (by omega), dpt_rep n _ (by omega)⟩
/-- two joined by and, or or -/
theorem Gd.join {s2 o : Nat} (ho : o = 4 ∨ o = 5) (h : Gd M s a b) (h2 : Gd (M + 1) s2 a2 b2) : Gd M (s + s2 + 1) (a ++ (a2 ++ [(o, 0, 0)])) (b ++ (b2 ++ [(o, 0, 0)])) := by
  obtain ⟨g1, g2, g3, g4, ⟨V, g5⟩, g6⟩ := h
  obtain ⟨k1, k2, k3, k4, ⟨W2, k5⟩, k6⟩ := h2
  have e1 : sz [(o, 0, 0)] = 1 := by rcases ho with rfl | rfl <;> rfl
  refine ⟨?_, ?_, wfo_app g3 (wfo_app k3 (wfo_one (by omega) (by omega))), wfo_app g4 (wfo_app k4 (wfo_one (by omega) (by omega))), ⟨fun f => if o = 4 then V f && W2 f else V f || W2 f, fun f st => ?_⟩, fun m hm => ?_⟩
  · rw [sz_app, sz_app, e1]; omega
  · rw [sz_app, sz_app, e1]; omega
  · rw [prun_app, prun_app, prun_app, prun_app, (g5 f st).1, (g5 f st).2, (k5 f _).1, (k5 f _).2]
    rcases ho with rfl | rfl
    · exact ⟨rfl, rfl⟩
    · exact ⟨rfl, rfl⟩
  · rw [dpt_app _ _ _ _ (g6 m hm).1, dpt_app _ _ _ _ (g6 m hm).2, dpt_app _ _ _ _ (k6 (m + 1) (by omega)).1, dpt_app _ _ _ _ (k6 (m + 1) (by omega)).2]
    have : dpt [(o, 0, 0)] (m + 1 + 1) = some (m + 1) := by
      rcases ho with rfl | rfl
      · show (dp1 4 (m + 1 + 1)).bind _ = _
        have : dp1 4 (m + 1 + 1) = some (m + 1) := by unfold dp1; rw [if_neg (by omega), if_neg (by omega), if_pos (by omega), if_pos (by omega)]; congr 1
        rw [this]; rfl
      · show (dp1 5 (m + 1 + 1)).bind _ = _
        have : dp1 5 (m + 1 + 1) = some (m + 1) := by unfold dp1; rw [if_neg (by omega), if_neg (by omega), if_pos (by omega), if_pos (by omega)]; congr 1
        rw [this]; rfl
    exact ⟨this, this⟩
theorem tv_ok {v : Nat} (h : isV v) : okv (tv v) := by
  unfold isV at h
  unfold okv tv
  split <;> omega
theorem pCmp_g (hend : t K = 301) (hi : i ≤ K) : PG t K 12 i (pCmp t i) := by
  have ne : ∀ j, j ≤ K → t j ≠ 301 → j < K := fun j h1 h2 => by
    rcases Nat.lt_or_ge j K with h | h
    · exact h
    · have : j = K := by omega
      rw [this] at h2; exact absurd hend h2
  unfold pCmp
  by_cases h1 : isV (t i)
  · rw [if_pos (dc_t h1)]
    have i1 := ne i hi (by unfold isV at h1; omega)
    by_cases h2 : 60 ≤ t (i + 1) ∧ t (i + 1) ≤ 62
    · rw [if_pos (dc_t h2)]
      have i2 := ne (i + 1) i1 (by omega)
      by_cases h3 : isV (t (i + 2))
      · rw [if_pos (dc_t h3)]
        have i3 := ne (i + 2) i2 (by unfold isV at h3; omega)
        have w : wfo [(t (i + 1) - 60, tv (t i), tv (t (i + 2)))] := fun q hq => by
          rw [List.mem_singleton] at hq
          subst hq
          exact ⟨by show t (i + 1) - 60 ≤ 5; omega, fun _ => ⟨tv_ok h1, tv_ok h3⟩⟩
        have o2 : t (i + 1) - 60 ≤ 2 := by omega
        have sz1 : sz [(t (i + 1) - 60, tv (t i), tv (t (i + 2)))] = 3 := by show (if t (i + 1) - 60 ≤ 2 then 3 else 1) + 0 = 3; rw [if_pos o2]
        have pr : ∀ f st, prun f [(t (i + 1) - 60, tv (t i), tv (t (i + 2)))] st = cmpB (t (i + 1) - 60) (pv f (tv (t i))) (pv f (tv (t (i + 2)))) :: st := fun f st => by
          show pst f _ st = _
          unfold pst; rw [if_pos o2]
        have dp : ∀ m, m < 12 → dpt [(t (i + 1) - 60, tv (t i), tv (t (i + 2)))] m = some (m + 1) := fun m hm => by
          show (dp1 (t (i + 1) - 60) m).bind _ = _
          have : dp1 (t (i + 1) - 60) m = some (m + 1) := by unfold dp1; rw [if_pos o2, if_pos hm]
          rw [this]; rfl
        exact ⟨by show i < i + 3; omega, i3, by rw [sz1]; show 3 ≤ i + 3 - i; omega, by rw [sz1]; show 3 ≤ i + 3 - i; omega, w, w, ⟨_, fun f st => ⟨pr f st, pr f st⟩⟩, fun m hm => ⟨dp m hm, dp m hm⟩⟩
      · rw [if_neg (by rw [dc_i]; exact h3)]; exact ⟨by omega, i2⟩
    · rw [if_neg (by rw [dc_i]; exact h2)]; exact ⟨by omega, i1⟩
  · rw [if_neg (by rw [dc_i]; exact h1)]; exact ⟨Nat.le_refl i, hi⟩
theorem nts_le (hend : t K = 301) : ∀ F i, i ≤ K → i + nts t F i ≤ K := by
  intro F
  induction F with
  | zero => intro i hi; exact hi
  | succ F ih =>
    intro i hi
    unfold nts
    split
    · rename_i h
      have : i < K := by
        rcases Nat.lt_or_ge i K with z | z
        · exact z
        · have : i = K := by omega
          rw [this, hend] at h; omega
      have := ih (i + 1) this
      omega
    · exact hi
theorem pOne_g {bs : Nat → PR} (hend : t K = 301) (hb : ∀ i, i ≤ K → PG t K M i (bs i)) (hi : i ≤ K) : PG t K M i (pOne bs t i) := by
  have h1 := nts_le hend 200 i hi
  have h2 := hb (i + nts t 200 i) h1
  unfold pOne
  cases hr : bs (i + nts t 200 i) with
  | inl j => rw [hr] at h2; exact ⟨by have := h2.1; omega, h2.2⟩
  | inr r =>
    rw [hr] at h2
    obtain ⟨g1, g2, g3⟩ := h2
    exact ⟨by show i < r.1; omega, g2, (Gd.nots g3).mono (by show r.1 - (i + nts t 200 i) + nts t 200 i ≤ r.1 - i; omega) (Nat.le_refl _)⟩
theorem andL_g {bs : Nat → PR} (hend : t K = 301) (hb : ∀ i, i ≤ K → PG t K (M + 1) i (bs i)) : ∀ (F j i : Nat) (a b : List Op3), j < i → i ≤ K → Gd M (i - j) a b → PG t K M j (andL bs t F i a b) := by
  intro F
  induction F with
  | zero => intro j i a b h1 h2 h3; exact ⟨h1, h2, h3⟩
  | succ F ih =>
    intro j i a b h1 h2 h3
    unfold andL
    split
    · rename_i h
      have hi : i < K := by
        rcases Nat.lt_or_ge i K with z | z
        · exact z
        · have : i = K := by omega
          rw [this, hend] at h; omega
      have g := pOne_g hend hb (i := i + 1) hi
      cases hr : pOne bs t (i + 1) with
      | inl q => rw [hr] at g; exact ⟨by have := g.1; omega, g.2⟩
      | inr r =>
        rw [hr] at g
        obtain ⟨g1, g2, g3⟩ := g
        exact ih j r.1 _ _ (by omega) g2 ((Gd.join (Or.inl rfl) h3 g3).mono (by omega) (Nat.le_refl _))
    · exact ⟨h1, h2, h3⟩
theorem pAll_g {bs : Nat → PR} (hend : t K = 301) (hb : ∀ i, i ≤ K → PG t K (M + 1) i (bs i)) (hi : i ≤ K) : PG t K M i (pAll bs t i) := by
  have g := pOne_g hend hb hi
  unfold pAll
  cases hr : pOne bs t i with
  | inl q => rw [hr] at g; exact g
  | inr r =>
    rw [hr] at g
    obtain ⟨g1, g2, g3⟩ := g
    exact andL_g hend hb 200 i r.1 _ _ g1 g2 (g3.mono (Nat.le_refl _) (by omega))
theorem orL_g {bs : Nat → PR} (hend : t K = 301) (hb : ∀ i, i ≤ K → PG t K (M + 1 + 1) i (bs i)) : ∀ (F j i : Nat) (a b : List Op3), j < i → i ≤ K → Gd M (i - j) a b → PG t K M j (orL bs t F i a b) := by
  intro F
  induction F with
  | zero => intro j i a b h1 h2 h3; exact ⟨h1, h2, h3⟩
  | succ F ih =>
    intro j i a b h1 h2 h3
    unfold orL
    split
    · rename_i h
      have hi : i < K := by
        rcases Nat.lt_or_ge i K with z | z
        · exact z
        · have : i = K := by omega
          rw [this, hend] at h; omega
      have g := pAll_g hend hb (i := i + 1) hi
      cases hr : pAll bs t (i + 1) with
      | inl q => rw [hr] at g; exact ⟨by have := g.1; omega, g.2⟩
      | inr r =>
        rw [hr] at g
        obtain ⟨g1, g2, g3⟩ := g
        exact ih j r.1 _ _ (by omega) g2 ((Gd.join (Or.inr rfl) h3 g3).mono (by omega) (Nat.le_refl _))
    · exact ⟨h1, h2, h3⟩
theorem pCd_g {bs : Nat → PR} (hend : t K = 301) (hb : ∀ i, i ≤ K → PG t K (M + 1 + 1) i (bs i)) (hi : i ≤ K) : PG t K M i (pCd bs t i) := by
  have g := pAll_g hend hb hi
  unfold pCd
  cases hr : pAll bs t i with
  | inl q => rw [hr] at g; exact g
  | inr r =>
    rw [hr] at g
    obtain ⟨g1, g2, g3⟩ := g
    exact orL_g hend hb 200 i r.1 _ _ g1 g2 (g3.mono (Nat.le_refl _) (by omega))
theorem bas_g (hend : t K = 301) : ∀ (k M i : Nat), M + 2 * k ≤ 12 → i ≤ K → PG t K M i (bas t k i) := by
  intro k
  induction k with
  | zero =>
    intro M i hM hi
    have g := pCmp_g hend hi
    show PG t K M i (pCmp t i)
    cases hr : pCmp t i with
    | inl q => rw [hr] at g; exact g
    | inr r => rw [hr] at g; exact ⟨g.1, g.2.1, g.2.2.mono (Nat.le_refl _) (by omega)⟩
  | succ k ih =>
    intro M i hM hi
    unfold bas
    split
    · rename_i h
      have hi2 : i < K := by
        rcases Nat.lt_or_ge i K with z | z
        · exact z
        · have : i = K := by omega
          rw [this, hend] at h; omega
      have g := pCd_g (M := M) (bs := bas t k) hend (fun i hi => ih (M + 1 + 1) i (by omega) hi) (i := i + 1) hi2
      cases hr : pCd (bas t k) t (i + 1) with
      | inl q => rw [hr] at g; exact ⟨by have := g.1; omega, g.2⟩
      | inr r =>
        rw [hr] at g
        obtain ⟨g1, g2, g3⟩ := g
        unfold clo
        show PG t K M i (if t r.1 = 41 then .inr (r.1 + 1, r.2.1, r.2.2) else .inl r.1)
        split
        · rename_i h4
          have hi3 : r.1 < K := by
            rcases Nat.lt_or_ge r.1 K with z | z
            · exact z
            · have : r.1 = K := by omega
              rw [this, hend] at h4; omega
          exact ⟨by show i < r.1 + 1; omega, hi3, g3.mono (by show r.1 - (i + 1) ≤ r.1 + 1 - i; omega) (Nat.le_refl _)⟩
        · exact ⟨by omega, g2⟩
    · have g := pCmp_g hend hi
      cases hr : pCmp t i with
      | inl q => rw [hr] at g; exact g
      | inr r => rw [hr] at g; exact ⟨g.1, g.2.1, g.2.2.mono (Nat.le_refl _) (by omega)⟩
/-! where words stand -/
theorem spC_sz : ∀ (a : List Op3) (i z : Nat), spC c i z a → z = i + sz a := by
  intro a
  induction a with
  | nil => intro i z h; exact h.symm
  | cons q a ih =>
    intro i z h
    unfold spC at h
    show z = i + ((if q.1 ≤ 2 then 3 else 1) + sz a)
    split at h
    · rename_i g; rw [if_pos g]; have := ih _ _ h.2.2.2.2.2; omega
    · rename_i g; rw [if_neg g]; have := ih _ _ h.2.2; omega
theorem spC_app : ∀ (a b : List Op3) (i z z2 : Nat), spC c i z a → spC c z z2 b → spC c i z2 (a ++ b) := by
  intro a
  induction a with
  | nil => intro b i z z2 h h2; have h : i = z := h; rw [h]; exact h2
  | cons q a ih =>
    intro b i z z2 h h2
    show spC c i z2 (q :: (a ++ b))
    unfold spC at h ⊢
    split
    · rename_i g; rw [if_pos g] at h
      exact ⟨h.1, h.2.1, h.2.2.1, h.2.2.2.1, h.2.2.2.2.1, ih b _ z z2 h.2.2.2.2.2 h2⟩
    · rename_i g; rw [if_neg g] at h
      exact ⟨h.1, h.2.1, ih b _ z z2 h.2.2 h2⟩
theorem spC_eq : ∀ (a : List Op3) (i z : Nat), (∀ j, i ≤ j → j < z → c2 j = c j) → spC c i z a → spC c2 i z a := by
  intro a
  induction a with
  | nil => intro i z _ h; exact h
  | cons q a ih =>
    intro i z he h
    unfold spC at h ⊢
    split
    · rename_i g; rw [if_pos g] at h
      have := spC_le _ _ _ h.2.2.2.2.2
      exact ⟨by rw [he i (by omega) (by omega)]; exact h.1, by rw [he (i + 1) (by omega) (by omega)]; exact h.2.1, by rw [he (i + 2) (by omega) (by omega)]; exact h.2.2.1, h.2.2.2.1, h.2.2.2.2.1, ih _ _ (fun j a b => he j (by omega) b) h.2.2.2.2.2⟩
    · rename_i g; rw [if_neg g] at h
      have := spC_le _ _ _ h.2.2
      exact ⟨by rw [he i (by omega) (by omega)]; exact h.1, h.2.1, ih _ _ (fun j a b => he j (by omega) b) h.2.2⟩
theorem spC_one {o : Nat} (h : 2 < o) (h2 : o ≤ 5) (hc : c i = nI o) : spC c i (i + 1) [(o, 0, 0)] := by
  unfold spC
  rw [if_neg (by show ¬ o ≤ 2; omega)]
  exact ⟨hc, h2, rfl⟩
end L2
