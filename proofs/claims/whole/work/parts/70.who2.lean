section P20
variable {E : EE} {d : Nat} {I : IH} {Q : QT} {T : Nat → Nat} {k e g r e1 g1 r1 s o kd : Nat} {x1 x2 x3 x4 : Int32}
def lastOk (T : Nat → Nat) (L : Int) : Prop := -1 ≤ L ∧ L ≤ 15 ∧ ∀ r, r < T 8 → (T (74 + 4 * r) : Int) ≤ L
theorem x_last_loop (h : EvR I 33 34 T) (hW : WfQ T) (hQ : ∀ L : Int, lastOk T L → Q (some (.int (zI L))) I) : ∀ (n r : Nat) (L : Int), r + n = T 8 → -1 ≤ L → L ≤ 15 → (∀ q, q < r → (T (74 + 4 * q) : Int) ≤ L) → J E (d + 1) mX1_lastReported 4 [(0, .ref (eb E + 33)), (1, .int (zI L)), (2, .int (nI r))] [] I Q := by
  have v7 : I 33 10 = nI (T 8) := h.2.2.2.2.2.2.1
  have v15 : ∀ i, i < 4 * T 8 → I 41 i = nI (T (74 + i)) := h.2.2.2.2.2.2.2.2.2.2.2.2.2.2
  have h8 : T 8 ≤ 6 := hW.1
  intro n
  induction n with
  | zero =>
    intro r L hr l1 l2 l3
    refine S_X1_lastReported_4 isEv_ev _ _ ?_
    rw [v7, nI_leI (by omega) (by omega)]
    exact ⟨fun _ => hQ L ⟨l1, l2, fun q hq => l3 q (by omega)⟩, fun q => by omega⟩
  | succ n ih =>
    intro r L hr l1 l2 l3
    have q1 := (hW.2 r (by omega)).1
    refine S_X1_lastReported_4 isEv_ev _ _ ?_
    rw [v7, nI_leI (by omega) (by omega)]
    refine ⟨fun q => by omega, fun _ => ⟨4 * r, by rw [nI_mul]; congr 1; omega, by omega, ?_⟩⟩
    rw [show I (34 + 7) (4 * r) = nI (T (74 + 4 * r)) from v15 _ (by omega), nI_add, nI_z (T (74 + 4 * r))]
    by_cases z : L < (T (74 + 4 * r) : Int)
    · rw [if_pos ((zI_lt (by omega) (by omega) (by omega) (by omega)).mpr z)]
      refine ih (r + 1) _ (by omega) (by omega) (by omega) (fun q hq => ?_)
      by_cases e : q = r
      · subst e; exact Int.le_refl _
      · have := l3 q (by omega); omega
    · rw [if_neg (fun w => z ((zI_lt (by omega) (by omega) (by omega) (by omega)).mp w))]
      refine ih (r + 1) _ (by omega) l1 l2 (fun q hq => ?_)
      by_cases e : q = r
      · subst e; omega
      · exact l3 q (by omega)
theorem x_last (h : EvR I 33 34 T) (hW : WfQ T) (hQ : ∀ L : Int, lastOk T L → Q (some (.int (zI L))) I) : Mt E (d + 1) mX1_lastReported [.ref (eb E + 33)] I Q := by
  refine S_X1_lastReported isEv_ev ?_
  rw [zI_neg1]
  exact x_last_loop h hW hQ (T 8) 0 (-1) (by omega) (by omega) (by omega) (fun q hq => by omega)
theorem x_wrong36 {L : Int} {m : Nat} (h : EvR I 33 34 T) (hW : WfQ T) (hs : s < 256) (hk : 1 ≤ kd ∧ kd ≤ 5) (hm : m ≤ 16) : ∀ (n r w : Nat), r + n = T 8 → w < 64 → (∀ q, q < 6 → (mem w q ↔ q < T 8 ∧ (T (74 + 4 * q) < m ∨ (T (74 + 4 * q) = m ∧ q < r)) ∧ wr T kd s q)) → (∀ w, w < 64 → (∀ q, q < 6 → (mem w q ↔ q < T 8 ∧ T (74 + 4 * q) < m + 1 ∧ wr T kd s q)) → J E (d + 3) mX1_wrongReports 17 [(0, .ref (eb E + 33)), (3, .int (zI L)), (4, .ref (eb E + (21 + kd))), (5, .int (nI (stS kd s (m + 1)))), (6, .int (nI w)), (7, .int (nI (m + 1)))] [] I Q) → J E (d + 3) mX1_wrongReports 36 [(0, .ref (eb E + 33)), (3, .int (zI L)), (4, .ref (eb E + (21 + kd))), (5, .int (nI (stS kd s m))), (6, .int (nI w)), (7, .int (nI m)), (8, .int (nI r))] [] I Q := by
  have v7 : I 33 10 = nI (T 8) := h.2.2.2.2.2.2.1
  have v15 : ∀ i, i < 4 * T 8 → I 41 i = nI (T (74 + i)) := h.2.2.2.2.2.2.2.2.2.2.2.2.2.2
  have h8 : T 8 ≤ 6 := hW.1
  intro n
  induction n with
  | zero =>
    intro r w hr hw hi hJ
    refine S_X1_wrongReports_36 isEv_ev _ (by omega) _ _ _ _ ?_
    rw [v7, nI_leI (by omega) (by omega)]
    refine ⟨fun _ => c_next (stS kd s m) m hk rfl rfl (stS_lt hs m) (by omega) ⟨_, rfl, ?_⟩, fun q => by omega⟩
    rw [nI_add]
    refine hJ w hw (fun q hq => ?_)
    rw [hi q hq]
    constructor
    · intro ⟨z1, z2, z3⟩; exact ⟨z1, by omega, z3⟩
    · intro ⟨z1, z2, z3⟩; exact ⟨z1, by omega, z3⟩
  | succ n ih =>
    intro r w hr hw hi hJ
    obtain ⟨q1, q2, q3, q4⟩ := hW.2 r (by omega)
    obtain ⟨o1, o2⟩ := or_add w hw r (by omega)
    refine S_X1_wrongReports_36 isEv_ev _ (by omega) _ _ _ _ ?_
    rw [v7, nI_leI (by omega) (by omega)]
    refine ⟨fun q => by omega, fun _ => ⟨4 * r, by rw [nI_mul]; congr 1; omega, by omega, ?_⟩⟩
    rw [show I (34 + 7) (4 * r) = nI (T (74 + 4 * r)) from v15 _ (by omega), nI_eq (by omega) (by omega), nI_add r, o1]
    refine ⟨fun z => ih (r + 1) w (by omega) hw (fun q hq => ?_) hJ, fun z => x_isSo h hW (by omega) (stS_lt hs m) ⟨_, rfl, bk2 (fun p => ih (r + 1) w (by omega) hw (fun q hq => ?_) hJ) (fun p => ih (r + 1) _ (by omega) o2 (fun q hq => ?_) hJ)⟩⟩
    · rw [hi q hq]
      constructor
      · intro ⟨z1, z2, z3⟩; exact ⟨z1, by omega, z3⟩
      · intro ⟨z1, z2, z3⟩
        refine ⟨z1, ?_, z3⟩
        by_cases e : q = r
        · subst e; omega
        · omega
    · rw [hi q hq]
      constructor
      · intro ⟨z1, z2, z3⟩; exact ⟨z1, by omega, z3⟩
      · intro ⟨z1, z2, z3⟩
        refine ⟨z1, ?_, z3⟩
        by_cases e : q = r
        · subst e
          unfold wr at z3
          rw [z] at z3
          exact absurd p z3
        · omega
    · refine Iff.trans (mem_add w hw r (by omega) q hq) ?_
      constructor
      · intro zz
        rcases zz with zz | zz
        · obtain ⟨z1, z2, z3⟩ := (hi q hq).mp zz
          exact ⟨z1, by omega, z3⟩
        · subst zz
          exact ⟨by omega, Or.inr ⟨z, by omega⟩, by unfold wr; rw [z]; exact p⟩
      · intro ⟨z1, z2, z3⟩
        by_cases e : q = r
        · exact Or.inr e
        · exact Or.inl ((hi q hq).mpr ⟨z1, by omega, z3⟩)
theorem x_wrong17 {L : Int} (h : EvR I 33 34 T) (hW : WfQ T) (hs : s < 256) (hk : 1 ≤ kd ∧ kd ≤ 5) (hL : lastOk T L) (hQ : ∀ w, FW T kd s w → Q (some (.int (nI w))) I) : ∀ (n m w : Nat), m + n = 17 → w < 64 → (∀ q, q < 6 → (mem w q ↔ q < T 8 ∧ T (74 + 4 * q) < m ∧ wr T kd s q)) → J E (d + 3) mX1_wrongReports 17 [(0, .ref (eb E + 33)), (3, .int (zI L)), (4, .ref (eb E + (21 + kd))), (5, .int (nI (stS kd s m))), (6, .int (nI w)), (7, .int (nI m))] [] I Q := by
  obtain ⟨l1, l2, l3⟩ := hL
  intro n
  induction n with
  | zero =>
    intro m w hm hw hi
    refine S_X1_wrongReports_17 isEv_ev _ (by omega) _ _ _ ?_
    rw [nI_z m, zI_lt (by omega) (by omega) (by omega) (by omega)]
    refine ⟨fun _ => hQ w ⟨hw, Or.inl (fun q hq => ?_)⟩, fun q => by omega⟩
    rw [hi q hq]
    constructor
    · intro ⟨z1, z2, z3⟩; exact ⟨z1, z3⟩
    · intro ⟨z1, z3⟩; exact ⟨z1, by have := l3 q z1; omega, z3⟩
  | succ n ih =>
    intro m w hm hw hi
    refine S_X1_wrongReports_17 isEv_ev _ (by omega) _ _ _ ?_
    rw [nI_z m, zI_lt (by omega) (by omega) (by omega) (by omega)]
    refine ⟨fun zz => hQ w ⟨hw, Or.inl (fun q hq => ?_)⟩, fun q => ⟨fun z => hQ w ⟨hw, Or.inr ⟨z, fun q hq hm2 => ?_⟩⟩, fun z => ?_⟩⟩
    · rw [hi q hq]
      constructor
      · intro ⟨z1, z2, z3⟩; exact ⟨z1, z3⟩
      · intro ⟨z1, z3⟩; exact ⟨z1, by have := l3 q z1; omega, z3⟩
    · obtain ⟨z1, z2, z3⟩ := (hi q hq).mp hm2
      exact ⟨z1, z3⟩
    · rw [zI_m]
      refine x_wrong36 h hW hs hk (by omega) (T 8) 0 w (by omega) hw (fun q hq => ?_) (fun w2 hw2 hi2 => ih (m + 1) w2 (by omega) hw2 hi2)
      rw [hi q hq]
      constructor
      · intro ⟨z1, z2, z3⟩; exact ⟨z1, by omega, z3⟩
      · intro ⟨z1, z2, z3⟩; exact ⟨z1, by omega, z3⟩
theorem x_wrong {L : Int} (h : EvR I 33 34 T) (hW : WfQ T) (hs : s < 256) (hk : 1 ≤ kd ∧ kd ≤ 5) (hL : lastOk T L) (hQ : ∀ w, FW T kd s w → Q (some (.int (nI w))) I) : Mt E (d + 3) mX1_wrongReports [.ref (eb E + 33), .int (nI kd), .int (nI s), .int (zI L)] I Q := by
  refine S_X1_wrongReports isEv_ev _ _ _ ⟨kd, rfl, by omega, ?_⟩
  refine x_wrong17 h hW hs hk hL hQ 17 0 0 (by omega) (by omega) (fun q hq => ⟨fun z => absurd z (no_mem q), fun z => by have := z.2.1; omega⟩)
/-! all strangers, one behind the other -/
def fitP (T : Nat → Nat) (b : Option Nat) (c : Nat) : Prop := ∀ r, r < T 8 → b = some r ∨ ¬ wr T (1 + c / 256) (c % 256) r
noncomputable def cnW (P : Nat → Prop) : Nat → Nat → Nat → Nat
  | 0, _, a => a
  | n + 1, c, a => cnW P n (c + 1) (if dc (P c) = true then a + 1 else a)
noncomputable def ffW (P : Nat → Prop) : Nat → Nat → Option Nat
  | 0, _ => none
  | n + 1, c => if dc (P c) = true then some c else ffW P n (c + 1)
noncomputable def whV (P : Nat → Prop) (x n c a : Nat) : Int32 := if x = 0 then nI (cnW P n c a) else match ffW P n c with | none => (-3) | some q => if x = 1 then nI (1 + q / 256) else nI (q % 256)
theorem cdv {c kd sc : Nat} (h : c + 256 = 256 * kd + sc) (hs : sc < 256) (hk : 1 ≤ kd) : 1 + c / 256 = kd ∧ c % 256 = sc := by omega
theorem x_who_loop {L : Int} {x : Nat} (h : EvR I 33 34 T) (hW : WfQ T) (hL : lastOk T L) (hx : x ≤ 2) : ∀ (n kd sc c a : Nat), c + n = 1280 → c + 256 = 256 * kd + sc → 1 ≤ kd → kd ≤ 5 → sc ≤ 256 → Q (some (.int (whV (fitP T none) x n c a))) I → J E (d + 4) mX11_who 32 [(0, .ref (eb E + 0)), (1, .int (nI x)), (2, .int (zI L)), (3, .int (nI a)), (4, .int (nI kd)), (5, .int (nI sc))] [] I Q := by
  have h8 : T 8 ≤ 6 := hW.1
  intro n
  induction n with
  | zero =>
    intro kd sc c a hc he k1 k2 hs hQ
    have e1 : kd = 5 := by omega
    have e2 : sc = 256 := by omega
    subst e1; subst e2
    refine S_X11_who_32 _ _ _ _ _ ⟨fun _ => ?_, fun q => absurd (by decide +kernel) q⟩
    refine S_X11_who_23 _ _ _ _ ⟨fun _ => ?_, fun q => absurd (by decide +kernel) q⟩
    unfold whV at hQ
    rw [n0, nI_eq (by omega) (by omega)]
    refine ⟨fun q => ?_, fun q => ?_⟩
    · rw [if_neg q] at hQ; exact hQ
    · rw [if_pos q] at hQ; exact hQ
  | succ n ih =>
    intro kd sc c a hc he k1 k2 hs hQ
    have step : ∀ kd sc, c + 256 = 256 * kd + sc → 1 ≤ kd → kd ≤ 5 → sc < 256 → J E (d + 4) mX11_who 32 [(0, .ref (eb E + 0)), (1, .int (nI x)), (2, .int (zI L)), (3, .int (nI a)), (4, .int (nI kd)), (5, .int (nI sc))] [] I Q := by
      intro kd sc he k1 k2 hs
      obtain ⟨d1, d2⟩ := cdv he hs k1
      refine S_X11_who_32 _ _ _ _ _ ?_
      rw [nI_ltI (by omega) (by omega)]
      refine ⟨fun q => by omega, fun _ => x_wrong h hW hs ⟨k1, k2⟩ hL (fun w hw => ⟨_, rfl, ?_⟩)⟩
      have hz := hw.z h8
      have hw64 := hw.1
      have hf : w = 0 ↔ fitP T none c := by
        rw [hz]
        unfold fitP
        rw [d1, d2]
        exact ⟨fun q r hr => Or.inr (q r hr), fun q r hr => (q r hr).resolve_left (by simp)⟩
      rw [n0, nI_eq (by omega) (by omega), nI_eq (by omega) (by omega), nI_eq (by omega) (by omega), hf, nI_add a, nI_add sc]
      refine ⟨fun q => ?_, fun q => ⟨fun x0 => ?_, fun x0 => ⟨fun y1 => ?_, fun y1 => ?_⟩⟩⟩
      · refine ih kd (sc + 1) (c + 1) a (by omega) (by omega) k1 k2 (by omega) ?_
        unfold whV at hQ ⊢
        unfold cnW ffW at hQ
        rw [dc_f q, if_neg Bool.false_ne_true, if_neg Bool.false_ne_true] at hQ
        exact hQ
      · refine ih kd (sc + 1) (c + 1) (a + 1) (by omega) (by omega) k1 k2 (by omega) ?_
        unfold whV at hQ ⊢
        unfold cnW ffW at hQ
        rw [dc_t q, if_pos rfl, if_pos rfl] at hQ
        rw [if_pos x0] at hQ ⊢
        exact hQ
      · unfold whV at hQ
        unfold ffW at hQ
        rw [if_neg x0, dc_t q, if_pos rfl] at hQ
        have hQ : Q (some (.int (if x = 1 then nI (1 + c / 256) else nI (c % 256)))) I := hQ
        rw [if_neg y1, d2] at hQ
        exact hQ
      · unfold whV at hQ
        unfold ffW at hQ
        rw [if_neg x0, dc_t q, if_pos rfl] at hQ
        have hQ : Q (some (.int (if x = 1 then nI (1 + c / 256) else nI (c % 256)))) I := hQ
        rw [if_pos y1, d1] at hQ
        exact hQ
    by_cases e : sc < 256
    · exact step kd sc he k1 k2 e
    · have e2 : sc = 256 := by omega
      subst e2
      refine S_X11_who_32 _ _ _ _ _ ⟨fun _ => ?_, fun q => absurd (by decide +kernel) q⟩
      rw [nI_add]
      refine S_X11_who_23 _ _ _ _ ?_
      rw [nI_ltI (by omega) (by omega)]
      exact ⟨fun q => by omega, fun _ => step (kd + 1) 0 (by omega) (by omega) (by omega) (by omega)⟩
end P20
