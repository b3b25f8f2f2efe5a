section P22
variable {E : EE} {d : Nat} {I : IH} {Q : QT} {T : Nat → Nat} {k e g r e1 g1 r1 s o kd : Nat} {x1 x2 x3 x4 : Int32}
/-! which report is wrong -/
def onc (T : Nat → Nat) (c r : Nat) : Prop := onl T (1 + c / 256) (c % 256) r
def PL (T : Nat → Nat) (r : Nat) : Prop := ∃ c, c < 1280 ∧ onc T c r
noncomputable def liV (T : Nat → Nat) : Int32 := if dc (∃ c, c < 1280 ∧ fitP T none c) = true then (-3) else match ffW (PL T) 6 0 with | none => (-3) | some r => nI r
theorem ctF_ff {P : Nat → Prop} {L : Nat} : ∀ (n k : Nat), (∀ r, k ≤ r → r < k + n → (mem L r ↔ P r)) → (ffW P n k = none ∧ ctF L n k = k + n) ∨ (ffW P n k = some (ctF L n k)) := by
  intro n
  induction n with
  | zero => intro k h; exact Or.inl ⟨rfl, rfl⟩
  | succ n ih =>
    intro k h
    unfold ffW ctF
    by_cases p : P k
    · rw [dc_t p, if_pos rfl, if_pos ((h k (by omega) (by omega)).mpr p)]
      exact Or.inr rfl
    · rw [dc_f p, if_neg Bool.false_ne_true, if_neg (fun w => p ((h k (by omega) (by omega)).mp w))]
      rcases ih (k + 1) (fun r h1 h2 => h r (by omega) (by omega)) with ⟨i1, i2⟩ | i
      · exact Or.inl ⟨i1, by omega⟩
      · exact Or.inr i
theorem x_liar_end {L : Nat} (hL : L < 64) (hi : ∀ r, r < 6 → (mem L r ↔ PL T r)) (hn : ¬ ∃ c, c < 1280 ∧ fitP T none c) (hQ : Q (some (.int (liV T))) I) : (¬ nI L = 0 → Mt E d mJ6_numberOfTrailingZeros_0f7a4 [.int (nI L)] I (fun rv I1 => ∃ v2 : Int32, rv = some (.int v2) ∧ Q (some (.int v2)) I1)) ∧ (nI L = 0 → Q (some (.int (-3))) I) := by
  unfold liV at hQ
  rw [dc_f hn, if_neg Bool.false_ne_true] at hQ
  have hc := ctF_ff (P := PL T) (L := L) 6 0 (fun r h1 h2 => hi r (by omega))
  obtain ⟨z1, z2⟩ := ctz_eq L hL 6 (by omega) (by omega)
  rw [n0, nI_eq (by omega) (by omega)]
  refine ⟨fun q => c_ntz ⟨_, rfl, ?_⟩, fun q => ?_⟩
  · obtain ⟨y1, y2⟩ := z1 q
    rcases hc with ⟨c1, c2⟩ | c
    · omega
    · rw [c] at hQ
      rw [y1]; exact hQ
  · have z := z2 q
    rcases hc with ⟨c1, c2⟩ | c
    · rw [c1] at hQ; exact hQ
    · exfalso
      have key : ∀ n k q, ffW (PL T) n k = some q → k ≤ q ∧ q < k + n := by
        intro n
        induction n with
        | zero => intro k q h; cases h
        | succ n ih =>
          intro k q h
          unfold ffW at h
          split at h
          · cases h; omega
          · have := ih (k + 1) q h; omega
      have := key 6 0 _ c
      omega
theorem x_liar_loop {La : Int} (h : EvR I 33 34 T) (hW : WfQ T) (hL : lastOk T La) (hQ : Q (some (.int (liV T))) I) : ∀ (n kd sc c L : Nat), c + n = 1280 → c + 256 = 256 * kd + sc → 1 ≤ kd → kd ≤ 5 → sc ≤ 256 → L < 64 → (∀ r, r < 6 → (mem L r ↔ ∃ q, q < c ∧ onc T q r)) → (∀ q, q < c → ¬ fitP T none q) → J E (d + 4) mX11_liar 20 [(0, .ref (eb E + 0)), (1, .int (zI La)), (2, .int (nI L)), (3, .int (nI kd)), (4, .int (nI sc))] [] I Q := by
  have h8 : T 8 ≤ 6 := hW.1
  intro n
  induction n with
  | zero =>
    intro kd sc c L hc he k1 k2 hs hL2 hi hn
    have e1 : kd = 5 := by omega
    have e2 : sc = 256 := by omega
    have e3 : c = 1280 := by omega
    subst e1; subst e2; subst e3
    refine S_X11_liar_20 _ _ _ _ ⟨fun _ => ?_, fun q => absurd (by decide +kernel) q⟩
    exact S_X11_liar_12 _ _ _ ⟨fun _ => x_liar_end hL2 hi (fun ⟨c, c1, c2⟩ => hn c c1 c2) hQ, fun q => absurd (by decide +kernel) q⟩
  | succ n ih =>
    intro kd sc c L hc he k1 k2 hs hL2 hi hn
    have step : ∀ kd sc, c + 256 = 256 * kd + sc → 1 ≤ kd → kd ≤ 5 → sc < 256 → J E (d + 4) mX11_liar 20 [(0, .ref (eb E + 0)), (1, .int (zI La)), (2, .int (nI L)), (3, .int (nI kd)), (4, .int (nI sc))] [] I Q := by
      intro kd sc he k1 k2 hs
      obtain ⟨d1, d2⟩ := cdv he hs k1
      refine S_X11_liar_20 _ _ _ _ ?_
      rw [nI_ltI (by omega) (by omega)]
      refine ⟨fun q => by omega, fun _ => x_wrong h hW hs ⟨k1, k2⟩ hL (fun w hw => ⟨_, rfl, ?_⟩)⟩
      have hz := hw.z h8
      have hw64 := hw.1
      have hf : w = 0 ↔ fitP T none c := by
        rw [hz]
        unfold fitP
        rw [d1, d2]
        exact ⟨fun q r hr => Or.inr (q r hr), fun q r hr => (q r hr).resolve_left (by simp)⟩
      have z0 : nI w = 0 ↔ w = 0 := by rw [n0, nI_eq (by omega) (by omega)]
      rw [z0, nI_add]
      refine ⟨fun q => ?_, fun q => ?_⟩
      · obtain ⟨f1, f2⟩ := hw.one h8 q
        have hn2 : ∀ q, q < c + 1 → ¬ fitP T none q := by
          intro j hj
          by_cases e : j = c
          · subst e; exact fun z => q (hf.mpr z)
          · exact hn j (by omega)
        refine ⟨fun y => ih kd (sc + 1) (c + 1) L (by omega) (by omega) k1 k2 (by omega) hL2 (fun r hr => ?_) hn2, fun y => ?_⟩
        · rw [hi r hr]
          constructor
          · intro ⟨j, j1, j2⟩; exact ⟨j, by omega, j2⟩
          · intro ⟨j, j1, j2⟩
            by_cases e : j = c
            · subst e
              unfold onc at j2
              rw [d1, d2] at j2
              exact absurd j2 (f1 y r)
            · exact ⟨j, by omega, j2⟩
        · have ob := one_bit w hw64 q y
          obtain ⟨i, hi6, ei⟩ : ∃ i, i < 6 ∧ w = 2 ^ i := by
            rcases ob with ob | ob | ob | ob | ob | ob
            · exact ⟨0, by omega, ob⟩
            · exact ⟨1, by omega, ob⟩
            · exact ⟨2, by omega, ob⟩
            · exact ⟨3, by omega, ob⟩
            · exact ⟨4, by omega, ob⟩
            · exact ⟨5, by omega, ob⟩
          obtain ⟨o1, o2⟩ := or_add L hL2 i hi6
          rw [(one_sh i hi6).1, ← ei] at o1
          rw [o1]
          refine ih kd (sc + 1) (c + 1) _ (by omega) (by omega) k1 k2 (by omega) o2 (fun r hr => ?_) hn2
          refine Iff.trans (mem_add L hL2 i hi6 r hr) ?_
          have fr := f2 y r hr
          constructor
          · intro z
            rcases z with z | z
            · obtain ⟨j, j1, j2⟩ := (hi r hr).mp z
              exact ⟨j, by omega, j2⟩
            · refine ⟨c, by omega, ?_⟩
              unfold onc
              rw [d1, d2]
              refine fr.mp ?_
              rw [ei]; exact (mem_one i hi6 r hr).mpr z
          · intro ⟨j, j1, j2⟩
            by_cases e : j = c
            · subst e
              unfold onc at j2
              rw [d1, d2] at j2
              have := fr.mpr j2
              rw [ei] at this
              exact Or.inr ((mem_one i hi6 r hr).mp this)
            · exact Or.inl ((hi r hr).mpr ⟨j, by omega, j2⟩)
      · unfold liV at hQ
        rw [dc_t ⟨c, by omega, hf.mp q⟩, if_pos rfl] at hQ
        exact hQ
    by_cases e : sc < 256
    · exact step kd sc he k1 k2 e
    · have e2 : sc = 256 := by omega
      subst e2
      refine S_X11_liar_20 _ _ _ _ ⟨fun _ => ?_, fun q => absurd (by decide +kernel) q⟩
      rw [nI_add]
      refine S_X11_liar_12 _ _ _ ?_
      rw [nI_ltI (by omega) (by omega)]
      exact ⟨fun q => by omega, fun _ => step (kd + 1) 0 (by omega) (by omega) (by omega) (by omega)⟩
theorem fit_onc {c : Nat} (hn : ∀ q, q < 1280 → ¬ fitP T none q) (hc : c < 1280) (hr : r < T 8) : fitP T (some r) c ↔ onc T c r := by
  constructor
  · intro h
    refine ⟨hr, fun q hq => ⟨fun hw => ?_, fun e => ?_⟩⟩
    · rcases h q hq with z | z
      · cases z; rfl
      · exact absurd hw z
    · subst e
      refine Classical.byContradiction (fun hw => hn c hc (fun j hj => Or.inr ?_))
      rcases h j hj with z | z
      · cases z; exact hw
      · exact z
  · intro h q hq
    by_cases e : q = r
    · subst e; exact Or.inl rfl
    · exact Or.inr (fun hw => e ((h.2 q hq).mp hw))
theorem m_liar_loop (hW : WfQ T) (hn : ∀ q, q < 1280 → ¬ fitP T none q) : ∀ (n r : Nat) (I : IH), r + n = 6 → r ≤ T 8 → RM I T → (∀ I2, RF I I2 → Q (some (.int (match ffW (PL T) n r with | none => (-3) | some r => nI r))) I2) → J E (d + 4) mX12_liar 13 [(0, .ref (eb E + 115)), (1, .int (nI r))] [] I Q := by
  have h8 : T 8 ≤ 6 := hW.1
  have none_ge : ∀ n r, T 8 ≤ r → ffW (PL T) n r = none := by
    intro n
    induction n with
    | zero => intro r _; rfl
    | succ n ih =>
      intro r hr
      unfold ffW
      rw [dc_f (fun ⟨c, c1, c2⟩ => by have := c2.1; omega), if_neg Bool.false_ne_true]
      exact ih (r + 1) (by omega)
  intro n
  induction n with
  | zero =>
    intro r I hr h8r h hQ
    refine S_X12_liar_13 _ ?_
    rw [h.at 8 (by omega), nI_leI (by omega) (by omega)]
    exact ⟨fun _ => hQ I (RF.rf I), fun q => by omega⟩
  | succ n ih =>
    intro r I hr h8r h hQ
    refine S_X12_liar_13 _ ?_
    rw [h.at 8 (by omega), nI_leI (by omega) (by omega)]
    refine ⟨fun q => ?_, fun q => m_fit (b := some r) h hW (fun q hq => by cases hq; omega) (fun I2 h2 s2 => ⟨_, rfl, ?_⟩)⟩
    · rw [none_ge (n + 1) r q] at hQ
      exact hQ I (RF.rf I)
    · obtain ⟨z1, z2⟩ := cnW_z (fitP T (some r)) 1280 0 0
      rw [n0, nI_leI (by omega) (by omega), nI_add]
      unfold ffW at hQ
      refine ⟨fun y => ?_, fun y => ?_⟩
      · rcases z2 with ⟨j1, j2, j3⟩ | ⟨j1, w, j2, j3, j4, j5⟩
        · rw [dc_f (show ¬ PL T r from fun ⟨c, c1, c2⟩ => j3 c (by omega) (by omega) ((fit_onc hn c1 (by omega)).mpr c2)), if_neg Bool.false_ne_true] at hQ
          exact ih (r + 1) I2 (by omega) (by omega) (h.same s2.1 (by simp)) (fun I3 s3 => hQ I3 (s2.tr s3))
        · omega
      · rcases z2 with ⟨j1, j2, j3⟩ | ⟨j1, w, j2, j3, j4, j5⟩
        · omega
        · rw [dc_t (show PL T r from ⟨w, by omega, (fit_onc hn (by omega) (by omega)).mp j4⟩), if_pos rfl] at hQ
          exact hQ I2 s2
theorem p_liar (hI : Inv I) : Pair E (d + 40) mX11_liar mX12_liar [] [] I := by
  obtain ⟨T, h⟩ := id hI
  obtain ⟨a1, a2, a3, a4, a5, a6⟩ := id h
  have hW : WfQ T := a2.2.2.1
  obtain ⟨z1, z2⟩ := cnW_z (fitP T none) 1280 0 0
  refine ⟨liV T, fun I1 => I1 = I, fun Q hQ => S_X11_liar (x_last a3.1 hW (fun L hL => ⟨_, rfl, ?_⟩)), fun I1 e1 Q hQ => ?_⟩
  · refine S_X11_liar_12 _ _ _ ⟨fun q => absurd q (by decide +kernel), fun _ => x_liar_loop a3.1 hW hL (hQ I rfl) 1280 1 0 0 0 (by omega) (by omega) (by omega) (by omega) (by omega) (by omega) (fun r hr => ⟨fun z => absurd z (no_mem r), fun ⟨q, q1, _⟩ => by omega⟩) (fun q hq => by omega)⟩
  · subst e1
    refine S_X12_liar (m_fit (b := none) a1 hW (fun q hq => by cases hq) (fun I2 h2 s2 => ⟨_, rfl, ?_⟩))
    rw [n0, nI_leI (by omega) (by omega)]
    unfold liV at hQ
    refine ⟨fun y => ?_, fun y => ?_⟩
    · rcases z2 with ⟨j1, j2, j3⟩ | ⟨j1, w, j2, j3, j4, j5⟩
      · rw [dc_f (show ¬ ∃ c, c < 1280 ∧ fitP T none c from fun ⟨c, c1, c2⟩ => j3 c (by omega) (by omega) c2), if_neg Bool.false_ne_true] at hQ
        exact m_liar_loop hW (fun q hq => j3 q (by omega) (by omega)) 6 0 I2 (by omega) (by omega) (a1.same s2.1 (by simp)) (fun I3 s3 => hQ I3 ⟨T, RF.inv h (s2.tr s3)⟩)
      · omega
    · rcases z2 with ⟨j1, j2, j3⟩ | ⟨j1, w, j2, j3, j4, j5⟩
      · omega
      · rw [dc_t (show ∃ c, c < 1280 ∧ fitP T none c from ⟨w, by omega, j4⟩), if_pos rfl] at hQ
        exact hQ I2 ⟨T, RF.inv h s2⟩
end P22
