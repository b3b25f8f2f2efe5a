section P19
variable {E : EE} {d : Nat} {I : IH} {Q : QT} {T : Nat → Nat} {k e g r e1 g1 r1 s o kd : Nat} {x1 x2 x3 x4 : Int32}
/-! strangers -/
def stS (kd s : Nat) : Nat → Nat
  | 0 => s
  | m + 1 => nxt kd (stS kd s m) m
theorem stS_lt (h : s < 256) : ∀ m, stS kd s m < 256 := by
  intro m
  induction m with
  | zero => exact h
  | succ m ih => exact nxt_lt m ih
def seen (T : Nat → Nat) (r now : Nat) : Nat := if T (75 + 4 * r) = 0 then pc8 now else now % 16
def soQ (T : Nat → Nat) (r now : Nat) : Prop := T (76 + 4 * r) ≤ seen T r now ∧ seen T r now ≤ T (77 + 4 * r)
theorem seen_lt (T : Nat → Nat) (r now : Nat) : seen T r now < 16 := by
  have := pc8_le now
  unfold seen
  split <;> omega
/-- report r is wrong of the stranger -/
def wr (T : Nat → Nat) (kd s r : Nat) : Prop := ¬ soQ T r (stS kd s (T (74 + 4 * r)))
/-- what is found wrong: all, or two at least -/
def FW (T : Nat → Nat) (kd s w : Nat) : Prop := w < 64 ∧ ((∀ r, r < 6 → (mem w r ↔ r < T 8 ∧ wr T kd s r)) ∨ (¬ nI w &&& (nI w - nI 1) = 0 ∧ ∀ r, r < 6 → mem w r → r < T 8 ∧ wr T kd s r))
theorem two_0 : ∀ w, w < 64 → ¬ nI w &&& (nI w - nI 1) = 0 → w ≠ 0 := by decide +kernel
theorem one_bit : ∀ w, w < 64 → w ≠ 0 → nI w &&& (nI w - nI 1) = 0 → w = 2 ^ 0 ∨ w = 2 ^ 1 ∨ w = 2 ^ 2 ∨ w = 2 ^ 3 ∨ w = 2 ^ 4 ∨ w = 2 ^ 5 := by decide +kernel
theorem no_mem (r : Nat) : ¬ mem 0 r := by
  unfold mem
  rw [Nat.zero_div]; omega
theorem FW.z {w : Nat} (h : FW T kd s w) (h8 : T 8 ≤ 6) : w = 0 ↔ ∀ r, r < T 8 → ¬ wr T kd s r := by
  obtain ⟨h1, h2⟩ := h
  rcases h2 with h2 | ⟨h2, h3⟩
  · refine ⟨fun q r hr hw => ?_, fun q => set_ext h1 (by omega) (fun j hj => ⟨fun z => absurd ((h2 j hj).mp z).2 (q j ((h2 j hj).mp z).1), fun z => absurd z (no_mem j)⟩)⟩
    subst q
    exact no_mem r ((h2 r (by omega)).mpr ⟨hr, hw⟩)
  · refine ⟨fun q => absurd q (two_0 w h1 h2), fun q => ?_⟩
    obtain ⟨j, j1, j2⟩ := ex_mem h1 (two_0 w h1 h2)
    exact absurd (h3 j j1 j2).2 (q j (h3 j j1 j2).1)
/-- just one report is wrong of it -/
def onl (T : Nat → Nat) (kd s r : Nat) : Prop := r < T 8 ∧ ∀ q, q < T 8 → (wr T kd s q ↔ q = r)
theorem FW.one {w : Nat} (h : FW T kd s w) (h8 : T 8 ≤ 6) (h0 : w ≠ 0) : (¬ nI w &&& (nI w - nI 1) = 0 → ∀ r, ¬ onl T kd s r) ∧ (nI w &&& (nI w - nI 1) = 0 → ∀ r, r < 6 → (mem w r ↔ onl T kd s r)) := by
  obtain ⟨h1, h2⟩ := h
  have sub : ∀ r, r < 6 → mem w r → r < T 8 ∧ wr T kd s r := by
    rcases h2 with h2 | h2
    · exact fun r hr hm => (h2 r hr).mp hm
    · exact h2.2
  refine ⟨fun q r ho => ?_, fun q r hr => ?_⟩
  · have e : w = 2 ^ r := by
      refine set_ext h1 (one_sh r (by have := ho.1; omega)).2.1 (fun j hj => ⟨fun z => ?_, fun z => ?_⟩)
      · exact (mem_one r (by have := ho.1; omega) j hj).mpr ((ho.2 j (sub j hj z).1).mp (sub j hj z).2)
      · have ej := (mem_one r (by have := ho.1; omega) j hj).mp z
        subst ej
        obtain ⟨i, i1, i2⟩ := ex_mem h1 h0
        have ei := (ho.2 i (sub i i1 i2).1).mp (sub i i1 i2).2
        subst ei
        exact i2
    have hr6 : r < 6 := by have := ho.1; omega
    rcases (show r = 0 ∨ r = 1 ∨ r = 2 ∨ r = 3 ∨ r = 4 ∨ r = 5 by omega) with rfl | rfl | rfl | rfl | rfl | rfl <;> (subst e; exact q (by decide +kernel))
  · rcases h2 with h2 | h2
    · have ob := one_bit w h1 h0 q
      obtain ⟨i, hi, ei⟩ : ∃ i, i < 6 ∧ w = 2 ^ i := by
        rcases ob with ob | ob | ob | ob | ob | ob
        · exact ⟨0, by omega, ob⟩
        · exact ⟨1, by omega, ob⟩
        · exact ⟨2, by omega, ob⟩
        · exact ⟨3, by omega, ob⟩
        · exact ⟨4, by omega, ob⟩
        · exact ⟨5, by omega, ob⟩
      refine ⟨fun z => ⟨(sub r hr z).1, fun j hj => ?_⟩, fun z => (h2 r hr).mpr ⟨z.1, (z.2 r z.1).mpr rfl⟩⟩
      have m1 : r = i := by rw [ei] at z; exact (mem_one i hi r hr).mp z
      constructor
      · intro hw
        have m2 : mem w j := (h2 j (by omega)).mpr ⟨hj, hw⟩
        rw [ei] at m2
        rw [m1]; exact (mem_one i hi j (by omega)).mp m2
      · intro ej
        subst ej
        exact (sub j hr z).2
    · exact absurd q h2.1
/-! the class -/
theorem x_isSo26 {t : Nat} (h : EvR I 33 34 T) (h8 : T 8 ≤ 6) (hr : r < T 8) (hq : T (76 + 4 * r) ≤ 15 ∧ T (77 + 4 * r) ≤ 15) (ht : t = seen T r k) (hQ : Q (some (.int (nI (bn (soQ T r k))))) I) : J E (d + 1) mX1_isSo 26 [(0, .ref (eb E + 33)), (3, .int (nI r * nI 4))] [.int (nI t)] I Q := by
  have hs := seen_lt T r k
  have v15 : ∀ i, i < 4 * T 8 → I 41 i = nI (T (74 + i)) := h.2.2.2.2.2.2.2.2.2.2.2.2.2.2
  refine S_X1_isSo_26 isEv_ev _ _ ⟨4 * r + 2, by rw [nI_mul, nI_add]; congr 1; omega, by omega, ?_⟩
  rw [show I (34 + 7) (4 * r + 2) = nI (T (76 + 4 * r)) by rw [show (34 + 7) = 41 from rfl, v15 _ (by omega)]; congr 2; omega, ht, nI_ltI (by omega) (by omega)]
  refine ⟨fun q => ?_, fun q => ⟨4 * r + 3, by rw [nI_mul, nI_add]; congr 1; omega, by omega, ?_⟩⟩
  · rw [bn_f (show ¬ soQ T r k from fun w => by have := w.1; omega)] at hQ; exact hQ
  · rw [show I (34 + 7) (4 * r + 3) = nI (T (77 + 4 * r)) by rw [show (34 + 7) = 41 from rfl, v15 _ (by omega)]; congr 2; omega, nI_ltI (by omega) (by omega)]
    refine ⟨fun z => ?_, fun z => ?_⟩
    · rw [bn_f (show ¬ soQ T r k from fun w => by have := w.2; omega)] at hQ; exact hQ
    · rw [bn_t (show soQ T r k from ⟨by omega, by omega⟩)] at hQ; exact hQ
theorem x_isSo (h : EvR I 33 34 T) (hW : WfQ T) (hr : r < T 8) (hk : k < 256) (hQ : Q (some (.int (nI (bn (soQ T r k))))) I) : Mt E (d + 1) mX1_isSo [.ref (eb E + 33), .int (nI r), .int (nI k)] I Q := by
  obtain ⟨h8, hq⟩ := hW
  obtain ⟨q1, q2, q3, q4⟩ := hq r hr
  have v15 : ∀ i, i < 4 * T 8 → I 41 i = nI (T (74 + i)) := h.2.2.2.2.2.2.2.2.2.2.2.2.2.2
  refine S_X1_isSo isEv_ev _ _ ⟨4 * r + 1, by rw [nI_mul, nI_add]; congr 1; omega, by omega, ?_⟩
  rw [show I (34 + 7) (4 * r + 1) = nI (T (75 + 4 * r)) by rw [show (34 + 7) = 41 from rfl, v15 _ (by omega)]; congr 2; omega, n0, nI_eq (by omega) (by omega)]
  refine ⟨fun q => ?_, fun q => c_bitCount k rfl hk ⟨_, rfl, ?_⟩⟩
  · rw [rem_eq (by omega) (by omega) (by omega)]
    exact x_isSo26 h h8 hr ⟨by omega, q4⟩ (by unfold seen; rw [if_neg q]) hQ
  · exact x_isSo26 h h8 hr ⟨by omega, q4⟩ (by unfold seen; rw [if_pos q]) hQ
end P19
