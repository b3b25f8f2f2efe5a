section M2
variable {E : EE} {d : Nat} {I : IH} {Q : QT} {T : Nat → Nat} {k : Nat}
noncomputable def bn (p : Prop) : Nat := if dc p = true then 1 else 0
theorem bn_t {p : Prop} (h : p) : bn p = 1 := by simp [bn, dc_t h]
theorem bn_f {p : Prop} (h : ¬ p) : bn p = 0 := by simp [bn, dc_f h]
theorem bn_le (p : Prop) : bn p ≤ 1 := by unfold bn; split <;> omega
theorem bn_c {p q : Prop} (h : p ↔ q) : bn p = bn q := by
  by_cases hp : p
  · rw [bn_t hp, bn_t (h.mp hp)]
  · rw [bn_f hp, bn_f (fun x => hp (h.mpr x))]
theorem n0 : (0 : Int32) = nI 0 := by decide +kernel
theorem RM.kd (h : RM I T) (hk : k < 6) : I 116 (38 + 6 * k + 0) = nI (T (38 + 6 * k)) := h _ (by omega) (by omega) (by omega)
theorem RM.sc (h : RM I T) (hk : k < 6) : I 116 (38 + 6 * k + 1) = nI (T (39 + 6 * k)) := by rw [show 38 + 6 * k + 1 = 39 + 6 * k by omega]; exact h _ (by omega) (by omega) (by omega)
theorem RM.lk (h : RM I T) (hk : k < 6) : I 116 (38 + 6 * k + 2) = nI (T (40 + 6 * k)) := by rw [show 38 + 6 * k + 2 = 40 + 6 * k by omega]; exact h _ (by omega) (by omega) (by omega)
theorem RM.wr (h : RM I T) (hk : k < 6) : I 116 (38 + 6 * k + 3) = nI (T (41 + 6 * k)) := by rw [show 38 + 6 * k + 3 = 41 + 6 * k by omega]; exact h _ (by omega) (by omega) (by omega)
theorem RM.sw (h : RM I T) (hk : k < 6) : I 116 (38 + 6 * k + 4) = nI (T (42 + 6 * k)) := by rw [show 38 + 6 * k + 4 = 42 + 6 * k by omega]; exact h _ (by omega) (by omega) (by omega)
theorem RM.at (h : RM I T) (j : Nat) (hj : 5 < j ∧ j < 322) : I 116 j = nI (T j) := h j hj.2 (by omega) (by omega)
theorem WfE.p (h : WfE T) (hk : k < T 6) : k < 6 ∧ WfP T k := ⟨by have := h.1; omega, h.2.2.2.2.2.2.2 k hk⟩
theorem WfE.w (h : WfE T) (hk : k < T 6) : T (26 + T (41 + 6 * k)) ≤ 9 ∧ T (32 + T (41 + 6 * k)) ≤ 9 := h.2.2.2.2.2.2.1 _ (h.p hk).2.2.2.2.2.1
theorem c_lightsOf {x : Int32} (h : RM I T) (hW : WfE T) (hx : x = nI k) (hk : k < T 6) (hQ : Q (some (.int (nI (lt8 T k)))) I) : Mt E (d + 1) mX12_lightsOf [.ref (eb E + 115), .int x] I Q := by
  subst hx
  obtain ⟨k6, p1, p2, p3, p4, p5, p6⟩ := hW.p hk
  obtain ⟨w1, w2⟩ := hW.w hk
  have h3 : T 3 ≤ 9 := hW.2.2.2.1
  have hp := pc8_le (T (39 + 6 * k))
  refine S_X12_lightsOf _ (c_get k 1 rfl rfl (by omega) ⟨_, rfl, ?_⟩)
  rw [h.sc k6]
  refine c_ones _ rfl p3 ⟨_, rfl, c_get k 3 rfl rfl (by omega) ⟨_, rfl, 26 + T (41 + 6 * k), ?_, by omega, ?_⟩⟩
  · rw [h.wr k6, nI_add]
  · rw [h.at (26 + T (41 + 6 * k)) (by omega), h 3 (by omega) (by omega) (by omega), pk_div (by omega) (by omega) (by omega)]
    have e : nI (pc8 (T (39 + 6 * k))) - nI (T (26 + T (41 + 6 * k))) - nI (T 3 / 3) = zI ((pc8 (T (39 + 6 * k)) : Int) - T (26 + T (41 + 6 * k)) - ((T 3 / 3 : Nat) : Int)) := by
      simp only [nI_z, zI_sub]
    rw [e, zI_0]
    refine ⟨fun q => ?_, fun q => ?_⟩ <;> rw [zI_le (by omega) (by omega) (by omega) (by omega)] at q
    · have e2 : ((pc8 (T (39 + 6 * k)) : Int) - T (26 + T (41 + 6 * k)) - ((T 3 / 3 : Nat) : Int)) = ((lt8 T k : Nat) : Int) := by unfold lt8; omega
      rw [e2, zI_m]; exact hQ
    · have e2 : lt8 T k = 0 := by unfold lt8; omega
      rw [e2] at hQ; exact hQ
theorem c_asksOf {x : Int32} (h : RM I T) (hW : WfE T) (hx : x = nI k) (hk : k < T 6) (hQ : Q (some (.int (nI (ask T k)))) I) : Mt E (d + 2) mX12_asksOf [.ref (eb E + 115), .int x] I Q := by
  subst hx
  obtain ⟨k6, p1, p2, p3, p4, p5, p6⟩ := hW.p hk
  have hl := lt8_le T k
  refine S_X12_asksOf _ (c_lightsOf h hW rfl hk ⟨_, rfl, c_get k 0 rfl rfl (by omega) ⟨_, rfl, ?_⟩⟩)
  rw [h.kd k6]
  have ke : ∀ c : Nat, c < 100 → (nI (T (38 + 6 * k)) = nI c ↔ T (38 + 6 * k) = c) := fun c hc => nI_eq (by omega) (by omega)
  have le3 : (nI (lt8 T k) ≤ nI 3 ↔ lt8 T k ≤ 3) := nI_leI (by omega) (by omega)
  refine ⟨fun q => ?_, fun q => ?_, fun q => ?_, fun q => ?_, fun q => ?_, fun q => ?_⟩
  · rw [ke 1 (by omega)] at q
    rw [nI_mul]; simpa [ask, askBy, q] using hQ
  · rw [ke 2 (by omega)] at q
    rw [nI_add]; simpa [ask, askBy, q] using hQ
  · rw [ke 3 (by omega)] at q
    rw [nI_add, nI_mul]; simpa [ask, askBy, q] using hQ
  · rw [ke 4 (by omega)] at q
    rw [le3]
    refine ⟨fun z => ?_, fun z => ?_⟩
    · have e : ask T k = lt8 T k := by simp [ask, askBy, q]; omega
      rw [e] at hQ; exact hQ
    · have e : ask T k = 3 := by simp [ask, askBy, q]; omega
      rw [e] at hQ; exact hQ
  · rw [ke 5 (by omega)] at q
    rw [le3]
    refine ⟨fun z => ?_, fun z => ?_⟩
    · have e : ask T k = lt8 T k + 1 := by simp [ask, askBy, q]; omega
      rw [e] at hQ; rw [nI_add]; exact hQ
    · have e : ask T k = 4 := by simp [ask, askBy, q]; omega
      rw [e] at hQ; exact hQ
  · obtain ⟨q1, q2, q3, q4, q5⟩ := q
    rw [ke _ (by omega)] at q1 q2 q3 q4 q5
    omega
theorem c_isOpen {x : Int32} (h : RM I T) (hW : WfE T) (hx : x = nI k) (hk : k < T 6) (hQ : Q (some (.int (nI (bn (opn T k))))) I) : Mt E (d + 3) mX12_isOpen [.ref (eb E + 115), .int x] I Q := by
  subst hx
  obtain ⟨k6, p1, p2, p3, p4, p5, p6⟩ := hW.p hk
  obtain ⟨w1, w2⟩ := hW.w hk
  have h4 : T 4 ≤ 999 := hW.2.2.2.2.1
  have ha := ask_le (T := T) (k := k) (by omega)
  refine S_X12_isOpen _ (c_get k 2 rfl rfl (by omega) ⟨_, rfl, c_get k 3 rfl rfl (by omega) ⟨_, rfl, 32 + T (41 + 6 * k), ?_, by omega, ?_⟩⟩)
  · rw [h.wr k6, nI_add]
  · rw [h.at (32 + T (41 + 6 * k)) (by omega), h.lk k6, nI_leI (by omega) (by omega)]
    refine ⟨fun q => ?_, fun q => ?_⟩
    · rw [bn_f (fun z => by have := z.1; omega)] at hQ; exact hQ
    · refine c_asksOf h hW rfl hk ⟨_, rfl, ?_⟩
      rw [h 4 (by omega) (by omega) (by omega), nI_ltI (by omega) (by omega)]
      refine ⟨fun z => ?_, fun z => ?_⟩
      · rw [bn_f (fun y => by have := y.2; omega)] at hQ; exact hQ
      · rw [bn_t ⟨by omega, by omega⟩] at hQ; exact hQ
theorem c_wouldShow {x : Int32} (h : RM I T) (hW : WfE T) (hx : x = nI k) (hk : k < T 6) (hQ : Q (some (.int (nI (bn (wsh T k))))) I) : Mt E (d + 4) mX12_wouldShow [.ref (eb E + 115), .int x] I Q := by
  subst hx
  obtain ⟨k6, p1, p2, p3, p4, p5, p6⟩ := hW.p hk
  have hl := lt8_le T k
  refine S_X12_wouldShow _ (c_get k 4 rfl rfl (by omega) ⟨_, rfl, ?_⟩)
  rw [h.sw k6, n0, nI_eq (by omega) (by omega)]
  refine ⟨fun q => ?_, fun q => c_lightsOf h hW rfl hk ⟨_, rfl, ?_⟩⟩
  · rw [bn_f (fun z => q z.1)] at hQ; exact hQ
  · rw [nI_leI (by omega) (by omega)]
    refine ⟨fun z => ?_, fun z => c_isOpen h hW rfl hk ⟨_, rfl, ?_⟩⟩
    · rw [bn_f (fun y => by have := y.2.1; omega)] at hQ; exact hQ
    · by_cases ho : opn T k
      · rw [bn_t ho]
        refine ⟨fun y => absurd y (by decide +kernel), fun y => ?_⟩
        rw [bn_t ⟨q, by omega, ho⟩] at hQ; exact hQ
      · rw [bn_f ho]
        refine ⟨fun y => ?_, fun y => absurd rfl y⟩
        rw [bn_f (fun y => ho y.2.2)] at hQ; exact hQ
/-- the row changes, but not the score, not z; the pile may -/
def Kp (I I2 : IH) : Prop := Same [116, 119] I I2 ∧ I2 116 2 = I 116 2 ∧ I2 116 5 = I 116 5
theorem Kp.rf (I : IH) : Kp I I := ⟨Same.rf _ _, rfl, rfl⟩
theorem Kp.tr {I2 I3 : IH} (h : Kp I I2) (h2 : Kp I2 I3) : Kp I I3 := ⟨h.1.tr h2.1, h2.2.1.trans h.2.1, h2.2.2.trans h.2.2⟩
theorem Kp.s {j : Nat} {v : Int32} (h2 : j ≠ 2) (h5 : j ≠ 5) : Kp I (stI I 116 j v) := ⟨Same.st (by decide), by rw [st_nj (Ne.symm h2)], by rw [st_nj (Ne.symm h5)]⟩
theorem Kp.q {j : Nat} {v : Int32} : Kp I (stI I 119 j v) := ⟨Same.st (by decide), by rw [st_ne (by decide)], by rw [st_ne (by decide)]⟩
theorem RM.q {j : Nat} {v : Int32} (h : RM I T) : RM (stI I 119 j v) T := h.same (Same.st (L := [119]) (by decide)) (by decide)
theorem sgo_ne (T : Nat → Nat) : ∀ (n i : Nat), (∀ q, q < n → i ≠ 39 + 6 * q) → sgo T n i = T i := by
  intro n
  induction n with
  | zero => intro i _; rfl
  | succ n ih =>
    intro i h
    show up (sgo T n) _ _ i = _
    rw [up_ne (h n (by omega)), ih i (fun q hq => h q (by omega))]
theorem c_scenesGoOn_loop (hW : WfE T) : ∀ (n k : Nat) (I : IH), n + k = T 6 → RM I (sgo T k) → (∀ I2, RM I2 (sgo T (T 6)) → Kp I I2 → Q none I2) → J E (d + 2) mX12_scenesGoOn 2 [(0, .ref (eb E + 115)), (1, .int (nI k))] [] I Q := by
  intro n
  have h6 : T 6 ≤ 6 := hW.1
  have h0 : T 0 ≤ 16 := hW.2.1
  induction n with
  | zero =>
    intro k I hn h hQ
    refine S_X12_scenesGoOn_2 _ ⟨fun _ => ?_, fun q => ?_⟩
    · have : k = T 6 := by omega
      subst this
      exact hQ I h (Kp.rf I)
    · rw [h.at 6 (by omega), sgo_ne T k 6 (by intro q _; omega), nI_leI (by omega) (by omega)] at q; omega
  | succ n ih =>
    intro k I hn h hQ
    obtain ⟨k6, p1, p2, p3, p4, p5, p6⟩ := hW.p (k := k) (by omega)
    refine S_X12_scenesGoOn_2 _ ⟨fun q => ?_, fun _ => ?_⟩
    · rw [h.at 6 (by omega), sgo_ne T k 6 (by intro q _; omega), nI_leI (by omega) (by omega)] at q; omega
    · refine c_get k 0 rfl rfl (by omega) ⟨_, rfl, c_get k 1 rfl rfl (by omega) ⟨_, rfl, ?_⟩⟩
      rw [h.kd k6, h.sc k6, h 0 (by omega) (by omega) (by omega), sgo_ne T k _ (by intro q _; omega), sgo_ne T k _ (by intro q _; omega), sgo_ne T k 0 (by intro q _; omega)]
      refine c_sceneBy _ _ _ rfl rfl rfl (by omega) p3 (by omega) ⟨_, rfl, c_puts k 1 rfl rfl (by omega) ⟨rfl, ?_⟩⟩
      rw [nI_add]
      refine ih (k + 1) _ (by omega) ?_ (fun I2 h2 hK => hQ I2 h2 ((Kp.s (by omega) (by omega)).tr hK))
      show RM _ (up (sgo T k) (39 + 6 * k) _)
      rw [show 39 + 6 * k = 38 + 6 * k + 1 by omega]
      exact h.st
theorem c_scenesGoOn (h : RM I T) (hW : WfE T) (hQ : ∀ I2, RM I2 (sgo T (T 6)) → Kp I I2 → Q none I2) : Mt E (d + 2) mX12_scenesGoOn [.ref (eb E + 115)] I Q :=
  S_X12_scenesGoOn (c_scenesGoOn_loop hW (T 6) 0 I (by omega) h hQ)
theorem c_fogBy {x y : Int32} (f w : Nat) (hx : x = nI f) (hy : y = nI w) (hf : f < 10) (hw : w < 16) (hQ : Q (some (.int (nI (fogT f w)))) I) : Mt E (d + 1) mX12_fogBy [.int x, .int y] I Q := by
  subst hx; subst hy
  have tail : ∀ (t : Nat), t = min (if 5 ≤ f then f - 5 else 5 - f) (w / 4) → J E (d + 1) mX12_fogBy 29 [(0, .int (nI f)), (1, .int (nI w)), (2, .int (nI (w / 4)))] [.int (nI t)] I Q := by
    intro t ht
    refine S_X12_fogBy_29 _ _ _ _ ?_
    rw [rem_eq (by omega) (by omega) (by omega)]
    have ke : ∀ c : Nat, c < 100 → (nI (w % 4) = nI c ↔ w % 4 = c) := fun c hc => nI_eq (by omega) (by omega)
    refine ⟨fun q => ?_, fun q => ?_, fun q => ?_, fun q => ?_⟩
    · rw [ke 0 (by omega)] at q
      refine c_held ((f : Int) + ((w / 4 : Nat) : Int)) 9 (by rw [nI_z, nI_z, zI_add]) rfl (by omega) (by omega) ⟨_, rfl, ?_⟩
      have e : fogT f w = min ((f : Int) + ((w / 4 : Nat) : Int)).toNat 9 := by simp [fogT, q]; omega
      rw [e] at hQ; exact hQ
    · rw [ke 1 (by omega)] at q
      refine c_held ((f : Int) - ((w / 4 : Nat) : Int)) 9 (by rw [nI_z, nI_z, zI_sub]) rfl (by omega) (by omega) ⟨_, rfl, ?_⟩
      have e : fogT f w = min ((f : Int) - ((w / 4 : Nat) : Int)).toNat 9 := by simp [fogT, q]; omega
      rw [e] at hQ; exact hQ
    · rw [ke 2 (by omega)] at q
      rw [nI_leI (by omega) (by omega)]
      refine ⟨fun z => ?_, fun z => ?_⟩
      · have e : fogT f w = f - t := by simp [fogT, q]; split at ht <;> (split <;> omega)
        rw [e] at hQ; rw [pk_sub (by split at ht <;> omega)]; exact hQ
      · have e : fogT f w = f + t := by simp [fogT, q]; split at ht <;> (split <;> omega)
        rw [e] at hQ; rw [nI_add]; exact hQ
    · obtain ⟨q0, q1, q2⟩ := q
      rw [ke _ (by omega)] at q0 q1 q2
      have e : fogT f w = f := by simp [fogT, q0, q1, q2]
      rw [e] at hQ; exact hQ
  have mid : ∀ (t : Nat), t = (if 5 ≤ f then f - 5 else 5 - f) → J E (d + 1) mX12_fogBy 18 [(0, .int (nI f)), (1, .int (nI w)), (2, .int (nI (w / 4)))] [.int (nI t)] I Q := by
    intro t ht
    refine S_X12_fogBy_18 _ _ _ _ ?_
    rw [nI_leI (by omega) (by split at ht <;> omega)]
    exact ⟨fun z => tail _ (by omega), fun z => tail _ (by omega)⟩
  refine S_X12_fogBy _ _ ?_
  rw [pk_div (by omega) (by omega) (by omega), nI_leI (by omega) (by omega)]
  refine ⟨fun z => ?_, fun z => ?_⟩
  · rw [pk_sub z]; exact mid _ (by rw [if_pos z])
  · rw [pk_sub (by omega)]; exact mid _ (by rw [if_neg z])
theorem c_knownOf {x y : Int32} (w : Nat) (h : RM I T) (hW : WfE T) (hx : x = nI w) (hw : w < 5) (hy : y = nI k) (hk : k < T 6) (hQ : Q (some (.int (nI (kn T k w)))) I) : Mt E (d + 2) mX12_knownOf [.ref (eb E + 115), .int x, .int y] I Q := by
  subst hx; subst hy
  obtain ⟨k6, p1, p2, p3, p4, p5, p6⟩ := hW.p hk
  have ke : ∀ c : Nat, c < 100 → (nI w = nI c ↔ w = c) := fun c hc => nI_eq (by omega) (by omega)
  refine S_X12_knownOf _ _ ?_
  rw [n0, ke _ (by omega), ke _ (by omega), ke _ (by omega), ke _ (by omega)]
  refine ⟨fun q0 => ⟨fun q1 => ⟨fun q2 => ⟨fun q3 => ?_, fun q3 => ?_⟩, fun q2 => ?_⟩, fun q1 => ?_⟩, fun q0 => ?_⟩
  · simpa [kn, q0, q1, q2, q3] using hQ
  · rw [h 3 (by omega) (by omega) (by omega)]; simpa [kn, q3] using hQ
  · refine c_get k 2 rfl rfl (by omega) ⟨_, rfl, ?_⟩
    rw [h.lk k6]; simpa [kn, q2] using hQ
  · refine c_lightsOf h hW rfl hk ⟨_, rfl, ?_⟩
    simpa [kn, q1] using hQ
  · rw [h 0 (by omega) (by omega) (by omega)]; simpa [kn, q0] using hQ
theorem c_ruleOf {x y : Int32} (r f : Nat) (h : RM I T) (hx : x = nI r) (hy : y = nI f) (hb : 98 + 3 * r + f < 322) (hQ : Q (some (.int (nI (T (98 + 3 * r + f))))) I) : Mt E d mX12_ruleOf [.ref (eb E + 115), .int x, .int y] I Q := by
  subst hx; subst hy
  exact S_X12_ruleOf _ _ ⟨98 + 3 * r + f, e3 98 3 r f, hb, by rw [h.at (98 + 3 * r + f) (by omega)]; exact hQ⟩
theorem c_joined {x y z : Int32} (sg a b : Nat) (hx : x = nI sg) (hy : y = nI a) (hz : z = nI b) (hs : sg < 20000) (ha : a < 2147483648) (hb : b < 2147483648) (hQ : Q (some (.int (nI (jn sg a b)))) I) : Mt E d mX12_joined [.int x, .int y, .int z] I Q := by
  subst hx; subst hy; subst hz
  have ke : ∀ c : Nat, c < 20000 → (nI sg = nI c ↔ sg = c) := fun c hc => nI_eq (by omega) (by omega)
  refine S_X12_joined _ _ _ ?_
  rw [ke _ (by omega), ke _ (by omega), ke _ (by omega), ke _ (by omega), n0, nI_leI (by omega) (by omega), nI_leI (by omega) (by omega), nI_eq (by omega) (by omega), nI_eq (by omega) (by omega), nI_eq (by omega) (by omega)]
  refine ⟨fun q => ⟨fun z => ?_, fun z => ?_⟩, fun q => ⟨fun z => ?_, fun z => ?_⟩, fun q => ⟨fun z => ?_, fun z => ?_⟩, fun q => ⟨fun z => ?_, fun z => ⟨fun w => ?_, fun w => ?_⟩⟩, fun q => ⟨fun z => ?_, fun z => ⟨fun w => ?_, fun w => ?_⟩⟩⟩
  · have e : jn sg a b = 0 := by simp [jn, q]; omega
    rw [e] at hQ; exact hQ
  · have e : jn sg a b = 1 := by simp [jn, q]; omega
    rw [e] at hQ; exact hQ
  · have e : jn sg a b = 0 := by simp [jn, q]; omega
    rw [e] at hQ; exact hQ
  · have e : jn sg a b = 1 := by simp [jn, q]; omega
    rw [e] at hQ; exact hQ
  · have e : jn sg a b = 0 := by simp [jn, q]; omega
    rw [e] at hQ; exact hQ
  · have e : jn sg a b = 1 := by simp [jn, q]; omega
    rw [e] at hQ; exact hQ
  · have e : jn sg a b = 0 := by simp [jn, q, z]
    rw [e] at hQ; exact hQ
  · have e : jn sg a b = 0 := by simp [jn, q, w]
    rw [e] at hQ; exact hQ
  · have e : jn sg a b = 1 := by simp [jn, q, z, w]
    rw [e] at hQ; exact hQ
  · obtain ⟨q0, q1, q2, q3⟩ := q
    have e : jn sg a b = 1 := by simp [jn, q0, q1, q2, q3, z]
    rw [e] at hQ; exact hQ
  · obtain ⟨q0, q1, q2, q3⟩ := q
    have e : jn sg a b = 0 := by simp [jn, q0, q1, q2, q3, z, w]
    rw [e] at hQ; exact hQ
  · obtain ⟨q0, q1, q2, q3⟩ := q
    have e : jn sg a b = 1 := by simp [jn, q0, q1, q2, q3, w]
    rw [e] at hQ; exact hQ
end M2
