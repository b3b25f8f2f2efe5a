section M5
variable {E : EE} {d : Nat} {I : IH} {Q : QT} {T : Nat → Nat} {k : Nat}
theorem and_eq : ∀ s, s < 256 → nI s &&& (nI s - nI 1) = nI (s &&& (s - 1)) := by decide +kernel
theorem c_looksAt {x : Int32} (h : RM I T) (hW : WfE T) (ho : opn T k) (hx : x = nI k) (hk : k < T 6) (hQ : ∀ I2, RM I2 (lks T k) → Kp I I2 → Q (some (.int (nI (lksW T k)))) I2) : Mt E (d + 3) mX12_looksAt [.ref (eb E + 115), .int x] I Q := by
  subst hx
  obtain ⟨k6, p1, p2, p3, p4, p5, p6⟩ := hW.p hk
  obtain ⟨o1, o2⟩ := ho
  have hl := lt8_le T k
  have h4 : T 4 ≤ 999 := hW.2.2.2.2.1
  -- from 25 on
  have t25 : ∀ t : Nat, lt8 T k + t = lksW T k → J E (d + 3) mX12_looksAt 25 [(0, .ref (eb E + 115)), (1, .int (nI k)), (2, .int (nI (lt8 T k)))] [.int (nI t)] I Q := by
    intro t ht
    refine S_X12_looksAt_25 _ _ _ (c_asksOf h hW rfl hk ⟨_, rfl, fun I3 e3 => ?_⟩)
    rw [h 4 (by omega) (by omega) (by omega), pk_sub o2] at e3
    have r3 : RM I3 (up T 4 (T 4 - ask T k)) := by rw [e3]; exact h.st
    have K3 : Kp I I3 := by rw [e3]; exact Kp.s (by omega) (by omega)
    refine c_get k 2 rfl rfl (by omega) ⟨_, rfl, ?_⟩
    rw [r3.lk k6, up_ne (by omega), nI_add]
    refine c_puts k 2 rfl rfl (by omega) ⟨rfl, ?_⟩
    generalize e7 : stI I3 116 (38 + 6 * k + 2) (nI (T (40 + 6 * k) + 1)) = I7
    have r7 : RM I7 (up (up T 4 (T 4 - ask T k)) (40 + 6 * k) (T (40 + 6 * k) + 1)) := by
      rw [← e7, show 40 + 6 * k = 38 + 6 * k + 2 by omega]; exact r3.st
    have K7 : Kp I I7 := by rw [← e7]; exact K3.tr (Kp.s (by omega) (by omega))
    refine c_get k 1 rfl rfl (by omega) ⟨_, rfl, c_get k 1 rfl rfl (by omega) ⟨_, rfl, ?_⟩⟩
    rw [r7.sc k6, up_ne (by omega), up_ne (by omega), and_eq _ p3]
    refine c_puts k 1 rfl rfl (by omega) ⟨rfl, ?_⟩
    generalize e12 : stI I7 116 (38 + 6 * k + 1) (nI (T (39 + 6 * k) &&& (T (39 + 6 * k) - 1))) = I12
    have r12 : RM I12 (up (up (up T 4 (T 4 - ask T k)) (40 + 6 * k) (T (40 + 6 * k) + 1)) (39 + 6 * k) (T (39 + 6 * k) &&& (T (39 + 6 * k) - 1))) := by
      rw [← e12, show 39 + 6 * k = 38 + 6 * k + 1 by omega]; exact r7.st
    have K12 : Kp I I12 := by rw [← e12]; exact K7.tr (Kp.s (by omega) (by omega))
    -- the end
    have t93 : ∀ v : Nat, v = (if 2 < lt8 T k then 1 else T (42 + 6 * k)) → J E (d + 3) mX12_looksAt 93 [(2, .int (nI (lt8 T k))), (3, .int (nI t))] [.int (nI v), .int (nI 4), .int (nI k), .ref (eb E + 115)] I12 Q := by
      intro v hv
      refine S_X12_looksAt_93 _ _ _ _ _ (c_puts k 4 rfl rfl (by omega) ⟨rfl, ?_⟩)
      rw [nI_add, ht]
      refine hQ _ ?_ (K12.tr (Kp.s (by omega) (by omega)))
      unfold lks
      rw [← hv, show 42 + 6 * k = 38 + 6 * k + 4 by omega]
      exact r12.st
    rw [nI_leI (by omega) (by omega)]
    refine ⟨fun q => c_get k 4 rfl rfl (by omega) ⟨_, rfl, ?_⟩, fun q => t93 1 (by rw [if_pos (by omega)])⟩
    rw [r12.sw k6, up_ne (by omega), up_ne (by omega), up_ne (by omega)]
    exact t93 _ (by rw [if_neg (by omega)])
  refine S_X12_looksAt _ (c_lightsOf h hW rfl hk ⟨_, rfl, ?_⟩)
  rw [nI_leI (by omega) (by omega)]
  refine ⟨fun q => S_X12_looksAt_24 _ _ (t25 0 (by unfold lksW; rw [if_neg (by omega)])), fun q => c_get k 4 rfl rfl (by omega) ⟨_, rfl, ?_⟩⟩
  rw [h.sw k6, n0, nI_eq (by omega) (by omega)]
  exact ⟨fun z => S_X12_looksAt_24 _ _ (t25 0 (by unfold lksW; rw [if_neg (by omega)])), fun z => t25 5 (by unfold lksW; rw [if_pos (by omega)])⟩
theorem lksW_le (T : Nat → Nat) (k : Nat) : lksW T k ≤ 13 := by
  have := lt8_le T k
  unfold lksW; split <;> omega
theorem mee_le (T : Nat → Nat) (k : Nat) : (mee T k).2 ≤ 13 := by
  have := lksW_le T k
  unfold mee
  repeat' split
  all_goals first | exact this | exact Nat.zero_le _
theorem c_meets {x : Int32} (h : RM I T) (hW : WfE T) (hR : WfR T) (hx : x = nI k) (hk : k < T 6) (hQ : ∀ I2, RM I2 (mee T k).1 → Kp I I2 → Q (some (.int (nI (mee T k).2))) I2) : Mt E (d + 5) mX12_meets [.ref (eb E + 115), .int x] I Q := by
  subst hx
  obtain ⟨k6, p1, p2, p3, p4, p5, p6⟩ := hW.p hk
  obtain ⟨w1, w2⟩ := hW.w hk
  refine S_X12_meets _ (c_willOf h hW hR rfl hk (fun I1 h1 K1 => ⟨_, rfl, ?_⟩))
  have hwl : wil T k < 2147483648 := by
    have : ∀ n r, r + n = T 7 → wilF T k r n ≤ 2 := by
      intro n
      induction n with
      | zero => intro r _; exact Nat.zero_le _
      | succ n ih =>
        intro r hr
        unfold wilF
        split
        · exact (hR.2 r (by omega)).2.1
        · exact ih (r + 1) (by omega)
    have := this (T 7) 0 (by omega)
    unfold wil; omega
  rw [n0, nI_eq hwl (by omega), nI_eq hwl (by omega)]
  refine ⟨fun q => c_get k 3 rfl rfl (by omega) ⟨_, rfl, ?_⟩, fun q => c_isOpen h1 hW rfl hk ⟨_, rfl, ?_⟩⟩
  · rw [h1.wr k6, nI_add]
    refine ⟨fun z => ⟨26 + T (41 + 6 * k), rfl, by omega, 26 + T (41 + 6 * k), rfl, by omega, fun I8 e8 => ?_⟩, fun z => ⟨26 + T (41 + 6 * k), rfl, by omega, ?_⟩⟩
    · have e : mee T k = (T, 0) := by unfold mee; rw [if_neg q, if_neg z]
      rw [e] at hQ
      refine hQ I8 ?_ ?_
      · intro i i1 i2 i3
        rw [e8]
        by_cases ei : i = 26 + T (41 + 6 * k)
        · subst ei; rw [st_at]; exact h1 _ i1 i2 i3
        · rw [st_nj ei]; exact h1 _ i1 i2 i3
      · rw [e8]; exact K1.tr (Kp.s (by omega) (by omega))
    · rw [h1.at (26 + T (41 + 6 * k)) (by omega), nI_add]
      refine c_held ((T (26 + T (41 + 6 * k)) + 1 : Nat) : Int) 9 (nI_z _) rfl (by omega) (by omega) ⟨_, rfl, 26 + T (41 + 6 * k), rfl, by omega, fun I18 e18 => ?_⟩
      have e : mee T k = (up T (26 + T (41 + 6 * k)) (min (T (26 + T (41 + 6 * k)) + 1) 9), 0) := by unfold mee; rw [if_neg q, if_pos z]
      rw [e] at hQ
      rw [Int.toNat_natCast] at e18
      exact hQ I18 (by rw [e18]; exact h1.st) (by rw [e18]; exact K1.tr (Kp.s (by omega) (by omega)))
  · by_cases ho : opn T k
    · rw [bn_t ho]
      refine ⟨fun z => absurd z (by decide +kernel), fun _ => c_looksAt h1 hW ho rfl hk (fun I25 h25 K25 => ⟨_, rfl, ?_⟩)⟩
      have e : mee T k = (lks T k, lksW T k) := by unfold mee; rw [if_pos q, if_pos (dc_t ho)]
      rw [e] at hQ
      exact hQ I25 h25 (K1.tr K25)
    · rw [bn_f ho]
      refine ⟨fun _ => ?_, fun z => absurd rfl z⟩
      have e : mee T k = (T, 0) := by unfold mee; rw [if_pos q, if_neg (by rw [dc_f ho]; decide)]
      rw [e] at hQ
      exact hQ I1 h1 K1
/-- how one that is told, or none, is passed on -/
def koI (ko : Option Nat) : Int32 := match ko with | none => (-1) | some k => nI k
theorem c_restOne_loop (h : RM I T) (hW : WfE T) : ∀ (n k : Nat), k + n = T 6 → Q (some (.int (koI (rsF T k n)))) I → J E (d + 5) mX12_restOne 2 [(0, .ref (eb E + 115)), (1, .int (nI k))] [] I Q := by
  intro n
  have h6 : T 6 ≤ 6 := hW.1
  induction n with
  | zero =>
    intro k hn hQ
    refine S_X12_restOne_2 _ ?_
    rw [h.at 6 (by omega), nI_leI (by omega) (by omega)]
    exact ⟨fun _ => hQ, fun q => by omega⟩
  | succ n ih =>
    intro k hn hQ
    refine S_X12_restOne_2 _ ?_
    rw [h.at 6 (by omega), nI_leI (by omega) (by omega)]
    refine ⟨fun q => by omega, fun _ => c_wouldShow h hW rfl (by omega) ⟨_, rfl, ?_⟩⟩
    by_cases hs : wsh T k
    · rw [bn_t hs]
      refine ⟨fun z => absurd z (by decide +kernel), fun _ => ?_⟩
      have e : rsF T k (n + 1) = some k := by unfold rsF; rw [if_pos (dc_t hs)]
      rw [e] at hQ; exact hQ
    · rw [bn_f hs]
      refine ⟨fun _ => ?_, fun z => absurd rfl z⟩
      have e : rsF T k (n + 1) = rsF T (k + 1) n := by
        conv => lhs; unfold rsF
        rw [if_neg (by rw [dc_f hs]; decide)]
      rw [e] at hQ
      rw [nI_add]
      exact ih (k + 1) (by omega) hQ
theorem c_restOne (h : RM I T) (hW : WfE T) (hQ : Q (some (.int (koI (rst T)))) I) : Mt E (d + 5) mX12_restOne [.ref (eb E + 115)] I Q :=
  S_X12_restOne (c_restOne_loop h hW (T 6) 0 (by omega) hQ)
/-- a minute: the row, the pile; the score is more by w -/
def Gm (I I2 : IH) (w : Nat) : Prop := Same [116, 119] I I2 ∧ I2 116 5 = I 116 5 ∧ I2 116 2 = I 116 2 + nI w
theorem c_go77 {w : Nat} (h : RM I T) (hW : WfE T) (hQ : ∀ I2, RM I2 (fin_ T) → Gm I I2 w → Q (some (.int (nI w))) I2) : J E (d + 6) mX12_goesBy 77 [(0, .ref (eb E + 115))] [.int (nI w)] I Q := by
  have h0 : T 0 ≤ 16 := hW.2.1
  refine S_X12_goesBy_77 _ (c_scenesGoOn h hW (fun I1 h1 K1 => ⟨rfl, fun I2 e2 I4 e4 => ?_⟩))
  rw [h1 0 (by omega) (by omega) (by omega), sgo_0, nI_add] at e2
  refine hQ I4 ?_ ⟨?_, ?_, ?_⟩
  · rw [e4]
    refine RM.st2 ?_ (Or.inl rfl)
    rw [e2]; exact h1.st
  · rw [e4, e2]; exact (K1.1.tr (Same.st (by decide))).tr (Same.st (by decide))
  · rw [e4, st_nj (by decide), e2, st_nj (by decide)]; exact K1.2.2
  · rw [e4, st_at, e2, st_nj (by decide)]; rw [K1.2.1]
theorem c_go63 {ko : Option Nat} (h : RM I T) (hW : WfE T) (hR : WfR T) (hk : kod T ko) (hQ : ∀ I2, RM I2 (fin_ (met T ko).1) → Gm I I2 (met T ko).2 → Q (some (.int (nI (met T ko).2))) I2) : J E (d + 6) mX12_goesBy 63 [(0, .ref (eb E + 115))] [.int (koI ko)] I Q := by
  have h6 : T 6 ≤ 6 := hW.1
  refine S_X12_goesBy_63 _ ?_
  cases ko with
  | none => exact ⟨fun _ => c_go77 h hW hQ, fun q => absurd (show koI none < 0 by decide +kernel) q⟩
  | some k =>
    have hk := hk k rfl
    refine ⟨fun q => absurd q (nI_pos (by omega)), fun _ => c_meets h hW hR rfl hk (fun I1 h1 K1 => ⟨_, rfl, ?_⟩)⟩
    refine c_go77 h1 (wf_mee hW hk).1 (fun I2 h2 G2 => hQ I2 h2 ⟨K1.1.tr G2.1, G2.2.1.trans K1.2.2, ?_⟩)
    rw [G2.2.2, K1.2.1]; rfl
theorem c_go {x : Int32} {ko : Option Nat} (h : RM I T) (hW : WfE T) (hR : WfR T) (hk : kod (fgo T) ko) (hx : (∃ a : Nat, x = nI a ∧ a ≤ 6 ∧ ko = (if a = 0 then none else some (a - 1))) ∨ (x = (-1) ∧ ko = rst (fgo T))) (hQ : ∀ I2, RM I2 (fin_ (met (fgo T) ko).1) → Gm I I2 (met (fgo T) ko).2 → Q (some (.int (nI (met (fgo T) ko).2))) I2) : Mt E (d + 6) mX12_goesBy [.ref (eb E + 115), .int x] I Q := by
  have h0 : T 0 ≤ 16 := hW.2.1
  have h3 : T 3 ≤ 9 := hW.2.2.2.1
  obtain ⟨wf, wa⟩ := wf_fgo hW
  have t48 : ∀ v : Nat, (∀ I1, I1 = stI I 116 3 (nI v) → RM I1 (fgo T)) → J E (d + 6) mX12_goesBy 48 [(0, .ref (eb E + 115)), (1, .int x)] [.int (nI v), .int (nI 3), .ref (eb E + 116)] I Q := by
    intro v hv
    refine S_X12_goesBy_48 _ _ _ ⟨3, rfl, by omega, fun I1 e1 => ?_⟩
    have r1 := hv I1 e1
    have K1 : Kp I I1 := by rw [e1]; exact Kp.s (by omega) (by omega)
    have q63 : J E (d + 6) mX12_goesBy 63 [(0, .ref (eb E + 115))] [.int (koI ko)] I1 Q :=
      c_go63 r1 wf (wa.R hR) hk (fun I2 h2 G2 => hQ I2 h2 ⟨K1.1.tr G2.1, G2.2.1.trans K1.2.2, by rw [G2.2.2, K1.2.1]⟩)
    rcases hx with ⟨a, rfl, ha, hka⟩ | ⟨rfl, hka⟩
    · refine ⟨fun _ => ?_, fun q => absurd (nI_pos' (by omega)) q⟩
      have e : nI a - nI 1 = koI ko := by
        rw [hka]
        split
        · rename_i z; subst z; decide +kernel
        · rw [pk_sub (by omega)]; rfl
      rw [e]; exact q63
    · refine ⟨fun q => absurd q (by decide +kernel), fun _ => c_restOne r1 wf ⟨_, rfl, ?_⟩⟩
      rw [← hka]; exact q63
  refine S_X12_goesBy _ ?_
  rw [h 0 (by omega) (by omega) (by omega), h 3 (by omega) (by omega) (by omega), nI_leI (by omega) (by omega)]
  refine ⟨fun q => t48 _ (fun I1 e1 => ?_), fun q => ⟨10 + T 0, by rw [nI_add], by omega, ?_⟩⟩
  · have e : fgo T = T := by unfold fgo; rw [if_neg (by omega)]
    rw [e, e1]
    intro i i1 i2 i3
    by_cases ei : i = 3
    · subst ei; rw [st_at]
    · rw [st_nj ei]; exact h _ i1 i2 i3
  · rw [h.at (10 + T 0) (by omega)]
    have := hW.2.2.2.2.2.1 (T 0) (by omega)
    refine c_fogBy (T 3) (T (10 + T 0)) rfl rfl (by omega) (by omega) ⟨_, rfl, t48 _ (fun I1 e1 => ?_)⟩
    have e : fgo T = up T 3 (fogT (T 3) (T (10 + T 0))) := by unfold fgo; rw [if_pos (by omega)]
    rw [e, e1]; exact h.st
theorem c_goesA {x : Int32} {a : Nat} (h : RM I T) (hW : WfE T) (hR : WfR T) (hx : x = nI a) (ha : a ≤ T 6) (hQ : ∀ I2, RM I2 (goA T a).1 → Gm I I2 (goA T a).2 → Q (some (.int (nI (goA T a).2))) I2) : Mt E (d + 6) mX12_goesBy [.ref (eb E + 115), .int x] I Q :=
  c_go h hW hR (kod_act ha) (Or.inl ⟨a, hx, by have := hW.1; omega, rfl⟩) hQ
theorem c_goesR {x : Int32} (h : RM I T) (hW : WfE T) (hR : WfR T) (hx : x = (-1)) (hQ : ∀ I2, RM I2 (goR T).1 → Gm I I2 (goR T).2 → Q (some (.int (nI (goR T).2))) I2) : Mt E (d + 6) mX12_goesBy [.ref (eb E + 115), .int x] I Q :=
  c_go h hW hR kod_rst (Or.inr ⟨hx, rfl⟩) hQ
theorem met_le (T : Nat → Nat) (ko : Option Nat) : (met T ko).2 ≤ 13 := by
  cases ko with
  | none => exact Nat.zero_le _
  | some k => exact mee_le T k
theorem goA_le (T : Nat → Nat) (a : Nat) : (goA T a).2 ≤ 13 := met_le _ _
theorem goR_le (T : Nat → Nat) : (goR T).2 ≤ 13 := met_le _ _
end M5
