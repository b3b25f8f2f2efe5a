section P9
variable {E : EE} {d : Nat} {I : IH} {Q : QT} {T : Nat → Nat} {k e g r : Nat} {x1 x2 x3 x4 : Int32}
/-- what an array becomes where a stretch of it is filled -/
def fillF (f : Nat → Int32) (a b : Nat) (x : Int32) : Nat → Int32 := fun j => if a ≤ j ∧ j < b then x else f j
theorem fillF_0 (f : Nat → Int32) (a : Nat) (x : Int32) : fillF f a a x = f := by
  funext j; unfold fillF; rw [if_neg (by omega)]
theorem fillF_s (f : Nat → Int32) {a k : Nat} (x : Int32) (h : a ≤ k) : upd (fillF f a k x) k x = fillF f a (k + 1) x := by
  funext j
  unfold upd fillF
  by_cases h1 : j = k
  · rw [if_pos h1, if_pos (by omega)]
  · rw [if_neg h1]
    by_cases h2 : a ≤ j ∧ j < k
    · rw [if_pos h2, if_pos (by omega)]
    · rw [if_neg h2, if_neg (by omega)]
theorem sA_st {o j : Nat} {f : Nat → Int32} {v : Int32} : stI (stA I o f) o j v = stA I o (upd f j v) := by
  funext a
  by_cases ha : a = o
  · subst ha; rw [st_eq, sA_eq, sA_eq]
  · rw [st_ne ha, sA_ne ha, sA_ne ha]
theorem sA_self {o : Nat} : stA I o (I o) = I := by
  funext a
  by_cases ha : a = o
  · subst ha; rw [sA_eq]
  · rw [sA_ne ha]
theorem c_fillR_loop {x : Int32} {o n a b : Nat} (hs : shape[o]? = some (.inr (0, n, []))) (hn : n < 1000) (hb : b ≤ n) (hQ : Q none (stA I o (fillF (I o) a b x))) : ∀ (m k : Nat) (I2 : IH), k + m = b → a ≤ k → I2 = stA I o (fillF (I o) a k x) → J E (d + 1) mJ7_fill_fda19 10 [(0, .ref (eb E + o)), (2, .int (nI b)), (3, .int x), (4, .int (nI k))] [] I2 Q := by
  intro m
  induction m with
  | zero =>
    intro k I2 hk ha e2
    refine S_J7_fill_fda19_10 hs (by omega) _ _ _ ?_
    rw [nI_leI (by omega) (by omega)]
    refine ⟨fun _ => ?_, fun q => by omega⟩
    rw [e2, show k = b by omega]; exact hQ
  | succ m ih =>
    intro k I2 hk ha e2
    refine S_J7_fill_fda19_10 hs (by omega) _ _ _ ?_
    rw [nI_leI (by omega) (by omega)]
    refine ⟨fun q => by omega, fun _ => ⟨k, rfl, by omega, fun I1 e1 => ?_⟩⟩
    rw [nI_add]
    refine ih (k + 1) I1 (by omega) (by omega) ?_
    rw [e1, e2, sA_st, fillF_s _ _ ha]
theorem c_fillR {x y z : Int32} {o n a b : Nat} (hs : shape[o]? = some (.inr (0, n, []))) (hn : n < 1000) (hy : y = nI a) (hz : z = nI b) (hab : a ≤ b) (hb : b ≤ n) (hQ : Q none (stA I o (fillF (I o) a b x))) : Mt E (d + 2) mJ7_fill_fda19 [.ref (eb E + o), .int y, .int z, .int x] I Q := by
  subst hy; subst hz
  refine S_J7_fill_fda19 hs (by omega) _ _ _ (S_J7_rangeCheck_23922 _ _ _ ?_)
  rw [nI_leI (by omega) (by omega), nI_leI (by omega) (by omega)]
  refine ⟨fun _ => ⟨fun _ => ⟨fun _ => ⟨rfl, ?_⟩, fun q => q hb⟩, fun q => q (nI_pos' (by omega))⟩, fun q => q hab⟩
  exact c_fillR_loop hs hn hb hQ (b - a) a I (by omega) (by omega) (by rw [fillF_0, sA_self])
theorem m_sheet_loop {s : Nat} (hs : s < 4) (hQ : Q (some (.int (nI 1))) (stA I 131 (fillF (I 131) (40 * s) (40 * s + 40) (nI 0)))) : ∀ (m k : Nat) (I2 : IH), k + m = 40 → I2 = stA I 131 (fillF (I 131) (40 * s) (40 * s + k) (nI 0)) → J E (d + 1) mX12_sheet 64 [(0, .ref (eb E + 115)), (1, .int (nI s)), (4, .int (nI k))] [] I2 Q := by
  intro m
  induction m with
  | zero =>
    intro k I2 hk e2
    refine S_X12_sheet_64 _ _ ?_
    rw [nI_leI (by omega) (by omega)]
    refine ⟨fun _ => ?_, fun q => by omega⟩
    rw [e2, show k = 40 by omega]; exact hQ
  | succ m ih =>
    intro k I2 hk e2
    refine S_X12_sheet_64 _ _ ?_
    rw [nI_leI (by omega) (by omega)]
    refine ⟨fun q => by omega, fun _ => ⟨40 * s + k, by rw [nI_mul, nI_add], by omega, fun I1 e1 => ?_⟩⟩
    rw [nI_add]
    refine ih (k + 1) I1 (by omega) ?_
    rw [e1, e2, sA_st, fillF_s _ _ (by omega)]; rfl
theorem sheet_inv {I2 : IH} {s : Nat} {v t : Int32} (hI : Inv I) (hs : s < 4) (hv : (v = (-1) ∧ t = nI 0) ∨ ∃ so sz : Nat, so ≤ 4 ∧ sz ≤ 40 ∧ v = nI so ∧ t = nI sz) (q : ∀ a, a ≠ 14 ∧ a ≠ 15 ∧ a ≠ 16 ∧ a ≠ 129 ∧ a ≠ 130 ∧ a ≠ 131 → I2 a = I a) (e14 : I2 14 = upd (I 14) s v) (e15 : I2 15 = upd (I 15) s t) (e129 : I2 129 = upd (I 129) s v) (e130 : I2 130 = upd (I 130) s t) (e16 : I2 16 = fillF (I 16) (40 * s) (40 * s + 40) (nI 0)) (e131 : I2 131 = fillF (I 131) (40 * s) (40 * s + 40) (nI 0)) : Inv I2 := by
  obtain ⟨T, h⟩ := hI
  obtain ⟨o1, o2, o3, o4, o5, o6⟩ := h.2.2.2.2.2
  refine ⟨T, h.oth (fun a ha => ?_) ⟨o1.eqs (by rw [q 0 (by omega)]) (by rw [q 115 (by omega)]) (fun a ha => q a (by omega)), o2.eqs (by rw [q 1 (by omega)]) (by rw [q 115 (by omega)]) (q _ (by omega)) (q _ (by omega)), o3.eqs (by rw [q 0 (by omega)]) (by rw [q 115 (by omega)]) (q _ (by omega)) (q _ (by omega)), ⟨fun i hi => ?_, fun j hj => ?_, by rw [q 121 (by omega)]; exact o4.2.2⟩, o5.eqs (fun a ha => q a (by omega)), o6.eqs (by rw [q 11 (by omega)]) (by rw [q 115 (by omega)]) (q _ (by omega)) (q _ (by omega))⟩⟩
  · rcases ha with rfl | ha
    · exact q _ (by omega)
    · exact q a (by revert a; decide)
  · rw [e14, e15, e129, e130]
    unfold upd
    by_cases hc : i = s
    · simp only [if_pos hc]; exact ⟨trivial, trivial, hv⟩
    · simp only [if_neg hc]; exact o4.1 i hi
  · rw [e16, e131]
    unfold fillF
    split
    · rfl
    · exact o4.2.1 j hj
theorem p_sheet (hI : Inv I) : Pair E (d + 40) mX11_sheet mX12_sheet [.int x1, .int x2, .int x3] [.int x1, .int x2, .int x3] I := by
  have hb2 := x_b x2
  have eqm : (x2 = (-1)) ↔ x2.toInt = -1 := by rw [← Int32.toInt_inj]; rfl
  have ltm : (x2 < (-1)) ↔ x2.toInt < -1 := by rw [Int32.lt_iff_toInt_lt]; rfl
  by_cases ok : inr x1 0 3
  · by_cases ok2 : -1 ≤ x2.toInt ∧ x2.toInt ≤ 4
    · have e2 : (if (-1 : Int) ≤ x2.toInt ∧ x2.toInt ≤ 4 then 1 else 0) = 1 := if_pos ok2
      have in2 : ∀ (I : IH) (d : Nat) (Q : QT), Q (some (.int (nI 1))) I → Mt E d mX12_in1 [.int x2, .int (-1), .int (nI 4)] I Q := fun I d Q hQ => c_in1 x2.toInt (-1) 4 (x_z x2) (by decide +kernel) (nI_z 4) (x_b x2) (by omega) (by omega) (by rw [e2]; exact hQ)
      obtain ⟨s, hs, -, hs2⟩ := inr_n ok
      subst hs
      -- the sheet becomes another row
      have fin : ∀ t : Int32, ((x2 = (-1) ∧ t = nI 0) ∨ ∃ so sz : Nat, so ≤ 4 ∧ sz ≤ 40 ∧ x2 = nI so ∧ t = nI sz) → (x2 = (-1) → t = nI 0) → (¬ x2 = (-1) → t = x3 ∧ inr x3 0 40) → Pair E (d + 40) mX11_sheet mX12_sheet [.int (nI s), .int x2, .int x3] [.int (nI s), .int x2, .int x3] I := by
        intro t hv t1 t2
        have c61 : ∀ (I1 : IH) (Q : QT), Q (some (.int (nI 1))) (stA (stI I1 15 s t) 16 (fillF (I1 16) (40 * s) (40 * s + 40) (nI 0))) → J E (d + 39 + 1) mX11_sheet 61 [(0, .ref (eb E + 0)), (1, .int (nI s))] [.int t, .int (nI s), .ref (eb E + 15)] I1 Q := fun I1 Q hQ => S_X11_sheet_61 _ _ _ ⟨s, rfl, by omega, fun I3 e3 => by
          subst e3
          refine c_fillR (d := d + 37) (a := 40 * s) (b := 40 * s + 40) sh16 (by omega) (by rw [nI_mul]; congr 1; omega) (by rw [nI_add, nI_mul]; congr 1; omega) (by omega) (by omega) ⟨rfl, ?_⟩
          rw [st_ne (by omega)]; exact hQ⟩
        have c39 : ∀ Q : QT, Q (some (.int (nI 1))) (stA (stI (stI I 14 s x2) 15 s t) 16 (fillF (I 16) (40 * s) (40 * s + 40) (nI 0))) → J E (d + 39 + 1) mX11_sheet 39 [(0, .ref (eb E + 0)), (1, .int (nI s)), (2, .int x2), (3, .int x3)] [] I Q := fun Q hQ => S_X11_sheet_39 _ _ _ ⟨s, rfl, by omega, fun I1 e1 => by
          subst e1
          have w := c61 (stI I 14 s x2) Q (by rw [st_ne (show (16 : Nat) ≠ 14 by omega)]; exact hQ)
          refine ⟨fun q => ?_, fun q => ?_⟩
          · rw [(t2 q).1] at w; exact w
          · rw [t1 q] at w; exact w⟩
        refine ⟨nI 1, fun I1 => I1 = stA (stI (stI I 14 s x2) 15 s t) 16 (fillF (I 16) (40 * s) (40 * s + 40) (nI 0)), fun Q hQ => S_X11_sheet _ _ _ (d_isSheet ⟨_, rfl, bk (fun _ => ⟨fun q => ?_, fun _ => ⟨fun _ => ⟨fun _ => c39 Q (hQ _ rfl), fun q => ?_⟩, fun q => ?_⟩⟩) (fun q => absurd ok q)⟩), fun I1 q1 Q hQ => ?_⟩
        · rw [ltm] at q; omega
        · have := (t2 q).2
          rw [le_x (by omega), x_ge0]
          exact ⟨fun _ => ⟨fun _ => c39 Q (hQ _ rfl), fun z => absurd this.1 z⟩, fun z => absurd this.2 z⟩
        · rw [le_x (by omega)] at q; omega
        · have c64 : ∀ I2 : IH, I2 = stI (stI I1 129 s x2) 130 s t → J E (d + 39 + 1) mX12_sheet 64 [(0, .ref (eb E + 115)), (1, .int (nI s)), (4, .int (nI 0))] [] I2 Q := by
            intro I2 e2
            refine m_sheet_loop (I := I2) (by omega) ?_ 40 0 I2 (by omega) (by rw [show 40 * s + 0 = 40 * s by omega, fillF_0, sA_self])
            refine hQ _ (sheet_inv hI (s := s) (v := x2) (t := t) (by omega) hv (fun a ha => ?_) ?_ ?_ ?_ ?_ ?_ ?_)
            · rw [sA_ne (by omega), e2, st_ne (by omega), st_ne (by omega), q1, sA_ne (by omega), st_ne (by omega), st_ne (by omega)]
            · rw [sA_ne (by omega), e2, st_ne (by omega), st_ne (by omega), q1, sA_ne (by omega), st_ne (by omega), st_eq]
            · rw [sA_ne (by omega), e2, st_ne (by omega), st_ne (by omega), q1, sA_ne (by omega), st_eq, st_ne (by omega)]
            · rw [sA_ne (by omega), e2, st_ne (by omega), st_eq, q1, sA_ne (by omega), st_ne (by omega), st_ne (by omega)]
            · rw [sA_ne (by omega), e2, st_eq, st_ne (by omega), q1, sA_ne (by omega), st_ne (by omega), st_ne (by omega)]
            · rw [sA_ne (by omega), e2, st_ne (by omega), st_ne (by omega), q1, sA_eq]
            · rw [sA_eq, e2, st_ne (by omega), st_ne (by omega), q1, sA_ne (by omega), st_ne (by omega), st_ne (by omega)]
          have m39 : J E (d + 39 + 1) mX12_sheet 39 [(0, .ref (eb E + 115)), (1, .int (nI s)), (2, .int x2), (3, .int x3)] [] I1 Q := S_X12_sheet_39 _ _ _ ⟨s, rfl, by omega, fun I2 e2 => by
            refine ⟨fun q => ⟨s, rfl, by omega, fun I6 e6 => c64 I6 ?_⟩, fun q => ⟨s, rfl, by omega, fun I6 e6 => c64 I6 ?_⟩⟩
            · rw [e6, e2, (t2 (by rw [eqm]; rw [x_ge0] at q; omega)).1]
            · rw [e6, e2, t1 (by rw [eqm]; rw [x_ge0] at q; omega)]⟩
          have m28 : J E (d + 39 + 1) mX12_sheet 28 [(0, .ref (eb E + 115)), (1, .int (nI s)), (2, .int x2), (3, .int x3)] [] I1 Q := S_X12_sheet_28 _ _ _ ⟨fun _ => m39, fun q => by
            have := (t2 (by rw [eqm]; rw [x_lt0] at q; omega)).2
            rw [x_ge0]
            exact ⟨fun _ => m39, fun z => absurd this.1 z⟩⟩
          refine S_X12_sheet _ _ _ (m_isSheet ⟨_, rfl, bk (fun _ => in2 _ _ _ ⟨_, rfl, fun q => absurd q (by decide +kernel), fun _ => ⟨fun _ => m28, fun q => ?_⟩⟩) (fun q => absurd ok q)⟩)
          have := (t2 (by rw [eqm]; rw [x_lt0] at q; omega)).2
          rw [le_x (by omega)]
          exact ⟨fun _ => m28, fun z => absurd this.2 z⟩
      by_cases hm : x2 = (-1)
      · exact fin (nI 0) (Or.inl ⟨hm, rfl⟩) (fun _ => rfl) (fun q => absurd hm q)
      · have h0 : 0 ≤ x2.toInt := by rw [eqm] at hm; omega
        by_cases h3 : x3.toInt ≤ 40
        · by_cases h4 : 0 ≤ x3.toInt
          · refine fin x3 (Or.inr ⟨x2.toInt.toNat, x3.toInt.toNat, by omega, by omega, x_n h0, x_n h4⟩) (fun q => absurd q hm) (fun _ => ⟨rfl, h4, h3⟩)
          · refine Pair.pure hI (-14) (fun Q hQ => S_X11_sheet _ _ _ (d_isSheet ⟨_, rfl, bk (fun _ => ⟨fun q => ?_, fun _ => ⟨fun _ => ⟨fun q => absurd q hm, fun _ => ⟨fun _ => ⟨fun q => ?_, fun _ => hQ⟩, fun q => ?_⟩⟩, fun q => ?_⟩⟩) (fun q => absurd ok q)⟩)) (fun Q hQ => S_X12_sheet _ _ _ (m_isSheet ⟨_, rfl, bk (fun _ => in2 _ _ _ ⟨_, rfl, fun q => absurd q (by decide +kernel), fun _ => ⟨fun q => ?_, fun _ => ⟨fun _ => S_X12_sheet_28 _ _ _ ⟨fun q => ?_, fun _ => ⟨fun q => ?_, fun _ => hQ⟩⟩, fun q => ?_⟩⟩⟩) (fun q => absurd ok q)⟩))
            · rw [ltm] at q; omega
            · rw [x_ge0] at q; omega
            · rw [le_x (by omega)] at q; omega
            · rw [le_x (by omega)] at q; omega
            · rw [x_lt0] at q; omega
            · rw [x_lt0] at q; omega
            · rw [x_ge0] at q; omega
            · rw [le_x (by omega)] at q; omega
        · refine Pair.pure hI (-1) (fun Q hQ => S_X11_sheet _ _ _ (d_isSheet ⟨_, rfl, bk (fun _ => ⟨fun q => ?_, fun _ => ⟨fun _ => ⟨fun q => absurd q hm, fun _ => ⟨fun q => ?_, fun _ => hQ⟩⟩, fun q => ?_⟩⟩) (fun q => absurd ok q)⟩)) (fun Q hQ => S_X12_sheet _ _ _ (m_isSheet ⟨_, rfl, bk (fun _ => in2 _ _ _ ⟨_, rfl, fun q => absurd q (by decide +kernel), fun _ => ⟨fun q => ?_, fun _ => ⟨fun q => ?_, fun _ => hQ⟩⟩⟩) (fun q => absurd ok q)⟩))
          · rw [ltm] at q; omega
          · rw [le_x (by omega)] at q; omega
          · rw [le_x (by omega)] at q; omega
          · rw [x_lt0] at q; omega
          · rw [le_x (by omega)] at q; omega
    · have e2 : (if (-1 : Int) ≤ x2.toInt ∧ x2.toInt ≤ 4 then 1 else 0) = 0 := if_neg ok2
      refine Pair.pure hI (-1) (fun Q hQ => S_X11_sheet _ _ _ (d_isSheet ⟨_, rfl, bk (fun _ => ⟨fun _ => hQ, fun q => ⟨fun z => ?_, fun _ => hQ⟩⟩) (fun q => absurd ok q)⟩)) (fun Q hQ => S_X12_sheet _ _ _ (m_isSheet ⟨_, rfl, bk (fun _ => c_in1 x2.toInt (-1) 4 (x_z x2) (by decide +kernel) (nI_z 4) (x_b x2) (by omega) (by omega) (by rw [e2]; exact ⟨_, rfl, fun _ => hQ, fun q => absurd rfl q⟩)) (fun q => absurd ok q)⟩))
      rw [ltm] at q; rw [le_x (by omega)] at z; omega
  · exact Pair.pure hI (-1) (fun Q hQ => S_X11_sheet _ _ _ (d_isSheet ⟨_, rfl, bk (fun p => absurd p ok) (fun _ => hQ)⟩)) (fun Q hQ => S_X12_sheet _ _ _ (m_isSheet ⟨_, rfl, bk (fun p => absurd p ok) (fun _ => hQ)⟩))
/-! feed: the bytes of a long -/
def btN (x : Int64) (k : Nat) : Nat := x.toBitVec.toNat / 2 ^ (8 * k) % 256
theorem btN_lt (x : Int64) (k : Nat) : btN x k < 256 := Nat.mod_lt _ (by omega)
theorem sh_m : ∀ k, k < 8 → (((nI 8) * (nI k)).toInt64 &&& 63).toBitVec.smod 64 = BitVec.ofNat 64 (8 * k) := by decide +kernel
theorem sh_x : ∀ k, k < 8 → (((nI 8) * (nI k)).toInt64.toUInt64 &&& Int64.toUInt64 63).toBitVec % 64 = BitVec.ofNat 64 (8 * k) := by decide +kernel
theorem bt_m (x : Int64) {k : Nat} (h : k < 8) : ((x >>> (((nI 8) * (nI k)).toInt64 &&& 63)) &&& (255)).toInt32 = nI (btN x k) := by
  apply Int32.toBitVec_inj.mp
  have e : ((x >>> (((nI 8) * (nI k)).toInt64 &&& 63)) &&& (255)).toBitVec = x.toBitVec.sshiftRight (8 * k) &&& 255#64 := by
    rw [Int64.toBitVec_and, Int64.toBitVec_shiftRight, sh_m k h]
    show BitVec.sshiftRight _ (BitVec.ofNat 64 (8 * k)).toNat &&& _ = _
    rw [BitVec.toNat_ofNat, Nat.mod_eq_of_lt (by omega)]
    rfl
  show (((x >>> (((nI 8) * (nI k)).toInt64 &&& 63)) &&& (255)).toBitVec).signExtend 32 = BitVec.ofNat 32 (btN x k)
  rw [e]
  apply BitVec.eq_of_getLsbD_eq
  intro i hi
  rw [BitVec.getLsbD_signExtend, BitVec.getLsbD_ofNat]
  have e2 : (255#64).getLsbD i = decide (i < 8) := by
    revert i; decide +kernel
  have e3 : (btN x k).testBit i = (decide (i < 8) && x.toBitVec.getLsbD (8 * k + i)) := by
    unfold btN
    rw [show (256 : Nat) = 2 ^ 8 by rfl, Nat.testBit_mod_two_pow, Nat.testBit_div_two_pow, Nat.add_comm i]
    rfl
  rw [e3]
  by_cases h8 : i < 8
  · rw [if_pos (show i < 64 by omega), BitVec.getLsbD_and, e2, BitVec.getLsbD_sshiftRight, if_pos (show 8 * k + i < 64 by omega), decide_eq_false (show ¬ 64 ≤ i by omega)]
    generalize x.toBitVec.getLsbD (8 * k + i) = y
    cases y <;> simp [hi, h8]
  · rw [if_pos (show i < 64 by omega), BitVec.getLsbD_and, e2]
    generalize (x.toBitVec.sshiftRight (8 * k)).getLsbD i = y
    cases y <;> simp [hi, h8]
theorem bt_x (x : Int64) {k : Nat} (h : k < 8) : ((x.toUInt64 >>> (((nI 8) * (nI k)).toInt64.toUInt64 &&& Int64.toUInt64 63)).toInt64.toInt32).toInt8.toInt32 = (nI (btN x k)).toInt8.toInt32 := by
  have e : (x.toUInt64 >>> (((nI 8) * (nI k)).toInt64.toUInt64 &&& Int64.toUInt64 63)).toBitVec = x.toBitVec >>> (8 * k) := by
    rw [UInt64.toBitVec_shiftRight, sh_x k h]
    show x.toBitVec >>> (BitVec.ofNat 64 (8 * k)) = _
    rw [BitVec.ushiftRight_eq', BitVec.toNat_ofNat, Nat.mod_eq_of_lt (by omega)]
  congr 1
  apply Int8.toBitVec_inj.mp
  show (BitVec.signExtend 8 (BitVec.signExtend 32 (x.toUInt64 >>> (((nI 8) * (nI k)).toInt64.toUInt64 &&& Int64.toUInt64 63)).toBitVec)) = BitVec.signExtend 8 (BitVec.ofNat 32 (btN x k))
  rw [e, BitVec.signExtend_eq_setWidth_of_le _ (show 8 ≤ 32 by omega), BitVec.signExtend_eq_setWidth_of_le _ (show 32 ≤ 64 by omega), BitVec.signExtend_eq_setWidth_of_le _ (show 8 ≤ 32 by omega)]
  apply BitVec.eq_of_toNat_eq
  have hb := btN_lt x k
  simp only [BitVec.toNat_setWidth, BitVec.toNat_ushiftRight, BitVec.toNat_ofNat, Nat.shiftRight_eq_div_pow]
  rw [Nat.mod_eq_of_lt (show btN x k < 2 ^ 32 by omega)]
  unfold btN
  omega
theorem bt_n (b : Int32) : vp_nar .byte (b.toInt8.toInt32) = b.toInt8.toInt32 := by
  show ((b.toInt8.toInt32).toInt8).toInt32 = _
  rw [Int8.toInt8_toInt32]
end P9
