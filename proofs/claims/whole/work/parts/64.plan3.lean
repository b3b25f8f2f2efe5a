section P14
variable {E : EE} {d : Nat} {I : IH} {Q : QT} {T : Nat → Nat} {k e g r e1 g1 r1 : Nat} {x1 x2 x3 x4 : Int32}
def SX (I I1 : IH) : Prop := ∀ a, a ≠ 66 → a ≠ 68 → a ≠ 69 → a ≠ 32 → (a < 70 ∨ 114 < a) → I1 a = I a
theorem InvT.pln {I1 I2 : IH} (h : InvT I T) (s1 : SX I I1) (s2 : SM 0 I1 I2) : InvT I2 T := by
  obtain ⟨a1, a2, a3, a4, a5, a6⟩ := h
  have e1 : ∀ j, j < 322 → I2 116 j = I 116 j := fun j hj => by rw [s2.2.2.1 j hj, s1 116 (by omega) (by omega) (by omega) (by omega) (by omega)]
  have ee : ∀ a, a ≠ 115 → a ≠ 116 → a ≠ 119 → a ≠ 124 → a ≠ 125 → a ≠ 126 → a ≠ 66 → a ≠ 68 → a ≠ 69 → a ≠ 32 → (a < 70 ∨ 114 < a) → I2 a = I a := fun a b1 b2 b3 b4 b5 b6 b7 b8 b9 b10 b11 => by rw [s2.1 a b1 b2 b3 b4 b5 b6, s1 a b7 b8 b9 b10 b11]
  have m : ∀ s, s ≠ 21 → s ≠ 22 → s ≠ 23 → s ≠ 24 → I2 115 s = I 115 s := fun s f1 f2 f3 f4 => by rw [s2.2.1 s f1 f2 f3 f4, s1 115 (by omega) (by omega) (by omega) (by omega) (by omega)]
  have oth : ∀ a ∈ othC ++ evC, a ≠ 115 → I2 a = I a := by
    intro a ha h115
    have : a ≠ 116 ∧ a ≠ 119 ∧ a ≠ 124 ∧ a ≠ 125 ∧ a ≠ 126 ∧ a ≠ 66 ∧ a ≠ 68 ∧ a ≠ 69 ∧ a ≠ 32 ∧ (a < 70 ∨ 114 < a) := by clear h115; revert a; decide
    exact ee a h115 this.1 this.2.1 this.2.2.1 this.2.2.2.1 this.2.2.2.2.1 this.2.2.2.2.2.1 this.2.2.2.2.2.2.1 this.2.2.2.2.2.2.2.1 this.2.2.2.2.2.2.2.2.1 this.2.2.2.2.2.2.2.2.2
  have z : ∀ a, a ∈ othC ++ evC → a ≠ 115 → ∀ s, I2 a s = I a s := fun a ha h115 s => by rw [oth a ha h115]
  refine ⟨a1.eqs e1, a2, a3.eqs (fun a ha => oth a (List.mem_append_right _ ha) (by revert a; decide)), ?_, ?_, a6.eq2 (fun a ha h0 h1 h11 h115 => oth a (List.mem_append_left _ ha) h115) (z 0 (by decide) (by decide) _) (z 0 (by decide) (by decide) _) (z 1 (by decide) (by decide) _) (z 11 (by decide) (by decide) _) (m 3 (by omega) (by omega) (by omega) (by omega)) (m 6 (by omega) (by omega) (by omega) (by omega)) (m 28 (by omega) (by omega) (by omega) (by omega)) (m 35 (by omega) (by omega) (by omega) (by omega))⟩
  · rw [oth 33 (by decide) (by decide), e1 2 (by omega)]; exact a4
  · rw [oth 33 (by decide) (by decide), e1 5 (by omega)]; exact a5
theorem Pair.plan {Mx Mm : MD} {ax am : List Value} (h : InvT I T) (v : Int32) (hx : ∀ Q : QT, (∀ I1, SX I I1 → Q (some (.int v)) I1) → Mt E d Mx (.ref (eb E + 0) :: ax) I Q) (hm : ∀ I1, RM I1 T → ∀ Q : QT, (∀ I2, SM 0 I1 I2 → Q (some (.int v)) I2) → Mt E d Mm (.ref (eb E + 115) :: am) I1 Q) : Pair E d Mx Mm ax am I :=
  ⟨v, fun I1 => SX I I1, hx, fun I1 s1 Q hQ => hm I1 (h.1.eqs (fun j _ => by rw [s1 116 (by omega) (by omega) (by omega) (by omega) (by omega)])) Q (fun I2 s2 => hQ I2 ⟨T, h.pln s1 s2⟩)⟩
theorem m_isPlan (hQ : Q (some (.int (nI (bn (inr x1 0 4))))) I) : Mt E (d + 1) mX12_isPlan [.int x1] I Q := S_X12_isPlan _ (m_in1 (by omega) (by omega) ⟨_, rfl, bz _, hQ⟩)
theorem srA_pos (w : Int32) (T : Nat → Nat) (n : Nat) : (srA w T n).2.1 ≠ 0 := by unfold srA; exact exF_pos _ _ _ _ _ _ _ _
theorem p_best (hI : Inv I) : Pair E (d + 40) mX11_best mX12_best [.int x1] [.int x1] I := by
  obtain ⟨T, h⟩ := id hI
  obtain ⟨a1, a2, a3, a4, a5, a6⟩ := id h
  by_cases ok : inr x1 0 4
  · obtain ⟨n, hn, -, hn2⟩ := inr_n ok
    subst hn
    refine Pair.plan h (nI (srA (nI 0) T n).1) (fun Q hQ => S_X11_best _ (d_isWithin (by omega) ⟨_, rfl, bk2 (fun _ => x_search a3.1 a3.2 a2.1 a2.2.1 a2.2.2.1.1 a2.2.2.2.1 hn2 (fun I2 P2 s2 => ⟨rfl, ?_⟩)) (fun q => absurd ok q)⟩)) (fun I1 r1 Q hQ => S_X12_best _ (m_isPlan ⟨_, rfl, bk2 (fun _ => m_triesAll r1 a2.1 a2.2.1 a2.2.2.2.1 hn2 (by omega) (fun I2 P2 s2 => ⟨rfl, ?_⟩)) (fun q => absurd ok q)⟩))
    · rw [P2.2.2.1]; exact hQ I2 s2
    · rw [P2.1, if_neg (srA_pos _ _ _)]; exact hQ I2 s2
  · exact Pair.pure hI (-1) (fun Q hQ => S_X11_best _ (d_isWithin (by omega) ⟨_, rfl, bk2 (fun p => absurd p ok) (fun _ => hQ)⟩)) (fun Q hQ => S_X12_best _ (m_isPlan ⟨_, rfl, bk2 (fun p => absurd p ok) (fun _ => hQ)⟩))
theorem p_ways (hI : Inv I) : Pair E (d + 40) mX11_ways mX12_ways [.int x1] [.int x1] I := by
  obtain ⟨T, h⟩ := id hI
  obtain ⟨a1, a2, a3, a4, a5, a6⟩ := id h
  by_cases ok : inr x1 0 4
  · obtain ⟨n, hn, -, hn2⟩ := inr_n ok
    subst hn
    refine Pair.plan h (nI (srA (nI 0) T n).2.1) (fun Q hQ => S_X11_ways _ (d_isWithin (by omega) ⟨_, rfl, bk2 (fun _ => x_search a3.1 a3.2 a2.1 a2.2.1 a2.2.2.1.1 a2.2.2.2.1 hn2 (fun I2 P2 s2 => ⟨rfl, ?_⟩)) (fun q => absurd ok q)⟩)) (fun I1 r1 Q hQ => S_X12_ways _ (m_isPlan ⟨_, rfl, bk2 (fun _ => m_triesAll r1 a2.1 a2.2.1 a2.2.2.2.1 hn2 (by omega) (fun I2 P2 s2 => ⟨rfl, ?_⟩)) (fun q => absurd ok q)⟩))
    · rw [P2.2.2.2.1]; exact hQ I2 s2
    · rw [P2.2.1]; exact hQ I2 s2
  · exact Pair.pure hI (-1) (fun Q hQ => S_X11_ways _ (d_isWithin (by omega) ⟨_, rfl, bk2 (fun p => absurd p ok) (fun _ => hQ)⟩)) (fun Q hQ => S_X12_ways _ (m_isPlan ⟨_, rfl, bk2 (fun p => absurd p ok) (fun _ => hQ)⟩))
theorem p_ith (hI : Inv I) : Pair E (d + 40) mX11_ith mX12_ith [.int x1, .int x2] [.int x1, .int x2] I := by
  obtain ⟨T, h⟩ := id hI
  obtain ⟨a1, a2, a3, a4, a5, a6⟩ := id h
  by_cases ok : inr x1 0 4 ∧ inr x2 0 3
  · obtain ⟨n, hn, -, hn2⟩ := inr_n ok.1
    obtain ⟨i, hi, -, hi2⟩ := inr_n ok.2
    subst hn; subst hi
    refine Pair.plan h (if i < min n (T 1 - T 0) then nI ((srA (nI 0) T n).2.2.2.2 i) else (-3)) (fun Q hQ => S_X11_ith _ _ (d_isWithin (by omega) ⟨_, rfl, bk (fun _ => d_isWithin (by omega) ⟨_, rfl, bk2 (fun _ => x_search a3.1 a3.2 a2.1 a2.2.1 a2.2.2.1.1 a2.2.2.2.1 hn2 (fun I2 P2 s2 => ⟨rfl, ?_⟩)) (fun q => absurd ok.2 q)⟩) (fun q => absurd ok.1 q)⟩)) (fun I1 r1 Q hQ => S_X12_ith _ _ (m_isPlan ⟨_, rfl, bk (fun _ => m_in1 (by omega) (by omega) ⟨_, rfl, bk2 (fun _ => m_triesAll r1 a2.1 a2.2.1 a2.2.2.2.1 hn2 (by omega) (fun I2 P2 s2 => ⟨rfl, m_daysOf (r1.eqs s2.2.2.1) a2.1 a2.2.2.2.1 hn2 ⟨_, rfl, ?_⟩⟩)) (fun q => absurd ok.2 q)⟩) (fun q => absurd ok.1 q)⟩))
    · rw [P2.1, nI_leI (by omega) (by omega)]
      refine ⟨fun q => ?_, fun q => ⟨i, rfl, by omega, ?_⟩⟩
      · have := hQ I2 s2; rw [if_neg (by omega)] at this; exact this
      · have := hQ I2 s2; rw [if_pos (by omega)] at this
        rw [P2.2.2.2.2.2.2.1 (srA_pos _ _ _) i (by omega)]; exact this
    · rw [nI_leI (by omega) (by omega)]
      refine ⟨fun q => ?_, fun q => ⟨i, rfl, by omega, ?_⟩⟩
      · have := hQ I2 s2; rw [if_neg (by omega)] at this; exact this
      · have := hQ I2 s2; rw [if_pos (by omega)] at this
        rw [P2.2.2.2.2.1 (srA_pos _ _ _) i (by omega)]; exact this
  · exact Pair.pure hI (-1) (fun Q hQ => S_X11_ith _ _ (d_isWithin (by omega) ⟨_, rfl, bk (fun p1 => d_isWithin (by omega) ⟨_, rfl, bk2 (fun p2 => absurd ⟨p1, p2⟩ ok) (fun _ => hQ)⟩) (fun _ => hQ)⟩)) (fun Q hQ => S_X12_ith _ _ (m_isPlan ⟨_, rfl, bk (fun p1 => m_in1 (by omega) (by omega) ⟨_, rfl, bk2 (fun p2 => absurd ⟨p1, p2⟩ ok) (fun _ => hQ)⟩) (fun _ => hQ)⟩))
theorem set_eq : ∀ t, t < 7 → (nI 1 <<< (nI t &&& 31)) - nI 1 = nI (2 ^ t - 1) ∧ 2 ^ t ≤ 64 ∧ 1 ≤ 2 ^ t := by decide +kernel
theorem d_isSet (h7 : I 33 7 = nI (T 6)) (h6 : T 6 ≤ 6) (hQ : Q (some (.int (nI (bn (inr x1 0 (2 ^ T 6 - 1)))))) I) : Mt E (d + 1) mX11_isSet [.ref (eb E + 0), .int x1] I Q := by
  obtain ⟨s1, s2, s3⟩ := set_eq (T 6) (by omega)
  refine S_X11_isSet _ ?_
  rw [h7, s1]
  exact d_isWithin (by omega) ⟨_, rfl, bz _, hQ⟩
theorem m_isSet (h : RM I T) (h6 : T 6 ≤ 6) (hQ : Q (some (.int (nI (bn (inr x1 0 (2 ^ T 6 - 1)))))) I) : Mt E (d + 1) mX12_isSet [.ref (eb E + 115), .int x1] I Q := by
  obtain ⟨s1, s2, s3⟩ := set_eq (T 6) (by omega)
  refine S_X12_isSet _ ?_
  rw [h.at 6 (by omega), s1]
  exact m_in1 (by omega) (by omega) ⟨_, rfl, bz _, hQ⟩
theorem p_visit (hI : Inv I) : Pair E (d + 40) mX11_visit mX12_visit [.int x1, .int x2] [.int x1, .int x2] I := by
  obtain ⟨T, h⟩ := id hI
  obtain ⟨a1, a2, a3, a4, a5, a6⟩ := id h
  have v5 : I 33 7 = nI (T 6) := a3.1.2.2.2.2.1
  have h6 : T 6 ≤ 6 := a2.1.1
  obtain ⟨t1, t2, t3⟩ := set_eq (T 6) (by omega)
  by_cases ok : inr x1 0 4 ∧ inr x2 0 (2 ^ T 6 - 1)
  · obtain ⟨n, hn, -, hn2⟩ := inr_n ok.1
    obtain ⟨p, hp, -, hp2⟩ := inr_n ok.2
    subst hn; subst hp
    refine Pair.plan h (if 4 < (srA (nI p) T n).2.2.1 then (-3) else nI (srA (nI p) T n).2.2.1) (fun Q hQ => S_X11_visit _ _ (d_isWithin (by omega) ⟨_, rfl, bk (fun _ => d_isSet v5 h6 ⟨_, rfl, bk2 (fun _ => x_search a3.1 a3.2 a2.1 a2.2.1 a2.2.2.1.1 a2.2.2.2.1 hn2 (fun I2 P2 s2 => ⟨rfl, ?_⟩)) (fun q => absurd ok.2 q)⟩) (fun q => absurd ok.1 q)⟩)) (fun I1 r1 Q hQ => S_X12_visit _ _ (m_isPlan ⟨_, rfl, bk (fun _ => m_isSet r1 h6 ⟨_, rfl, bk2 (fun _ => m_triesAll r1 a2.1 a2.2.1 a2.2.2.2.1 hn2 (by omega) (fun I2 P2 s2 => ⟨rfl, ?_⟩)) (fun q => absurd ok.2 q)⟩) (fun q => absurd ok.1 q)⟩))
    · have hb := P2.2.2.2.2.2.2.2.2
      have := hQ I2 s2
      rw [P2.2.2.2.2.1, nI_ltI (by omega) (by omega)]
      exact ⟨fun q => by rw [if_pos q] at this; exact this, fun q => by rw [if_neg q] at this; exact this⟩
    · have hb := P2.2.2.2.2.2.2
      have := hQ I2 s2
      rw [P2.2.2.1, nI_leI (by omega) (by omega)]
      exact ⟨fun q => by rw [if_neg (by omega)] at this; exact this, fun q => by rw [if_pos (by omega)] at this; exact this⟩
  · exact Pair.pure hI (-1) (fun Q hQ => S_X11_visit _ _ (d_isWithin (by omega) ⟨_, rfl, bk (fun p1 => d_isSet v5 h6 ⟨_, rfl, bk2 (fun p2 => absurd ⟨p1, p2⟩ ok) (fun _ => hQ)⟩) (fun _ => hQ)⟩)) (fun Q hQ => S_X12_visit _ _ (m_isPlan ⟨_, rfl, bk (fun p1 => m_isSet a1 h6 ⟨_, rfl, bk2 (fun p2 => absurd ⟨p1, p2⟩ ok) (fun _ => hQ)⟩) (fun _ => hQ)⟩))
/-! the lowest light of a set -/
def n49 (x0 x1 : Int32) : Int32 := if x0 ≤ nI 16 then (if x0 ≤ nI 4 then x1 + ushr x0 (nI 1) else (x1 + nI 2) + ushr (ushr x0 (nI 2)) (nI 1)) else (if ushr x0 (nI 4) ≤ nI 4 then (x1 + nI 4) + ushr (ushr x0 (nI 4)) (nI 1) else ((x1 + nI 4) + nI 2) + ushr (ushr (ushr x0 (nI 4)) (nI 2)) (nI 1))
def n34 (x0 x1 : Int32) : Int32 := if x0 ≤ nI 256 then n49 x0 x1 else n49 (ushr x0 (nI 8)) (x1 + nI 8)
def ntz (x0 : Int32) : Int32 := if 0 < ((x0 ^^^ (-1)) &&& (x0 - nI 1)) then (if ((x0 ^^^ (-1)) &&& (x0 - nI 1)) ≤ nI 65536 then n34 ((x0 ^^^ (-1)) &&& (x0 - nI 1)) (nI 1) else n34 (ushr ((x0 ^^^ (-1)) &&& (x0 - nI 1)) (nI 16)) (nI 1 + nI 16)) else ((x0 ^^^ (-1)) &&& (x0 - nI 1)) &&& nI 32
theorem c_n49 (hQ : Q (some (.int (n49 x1 x2))) I) : J E d mJ6_numberOfTrailingZeros_0f7a4 49 [(0, .int x1), (1, .int x2)] [] I Q := by
  unfold n49 at hQ
  refine S_J6_numberOfTrailingZeros_0f7a4_49 _ _ ⟨fun q => ⟨fun z => ?_, fun z => ?_⟩, fun q => ⟨fun z => ?_, fun z => ?_⟩⟩
  · rw [if_pos q, if_pos z] at hQ; exact hQ
  · rw [if_pos q, if_neg z] at hQ; exact hQ
  · rw [if_neg q, if_pos z] at hQ; exact hQ
  · rw [if_neg q, if_neg z] at hQ; exact hQ
theorem c_n34 (hQ : Q (some (.int (n34 x1 x2))) I) : J E d mJ6_numberOfTrailingZeros_0f7a4 34 [(0, .int x1), (1, .int x2)] [] I Q := by
  unfold n34 at hQ
  refine S_J6_numberOfTrailingZeros_0f7a4_34 _ _ ⟨fun q => c_n49 ?_, fun q => c_n49 ?_⟩
  · rw [if_pos q] at hQ; exact hQ
  · rw [if_neg q] at hQ; exact hQ
theorem c_ntz (hQ : Q (some (.int (ntz x1))) I) : Mt E d mJ6_numberOfTrailingZeros_0f7a4 [.int x1] I Q := by
  unfold ntz at hQ
  refine S_J6_numberOfTrailingZeros_0f7a4 _ ⟨fun q => ⟨fun z => c_n34 ?_, fun z => c_n34 ?_⟩, fun q => ?_⟩
  · rw [if_pos q, if_pos z] at hQ; exact hQ
  · rw [if_pos q, if_neg z] at hQ; exact hQ
  · rw [if_neg q] at hQ; exact hQ
/-- the first of n lights from k on that is lit -/
def ctF (q : Nat) : Nat → Nat → Nat
  | 0, k => k
  | n + 1, k => if q / 2 ^ k % 2 = 1 then k else ctF q n (k + 1)
theorem ctz_eq0 : ∀ q, q < 64 → ∀ t, t < 7 → (2 ^ t ≤ q ∨ q = 0 ∨ (ntz (nI q) = nI (ctF q t 0) ∧ ctF q t 0 < t)) := by decide +kernel
theorem ctz_eq1 : ∀ t, t < 7 → ctF 0 t 0 = t := by decide +kernel
theorem ctz_eq (q : Nat) (hq : q < 64) (t : Nat) (ht : t < 7) (h : q < 2 ^ t) : (q ≠ 0 → ntz (nI q) = nI (ctF q t 0) ∧ ctF q t 0 < t) ∧ (q = 0 → ctF q t 0 = t) := by
  refine ⟨fun h0 => ?_, fun h0 => by subst h0; exact ctz_eq1 t ht⟩
  rcases ctz_eq0 q hq t ht with w | w | w
  · omega
  · exact absurd w h0
  · exact w
theorem m_bars_loop {q : Nat} (h : RM I T) (h6 : T 6 ≤ 6) (hq : q < 64) : ∀ (n k : Nat), k + n = T 6 → (ctF q n k < T 6 → Q (some (.int (nI (ctF q n k)))) I) → (¬ ctF q n k < T 6 → Q (some (.int (-3))) I) → J E (d + 1) mX12_bars 35 [(0, .ref (eb E + 115)), (3, .int (nI q)), (4, .int (nI k))] [] I Q := by
  intro n
  induction n with
  | zero =>
    intro k hk q1 q2
    refine S_X12_bars_35 _ _ ?_
    rw [h.at 6 (by omega), nI_leI (by omega) (by omega)]
    unfold ctF at q2
    exact ⟨fun _ => ⟨fun _ => q2 (by omega), fun z => by omega⟩, fun z => by omega⟩
  | succ n ih =>
    intro k hk q1 q2
    refine S_X12_bars_35 _ _ ?_
    have hm := Nat.mod_lt (q / 2 ^ k) (show 0 < 2 by omega)
    rw [h.at 6 (by omega), nI_leI (by omega) (by omega), bit_eq q hq k (by omega), n0, nI_eq (by omega) (by omega), nI_add]
    unfold ctF at q1 q2
    refine ⟨fun z => by omega, fun _ => ⟨fun z => ⟨fun y => by omega, fun _ => ?_⟩, fun z => ?_⟩⟩
    · rw [if_pos (by omega)] at q1; exact q1 (by omega)
    · rw [if_neg (by omega)] at q1 q2; exact ih (k + 1) (by omega) q1 q2
theorem and_nI {p : Nat} (y : Int32) (hp : p < 64) : ∃ q : Nat, q ≤ p ∧ nI p &&& y = nI q := by
  refine ⟨p &&& y.toBitVec.toNat, Nat.and_le_left, ?_⟩
  have hl : p &&& y.toBitVec.toNat ≤ p := Nat.and_le_left
  apply Int32.toBitVec_inj.1
  apply BitVec.eq_of_toNat_eq
  rw [pk_tn (by omega), Int32.toBitVec_and, BitVec.toNat_and, pk_tn (by omega)]
theorem p_bars (hI : Inv I) : Pair E (d + 40) mX11_bars mX12_bars [.int x1, .int x2] [.int x1, .int x2] I := by
  obtain ⟨T, h⟩ := id hI
  obtain ⟨a1, a2, a3, a4, a5, a6⟩ := id h
  have v5 : I 33 7 = nI (T 6) := a3.1.2.2.2.2.1
  have h6 : T 6 ≤ 6 := a2.1.1
  obtain ⟨t1, t2, t3⟩ := set_eq (T 6) (by omega)
  by_cases ok : inr x1 0 4 ∧ inr x2 0 (2 ^ T 6 - 1)
  · obtain ⟨n, hn, -, hn2⟩ := inr_n ok.1
    obtain ⟨p, hp, -, hp2⟩ := inr_n ok.2
    subst hn; subst hp
    obtain ⟨q, hq, eq⟩ := and_nI (p := p) ((srA (nI p) T n).2.2.2.1 ^^^ (-1)) (by omega)
    obtain ⟨c1, c2⟩ := ctz_eq q (by omega) (T 6) (by omega) (by omega)
    refine Pair.plan h (if q = 0 then (-3) else nI (ctF q (T 6) 0)) (fun Q hQ => S_X11_bars _ _ (d_isWithin (by omega) ⟨_, rfl, bk (fun _ => d_isSet v5 h6 ⟨_, rfl, bk2 (fun _ => x_search a3.1 a3.2 a2.1 a2.2.1 a2.2.2.1.1 a2.2.2.2.1 hn2 (fun I2 P2 s2 => ⟨rfl, ?_⟩)) (fun q => absurd ok.2 q)⟩) (fun q => absurd ok.1 q)⟩)) (fun I1 r1 Q hQ => S_X12_bars _ _ (m_isPlan ⟨_, rfl, bk (fun _ => m_isSet r1 h6 ⟨_, rfl, bk2 (fun _ => m_triesAll r1 a2.1 a2.2.1 a2.2.2.2.1 hn2 (by omega) (fun I2 P2 s2 => ⟨rfl, ?_⟩)) (fun q => absurd ok.2 q)⟩) (fun q => absurd ok.1 q)⟩))
    · have := hQ I2 s2
      rw [P2.2.2.2.2.2.1, eq, n0, nI_eq (by omega) (by omega)]
      refine ⟨fun z => c_ntz ⟨_, rfl, ?_⟩, fun z => ?_⟩
      · rw [if_neg z] at this; rw [(c1 z).1]; exact this
      · rw [if_pos z] at this; exact this
    · have := hQ I2 s2
      rw [P2.2.2.2.1, eq]
      refine m_bars_loop (r1.eqs s2.2.2.1) h6 (by omega) (T 6) 0 (by omega) (fun z => ?_) (fun z => ?_)
      · rw [if_neg (fun w => by have := c2 w; omega)] at this; exact this
      · rw [if_pos (show q = 0 from Classical.byContradiction (fun w => z (c1 w).2))] at this; exact this
  · exact Pair.pure hI (-1) (fun Q hQ => S_X11_bars _ _ (d_isWithin (by omega) ⟨_, rfl, bk (fun p1 => d_isSet v5 h6 ⟨_, rfl, bk2 (fun p2 => absurd ⟨p1, p2⟩ ok) (fun _ => hQ)⟩) (fun _ => hQ)⟩)) (fun Q hQ => S_X12_bars _ _ (m_isPlan ⟨_, rfl, bk (fun p1 => m_isSet a1 h6 ⟨_, rfl, bk2 (fun p2 => absurd ⟨p1, p2⟩ ok) (fun _ => hQ)⟩) (fun _ => hQ)⟩))
end P14
