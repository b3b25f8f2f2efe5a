section L11
variable {E : EE} {d : Nat} {I : IH} {Q : QT} {T : Nat → Nat}
/-- behind a fault nothing is held otherwise but that the tape is empty -/
theorem fault_inv {I2 : IH} (h : InvT I T) (q : ∀ a, a ∉ [1, 3, 4, 5, 6, 7, 8, 9, 115, 122, 123] → I2 a = I a) (k1 : I2 1 0 = nI 0) (k6 : I2 115 6 = nI 0) (k115 : ∀ j, (j < 8 ∧ j ≠ 6) ∨ 13 < j → I2 115 j = I 115 j) : Inv I2 := by
  obtain ⟨o1, o2, o3, o4, o5, o6⟩ := id h.2.2.2.2.2
  refine ⟨T, h.oth (fun a ha => ?_) ⟨o1.eqs (by rw [q 0 (by decide)]) (k115 3 (by omega)) (fun a ha => q a (by simp; omega)), ⟨0, by omega, k1, k6, fun i hi => by omega⟩, o3.eqs (by rw [q 0 (by decide)]) (k115 28 (by omega)) (q _ (by decide)) (q _ (by decide)), o4.eqs (fun a ha => q a (by simp; omega)), o5.eqs (fun a ha => q a (by simp; omega)), o6.eqs (by rw [q 11 (by decide)]) (k115 35 (by omega)) (q _ (by decide)) (q _ (by decide))⟩⟩
  rcases ha with rfl | ha
  · exact q _ (by decide)
  · exact q a (by revert a; decide)
theorem p_rules (hI : Inv I) : Pair E (d + 40) mX11_rules mX12_rules [] [] I := by
  obtain ⟨T, h⟩ := id hI
  obtain ⟨o1, o2, o3, o4, o5, o6⟩ := id h.2.2.2.2.2
  obtain ⟨n, hn, c1, c2, c3⟩ := o2
  -- the bytes
  let B : Nat → Nat := fun i => (I 120 i).toInt.toNat
  have hB : ∀ i, i < n → B i < 256 ∧ I 120 i = nI (B i) ∧ I 2 i = sgb (B i) := by
    intro i hi
    obtain ⟨b, hb, b1, b2⟩ := c3 i hi
    have e : B i = b := by show (I 120 i).toInt.toNat = b; rw [b1, nI_toInt (by omega)]; rfl
    rw [e]; exact ⟨hb, b1, b2⟩
  have hT : TP I B n := ⟨c1, hn, fun i hi => ⟨(hB i hi).1, (hB i hi).2.2⟩⟩
  obtain ⟨K, lx⟩ := lx_ex B n
  obtain ⟨c, hs⟩ := stop_ex (tk B n)
  have hend := tk_end lx
  have hK : K ≤ 200 := Nat.le_trans lx.1 hn
  have hS := rix_le (t := tk B n) hend c
  -- the reference up to its end
  have mod : ∀ (I1 : IH) (Q : QT), I1 115 = I 115 → I1 120 = I 120 → I1 121 = I 121 → (tk B n (rix (tk B n) c).1 = 301 → ∀ I2, RMr (tk B n) I2 c → FrR I1 I2 → I2 115 13 = nI (rix (tk B n) c).2.2 → J E (d + 40) mX12_rules 42 [(0, .ref (eb E + 115)), (1, .int (nI c)), (2, .int (nI 1))] [] I2 Q) → (∀ j, pRule (tk B n) c (rix (tk B n) c).1 = .inl j → tk B n (rix (tk B n) c).1 ≠ 301 → ∀ I2 y, FrR I1 I2 → I2 115 9 = nI (pl B n j) → J E (d + 40) mX12_rules 42 [(0, .ref (eb E + 115)), (1, .int y), (2, .int (nI 0))] [] I2 Q) → Mt E (d + 40) mX12_rules [.ref (eb E + 115)] I1 Q := by
    intro I1 Q e115 e120 e121 hq1 hq2
    refine S_X12_rules (fun Ia ea Ib ebb => ?_)
    have fb : FrM I1 Ib := by
      refine ⟨?_, fun j hj => by rw [ebb, st_nj (by omega), ea, st_nj (by omega)]⟩
      rw [ebb, ea]; exact (Same.st (by simp)).tr (Same.st (by simp))
    have hM1 : MP I1 B n := ⟨by rw [e115]; exact c2, hn, fun i hi => by rw [e120]; exact ⟨(hB i hi).1, (hB i hi).2.1⟩, fun j hj => by rw [e121]; exact o4.2.2 j hj⟩
    have hMb := hM1.frm fb
    refine m_nextF (d := d + 36) (p := 0) hMb (by rw [ebb, st_nj (by omega), ea, st_at]) (Nat.zero_le _) (fun s I5 hs5 f5 g9 g8 g10 => ⟨rfl, ?_⟩)
    obtain ⟨o, ho⟩ := nI_ex (I5 115 12)
    have s5 : CM B n I5 (rix (tk B n) 0).1 (rix (tk B n) 0).2.2 o := by
      refine ⟨hMb.fr f5, ⟨?_, ?_, ?_⟩, ?_, ho⟩
      · rw [g9, hs5]; rfl
      · have ek : tk B n 0 = tokE B n s := by unfold tk tokE; rw [hs5]; rfl
        show TokR (tk B n 0) I5
        rw [ek]; exact g10
      · show I5 115 8 = nI (tenE B n (pl B n 0))
        rw [g8, hs5]; rfl
      · rw [f5.2 13 (by omega) (by omega) (by omega) (by omega), ebb, st_at]; rfl
    exact m_rules18 (d := d + 18) (I := I1) lx hn hs hq1 hq2 c 0 I5 (by omega) ⟨o, s5⟩ (fun j hj => by omega) ((fb.tr f5.m).rr)
  rcases hs.2.2 with hg | ⟨hg, jf, hjf⟩
  · -- no fault
    refine ⟨nI c, fun I1 => Same [1, 3, 4, 5, 6, 7, 8, 9, 27, 28, 29, 30, 31] I I1 ∧ I1 1 0 = nI 0 ∧ I1 27 0 = nI c ∧ ∀ j, j < c → ∀ q, pRule (tk B n) j (rix (tk B n) j).1 = .inr q → I1 28 j = nI q.2.1 ∧ I1 29 j = nI q.2.2.1 ∧ I1 30 j = nI (rix (tk B n) (j + 1)).2.1 ∧ spC (I1 31) (rix (tk B n) j).2.1 (rix (tk B n) (j + 1)).2.1 q.2.2.2.1, fun Q hQ => S_X11_rules (x_tell (d := d + 24) hT (fun K2 c2 lx2 hs2 h301 I2 r2 f2 k2 => ⟨_, rfl, fun _ => ?_, fun z => absurd (by decide +kernel) z⟩) (fun K2 c2 j2 lx2 hs2 hp2 h301 => ?_)), fun I1 q1 Q hQ => ?_⟩
    · have e := stop_uni hs2 hs
      subst e
      refine S_X6_become (d := d + 37) (Or.inr (Or.inl rfl)) isRu5 (fun J1 e1 J3 e3 J5 e5 J7 e7 J9 e9 J11 e11 => ⟨rfl, ?_⟩)
      have e5' : J11 5 = I2 5 := by rw [e11, sA_ne (by omega), e9, sA_ne (by omega), e7, sA_ne (by omega), e5, sA_ne (by omega), e3, st_ne (by omega), e1, st_ne (by omega)]
      have a28 : J11 28 = va_cpy (I2 6) (J3 28) 0 0 8 := by
        rw [e11, sA_ne (by omega), e9, sA_ne (by omega), e7, sA_ne (by omega), e5]
        show stA J3 (27 + 1) _ 28 = _
        rw [sA_eq, e3, st_ne (by omega), e1, st_ne (by omega)]
      have a29 : J11 29 = va_cpy (I2 7) (J5 29) 0 0 8 := by
        rw [e11, sA_ne (by omega), e9, sA_ne (by omega), e7]
        show stA J5 (27 + 2) _ 29 = _
        rw [sA_eq, e5, sA_ne (by omega), e3, st_ne (by omega), e1, st_ne (by omega)]
      have a30 : J11 30 = va_cpy (I2 8) (J7 30) 0 0 8 := by
        rw [e11, sA_ne (by omega), e9]
        show stA J7 (27 + 3) _ 30 = _
        rw [sA_eq, e7, sA_ne (by omega), e5, sA_ne (by omega), e3, st_ne (by omega), e1, st_ne (by omega)]
      have a31 : J11 31 = va_cpy (I2 9) (J9 31) 0 0 200 := by
        rw [e11]
        show stA J9 (27 + 4) _ 31 = _
        rw [sA_eq, e9, sA_ne (by omega), e7, sA_ne (by omega), e5, sA_ne (by omega), e3, st_ne (by omega), e1, st_ne (by omega)]
      have a27 : J11 27 0 = I2 5 0 := by rw [e11, sA_ne (by omega), e9, sA_ne (by omega), e7, sA_ne (by omega), e5, sA_ne (by omega), e3, st_nj (by omega), e1, st_at]
      have ao : ∀ a, a ∉ [27, 28, 29, 30, 31] → J11 a = I2 a := fun a ha => by
        have : a ≠ 27 ∧ a ≠ 28 ∧ a ≠ 29 ∧ a ≠ 30 ∧ a ≠ 31 := by simp at ha; omega
        rw [e11, sA_ne (by omega), e9, sA_ne (by omega), e7, sA_ne (by omega), e5, sA_ne (by omega), e3, st_ne (by omega), e1, st_ne (by omega)]
      rw [e5', r2.1]
      refine hQ J11 ⟨fun a ha => ?_, by rw [ao 1 (by decide)]; exact k2, by rw [a27]; exact r2.1, fun j hj q hq => ?_⟩
      · have : a ∉ [27, 28, 29, 30, 31] ∧ a ∉ [1, 3, 4, 5, 6, 7, 8, 9] := by simp at ha ⊢; omega
        rw [ao a this.1, f2 a this.2]
      · obtain ⟨x1, x2, x3, x4⟩ := r2.2 j hj q hq
        have hc8 := hs.1
        refine ⟨by rw [a28, cpy_in (by omega)]; exact x1, by rw [a29, cpy_in (by omega)]; exact x2, by rw [a30, cpy_in (by omega)]; exact x3, ?_⟩
        refine spC_eq _ _ _ (fun p _ hp => ?_) x4
        have := rix_le (t := tk B n) hend (j + 1)
        rw [a31, cpy_in (by omega)]
    · have e := stop_uni hs2 hs
      subst e
      exact absurd hg h301
    · obtain ⟨f1, k1, k27, hx⟩ := q1
      refine mod I1 Q (f1 115 (by decide)) (f1 120 (by decide)) (f1 121 (by decide)) (fun _ I2 r2 f2 k13 => ?_) (fun j _ h301 => absurd hg h301)
      refine S_X12_rules_42 (d := d + 39) _ _ (fun I3 e3 => ⟨fun _ I4 e4 => ?_, fun z => absurd z one_ne⟩)
      have e34 : ∀ a, a ≠ 115 → a ≠ 116 → I4 a = I2 a := fun a h1 h2 => by rw [e4, st_ne h2, e3, st_ne h1]
      have k115 : I4 115 = I3 115 := by rw [e4, st_ne (by omega)]
      refine m_rules69 (d := d + 39) (I := I4) hs.1 (fun I5 p5 c5 f5 => ?_) (3 * c) 0 I4 (by omega) (Same.rf _ _) (fun _ _ => rfl) (fun j hj => by omega)
      have k13' : I5 115 13 = nI (rix (tk B n) c).2.2 := by rw [f5 115 (by decide), k115, e3, st_nj (by omega)]; exact k13
      refine m_rules99 (d := d + 39) (I := I5) (x := nI c) (S := (rix (tk B n) c).2.2) (by omega) (fun I6 p6 c6 f6 => ?_) k13' (rix (tk B n) c).2.2 0 I5 (by omega) (Same.rf _ _) (fun _ _ => rfl) (fun j hj => by omega)
      have q6 : ∀ a, a ≠ 115 → a ≠ 116 → I6 a = I2 a := fun a h1 h2 => by rw [f6 a (by simp; omega), f5 a (by simp; omega), e34 a h1 h2]
      have q2 : ∀ a, a ≠ 115 → a ≠ 122 → a ≠ 123 → I2 a = I1 a := fun a h1 h2 h3 => f2.1 a (by simp; omega)
      have c115 : I6 115 = I3 115 := by rw [f6 115 (by decide), f5 115 (by decide), k115]
      have hc8 := hs.1
      refine hQ I6 (rules_inv (t := tk B n) (c := c) (S := (rix (tk B n) c).2.2) h hend hK hs rfl (fun a ha => ?_) ?_ ?_ (fun j hj => ?_) ?_ (fun j j7 jR jS => ?_) ?_ (fun j hj q hq => ?_) (fun j hj q hq => ?_))
      · have : a ≠ 115 ∧ a ≠ 116 ∧ a ≠ 122 ∧ a ≠ 123 ∧ a ∉ [1, 3, 4, 5, 6, 7, 8, 9, 27, 28, 29, 30, 31] := by simp at ha ⊢; omega
        rw [q6 a this.1 this.2.1, q2 a this.1 this.2.2.1 this.2.2.2.1, f1 a this.2.2.2.2]
      · rw [q6 1 (by omega) (by omega), q2 1 (by omega) (by omega) (by omega)]; exact k1
      · rw [c115, e3, st_at]
      · rw [c115, e3, st_nj (by omega), f2.2 j (by omega), f1 115 (by decide)]
      · rw [p6 7 (by omega), p5 7 (by omega), e4, st_at]
      · rw [p6 j (by omega), p5 j (by omega), e4, st_nj j7, e3, st_ne (by omega), q2 116 (by omega) (by omega) (by omega), f1 116 (by decide)]
      · rw [q6 27 (by omega) (by omega), q2 27 (by omega) (by omega) (by omega)]; exact k27
      · rw [q6 28 (by omega) (by omega), q2 28 (by omega) (by omega) (by omega), q6 29 (by omega) (by omega), q2 29 (by omega) (by omega) (by omega), q6 30 (by omega) (by omega), q2 30 (by omega) (by omega) (by omega), q6 31 (by omega) (by omega), q2 31 (by omega) (by omega) (by omega)]
        exact hx j hj q hq
      · obtain ⟨z1, z2, z3, z4⟩ := r2 j hj q hq
        have e123 : I4 123 = I2 123 := e34 123 (by omega) (by omega)
        have e122 : I5 122 = I2 122 := by rw [f5 122 (by decide), e34 122 (by omega) (by omega)]
        refine ⟨by rw [p6 _ (by omega), c5 _ (by omega), e123]; exact z1, by rw [p6 _ (by omega), c5 _ (by omega), e123]; exact z2, by rw [p6 _ (by omega), c5 _ (by omega), e123]; exact z3, ?_⟩
        refine spS_eq _ _ _ (fun p _ hp => ?_) z4
        have := rix_monoM hs.2.1 c (Nat.le_refl c) (j + 1) (by omega)
        show I6 116 (122 + p) = I2 122 p
        rw [c6 p (by omega), e122]
  · -- a fault
    have g := pRule_g (r := c) hend hS.1
    rw [hjf] at g
    have hpl := pl_n lx jf
    refine ⟨(-100) - nI (pl B n jf), fun I1 => Same [1, 3, 4, 5, 6, 7, 8, 9] I I1 ∧ I1 1 0 = nI 0, fun Q hQ => S_X11_rules (x_tell (d := d + 24) hT (fun K2 c2 lx2 hs2 h301 => ?_) (fun K2 c2 j2 lx2 hs2 hp2 h301 I2 f2 k2 => ⟨_, rfl, fun z => absurd z (nI_pos ?_), fun _ => ?_⟩)), fun I1 q1 Q hQ => ?_⟩
    · have e := stop_uni hs2 hs
      subst e
      exact absurd h301 hg
    · have := pl_n lx j2
      omega
    · have e := stop_uni hs2 hs
      subst e
      rw [hjf] at hp2
      cases hp2
      exact hQ I2 ⟨f2, k2⟩
    · obtain ⟨f1, k1⟩ := q1
      refine mod I1 Q (f1 115 (by decide)) (f1 120 (by decide)) (f1 121 (by decide)) (fun h301 => absurd h301 hg) (fun j hj _ I2 y f2 k9 => ?_)
      rw [hjf] at hj
      cases hj
      refine S_X12_rules_42 (d := d + 39) _ _ (fun I3 e3 => ⟨fun z => absurd rfl z, fun _ => ?_⟩)
      rw [e3, st_nj (by omega), k9]
      refine hQ _ (fault_inv h (fun a ha => ?_) ?_ st_at (fun j hj => ?_))
      · have : a ≠ 115 ∧ a ∉ [115, 122, 123] ∧ a ∉ [1, 3, 4, 5, 6, 7, 8, 9] := by simp at ha ⊢; omega
        rw [st_ne this.1, f2.1 a this.2.1, f1 a this.2.2]
      · rw [st_ne (by omega), f2.1 1 (by decide)]; exact k1
      · rw [st_nj (by omega), f2.2 j (by omega), f1 115 (by decide)]
end L11
