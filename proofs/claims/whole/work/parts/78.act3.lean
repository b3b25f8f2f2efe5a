section P13
variable {E : EE} {d : Nat} {I : IH} {Q : QT} {T : Nat → Nat} {L : List Nat} {q n w z b k a : Nat} {x x1 x2 x3 y : Int32}
noncomputable def acV (a q n w : Nat) (x : Int32) : Int32 := if a = 0 then glV q n w x else if a = 1 then smV q n w x else if dc (ptd n w) = true then (-15) else if a = 2 then waV q n w x else beV q n w x
noncomputable def acB (a q n w : Nat) : List Nat := if a = 0 then glB q else if a = 1 then smB q else if a = 2 then waB q n w else beB q n w
theorem beB_l (q n w : Nat) : (beB q n w).length ≤ 14 := by
  have h1 := smB_l q
  have h2 := smB_l 3
  have h3 := waB_l 3 n w
  have h4 := waB_l q n w
  unfold beB
  split
  · split
    · simp; omega
    · simp; omega
  · simp; omega
theorem acB_l (a q n w : Nat) : (acB a q n w).length ≤ 30 := by
  have h1 := glB_l q
  have h2 := smB_l q
  have h3 := waB_l q n w
  have h4 := beB_l q n w
  unfold acB
  repeat' split
  all_goals omega
theorem end_x {I2 : IH} {z : Nat} {v u : Int32} (h : z = 0 ∨ z = 1) (e : I2 11 4 = nI z) (h0 : z = 0 → Q (some (.int v)) I2) (h1 : z = 1 → Q (some (.int u)) I2) : ((I2 11 4) = 0 → Q (some (.int v)) I2) ∧ (¬ (I2 11 4) = 0 → Q (some (.int u)) I2) := by
  rw [e]
  rcases h with rfl | rfl
  · exact ⟨fun _ => h0 rfl, fun c => absurd rfl c⟩
  · exact ⟨fun c => absurd c one_ne, fun _ => h1 rfl⟩
theorem end_m {I2 : IH} {z : Nat} {v u : Int32} (h : z = 0 ∨ z = 1) (e : I2 115 37 = nI z) (h0 : z = 0 → Q (some (.int v)) I2) (h1 : z = 1 → Q (some (.int u)) I2) : ((I2 115 37) = 0 → Q (some (.int v)) I2) ∧ (¬ (I2 115 37) = 0 → Q (some (.int u)) I2) := by
  rw [e]
  rcases h with rfl | rfl
  · exact ⟨fun _ => h0 rfl, fun c => absurd rfl c⟩
  · exact ⟨fun c => absurd c one_ne, fun _ => h1 rfl⟩
theorem zP_01 : zP n w = 0 ∨ zP n w = 1 := by
  by_cases p : ptd n w
  · exact Or.inr (zP_t p)
  · exact Or.inl (zP_f p)
theorem zP_n (h : zP n w = 0) : ¬ ptd n w := fun p => by rw [zP_t p] at h; cases h
theorem zP_p (h : zP n w = 1) : ptd n w := by
  by_cases p : ptd n w
  · exact p
  · rw [zP_f p] at h; cases h
theorem acV_p (h : ptd n w) (h0 : a ≠ 0) (h1 : a ≠ 1) : acV a q n w x = (-15) := by unfold acV; rw [if_neg h0, if_neg h1, if_pos (dc_t h)]
theorem acV_2 (h : ¬ ptd n w) : acV 2 q n w x = waV q n w x := by unfold acV; rw [if_neg (by omega), if_neg (by omega), if_neg (by rw [dc_f h]; decide), if_pos rfl]
theorem acV_3 (h : ¬ ptd n w) : acV 3 q n w x = beV q n w x := by unfold acV; rw [if_neg (by omega), if_neg (by omega), if_neg (by rw [dc_f h]; decide), if_neg (by omega)]
theorem p_act (hI : Inv I) : Pair E (d + 40) mX11_act mX12_act [.int x1, .int x2, .int x3] [.int x1, .int x2, .int x3] I := by
  obtain ⟨T, h⟩ := id hI
  have hW : WfE T := h.2.1.1
  have h6 : T 6 ≤ 6 := hW.1
  have ev : EvR I 33 34 T := h.2.2.1.1
  -- behind the clearing
  have clr : ∀ Ia Ic : IH, Ia = stI I 11 1 (nI 0) → Ic = stI Ia 11 4 (nI 0) → (∀ a, a ≠ 11 → Ic a = I a) ∧ Ic 11 1 = nI 0 ∧ Ic 11 4 = nI 0 := by
    intro Ia Ic ea ec
    refine ⟨fun a ha => by rw [ec, st_ne ha, ea, st_ne ha], by rw [ec, st_nj (by omega), ea, st_at], by rw [ec, st_at]⟩
  have hasc : ∀ (I2 : IH) (s : Nat), I2 17 = I 17 → I2 18 = I 18 → (hasP I2 T s ↔ hasP I T s) := fun I2 s e1 e2 => by unfold hasP; rw [e1, e2]
  have hvlc : ∀ (I2 : IH) (s : Nat), I2 132 = I 132 → I2 133 = I 133 → hvl I2 T s = hvl I T s := fun I2 s e1 e2 => by unfold hvl; rw [e1, e2]
  -- nothing is done
  have nil : (∀ Q : QT, (∀ Ic : IH, (∀ a, a ≠ 11 → Ic a = I a) → Ic 11 1 = nI 0 → Q (some (.int (nI 0))) Ic) → Mt E (d + 40) mX11_act [.ref (eb E + 0), .int x1, .int x2, .int x3] I Q) → (∀ I1 : IH, (∀ a, a ≠ 11 → I1 a = I a) → ∀ Q : QT, (∀ I2 : IH, I2 = stI I1 115 35 (nI 0) → Q (some (.int (nI 0))) I2) → Mt E (d + 40) mX12_act [.ref (eb E + 115), .int x1, .int x2, .int x3] I1 Q) → Pair E (d + 40) mX11_act mX12_act [.int x1, .int x2, .int x3] [.int x1, .int x2, .int x3] I := by
    intro hx hm
    refine ⟨nI 0, fun I1 => (∀ a, a ≠ 11 → I1 a = I a) ∧ I1 11 1 = nI 0, fun Q hQ => hx Q (fun Ic c1 c2 => hQ Ic ⟨c1, c2⟩), fun I1 q1 Q hQ => hm I1 q1.1 Q (fun I2 e2 => hQ I2 ?_)⟩
    refine act_inv (L := []) hI (by simp) (fun a ha => q1.1 a (by simp at ha; omega)) q1.2 (fun i b hb => by simp at hb) (by rw [e2]; exact Same.st (by simp)) (fun j hj _ _ => by rw [e2, st_nj hj]) (by rw [e2, st_at]; rfl) (fun i b hb => by simp at hb)
  by_cases ok1 : inr x1 0 3
  · by_cases ok2 : inr x2 0 3
    · obtain ⟨s, hs, -, hs2⟩ := inr_n ok1
      obtain ⟨a, ha, -, ha2⟩ := inr_n ok2
      obtain ⟨g1, g2⟩ := held_c h (s := s) (by omega)
      by_cases hp : hasP I T s
      · obtain ⟨v1, v2⟩ := g1 hp
        obtain ⟨k, hk, hk2⟩ := isP_n hp.2
        obtain ⟨k6, p1, p2, p3, p4, p5, p6⟩ := hW.p hk2
        subst hs; subst ha
        have ke : ∀ c : Nat, c < 100 → (nI a = nI c ↔ a = c) := fun c hc => nI_eq (by omega) (by omega)
        refine ⟨acV a (T (38 + 6 * k)) k (T (41 + 6 * k)) x3, fun I1 => Fr1 I I1 ∧ I1 11 1 = nI (acB a (T (38 + 6 * k)) k (T (41 + 6 * k))).length ∧ ∀ i b, (acB a (T (38 + 6 * k)) k (T (41 + 6 * k)))[i]? = some b → I1 12 i = nI b, fun Q hQ => S_X11_act _ _ _ (S_X8_clear (fun Ia ea Ic ec => ⟨rfl, d_isShelf ⟨_, rfl, bk (fun _ => d_isWithin (by omega) ⟨_, rfl, bk (fun _ => ?_) (fun c => absurd ok2 c)⟩) (fun c => absurd ok1 c)⟩⟩)), fun I1 q1 Q hQ => S_X12_act _ _ _ (fun I1a e1a => m_isSheet ⟨_, rfl, bk (fun _ => m_in1 (by omega) (by omega) ⟨_, rfl, bk (fun _ => ?_) (fun c => absurd ok2 c)⟩) (fun c => absurd ok1 c)⟩)⟩
        · obtain ⟨c1, c2, c3⟩ := clr Ia Ic ea ec
          have hp2 : hasP Ic T s := (hasc Ic s (c1 _ (by omega)) (c1 _ (by omega))).mpr hp
          refine d_holdsPane (T := T) (by rw [c1 33 (by omega)]; exact ev.2.2.2.2.1) h6 rfl (by omega) ⟨_, rfl, bk2 (fun _ => ⟨s, rfl, by omega, fun I11 e11 => ⟨k, by rw [c1 18 (by omega)]; exact hk, k6, fun I16 e16 => ?_⟩⟩) (fun c => absurd hp2 c)⟩
          have e18 : Ic 18 s = nI k := by rw [c1 18 (by omega)]; exact hk
          have e39 : I11 39 k = nI (T (41 + 6 * k)) := by rw [e11, st_ne (by omega), c1 39 (by omega)]; exact ev.2.2.2.2.2.2.2.2.2.2.2.2.1 k hk2
          rw [e18]
          have q16 : ∀ a, a ≠ 11 → I16 a = I a := fun a ha => by rw [e16, st_ne ha, e11, st_ne ha, c1 a ha]
          have f16 : Fr1 I I16 := fun a ha => q16 a (by simp at ha; omega)
          have s16 : StX I16 [] 0 k (T (41 + 6 * k)) := by
            refine ⟨?_, ?_, ?_, ?_, fun i b hb => by simp at hb⟩
            · rw [e16, st_nj (by omega), e11, st_nj (by omega), c2]; rfl
            · rw [e16, st_nj (by omega), e11, st_at, e18]
            · rw [e16, st_at, e39]
            · rw [e16, st_nj (by omega), e11, st_nj (by omega), c3]
          have ev16 : EvR I16 33 34 T := ev.same f16 (by decide) (fun i hi => by simp; omega)
          have fin : ∀ (I2 : IH) (B : List Nat) (z : Nat), StX I2 ([] ++ B) z k (T (41 + 6 * k)) → Fr1 I16 I2 → B = acB a (T (38 + 6 * k)) k (T (41 + 6 * k)) → Q (some (.int (acV a (T (38 + 6 * k)) k (T (41 + 6 * k)) x3))) I2 := by
            intro I2 B z s2 f2 hB
            subst hB
            exact hQ I2 ⟨f16.tr f2, s2.1, s2.2.2.2.2⟩
          rw [ke 0 (by omega), ke 1 (by omega), ke 2 (by omega)]
          refine ⟨fun z => ?_, fun z => ?_, fun z => ?_, fun z => ?_⟩
          · subst z
            refine c_thing isEv_ev ev16 hW rfl hk2 ⟨T (38 + 6 * k), by omega, rfl, x_glows (d := d + 37) ⟨p1, p2⟩ s16 (by simp) (fun I2 s2 f2 => ⟨_, rfl, end_x (Or.inl rfl) s2.2.2.2.1 (fun _ => fin I2 _ _ s2 f2 rfl) (fun c => by cases c)⟩)⟩
          · subst z
            refine c_thing isEv_ev ev16 hW rfl hk2 ⟨T (38 + 6 * k), by omega, rfl, x_smokes (d := d + 35) ⟨p1, p2⟩ s16 (by simp) (fun I2 s2 f2 => ⟨_, rfl, end_x (Or.inl rfl) s2.2.2.2.1 (fun _ => fin I2 _ _ s2 f2 rfl) (fun c => by cases c)⟩)⟩
          · subst z
            refine c_thing isEv_ev ev16 hW rfl hk2 ⟨T (38 + 6 * k), by omega, rfl, x_waves (d := d + 36) ⟨p1, p2⟩ s16 (by simp) (fun v I2 hv s2 f2 => ⟨_, rfl, end_x zP_01 s2.2.2.2.1 (fun z => ?_) (fun z => ?_)⟩)⟩
            · rw [hv (zP_n z), ← acV_2 (zP_n z)]; exact fin I2 _ _ s2 f2 rfl
            · rw [← acV_p (a := 2) (q := T (38 + 6 * k)) (x := x3) (zP_p z) (by omega) (by omega)]; exact fin I2 _ _ s2 f2 rfl
          · have : a = 3 := by omega
            subst this
            refine c_thing isEv_ev ev16 hW rfl hk2 ⟨T (38 + 6 * k), by omega, rfl, x_begs (d := d + 33) ⟨p1, p2⟩ s16 (by simp) (fun v I2 hv s2 f2 => ⟨_, rfl, end_x zP_01 s2.2.2.2.1 (fun z => ?_) (fun z => ?_)⟩)⟩
            · rw [hv (zP_n z), ← acV_3 (zP_n z)]; exact fin I2 _ _ s2 f2 rfl
            · rw [← acV_p (a := 3) (q := T (38 + 6 * k)) (x := x3) (zP_p z) (by omega) (by omega)]; exact fin I2 _ _ s2 f2 rfl
        · have qa : ∀ a, a ≠ 11 ∧ a ≠ 12 ∧ a ≠ 115 → I1a a = I a := fun a ha => by rw [e1a, st_ne (by omega), q1.1 a (by simp; omega)]
          have r1 : RM I1a T := fun j a b c => by rw [qa 116 (by omega)]; exact h.1 j a b c
          refine m_heldOn r1 h6 rfl (by omega) ⟨_, rfl, fun _ => ⟨s, rfl, by omega, fun I12 e12 I14 e14 => ?_⟩, fun c => absurd ((hvlc I1a s (qa _ (by omega)) (qa _ (by omega))).trans v1) c⟩
          have e133 : I1a 133 s = nI k := by rw [qa 133 (by omega), v2]; exact hk
          have q14 : ∀ a, a ≠ 115 → I14 a = I1 a := fun a ha => by rw [e14, st_ne ha, e12, st_ne ha, e1a, st_ne ha]
          have e116 : I14 116 = I 116 := by rw [q14 116 (by omega), q1.1 116 (by decide)]
          have s14 : StM I14 [] 0 k (T (38 + 6 * k)) (T (41 + 6 * k)) := by
            refine ⟨?_, ?_, ?_, ?_, ?_, fun i b hb => by simp at hb⟩
            · rw [e14, st_nj (by omega), e12, st_nj (by omega), e1a, st_at]; rfl
            · rw [e14, st_nj (by omega), e12, st_at, e133]
            · rw [e14, st_at]
            · rw [e116]; exact h.1 _ (by omega) (by omega) (by omega)
            · rw [e116, show 38 + 6 * k + 3 = 41 + 6 * k by omega]; exact h.1 _ (by omega) (by omega) (by omega)
          have fin : ∀ (I2 : IH) (B : List Nat) (z : Nat), StM I2 ([] ++ B) z k (T (38 + 6 * k)) (T (41 + 6 * k)) → Fr2 I14 I2 → B = acB a (T (38 + 6 * k)) k (T (41 + 6 * k)) → Q (some (.int (acV a (T (38 + 6 * k)) k (T (41 + 6 * k)) x3))) I2 := by
            intro I2 B z s2 f2 hB
            subst hB
            refine hQ I2 (act_inv (L := acB a (T (38 + 6 * k)) k (T (41 + 6 * k))) hI (acB_l _ _ _ _) q1.1 q1.2.1 q1.2.2 (fun b hb => ?_) (fun j j1 j2 j3 => ?_) s2.1 s2.2.2.2.2.2)
            · rw [f2.1 b hb, q14 b (by simp at hb; omega)]
            · rw [f2.2 j j1 j3, e14, st_nj j3, e12, st_nj j2, e1a, st_nj j1]
          refine m_kind s14 k6 ⟨_, rfl, ?_⟩
          rw [n0, ke 0 (by omega), ke 1 (by omega), ke 2 (by omega)]
          refine ⟨fun y0 => ⟨fun y1 => ⟨fun y2 => ?_, fun y2 => ?_⟩, fun y1 => ?_⟩, fun y0 => ?_⟩
          · have : a = 3 := by omega
            subst this
            refine m_begs (d := d + 33) ⟨p1, p2⟩ k6 s14 (by simp) (fun v I2 hv s2 f2 => ⟨_, rfl, end_m zP_01 s2.2.2.1 (fun z => ?_) (fun z => ?_)⟩)
            · rw [hv (zP_n z), ← acV_3 (zP_n z)]; exact fin I2 _ _ s2 f2 rfl
            · rw [← acV_p (a := 3) (q := T (38 + 6 * k)) (x := x3) (zP_p z) (by omega) (by omega)]; exact fin I2 _ _ s2 f2 rfl
          · subst y2
            refine m_waves (d := d + 36) ⟨p1, p2⟩ k6 s14 (by simp) (fun v I2 hv s2 f2 => ⟨_, rfl, end_m zP_01 s2.2.2.1 (fun z => ?_) (fun z => ?_)⟩)
            · rw [hv (zP_n z), ← acV_2 (zP_n z)]; exact fin I2 _ _ s2 f2 rfl
            · rw [← acV_p (a := 2) (q := T (38 + 6 * k)) (x := x3) (zP_p z) (by omega) (by omega)]; exact fin I2 _ _ s2 f2 rfl
          · subst y1
            exact m_smokes (d := d + 35) ⟨p1, p2⟩ k6 s14 (by simp) (fun I2 s2 f2 => ⟨_, rfl, end_m (Or.inl rfl) s2.2.2.1 (fun _ => fin I2 _ _ s2 f2 rfl) (fun c => by cases c)⟩)
          · subst y0
            exact m_glows (d := d + 37) p2 k6 s14 (by simp) (fun I2 s2 f2 => ⟨_, rfl, end_m (Or.inl rfl) s2.2.2.1 (fun _ => fin I2 _ _ s2 f2 rfl) (fun c => by cases c)⟩)
      · subst hs
        refine nil (fun Q hQ => S_X11_act _ _ _ (S_X8_clear (fun Ia ea Ic ec => ⟨rfl, d_isShelf ⟨_, rfl, bk (fun _ => d_isWithin (by omega) ⟨_, rfl, bk (fun _ => ?_) (fun c => absurd ok2 c)⟩) (fun c => absurd ok1 c)⟩⟩))) (fun I1 q1 Q hQ => S_X12_act _ _ _ (fun I1a e1a => m_isSheet ⟨_, rfl, bk (fun _ => m_in1 (by omega) (by omega) ⟨_, rfl, bk (fun _ => ?_) (fun c => absurd ok2 c)⟩) (fun c => absurd ok1 c)⟩))
        · obtain ⟨c1, c2, c3⟩ := clr Ia Ic ea ec
          exact d_holdsPane (T := T) (by rw [c1 33 (by omega)]; exact ev.2.2.2.2.1) h6 rfl (by omega) ⟨_, rfl, bk2 (fun p => absurd ((hasc Ic s (c1 _ (by omega)) (c1 _ (by omega))).mp p) hp) (fun _ => hQ Ic c1 c2)⟩
        · have qa : ∀ a, a ≠ 11 ∧ a ≠ 115 → I1a a = I a := fun a ha => by rw [e1a, st_ne (by omega), q1 a (by omega)]
          have r1 : RM I1a T := fun j a b c => by rw [qa 116 (by omega)]; exact h.1 j a b c
          exact m_heldOn r1 h6 rfl (by omega) ⟨_, rfl, fun c => absurd ((hvlc I1a s (qa _ (by omega)) (qa _ (by omega))).symm.trans c) (g2 hp), fun _ => hQ I1a e1a⟩
    · exact nil (fun Q hQ => S_X11_act _ _ _ (S_X8_clear (fun Ia ea Ic ec => ⟨rfl, d_isShelf ⟨_, rfl, bk (fun _ => d_isWithin (by omega) ⟨_, rfl, bk (fun p => absurd p ok2) (fun _ => hQ Ic (clr Ia Ic ea ec).1 (clr Ia Ic ea ec).2.1)⟩) (fun c => absurd ok1 c)⟩⟩))) (fun I1 q1 Q hQ => S_X12_act _ _ _ (fun I1a e1a => m_isSheet ⟨_, rfl, bk (fun _ => m_in1 (by omega) (by omega) ⟨_, rfl, bk (fun p => absurd p ok2) (fun _ => hQ I1a e1a)⟩) (fun c => absurd ok1 c)⟩))
  · exact nil (fun Q hQ => S_X11_act _ _ _ (S_X8_clear (fun Ia ea Ic ec => ⟨rfl, d_isShelf ⟨_, rfl, bk (fun p => absurd p ok1) (fun _ => hQ Ic (clr Ia Ic ea ec).1 (clr Ia Ic ea ec).2.1)⟩⟩))) (fun I1 q1 Q hQ => S_X12_act _ _ _ (fun I1a e1a => m_isSheet ⟨_, rfl, bk (fun p => absurd p ok1) (fun _ => hQ I1a e1a)⟩))
end P13
