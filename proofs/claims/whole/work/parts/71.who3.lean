section P21
variable {E : EE} {d : Nat} {I : IH} {Q : QT} {T : Nat → Nat} {k e g r e1 g1 r1 s o kd : Nat} {x1 x2 x3 x4 : Int32}
/-! the reference -/
theorem m_tells_loop (hs : s < 256) (hk : kd < 100) : ∀ (n m : Nat) (I2 : IH), m + n = 16 → (∀ q, q < m → I2 127 q = nI (stS kd s q)) → Same [127] I I2 → (∀ I3, (∀ q, q < 16 → I3 127 q = nI (stS kd s q)) → Same [127] I I3 → Q none I3) → J E (d + 2) mX12_tellsStranger 5 [(0, .ref (eb E + 115)), (1, .int (nI kd)), (3, .int (nI (stS kd s m))), (4, .int (nI m))] [] I2 Q := by
  intro n
  induction n with
  | zero =>
    intro m I2 hm hq hs2 hQ
    refine S_X12_tellsStranger_5 _ _ _ ?_
    rw [nI_leI (by omega) (by omega)]
    exact ⟨fun _ => hQ I2 (fun q z => hq q (by omega)) hs2, fun q => by omega⟩
  | succ n ih =>
    intro m I2 hm hq hs2 hQ
    refine S_X12_tellsStranger_5 _ _ _ ?_
    rw [nI_leI (by omega) (by omega)]
    refine ⟨fun q => by omega, fun _ => ⟨m, rfl, by omega, fun I1 e1 => c_sceneBy kd (stS kd s m) m rfl rfl rfl hk (stS_lt hs m) (by omega) ⟨_, rfl, ?_⟩⟩⟩
    rw [nI_add]
    refine ih (m + 1) I1 (by omega) (fun q z => ?_) (by rw [e1]; exact hs2.tr (Same.st (by simp))) hQ
    by_cases e : q = m
    · subst e; rw [e1, st_at]
    · rw [e1, st_nj e]; exact hq q (by omega)
theorem m_tells (hs : s < 256) (hk : kd < 100) (hQ : ∀ I3, (∀ q, q < 16 → I3 127 q = nI (stS kd s q)) → Same [127] I I3 → Q none I3) : Mt E (d + 2) mX12_tellsStranger [.ref (eb E + 115), .int (nI kd), .int (nI s)] I Q :=
  S_X12_tellsStranger _ _ (m_tells_loop hs hk 16 0 I (by omega) (fun q z => by omega) (Same.rf _ _) hQ)
theorem m_isSo41 {t : Nat} (h : RM I T) (hr : r < 6) (hq : T (76 + 4 * r) ≤ 15 ∧ T (77 + 4 * r) ≤ 15) (ht : t = seen T r k) (hQ : Q (some (.int (nI (bn (soQ T r k))))) I) : J E (d + 1) mX12_isSo 41 [(0, .ref (eb E + 115)), (2, .int (nI 74 + nI 4 * nI r))] [.int (nI t)] I Q := by
  have hs := seen_lt T r k
  refine S_X12_isSo_41 _ _ ⟨76 + 4 * r, by rw [nI_mul, nI_add, nI_add]; congr 1; omega, by omega, 77 + 4 * r, by rw [nI_mul, nI_add, nI_add]; congr 1; omega, by omega, ?_⟩
  rw [h.at _ (by omega), h.at _ (by omega)]
  refine m_in1 (by omega) (by omega) ⟨_, rfl, bz _, ?_⟩
  have e : bn (inr (nI t) (T (76 + 4 * r)) (T (77 + 4 * r))) = bn (soQ T r k) := by
    refine bn_c ?_
    rw [inr_i (by omega), ht]
    exact Iff.rfl
  rw [e]; exact hQ
theorem m_isSo (h : RM I T) (hW : WfQ T) (hr : r < T 8) (hs : s < 256) (h127 : ∀ q, q < 16 → I 127 q = nI (stS kd s q)) (hQ : Q (some (.int (nI (bn (¬ wr T kd s r))))) I) : Mt E (d + 1) mX12_isSo [.ref (eb E + 115), .int (nI r)] I Q := by
  obtain ⟨h8, hq⟩ := hW
  obtain ⟨q1, q2, q3, q4⟩ := hq r hr
  have hl := stS_lt (kd := kd) hs (T (74 + 4 * r))
  have hQ : Q (some (.int (nI (bn (soQ T r (stS kd s (T (74 + 4 * r)))))))) I := by
    have e : bn (¬ wr T kd s r) = bn (soQ T r (stS kd s (T (74 + 4 * r)))) := bn_c (by unfold wr; exact Classical.not_not)
    rw [← e]; exact hQ
  refine S_X12_isSo _ ⟨74 + 4 * r, by rw [nI_mul, nI_add], by omega, T (74 + 4 * r), h.at _ (by omega), by omega, 75 + 4 * r, by rw [nI_mul, nI_add, nI_add]; congr 1; omega, by omega, ?_⟩
  rw [h.at _ (by omega), h127 _ (by omega), n0, nI_eq (by omega) (by omega)]
  refine ⟨fun q => ?_, fun q => c_ones (stS kd s (T (74 + 4 * r))) rfl hl ⟨_, rfl, ?_⟩⟩
  · rw [rem_eq (by omega) (by omega) (by omega)]
    exact m_isSo41 h (by omega) ⟨by omega, q4⟩ (by unfold seen; rw [if_neg q]) hQ
  · exact m_isSo41 h (by omega) ⟨by omega, q4⟩ (by unfold seen; rw [if_pos q]) hQ
def oI (b : Option Nat) : Int32 := match b with | none => (-1) | some q => nI q
theorem m_fit38 {b : Option Nat} {c : Nat} {a : Int32} (h : RM I T) (hW : WfQ T) (hb : ∀ q, b = some q → q < 6) (h127 : ∀ q, q < 16 → I 127 q = nI (stS (1 + c / 256) (c % 256) q)) (hJ : J E (d + 2) mX12_fitting 83 [(0, .ref (eb E + 115)), (1, .int (oI b)), (2, .int a), (3, .int (nI c)), (4, .int (nI (bn (fitP T b c))))] [] I Q) : ∀ (n r : Nat), r + n = T 8 → (∀ q, q < r → b = some q ∨ ¬ wr T (1 + c / 256) (c % 256) q) → J E (d + 2) mX12_fitting 38 [(0, .ref (eb E + 115)), (1, .int (oI b)), (2, .int a), (3, .int (nI c)), (4, .int (nI 1)), (5, .int (nI r))] [] I Q := by
  have h8 : T 8 ≤ 6 := hW.1
  intro n
  induction n with
  | zero =>
    intro r hr hp
    refine S_X12_fitting_38 _ _ _ _ _ ?_
    rw [h.at 8 (by omega), nI_leI (by omega) (by omega)]
    rw [bn_t (show fitP T b c from fun q hq => hp q (by omega))] at hJ
    exact ⟨fun _ => hJ, fun q => by omega⟩
  | succ n ih =>
    intro r hr hp
    have hx : nI r = oI b ↔ b = some r := by
      cases b with
      | none =>
        refine ⟨fun q => ?_, fun q => by cases q⟩
        have q : nI r = (-1) := q
        rw [zI_neg1, nI_z, zI_eq (by omega) (by omega) (by omega) (by omega)] at q
        omega
      | some w =>
        have := hb w rfl
        show nI r = nI w ↔ _
        rw [nI_eq (by omega) (by omega)]
        exact ⟨fun q => by rw [q], fun q => by cases q; rfl⟩
    have nx : (b = some r ∨ ¬ wr T (1 + c / 256) (c % 256) r) → J E (d + 2) mX12_fitting 38 [(0, .ref (eb E + 115)), (1, .int (oI b)), (2, .int a), (3, .int (nI c)), (4, .int (nI 1)), (5, .int (nI (r + 1)))] [] I Q := by
      intro hz
      refine ih (r + 1) (by omega) (fun q hq => ?_)
      by_cases e : q = r
      · subst e; exact hz
      · exact hp q (by omega)
    refine S_X12_fitting_38 _ _ _ _ _ ?_
    rw [h.at 8 (by omega), nI_leI (by omega) (by omega), hx, nI_add]
    refine ⟨fun q => by omega, fun _ => ⟨fun q => absurd q (by decide +kernel), fun _ => ⟨fun q => nx (Or.inl q), fun q => m_isSo h hW (by omega) (Nat.mod_lt _ (by omega)) h127 ⟨_, rfl, bk (fun p => nx (Or.inr p)) (fun p => ?_)⟩⟩⟩⟩
    rw [bn_f (show ¬ fitP T b c from fun w => by rcases w r (by omega) with w | w; exact q w; exact p w)] at hJ
    refine S_X12_fitting_38 _ _ _ _ _ ⟨fun _ => hJ, fun _ => ⟨fun _ => hJ, fun z => absurd rfl z⟩⟩
def RF (I I2 : IH) : Prop := Same [115, 127] I I2 ∧ ∀ s, s ≠ 26 → I2 115 s = I 115 s
theorem RF.rf (I : IH) : RF I I := ⟨Same.rf _ _, fun _ _ => rfl⟩
theorem RF.tr {I2 I3 : IH} (h : RF I I2) (h2 : RF I2 I3) : RF I I3 := ⟨h.1.tr h2.1, fun s a => (h2.2 s a).trans (h.2 s a)⟩
def orE (f : Option Nat) (g : Option Nat) : Option Nat := match f with | some q => some q | none => g
theorem m_fit9 {b : Option Nat} (hW : WfQ T) (hb : ∀ q, b = some q → q < 6) : ∀ (n c a : Nat) (f : Option Nat) (I : IH), c + n = 1280 → RM I T → I 115 26 = oI f → (∀ q, f = some q → q < 1280) → (∀ I2, I2 115 26 = oI (orE f (ffW (fitP T b) n c)) → RF I I2 → Q (some (.int (nI (cnW (fitP T b) n c a)))) I2) → J E (d + 3) mX12_fitting 9 [(0, .ref (eb E + 115)), (1, .int (oI b)), (2, .int (nI a)), (3, .int (nI c))] [] I Q := by
  intro n
  induction n with
  | zero =>
    intro c a f I hc h h26 hf hQ
    refine S_X12_fitting_9 _ _ _ ?_
    rw [nI_leI (by omega) (by omega)]
    refine ⟨fun _ => hQ I ?_ (RF.rf I), fun q => by omega⟩
    rw [h26]; cases f <;> rfl
  | succ n ih =>
    intro c a f I hc h h26 hf hQ
    refine S_X12_fitting_9 _ _ _ ?_
    rw [nI_leI (by omega) (by omega), rem_eq (by omega) (by omega) (by omega), pk_div (by omega) (by omega) (by omega), nI_add]
    refine ⟨fun q => by omega, fun _ => m_tells (Nat.mod_lt _ (by omega)) (by omega) (fun I3 h3 s3 => ⟨rfl, ?_⟩)⟩
    have r3 : RM I3 T := h.same s3 (by simp)
    have e3 : I3 115 = I 115 := s3 115 (by simp)
    have f3 : RF I I3 := ⟨s3.mono (by simp), fun s _ => by rw [e3]⟩
    refine m_fit38 (d := d + 1) r3 hW hb h3 ?_ (T 8) 0 (by omega) (fun q hq => by omega)
    by_cases p : fitP T b c
    · rw [bn_t p]
      have hQ : ∀ I2, I2 115 26 = oI (orE f (some c)) → RF I I2 → Q (some (.int (nI (cnW (fitP T b) n (c + 1) (a + 1))))) I2 := by
        intro I2 q1 q2
        have hQ := hQ I2
        unfold cnW ffW at hQ
        rw [dc_t p, if_pos rfl, if_pos rfl] at hQ
        exact hQ q1 q2
      refine S_X12_fitting_83 _ _ _ _ ⟨fun q => absurd q (by decide +kernel), fun _ => S_X12_fitting_94 _ _ _ _ _ ⟨fun q => absurd q (by decide +kernel), fun _ => ?_⟩⟩
      rw [e3, h26, nI_add, nI_add]
      cases f with
      | none =>
        refine ⟨fun q => absurd q (by decide +kernel), fun _ I5 e5 => ?_⟩
        refine ih (c + 1) (a + 1) (some c) I5 (by omega) (by rw [e5]; exact r3.same (Same.st (L := [115]) (by simp)) (by simp)) (by rw [e5, st_at]; rfl) (fun q hq => by cases hq; omega) (fun I2 q1 q2 => hQ I2 q1 ((f3.tr ?_).tr q2))
        rw [e5]; exact ⟨Same.st (by simp), fun s hs => by rw [st_nj hs]⟩
      | some w =>
        have hw := hf w rfl
        refine ⟨fun _ I5 e5 => ?_, fun q => absurd (show 0 ≤ nI w from nI_pos' (by omega)) q⟩
        refine ih (c + 1) (a + 1) (some w) I5 (by omega) (by rw [e5]; exact r3.same (Same.st (L := [115]) (by simp)) (by simp)) (by rw [e5, st_at]) hf (fun I2 q1 q2 => hQ I2 q1 ((f3.tr ?_).tr q2))
        rw [e5]; exact ⟨Same.st (by simp), fun s hs => by rw [st_nj hs]⟩
    · rw [bn_f p]
      have hQ : ∀ I2, I2 115 26 = oI (orE f (ffW (fitP T b) n (c + 1))) → RF I I2 → Q (some (.int (nI (cnW (fitP T b) n (c + 1) a)))) I2 := by
        intro I2 q1 q2
        have hQ := hQ I2
        unfold cnW ffW at hQ
        rw [dc_f p, if_neg Bool.false_ne_true, if_neg Bool.false_ne_true] at hQ
        exact hQ q1 q2
      refine S_X12_fitting_83 _ _ _ _ ⟨fun _ => S_X12_fitting_94 _ _ _ _ _ ⟨fun _ I5 e5 => ?_, fun q => absurd rfl q⟩, fun q => absurd rfl q⟩
      rw [e3, h26] at e5
      rw [nI_add, nI_add, Nat.add_zero]
      refine ih (c + 1) a f I5 (by omega) (by rw [e5]; exact r3.same (Same.st (L := [115]) (by simp)) (by simp)) (by rw [e5, st_at]) hf (fun I2 q1 q2 => hQ I2 q1 ((f3.tr ?_).tr q2))
      rw [e5]; exact ⟨Same.st (by simp), fun s hs => by rw [st_nj hs]⟩
theorem m_fit {b : Option Nat} (h : RM I T) (hW : WfQ T) (hb : ∀ q, b = some q → q < 6) (hQ : ∀ I2, I2 115 26 = oI (ffW (fitP T b) 1280 0) → RF I I2 → Q (some (.int (nI (cnW (fitP T b) 1280 0 0)))) I2) : Mt E (d + 3) mX12_fitting [.ref (eb E + 115), .int (oI b)] I Q := by
  refine S_X12_fitting _ (fun I1 e1 => ?_)
  refine m_fit9 hW hb 1280 0 0 none I1 (by omega) (by rw [e1]; exact h.same (Same.st (L := [115]) (by simp)) (by simp)) (by rw [e1, st_at]; rfl) (fun q hq => by cases hq) (fun I2 q1 q2 => hQ I2 q1 (RF.tr ?_ q2))
  rw [e1]; exact ⟨Same.st (by simp), fun s hs => by rw [st_nj hs]⟩
theorem RF.inv {I2 : IH} (h : InvT I T) (s2 : RF I I2) : InvT I2 T := by
  obtain ⟨a1, a2, a3, a4, a5, a6⟩ := h
  obtain ⟨o1, o2, o3, o4, o5, o6⟩ := a6
  have q : ∀ a, a ≠ 115 → a ≠ 127 → I2 a = I a := fun a ha hb => s2.1 a (by simp; exact ⟨ha, hb⟩)
  refine ⟨a1.same s2.1 (by simp), a2, a3.eqs (fun a ha => q a (by revert a; decide) (by revert a; decide)), ?_, ?_, o1.eqs (by rw [q 0 (by omega) (by omega)]) (s2.2 3 (by omega)) (fun a ha => q a (by omega) (by omega)), o2.eqs (by rw [q 1 (by omega) (by omega)]) (s2.2 6 (by omega)) (q 120 (by omega) (by omega)) (q 2 (by omega) (by omega)), o3.eqs (by rw [q 0 (by omega) (by omega)]) (s2.2 28 (by omega)) (q 13 (by omega) (by omega)) (q 128 (by omega) (by omega)), o4.eqs (fun a ha => q a (by omega) (by omega)), o5.eqs (fun a ha => q a (by omega) (by omega)), o6.eqs (by rw [q 11 (by omega) (by omega)]) (s2.2 35 (by omega)) (q 12 (by omega) (by omega)) (q 134 (by omega) (by omega))⟩
  · rw [q 33 (by omega) (by omega), q 116 (by omega) (by omega)]; exact a4
  · rw [q 33 (by omega) (by omega), q 116 (by omega) (by omega)]; exact a5
/-! how many, and the first -/
theorem cnW_z (P : Nat → Prop) : ∀ (n c a : Nat), cnW P n c a ≤ a + n ∧ ((cnW P n c a = a ∧ ffW P n c = none ∧ ∀ q, c ≤ q → q < c + n → ¬ P q) ∨ (a < cnW P n c a ∧ ∃ q, c ≤ q ∧ q < c + n ∧ P q ∧ ffW P n c = some q)) := by
  intro n
  induction n with
  | zero => intro c a; exact ⟨Nat.le_refl _, Or.inl ⟨rfl, rfl, fun q h1 h2 => by omega⟩⟩
  | succ n ih =>
    intro c a
    unfold cnW ffW
    by_cases p : P c
    · rw [dc_t p, if_pos rfl, if_pos rfl]
      obtain ⟨i1, i2⟩ := ih (c + 1) (a + 1)
      refine ⟨by omega, Or.inr ⟨?_, c, by omega, by omega, p, rfl⟩⟩
      rcases i2 with i2 | i2 <;> omega
    · rw [dc_f p, if_neg Bool.false_ne_true, if_neg Bool.false_ne_true]
      obtain ⟨i1, i2⟩ := ih (c + 1) a
      refine ⟨by omega, ?_⟩
      rcases i2 with ⟨j1, j2, j3⟩ | ⟨j1, q, j2, j3, j4, j5⟩
      · refine Or.inl ⟨j1, j2, fun q h1 h2 => ?_⟩
        by_cases e : q = c
        · subst e; exact p
        · exact j3 q (by omega) (by omega)
      · exact Or.inr ⟨j1, q, by omega, by omega, j4, j5⟩
theorem p_who (hI : Inv I) : Pair E (d + 40) mX11_who mX12_who [.int x1] [.int x1] I := by
  obtain ⟨T, h⟩ := id hI
  obtain ⟨a1, a2, a3, a4, a5, a6⟩ := id h
  have hW : WfQ T := a2.2.2.1
  by_cases ok : inr x1 0 2
  · obtain ⟨x, hx, -, hx2⟩ := inr_n ok
    subst hx
    obtain ⟨z1, z2⟩ := cnW_z (fitP T none) 1280 0 0
    refine ⟨whV (fitP T none) x 1280 0 0, fun I1 => I1 = I, fun Q hQ => S_X11_who _ (d_isWithin (by omega) ⟨_, rfl, bk2 (fun _ => x_last a3.1 hW (fun L hL => ⟨_, rfl, ?_⟩)) (fun q => absurd ok q)⟩), fun I1 e1 Q hQ => ?_⟩
    · exact S_X11_who_23 _ _ _ _ ⟨fun q => absurd q (by decide +kernel), fun _ => x_who_loop a3.1 hW hL hx2 1280 1 0 0 0 (by omega) (by omega) (by omega) (by omega) (by omega) (hQ I rfl)⟩
    · subst e1
      refine S_X12_who _ (m_in1 (by omega) (by omega) ⟨_, rfl, bk2 (fun _ => m_fit (b := none) a1 hW (fun q hq => by cases hq) (fun I2 h2 s2 => ⟨_, rfl, ?_⟩)) (fun q => absurd ok q)⟩)
      have hQ := hQ I2 ⟨T, RF.inv h s2⟩
      unfold whV at hQ
      rw [n0, nI_leI (by omega) (by omega), nI_eq (by omega) (by omega)]
      have e28 : (x = 0 ∨ cnW (fitP T none) 1280 0 0 ≠ 0) → J E (d + 40) mX12_who 28 [(0, .ref (eb E + 115)), (1, .int (nI x)), (2, .int (nI (cnW (fitP T none) 1280 0 0)))] [] I2 Q := by
        intro hc
        refine S_X12_who_28 _ _ ?_
        rw [n0, nI_eq (by omega) (by omega), nI_eq (by omega) (by omega)]
        refine ⟨fun q => ?_, fun q => ?_⟩
        · rw [if_neg q] at hQ
          rcases z2 with ⟨j1, j2, j3⟩ | ⟨j1, w, j2, j3, j4, j5⟩
          · exact absurd j1 (hc.resolve_left q)
          · rw [j5] at hQ h2
            have hQ : Q (some (.int (if x = 1 then nI (1 + w / 256) else nI (w % 256)))) I2 := hQ
            rw [show I2 115 26 = nI w from h2, rem_eq (by omega) (by omega) (by omega), pk_div (by omega) (by omega) (by omega), nI_add]
            refine ⟨fun y => ?_, fun y => ?_⟩
            · rw [if_neg y] at hQ; exact hQ
            · rw [if_pos y] at hQ; exact hQ
        · rw [if_pos q] at hQ; exact hQ
      refine ⟨fun q => e28 (Or.inl (by omega)), fun q => ⟨fun y => e28 (Or.inr y), fun y => ?_⟩⟩
      rw [if_neg (by omega)] at hQ
      rcases z2 with ⟨j1, j2, j3⟩ | ⟨j1, w, j2, j3, j4, j5⟩
      · rw [j2] at hQ; exact hQ
      · omega
  · exact Pair.pure hI (-1) (fun Q hQ => S_X11_who _ (d_isWithin (by omega) ⟨_, rfl, bk2 (fun p => absurd p ok) (fun _ => hQ)⟩)) (fun Q hQ => S_X12_who _ (m_in1 (by omega) (by omega) ⟨_, rfl, bk2 (fun p => absurd p ok) (fun _ => hQ)⟩))
end P21
