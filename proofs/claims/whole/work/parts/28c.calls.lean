/-! ===== over, walk, retire, undo, back: the calls ===== -/
theorem e_over {hx hm : am_M} (r : Rel hx hm) (a b : Int) (ha : am_in a) : Same (fX8_over a b hx) (fX9_over a b hm) := by
  unfold fX8_over fX9_over
  rcases mt r a ha with ⟨d, n, j, rfl, D, hj⟩ | ⟨e1, e2⟩
  · by_cases cm : 0 ≤ b ∧ b ≤ 100000
    · obtain ⟨h', e, s'⟩ := m_isEnded D hj hm (sc.rf _)
      simp only [D.lw hj hx (sc.rf _), D.im hj hm (sc.rf _), ↓am_b_t, ↓am_l_t, am_on_some D.2.1, D.no hj, fj (D.j16 hj), fd D.2.1, fc D.2.1 (D.j16 hj), cd_div d j (D.j16 hj) D.2.1, cd_mod d j (D.j16 hj), ↓reduceIte, Int.toNat_natCast, z10, z00, p_isMinute, q_isMinute, eqT cm, e]
      by_cases c : hx 20 (16 * d + j) = 0
      · simp only [eqT c, ↓reduceIte]
        exact Same.mk rfl (r.sc (sc.rf _) s')
      · simp only [eqF c, ↓reduceIte, z10]
        exact Same.mk rfl (u_over (D.sc (sc.rf _) s') hj c b cm)
    · simp only [D.lw hj hx (sc.rf _), D.im hj hm (sc.rf _), ↓am_b_t, ↓am_l_t, am_on_some D.2.1, D.no hj, fj (D.j16 hj), fd D.2.1, fc D.2.1 (D.j16 hj), cd_div d j (D.j16 hj) D.2.1, cd_mod d j (D.j16 hj), ↓reduceIte, Int.toNat_natCast, z10, z00, p_isMinute, q_isMinute, eqF cm]
      exact Same.mk rfl r
  · rw [e1 _ (sc.rf _), am_b_some, am_on_none, e2 _ (sc.rf _), am_b_some, if_pos rfl]
    exact Same.mk rfl r
/-- refusals that point, walk and retire share: the class's word -/
theorem p_ref {hx hm : am_M} {d n j : Nat} (D : Dr hx hm d n) (hj : j < n - 1) (h : am_M) (hs : sc hx h) : fX8_refusalToPlay d (j : Int) h = some (if hx 20 (16 * d + j) = 0 then (if sd hx d n j 0 = -2 ∨ sd hx d n j 1 = -2 then -5 else 0) else -6, h) := by
  unfold fX8_refusalToPlay
  simp only [fj (D.j16 hj), ↓reduceIte, Int.toNat_natCast, hs 20 (by decide), p_isKnown D hj h hs, ↓am_b_t]
  by_cases c : hx 20 (16 * d + j) = 0
  · by_cases c2 : sd hx d n j 0 = -2 ∨ sd hx d n j 1 = -2
    · simp only [eqT c, eqT c2, ↓reduceIte]
    · simp only [eqT c, eqF c2, ↓reduceIte, z10]
  · simp only [eqF c, ↓reduceIte]
theorem e_ends {hx hm : am_M} (r : Rel hx hm) {d n j : Nat} (D : Dr hx hm d n) (hj : j < n - 1) (w how pt : Int) (hw : w = 0 ∨ w = 1) (hh : how = 4 ∧ pt = 0 ∨ how = 5 ∧ pt = 1) : (hx 20 (16 * d + j) ≠ 0 ∧ ∃ h', fX9_ends ((16 * d + j : Nat) : Int) w how pt hm = some (-6, h') ∧ Rel hx h') ∨ (hx 20 (16 * d + j) = 0 ∧ (sd hx d n j 0 = -2 ∨ sd hx d n j 1 = -2) ∧ ∃ h', fX9_ends ((16 * d + j : Nat) : Int) w how pt hm = some (-5, h') ∧ Rel hx h') ∨ (hx 20 (16 * d + j) = 0 ∧ ¬ (sd hx d n j 0 = -2 ∨ sd hx d n j 1 = -2) ∧ (hx 9 (16 * d + j) ≤ 0 ↔ pt = 1) ∧ ∃ h', fX9_ends ((16 * d + j : Nat) : Int) w how pt hm = some (-4, h') ∧ Rel hx h') ∨ (hx 20 (16 * d + j) = 0 ∧ ¬ (sd hx d n j 0 = -2 ∨ sd hx d n j 1 = -2) ∧ (hx 9 (16 * d + j) ≤ 0 ↔ pt = 0) ∧ ∃ h', fX9_ends ((16 * d + j : Nat) : Int) w how pt hm = some (1, h') ∧ Rel (am_up (am_up hx 20 (16 * d + j) how) 21 (16 * d + j) w) h') := by
  have hw' : 0 ≤ w ∧ w ≤ 1 := by omega
  have hhow : how = 4 ∨ how = 5 := by omega
  have hpt : pt = 0 ∨ pt = 1 := by omega
  obtain ⟨h1, e1, s1⟩ := m_isEnded D hj hm (sc.rf _)
  unfold fX9_ends fX9_ends_55
  simp only [D.lw hj hx (sc.rf _), D.im hj hm (sc.rf _), ↓am_b_t, ↓am_l_t, am_on_some D.2.1, D.no hj, fj (D.j16 hj), fd D.2.1, fc D.2.1 (D.j16 hj), cd_div d j (D.j16 hj) D.2.1, cd_mod d j (D.j16 hj), ↓reduceIte, Int.toNat_natCast, z10, z00, p_in, eqT hw', e1]
  by_cases c : hx 20 (16 * d + j) = 0
  · have c6 : hx 20 (16 * d + j) ≠ 6 := by rw [c]; decide
    obtain ⟨h2, e2, s2⟩ := m_isKnown D hj h1 s1
    have hkn := kn D hj c6
    simp only [eqT c, ↓reduceIte, e2, ↓am_b_t, s2 9 (by decide), ← r.kk (k := 9) (by decide) (by decide)]
    have rr : Rel hx h2 := r.sc (sc.rf _) s2
    by_cases c2 : sd hx d n j 0 = -2 ∨ sd hx d n j 1 = -2
    · have c3 := hkn.mpr c2
      simp only [eqT c3, ↓reduceIte]
      exact Or.inr (Or.inl ⟨trivial, c2, _, rfl, rr⟩)
    · have c3 : ¬ (sd hx d n j 0 < 0 ∨ sd hx d n j 1 < 0) := fun z => c2 (hkn.mp z)
      simp only [eqF c3, ↓reduceIte, z10]
      have key := u_fin (D.sc (sc.rf _) s2) hj c (fun z => kn_f D hj c2 z) how w hhow hw
      by_cases cq : hx 9 (16 * d + j) ≤ 0
      · simp only [eqT cq, ↓reduceIte]
        rcases hpt with q | q
        · subst q
          simp only [↓reduceIte]
          exact Or.inr (Or.inr (Or.inr ⟨trivial, c2, by simp, _, rfl, key⟩))
        · subst q
          simp only [↓reduceIte, show ((0 : Int) = 1) = False by decide]
          exact Or.inr (Or.inr (Or.inl ⟨trivial, c2, by simp, _, rfl, rr⟩))
      · simp only [eqF cq, ↓reduceIte]
        rcases hpt with q | q
        · subst q
          simp only [↓reduceIte, z10]
          exact Or.inr (Or.inr (Or.inl ⟨trivial, c2, by simp, _, rfl, rr⟩))
        · subst q
          simp only [↓reduceIte]
          exact Or.inr (Or.inr (Or.inr ⟨trivial, c2, by simp, _, rfl, key⟩))
  · simp only [eqF c, ↓reduceIte, z10]
    exact Or.inl ⟨c, _, rfl, r.sc (sc.rf _) s1⟩
theorem ends_out {hx hm : am_M} {d n j : Nat} (D : Dr hx hm d n) (hj : j < n - 1) (w how pt : Int) (hw : ¬ (0 ≤ w ∧ w ≤ 1)) : fX9_ends ((16 * d + j : Nat) : Int) w how pt hm = some (-1, hm) := by
  unfold fX9_ends
  simp only [D.lw hj hx (sc.rf _), D.im hj hm (sc.rf _), ↓am_b_t, ↓am_l_t, am_on_some D.2.1, D.no hj, fj (D.j16 hj), fd D.2.1, fc D.2.1 (D.j16 hj), cd_div d j (D.j16 hj) D.2.1, cd_mod d j (D.j16 hj), ↓reduceIte, Int.toNat_natCast, z10, z00, p_in, eqF hw]
theorem e_walk {hx hm : am_M} (r : Rel hx hm) (a b : Int) (ha : am_in a) : Same (fX8_walk a b hx) (fX9_walk a b hm) := by
  unfold fX8_walk fX9_walk
  rcases mt r a ha with ⟨d, n, j, rfl, D, hj⟩ | ⟨e1, e2⟩
  · by_cases cs : b = 0 ∨ b = 1
    · have hE := e_ends r D hj b 4 0 cs (Or.inl ⟨rfl, rfl⟩)
      have hq := (D.Q (D.j16 hj)).1
      simp only [D.lw hj hx (sc.rf _), D.im hj hm (sc.rf _), ↓am_b_t, ↓am_l_t, am_on_some D.2.1, D.no hj, fj (D.j16 hj), fd D.2.1, fc D.2.1 (D.j16 hj), cd_div d j (D.j16 hj) D.2.1, cd_mod d j (D.j16 hj), ↓reduceIte, Int.toNat_natCast, z10, z00, p_isSide, eqT cs, p_ref D hj hx (sc.rf _)]
      unfold fX2_finish
      simp only [fj (D.j16 hj), ↓reduceIte, Int.toNat_natCast, ↓am_l_t, ↓am_b_t]
      rcases hE with ⟨c, h', e, rr⟩ | ⟨c, c2, h', e, rr⟩ | ⟨c, c2, c3, h', e, rr⟩ | ⟨c, c2, c3, h', e, rr⟩
      · simp only [eqF c, ↓reduceIte, e, ↓am_b_t, show ((-6 : Int) = 0) = False by decide]
        exact Same.mk rfl rr
      · simp only [eqT c, eqT c2, ↓reduceIte, e, ↓am_b_t, show ((-5 : Int) = 0) = False by decide]
        exact Same.mk rfl rr
      · have c4 : ¬ hx 9 (16 * d + j) ≤ 0 := fun z => absurd (c3.mp z) (by decide)
        simp only [eqT c, eqF c2, eqF c4, ↓reduceIte, e, ↓am_b_t]
        exact Same.mk rfl rr
      · have c4 : hx 9 (16 * d + j) ≤ 0 := c3.mpr rfl
        simp only [eqT c, eqF c2, eqT c4, ↓reduceIte, e, ↓am_b_t]
        exact Same.mk rfl rr
    · have cs' : ¬ (0 ≤ b ∧ b ≤ 1) := by omega
      simp only [D.lw hj hx (sc.rf _), D.im hj hm (sc.rf _), ↓am_b_t, ↓am_l_t, am_on_some D.2.1, D.no hj, fj (D.j16 hj), fd D.2.1, fc D.2.1 (D.j16 hj), cd_div d j (D.j16 hj) D.2.1, cd_mod d j (D.j16 hj), ↓reduceIte, Int.toNat_natCast, z10, z00, p_isSide, eqF cs, ends_out D hj b 4 0 cs']
      exact Same.mk rfl r
  · unfold fX9_ends
    rw [e1 _ (sc.rf _), am_b_some, am_on_none, e2 _ (sc.rf _), am_b_some, if_pos rfl, am_b_some]
    exact Same.mk rfl r
theorem w1s {b : Int} (c : b = 0 ∨ b = 1) : am_w (1 - b) = 1 - b := pw (by omega) (by omega)
theorem w1n {b : Int} (hb : am_in b) (c : ¬ (b = 0 ∨ b = 1)) : ¬ (0 ≤ am_w (1 - b) ∧ am_w (1 - b) ≤ 1) := by
  unfold am_in at hb
  unfold am_w
  omega
theorem e_retire {hx hm : am_M} (r : Rel hx hm) (a b : Int) (ha : am_in a) (hb : am_in b) : Same (fX8_retire a b hx) (fX9_retire a b hm) := by
  unfold fX8_retire fX9_retire
  rcases mt r a ha with ⟨d, n, j, rfl, D, hj⟩ | ⟨e1, e2⟩
  · by_cases cs : b = 0 ∨ b = 1
    · have cw : 1 - b = 0 ∨ 1 - b = 1 := by omega
      have hE := e_ends r D hj (1 - b) 5 1 cw (Or.inr ⟨rfl, rfl⟩)
      have hq := (D.Q (D.j16 hj)).1
      simp only [D.lw hj hx (sc.rf _), D.im hj hm (sc.rf _), ↓am_b_t, ↓am_l_t, am_on_some D.2.1, D.no hj, fj (D.j16 hj), fd D.2.1, fc D.2.1 (D.j16 hj), cd_div d j (D.j16 hj) D.2.1, cd_mod d j (D.j16 hj), ↓reduceIte, Int.toNat_natCast, z10, z00, p_isSide, eqT cs, p_ref D hj hx (sc.rf _), w1s cs]
      unfold fX2_finish
      simp only [fj (D.j16 hj), ↓reduceIte, Int.toNat_natCast, ↓am_l_t, ↓am_b_t]
      rcases hE with ⟨c, h', e, rr⟩ | ⟨c, c2, h', e, rr⟩ | ⟨c, c2, c3, h', e, rr⟩ | ⟨c, c2, c3, h', e, rr⟩
      · simp only [eqF c, ↓reduceIte, e, ↓am_b_t, show ((-6 : Int) = 0) = False by decide]
        exact Same.mk rfl rr
      · simp only [eqT c, eqT c2, ↓reduceIte, e, ↓am_b_t, show ((-5 : Int) = 0) = False by decide]
        exact Same.mk rfl rr
      · have c4 : hx 9 (16 * d + j) = 0 := by
          have := c3.mpr rfl
          omega
        simp only [eqT c, eqF c2, eqT c4, ↓reduceIte, e, ↓am_b_t]
        exact Same.mk rfl rr
      · have c4 : ¬ hx 9 (16 * d + j) = 0 := fun z => absurd (c3.mp (by rw [z]; decide)) (by decide)
        simp only [eqT c, eqF c2, eqF c4, ↓reduceIte, e, ↓am_b_t]
        exact Same.mk rfl rr
    · simp only [D.lw hj hx (sc.rf _), D.im hj hm (sc.rf _), ↓am_b_t, ↓am_l_t, am_on_some D.2.1, D.no hj, fj (D.j16 hj), fd D.2.1, fc D.2.1 (D.j16 hj), cd_div d j (D.j16 hj) D.2.1, cd_mod d j (D.j16 hj), ↓reduceIte, Int.toNat_natCast, z10, z00, p_isSide, eqF cs, ends_out D hj (am_w (1 - b)) 5 1 (w1n hb cs)]
      exact Same.mk rfl r
  · unfold fX9_ends
    rw [e1 _ (sc.rf _), am_b_some, am_on_none, e2 _ (sc.rf _), am_b_some, if_pos rfl, am_b_some]
    exact Same.mk rfl r
/-! what hangs on a match -/
def nx (hx : am_M) (d n j : Nat) : Prop := n / 2 + j / 2 < n - 1 ∧ (0 < hx 9 (16 * d + (n / 2 + j / 2)) ∨ hx 20 (16 * d + (n / 2 + j / 2)) ≠ 0)
theorem nx_f {hx hm : am_M} {d n j : Nat} (D : Dr hx hm d n) (h : ¬ nx hx d n j) (c : n / 2 + j / 2 < n - 1) : hx 20 (16 * d + (n / 2 + j / 2)) = 0 ∧ hx 9 (16 * d + (n / 2 + j / 2)) = 0 := by
  have hq := (D.Q (D.j16 c)).1
  unfold nx at h
  constructor
  · by_cases z : hx 20 (16 * d + (n / 2 + j / 2)) = 0
    · exact z
    · exact absurd ⟨c, Or.inr z⟩ h
  · by_cases z : 0 < hx 9 (16 * d + (n / 2 + j / 2))
    · exact absurd ⟨c, Or.inl z⟩ h
    · omega
theorem p_nx {hx hm : am_M} {d n j : Nat} (D : Dr hx hm d n) (hj : j < n - 1) (h : am_M) (hs : sc hx h) : (nx hx d n j → fX2_nextGoesOn d (j : Int) h = some (1, h)) ∧ (¬ nx hx d n j → fX2_nextGoesOn d (j : Int) h = some (0, h)) := by
  have e1 : h 1 d = n := by rw [hs 1 (by decide)]; exact D.2.2.2.1
  unfold fX2_nextGoesOn
  rw [p_next d n j h D.2.2.1 e1 (D.j16 hj), am_b_some]
  by_cases c : n / 2 + j / 2 < n - 1
  · have i0 : (((n / 2 + j / 2 : Nat) : Int) < 0) = False := eq_false (by omega)
    have hq := (D.Q (D.j16 c)).1
    simp only [eqT c, ↓reduceIte, i0, fj (D.j16 c), Int.toNat_natCast, hs 9 (by decide), hs 20 (by decide)]
    constructor
    · rintro ⟨_, q⟩
      by_cases cq : hx 9 (16 * d + (n / 2 + j / 2)) ≤ 0
      · have : ¬ hx 20 (16 * d + (n / 2 + j / 2)) = 0 := by
          rcases q with q | q
          · omega
          · exact q
        simp only [eqT cq, eqF this, ↓reduceIte]
      · simp only [eqF cq, ↓reduceIte]
    · intro z
      obtain ⟨z1, z2⟩ := nx_f D z c
      have cq : hx 9 (16 * d + (n / 2 + j / 2)) ≤ 0 := by omega
      simp only [eqT cq, eqT z1, ↓reduceIte]
  · simp only [eqF c, ↓reduceIte, show ((-1 : Int) < 0) = True by decide]
    exact ⟨fun z => absurd z.1 c, fun _ => trivial⟩
theorem m_isLater {hx hm : am_M} {d n j : Nat} (D : Dr hx hm d n) (hj : j < n - 1) (h : am_M) (hs : sc hm h) : (nx hx d n j → Sc hm (fX9_isLater ((16 * d + j : Nat) : Int) h) 1) ∧ (¬ nx hx d n j → Sc hm (fX9_isLater ((16 * d + j : Nat) : Int) h) 0) := by
  have e1 : h 1 d = n := by rw [hs 1 (by decide), ← D.1.kk (k := 1) (by decide) (by decide)]; exact D.2.2.2.1
  unfold fX9_isLater
  rw [q_fedBy d n j h D.2.1 D.2.2.1 e1 hj, am_b_some]
  by_cases c : n / 2 + j / 2 < n - 1
  · have i0 : (((16 * d + (n / 2 + j / 2) : Nat) : Int) < 0) = False := eq_false (by omega)
    have hq := (D.Q (D.j16 c)).1
    obtain ⟨h2, e2, s2⟩ := m_isEnded D c h hs
    simp only [eqT c, ↓reduceIte, i0, fc D.2.1 (D.j16 c), Int.toNat_natCast, hs 9 (by decide), ← D.1.kk (k := 9) (by decide) (by decide), e2, ↓am_b_t]
    constructor
    · rintro ⟨_, q⟩
      by_cases cq : hx 9 (16 * d + (n / 2 + j / 2)) ≤ 0
      · have : ¬ hx 20 (16 * d + (n / 2 + j / 2)) = 0 := by
          rcases q with q | q
          · omega
          · exact q
        simp only [eqT cq, eqF this, ↓reduceIte, z10]
        exact Sc.mk s2 rfl
      · simp only [eqF cq, ↓reduceIte]
        exact Sc.mk hs rfl
    · intro z
      obtain ⟨z1, z2⟩ := nx_f D z c
      have cq : hx 9 (16 * d + (n / 2 + j / 2)) ≤ 0 := by omega
      simp only [eqT cq, eqT z1, ↓reduceIte]
      exact Sc.mk s2 rfl
  · simp only [eqF c, ↓reduceIte, show ((-1 : Int) < 0) = True by decide]
    exact ⟨fun z => absurd z.1 c, fun _ => Sc.mk hs rfl⟩
theorem e_undo {hx hm : am_M} (r : Rel hx hm) (a : Int) (ha : am_in a) : Same (fX8_undo a hx) (fX9_undo a hm) := by
  unfold fX8_undo fX9_undo fX8_undo_43
  rcases mt r a ha with ⟨d, n, j, rfl, D, hj⟩ | ⟨e1, e2⟩
  · have hE := D.E hj
    simp only [D.lw hj hx (sc.rf _), D.im hj hm (sc.rf _), ↓am_b_t, ↓am_l_t, am_on_some D.2.1, D.no hj, fj (D.j16 hj), fd D.2.1, fc D.2.1 (D.j16 hj), cd_div d j (D.j16 hj) D.2.1, cd_mod d j (D.j16 hj), ↓reduceIte, Int.toNat_natCast, z10, z00, hE]
    by_cases c4 : hx 20 (16 * d + j) = 4 ∨ hx 20 (16 * d + j) = 5
    · have c0 : ¬ hx 20 (16 * d + j) = 0 := by omega
      simp only [eqT c4, eqF c0, ↓reduceIte]
      have cx : ∀ z y : Option (Int × am_M), (if hx 20 (16 * d + j) = 4 then z else if hx 20 (16 * d + j) = 5 then z else y) = z := by
        intro z y
        rcases c4 with q | q
        · rw [if_pos q]
        · rw [if_neg (by rw [q]; decide), if_pos q]
      rw [cx]
      by_cases cn : nx hx d n j
      · obtain ⟨h', e, s'⟩ := (m_isLater D hj hm (sc.rf _)).1 cn
        simp only [(p_nx D hj hx (sc.rf _)).1 cn, ↓am_b_t, e, ↓reduceIte, z10]
        exact Same.mk rfl (r.sc (sc.rf _) s')
      · obtain ⟨h', e, s'⟩ := (m_isLater D hj hm (sc.rf _)).2 cn
        unfold fX2_reopen
        simp only [(p_nx D hj hx (sc.rf _)).2 cn, ↓am_b_t, ↓am_l_t, e, ↓reduceIte, fj (D.j16 hj), Int.toNat_natCast]
        exact Same.mk rfl (u_re (D.sc (sc.rf _) s') hj c4 (nx_f D cn))
    · have c5 : ¬ hx 20 (16 * d + j) = 4 := fun z => c4 (Or.inl z)
      have c6 : ¬ hx 20 (16 * d + j) = 5 := fun z => c4 (Or.inr z)
      simp only [eqF c4, eqF c5, eqF c6, ↓reduceIte]
      exact Same.mk rfl r
  · rw [e1 _ (sc.rf _), am_b_some, am_on_none, e2 _ (sc.rf _), am_b_some, if_pos rfl]
    exact Same.mk rfl r
theorem q1 {x : Int} (h : 0 ≤ x ∧ x ≤ 300) : am_w (x - 1) = x - 1 := pw (by omega) (by omega)
theorem e_back {hx hm : am_M} (r : Rel hx hm) (a : Int) (ha : am_in a) : Same (fX8_back a hx) (fX9_back a hm) := by
  unfold fX8_back fX9_back fX8_back_34 fX8_back_54 fX8_back_82 fX8_back_92 fX9_back_40 fX9_back_67
  rcases mt r a ha with ⟨d, n, j, rfl, D, hj⟩ | ⟨e1, e2⟩
  · have hE := D.E hj
    have hH := D.H hj
    have hq := (D.Q (D.j16 hj)).1
    obtain ⟨h1, e1, s1⟩ := m_isEnded D hj hm (sc.rf _)
    have r1 : Rel hx h1 := r.sc (sc.rf _) s1
    have D1 := D.sc (sc.rf hx) s1
    simp only [D.lw hj hx (sc.rf _), D.im hj hm (sc.rf _), ↓am_b_t, ↓am_l_t, am_on_some D.2.1, D.no hj, fj (D.j16 hj), fd D.2.1, fc D.2.1 (D.j16 hj), cd_div d j (D.j16 hj) D.2.1, cd_mod d j (D.j16 hj), ↓reduceIte, Int.toNat_natCast, z10, z00, e1]
    by_cases c0 : hx 20 (16 * d + j) = 0
    · simp only [eqT c0, ↓reduceIte, ← r1.kk (k := 9) (by decide) (by decide)]
      by_cases cq : hx 9 (16 * d + j) = 0
      · simp only [eqT cq, ↓reduceIte]
        exact Same.mk rfl r1
      · simp only [eqF cq, ↓reduceIte, am_up_s, q1 hq]
        exact Same.mk rfl (u_b0 D1 hj c0 (by omega))
    · simp only [eqF c0, ↓reduceIte, z10, s1 24 (by decide), hE]
      by_cases c3 : hx 20 (16 * d + j) = 3
      · have c4 : ¬ (hx 20 (16 * d + j) = 4 ∨ hx 20 (16 * d + j) = 5) := by omega
        have c6 : ¬ hx 20 (16 * d + j) = 6 := by omega
        obtain ⟨h2, e2, s2⟩ := m_isOfBye D hj h1 s1
        have r2 : Rel hx h2 := r.sc (sc.rf _) s2
        have D2 := D.sc (sc.rf hx) s2
        simp only [eqT c3, eqF c4, eqF c6, ↓reduceIte, e2, ↓am_b_t, ← r2.kk (k := 9) (by decide) (by decide)]
        by_cases cq : hx 9 (16 * d + j) = 0
        · simp only [eqT cq, ↓reduceIte]
          exact Same.mk rfl r2
        · simp only [eqF cq, ↓reduceIte]
          by_cases cn : nx hx d n j
          · obtain ⟨h', e, s'⟩ := (m_isLater D hj h2 s2).1 cn
            simp only [(p_nx D hj hx (sc.rf _)).1 cn, ↓am_b_t, e, ↓reduceIte, z10]
            exact Same.mk rfl (r.sc (sc.rf _) s')
          · obtain ⟨h', e, s'⟩ := (m_isLater D hj h2 s2).2 cn
            have r3 : Rel hx h' := r.sc (sc.rf _) s'
            unfold fX2_reopen
            simp only [(p_nx D hj hx (sc.rf _)).2 cn, ↓am_b_t, ↓am_l_t, e, ↓reduceIte, fj (D.j16 hj), fc D.2.1 (D.j16 hj), Int.toNat_natCast, am_up_k _ _ _ _ (show (9 : Nat) ≠ 10 by decide), am_up_k _ _ _ _ (show (9 : Nat) ≠ 20 by decide), am_up_s, ← r3.kk (k := 9) (by decide) (by decide), q1 hq]
            exact Same.mk rfl (u_b3 (D.sc (sc.rf hx) s') hj c3 (by omega) (nx_f D cn))
      · simp only [eqF c3, ↓reduceIte]
        by_cases c4 : hx 20 (16 * d + j) = 4 ∨ hx 20 (16 * d + j) = 5
        · simp only [eqT c4, eqF c0, ↓reduceIte]
          exact Same.mk rfl r1
        · have c6 : hx 20 (16 * d + j) = 6 := by omega
          obtain ⟨h2, e2, s2⟩ := m_isOfBye D hj h1 s1
          simp only [eqF c4, eqT c6, ↓reduceIte, e2, ↓am_b_t, z10]
          exact Same.mk rfl (r.sc (sc.rf _) s2)
  · rw [e1 _ (sc.rf _), am_b_some, am_on_none, e2 _ (sc.rf _), am_b_some, if_pos rfl]
    exact Same.mk rfl r
