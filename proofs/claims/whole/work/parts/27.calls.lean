/-! ===== calls on one match that change nothing ===== -/
theorem am_b_t {α β : Type} {v : α} {h : am_M} {K : α → am_M → Option (β × am_M)} : am_b (some (v, h)) K = K v h := Eq.trans am_b_some rfl
theorem am_l_t {γ β : Type} (x : γ) (K : γ → β) : am_l x K = K x := Eq.trans (am_l_eq x K) rfl
theorem fj {j : Nat} (h : j < 16) : (0 ≤ (j : Int) ∧ (j : Int) < 16) = True := eq_true (by omega)
theorem fd {j : Nat} (h : j < 4) : (0 ≤ (j : Int) ∧ (j : Int) < 4) = True := eq_true (by omega)
theorem fc {d j : Nat} (hd : d < 4) (h : j < 16) : (0 ≤ ((16 * d + j : Nat) : Int) ∧ ((16 * d + j : Nat) : Int) < 64) = True := eq_true (by omega)
theorem z10 : ((1 : Int) = 0) = False := by decide
theorem z00 : ((0 : Int) = 0) = True := by decide
theorem p_lw (m : Nat) (hm : m < 64) (h : am_M) : fX0_laidWith (m : Int) h = some (if h 5 (m / 16) ≠ 0 ∧ ((m % 16 : Nat) : Int) < am_w (h 1 (m / 16) - 1) then some (10 + m / 16) else none, h) := by
  unfold fX0_laidWith fX8_drawOf fX8_numberOf fX2_hasMatch
  rw [if_neg (by omega), if_pos (by omega), am_b_some, p_shr4 m hm, if_pos (by omega), am_b_some, p_and15 m hm, Int.toNat_natCast]
  by_cases c1 : h 5 (m / 16) = 0
  · rw [if_pos c1, am_b_some, if_pos rfl, if_neg (fun z => z.1 c1)]
  · rw [if_neg c1, if_neg (by omega)]
    by_cases c2 : ((m % 16 : Nat) : Int) < am_w (h 1 (m / 16) - 1)
    · rw [if_pos c2, am_b_some, if_neg (by decide), if_pos ⟨c1, c2⟩]
    · rw [if_neg c2, am_b_some, if_pos rfl, if_neg (fun z => c2 z.2)]
theorem q_im (m : Nat) (hm : m < 64) (h : am_M) : fX9_isMatch (m : Int) h = some (if 0 < h 1 (m / 16) ∧ h 5 (m / 16) ≠ 0 ∧ ((m % 16 : Nat) : Int) < am_w (h 1 (m / 16) - 1) then 1 else 0, h) := by
  unfold fX9_isMatch
  have i0 : ((m : Int) < 0) = False := eq_false (by omega)
  have i4 : (0 ≤ ((m / 16 : Nat) : Int) ∧ ((m / 16 : Nat) : Int) < 4) = True := eq_true (by omega)
  have i5 : (0 ≤ ((m / 16 : Nat) : Int) ∧ ((m / 16 : Nat) : Int) < 4 ∧ 0 < h 1 (m / 16)) = (0 < h 1 (m / 16)) := by
    apply propext; constructor
    · exact fun z => z.2.2
    · intro z; omega
  have w1 : am_w (Int.tdiv (m : Int) 16) = ((m / 16 : Nat) : Int) := by rw [show (16 : Int) = ((16 : Nat) : Int) from rfl, p_tdiv, pw_n]; omega
  have w2 : Int.tmod (m : Int) 16 = ((m % 16 : Nat) : Int) := by rw [show (16 : Int) = ((16 : Nat) : Int) from rfl, p_tmod]
  simp only [i0, ↓reduceIte, w1, w2, q_isDraw, ↓am_b_t, Int.toNat_natCast, i4, i5]
  by_cases c0 : 0 < h 1 (m / 16)
  · by_cases c1 : h 5 (m / 16) = 0
    · simp only [c0, c1, ↓reduceIte, z10, ne_eq, not_true, false_and, and_false]
    · by_cases c2 : ((m % 16 : Nat) : Int) < am_w (h 1 (m / 16) - 1)
      · simp only [c0, c1, c2, ↓reduceIte, z10, ne_eq, not_false_iff, true_and]
      · simp only [c0, c1, c2, ↓reduceIte, z10, ne_eq, not_false_iff, true_and]
  · simp only [c0, ↓reduceIte, false_and]
theorem Dr.lw {hx hm : am_M} {d n j : Nat} (D : Dr hx hm d n) (hj : j < n - 1) (h : am_M) (hs : sc hx h) : fX0_laidWith ((16 * d + j : Nat) : Int) h = some (some (10 + d), h) := by
  obtain ⟨r, hd, hn, e1, e5⟩ := D
  have hb := hn.b
  rw [p_lw _ (by omega), show (16 * d + j) / 16 = d by omega, show (16 * d + j) % 16 = j by omega, hs 5 (by omega), hs 1 (by omega), e1, e5, pw (by omega) (by omega), if_pos ⟨by decide, by omega⟩]
theorem Dr.im {hx hm : am_M} {d n j : Nat} (D : Dr hx hm d n) (hj : j < n - 1) (h : am_M) (hs : sc hm h) : fX9_isMatch ((16 * d + j : Nat) : Int) h = some (1, h) := by
  obtain ⟨r, hd, hn, e1, e5⟩ := D
  have hb := hn.b
  rw [q_im _ (by omega), show (16 * d + j) / 16 = d by omega, show (16 * d + j) % 16 = j by omega, hs 5 (by omega), hs 1 (by omega), ← r.kk (k := 1) (by omega) (by omega), ← r.kk (k := 5) (by omega) (by omega), e1, e5, pw (by omega) (by omega), if_pos ⟨by omega, by decide, by omega⟩]
theorem p_no (d j : Nat) (hd : d < 4) (hj : j < 16) (h : am_M) : fX8_numberOf ((16 * d + j : Nat) : Int) h = some ((j : Int), h) := by
  unfold fX8_numberOf
  rw [p_and15 _ (by omega), show (16 * d + j) % 16 = j by omega]
theorem Dr.no {hx hm : am_M} {d n j : Nat} (D : Dr hx hm d n) (hj : j < n - 1) (h : am_M) : fX8_numberOf ((16 * d + j : Nat) : Int) h = some ((j : Int), h) := p_no d j D.2.1 (by have := D.2.2.1.b; omega) h
theorem mt {hx hm : am_M} (r : Rel hx hm) (a : Int) (ha : am_in a) : (∃ d n j : Nat, a = ((16 * d + j : Nat) : Int) ∧ Dr hx hm d n ∧ j < n - 1) ∨ ((∀ h, sc hx h → fX0_laidWith a h = some (none, h)) ∧ (∀ h, sc hm h → fX9_isMatch a h = some (0, h))) := by
  by_cases c : 0 ≤ a ∧ a < 64
  · obtain ⟨m, rfl⟩ := p_nat c.1
    have hd : m / 16 < 4 := by omega
    have h0 := r.2.2 (m / 16) hd
    have hsz := h0.1
    have h5 := h0.2.2.2.2.1
    by_cases c5 : hx 5 (m / 16) = 1 ∧ ((m % 16 : Nat) : Int) < hx 1 (m / 16) - 1
    · refine Or.inl ⟨m / 16, (hx 1 (m / 16)).toNat, m % 16, by omega, ⟨r, hd, ?_, by omega, c5.1⟩, by omega⟩
      unfold szn
      omega
    · right
      constructor
      · intro h hs
        rw [p_lw m (by omega), hs 5 (by omega), hs 1 (by omega), pw (by omega) (by omega), if_neg (by omega)]
      · intro h hs
        rw [q_im m (by omega), hs 5 (by omega), hs 1 (by omega), ← r.kk (k := 1) (by omega) (by omega), ← r.kk (k := 5) (by omega) (by omega), pw (by omega) (by omega), if_neg (by omega)]
  · right
    unfold am_in at ha
    constructor
    · intro h hs
      unfold fX0_laidWith
      (repeat' split) <;> first | rfl | omega
    · intro h hs
      unfold fX9_isMatch
      by_cases c0 : a < 0
      · rw [if_pos c0]
      · have w1 : am_w (Int.tdiv a 16) = a / 16 := by rw [idv (by omega), pw (by omega) (by omega)]
        rw [if_neg c0, q_isDraw, am_b_some, w1, if_pos (by rw [if_neg (by omega)])]
theorem isS {b : Int} (c : b = 0 ∨ b = 1) : ∃ s : Nat, b = s ∧ s < 2 := ⟨b.toNat, by omega, by omega⟩
theorem e_side {hx hm : am_M} (r : Rel hx hm) (a b : Int) (ha : am_in a) : Same (fX8_side a b hx) (fX9_side a b hm) := by
  unfold fX8_side fX9_side
  rcases mt r a ha with ⟨d, n, j, rfl, D, hj⟩ | ⟨e1, e2⟩
  · by_cases c : b = 0 ∨ b = 1
    · have c' : 0 ≤ b ∧ b ≤ 1 := by omega
      obtain ⟨s, rfl, hs2⟩ := isS c
      obtain ⟨h', e, s'⟩ := m_side D hj hs2 hm (sc.rf _)
      simp only [D.lw hj hx (sc.rf _), D.im hj hm (sc.rf _), ↓am_b_t, ↓am_l_t, am_on_some D.2.1, D.no hj, fj (D.j16 hj), fd D.2.1, fc D.2.1 (D.j16 hj), cd_div d j (D.j16 hj) D.2.1, cd_mod d j (D.j16 hj), ↓reduceIte, Int.toNat_natCast, z10, z00, p_isSide, p_in, c, c', e, p_st D hj hs2 hx (sc.rf _)]
      have key : ∀ v : Int, Same (if v < 0 then some (-1, hx) else some (v, hx)) (some (max (-1) v, h')) := by
        intro v
        have rr := r.sc (sc.rf _) s'
        by_cases cv : v < 0
        · rw [if_pos cv]
          exact Same.mk (Int.max_eq_left (by omega)).symm rr
        · rw [if_neg cv]
          exact Same.mk (Int.max_eq_right (by omega)).symm rr
      exact key _
    · have c' : ¬ (0 ≤ b ∧ b ≤ 1) := by omega
      simp only [D.lw hj hx (sc.rf _), D.im hj hm (sc.rf _), ↓am_b_t, ↓am_l_t, am_on_some D.2.1, D.no hj, fj (D.j16 hj), fd D.2.1, fc D.2.1 (D.j16 hj), cd_div d j (D.j16 hj) D.2.1, cd_mod d j (D.j16 hj), ↓reduceIte, Int.toNat_natCast, z10, z00, p_isSide, p_in, c, c']
      exact Same.mk rfl r
  · rw [e1 _ (sc.rf _), am_b_some, am_on_none, e2 _ (sc.rf _), am_b_some, if_pos rfl]
    exact Same.mk rfl r
theorem e_winner {hx hm : am_M} (r : Rel hx hm) (a : Int) (ha : am_in a) : Same (fX8_winner a hx) (fX9_winner a hm) := by
  unfold fX8_winner fX9_winner
  rcases mt r a ha with ⟨d, n, j, rfl, D, hj⟩ | ⟨e1, e2⟩
  · obtain ⟨h', e, s'⟩ := m_winner D hj hm (sc.rf _)
    simp only [D.lw hj hx (sc.rf _), D.im hj hm (sc.rf _), ↓am_b_t, ↓am_l_t, am_on_some D.2.1, D.no hj, fj (D.j16 hj), fd D.2.1, fc D.2.1 (D.j16 hj), cd_div d j (D.j16 hj) D.2.1, cd_mod d j (D.j16 hj), ↓reduceIte, Int.toNat_natCast, z10, z00, e]
    unfold wn
    split
    · exact Same.mk rfl (r.sc (sc.rf _) s')
    · exact Same.mk rfl (r.sc (sc.rf _) s')
  · rw [e1 _ (sc.rf _), am_b_some, am_on_none, e2 _ (sc.rf _), am_b_some, if_pos rfl]
    exact Same.mk rfl r
theorem e_end {hx hm : am_M} (r : Rel hx hm) (a : Int) (ha : am_in a) : Same (fX8_end a hx) (fX9_end a hm) := by
  unfold fX8_end fX9_end
  rcases mt r a ha with ⟨d, n, j, rfl, D, hj⟩ | ⟨e1, e2⟩
  · obtain ⟨h', e, s'⟩ := m_isEnded D hj hm (sc.rf _)
    simp only [D.lw hj hx (sc.rf _), D.im hj hm (sc.rf _), ↓am_b_t, ↓am_l_t, am_on_some D.2.1, D.no hj, fj (D.j16 hj), fd D.2.1, fc D.2.1 (D.j16 hj), cd_div d j (D.j16 hj) D.2.1, cd_mod d j (D.j16 hj), ↓reduceIte, Int.toNat_natCast, z10, z00, e, s' 10 (by decide), ← r.kk (k := 10) (by decide) (by decide)]
    by_cases c : hx 20 (16 * d + j) = 0
    · simp only [c, ↓reduceIte]
      exact Same.mk (D.R hj c) (r.sc (sc.rf _) s')
    · simp only [c, ↓reduceIte, z10]
      exact Same.mk rfl (r.sc (sc.rf _) s')
  · rw [e1 _ (sc.rf _), am_b_some, am_on_none, e2 _ (sc.rf _), am_b_some, if_pos rfl]
    exact Same.mk rfl r
theorem e_stands {hx hm : am_M} (r : Rel hx hm) (a : Int) (ha : am_in a) : Same (fX8_stands a hx) (fX9_stands a hm) := by
  unfold fX8_stands fX9_stands
  rcases mt r a ha with ⟨d, n, j, rfl, D, hj⟩ | ⟨e1, e2⟩
  · obtain ⟨h1, e1, s1⟩ := m_isOfBye D hj hm (sc.rf _)
    have hH := D.H hj
    have hE := D.E hj
    simp only [D.lw hj hx (sc.rf _), D.im hj hm (sc.rf _), ↓am_b_t, ↓am_l_t, am_on_some D.2.1, D.no hj, fj (D.j16 hj), fd D.2.1, fc D.2.1 (D.j16 hj), cd_div d j (D.j16 hj) D.2.1, cd_mod d j (D.j16 hj), ↓reduceIte, Int.toNat_natCast, z10, z00, e1]
    by_cases c6 : hx 20 (16 * d + j) = 6
    · simp only [c6, ↓reduceIte, z10, show ((6 : Int) = 0) = False by decide]
      exact Same.mk rfl (r.sc (sc.rf _) s1)
    · simp only [c6, ↓reduceIte, s1 24 (by decide), hE]
      by_cases c4 : hx 20 (16 * d + j) = 4 ∨ hx 20 (16 * d + j) = 5
      · have c0 : ¬ hx 20 (16 * d + j) = 0 := by omega
        simp only [c4, c0, ↓reduceIte]
        exact Same.mk rfl (r.sc (sc.rf _) s1)
      · obtain ⟨h2, e2, s2⟩ := m_isEnded D hj h1 s1
        simp only [c4, ↓reduceIte, e2, ↓am_b_t]
        by_cases c0 : hx 20 (16 * d + j) = 0
        · obtain ⟨h3, e3, s3⟩ := m_isKnown D hj h2 s2
          have hq := (D.Q (D.j16 hj)).1
          have hkn := kn D hj c6
          simp only [c0, ↓reduceIte, e3, ↓am_b_t, p_isKnown D hj hx (sc.rf _), s3 9 (by decide), ← r.kk (k := 9) (by decide) (by decide)]
          clear hE e1 e2 e3
          by_cases ck : sd hx d n j 0 = -2 ∨ sd hx d n j 1 = -2
          · have ck' := hkn.mpr ck
            simp only [ck, ck', ↓reduceIte]
            exact Same.mk rfl (r.sc (sc.rf _) s3)
          · have ck' : ¬ (sd hx d n j 0 < 0 ∨ sd hx d n j 1 < 0) := fun z => ck (hkn.mp z)
            simp only [ck, ck', ↓reduceIte, z10]
            by_cases cq : hx 9 (16 * d + j) = 0
            · have cq' : hx 9 (16 * d + j) ≤ 0 := by omega
              simp only [eqT cq, eqT cq', ↓reduceIte]
              exact Same.mk rfl (r.sc (sc.rf _) s3)
            · have cq' : ¬ hx 9 (16 * d + j) ≤ 0 := by omega
              simp only [cq, cq', ↓reduceIte]
              exact Same.mk rfl (r.sc (sc.rf _) s3)
        · have c3 : hx 20 (16 * d + j) = 3 := by omega
          simp only [c3, ↓reduceIte, z10, show ((3 : Int) = 0) = False by decide]
          exact Same.mk rfl (r.sc (sc.rf _) s2)
  · rw [e1 _ (sc.rf _), am_b_some, am_on_none, e2 _ (sc.rf _), am_b_some, if_pos rfl]
    exact Same.mk rfl r
/-! scores told -/
theorem t_serves {h h' : am_M} {t : tl_T} {k : Int} (T : TL h t) (T' : TL h' t) (b : tb k t) (hk : k ≤ 300) : ∃ v, fX7_serves h = some (v, h) ∧ fX9_serves h' = some (v, h') := by
  obtain ⟨p, g, s, ws, ga, ch⟩ := t
  obtain ⟨t1, t2, t3, t4, t5, t6, t7, t8, t9⟩ := T
  obtain ⟨u1, u2, u3, u4, u5, u6, u7, u8, u9⟩ := T'
  unfold tb at b
  obtain ⟨b1, b2, b3, b4, b5, b6, b7, b8⟩ := b
  dsimp only at t1 t2 t3 t4 t7 u1 u2 u3 u4 u7 b1 b2 b7
  have key : ∀ p0 p1 : Int, 0 ≤ p0 ∧ p0 ≤ 300 → 0 ≤ p1 ∧ p1 ≤ 300 → am_w (p0 + p1) = p0 + p1 ∧ am_w (p0 + p1 + 1) = p0 + p1 + 1 ∧ am_w (Int.tdiv (p0 + p1 + 1) 2) = (p0 + p1 + 1) / 2 := by
    intro p0 p1 h0 h1
    exact ⟨pw (by omega) (by omega), pw (by omega) (by omega), by rw [idv (by omega), pw (by omega) (by omega)]⟩
  have key2 : ∀ x y : Int, 0 ≤ x ∧ x ≤ 300 → 0 ≤ y ∧ y ≤ 600 → am_w (x + y) = x + y ∧ Int.tmod (x + y) 2 = (x + y) % 2 ∧ Int.tmod x 2 = x % 2 ∧ Int.tmod y 2 = y % 2 ∧ am_w (1 - x % 2) = 1 - x % 2 := by
    intro x y h0 h1
    exact ⟨pw (by omega) (by omega), im (by omega), im (by omega), im (by omega), pw (by omega) (by omega)⟩
  have B1 := le3 b1 hk
  have B2 := le3 b2 hk
  have B7 := le3 b7 hk
  clear b1 b2 b3 b4 b5 b6 b7 b8
  have by2 : 0 ≤ (p 0 + p 1 + 1) / 2 ∧ (p 0 + p 1 + 1) / 2 ≤ 600 := by omega
  obtain ⟨w1, w2, w3⟩ := key (p 0) (p 1) B1 B2
  obtain ⟨v1, v2, v3, v4, v5⟩ := key2 ga ((p 0 + p 1 + 1) / 2) B7 by2
  clear key key2
  unfold fX7_serves fX9_serves
  simp only [↓am_l_t, x_isTie, ↓am_b_t, t1, t2, t3, t4, t7, u1, u2, u3, u4, u7, w1, w2, w3, v1, v2, v3, v4, v5]
  clear w1 w2 w3 v1 v2 v3 v4 v5
  by_cases c : g 0 = 6
  · by_cases c1 : g 1 = 6
    · simp only [c, c1, and_self, ↓reduceIte, z10]
      by_cases c2 : (p 0 + p 1 + 1) / 2 % 2 = 0
      · simp only [c2, ↓reduceIte]
        exact ⟨_, rfl, by congr 2; omega⟩
      · simp only [c2, ↓reduceIte]
        exact ⟨_, rfl, by congr 2; omega⟩
    · simp only [c, c1, and_false, ↓reduceIte]
      exact ⟨_, rfl, rfl⟩
  · simp only [c, false_and, ↓reduceIte]
    exact ⟨_, rfl, rfl⟩
theorem e_score {hx hm : am_M} (r : Rel hx hm) (a b : Int) (ha : am_in a) : Same (fX8_score a b hx) (fX9_score a b hm) := by
  unfold fX8_score fX9_score
  rcases mt r a ha with ⟨d, n, j, rfl, D, hj⟩ | ⟨e1, e2⟩
  · have hq := (D.Q (D.j16 hj)).1
    have hP := D.pok hj
    obtain ⟨h1, e1, s1, T1, f1⟩ := D.xr hj hx (sc.rf _)
    obtain ⟨h2, e2, s2, T2, f2⟩ := D.mr hj hm (sc.rf _)
    obtain ⟨v, v1, v2⟩ := t_serves T1 T2 (hP.tb (Nat.le_refl _)) (by omega)
    have rr := r.sc s1 s2
    have k9 : h1 9 (16 * d + j) = h2 9 (16 * d + j) := rr.kk (by decide) (by decide) _
    have k2 : h1 2 d = h2 2 d := rr.kk (by decide) (by decide) _
    obtain ⟨t1, t2, t3, t4, t5, t6, t7, t8, t9⟩ := T1
    obtain ⟨u1, u2, u3, u4, u5, u6, u7, u8, u9⟩ := T2
    simp only [D.lw hj hx (sc.rf _), D.im hj hm (sc.rf _), ↓am_b_t, ↓am_l_t, am_on_some D.2.1, D.no hj, fj (D.j16 hj), fd D.2.1, fc D.2.1 (D.j16 hj), cd_div d j (D.j16 hj) D.2.1, cd_mod d j (D.j16 hj), ↓reduceIte, Int.toNat_natCast, z10, z00, e1, ← r.kk (k := 9) (by decide) (by decide), e2, v1, v2]
    by_cases c0 : b = 0
    · subst c0
      exact Same.mk (t1.trans u1.symm) rr
    by_cases c1 : b = 1
    · subst c1
      exact Same.mk (t2.trans u2.symm) rr
    by_cases c2 : b = 2
    · subst c2
      simp only [show am_w (2 - 2) = 0 by unfold am_w; omega]
      exact Same.mk (t3.trans u3.symm) rr
    by_cases c3 : b = 3
    · subst c3
      simp only [show am_w (3 - 2) = 1 by unfold am_w; omega]
      exact Same.mk (t4.trans u4.symm) rr
    by_cases c4 : b = 4
    · subst c4
      simp only [show am_w (4 - 4) = 0 by unfold am_w; omega]
      exact Same.mk (t5.trans u5.symm) rr
    by_cases c5 : b = 5
    · subst c5
      simp only [show am_w (5 - 4) = 1 by unfold am_w; omega]
      exact Same.mk (t6.trans u6.symm) rr
    simp only [c0, c1, c2, c3, c4, c5, ↓reduceIte]
    by_cases c6 : b = 6
    · simp only [c6, ↓reduceIte]
      exact Same.mk rfl rr
    by_cases c7 : b = 7
    · simp only [c6, c7, ↓reduceIte]
      exact Same.mk (t8.trans u8.symm) rr
    by_cases c8 : b = 8
    · simp only [c6, c7, c8, ↓reduceIte]
      exact Same.mk k9 rr
    by_cases c9 : b = 9
    · simp only [c6, c7, c8, c9, ↓reduceIte]
      exact Same.mk k2 rr
    simp only [c6, c7, c8, c9, ↓reduceIte]
    exact Same.mk rfl rr
  · rw [e1 _ (sc.rf _), am_b_some, am_on_none, e2 _ (sc.rf _), am_b_some, if_pos rfl]
    exact Same.mk rfl r
