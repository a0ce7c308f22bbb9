/-! ===== games of a set ===== -/
theorem aw_ks (k : Int) (s : Nat) (h : 0 ≤ k ∧ k < 5) (hs : s < 2) : am_w (am_w (2 * k) + (s : Int)) = 2 * k + s := by
  rw [pw (x := 2 * k) (by omega) (by omega), pw (by omega) (by omega)]
theorem fs2 {s : Nat} (h : s < 2) : (0 ≤ (s : Int) ∧ (s : Int) < 2) = True := eq_true (by omega)
theorem t_games {h h' : am_M} {t : tl_T} (T : TL h t) (T' : TL h' t) (f : h' 39 0 = t.2.2.1 0 + t.2.2.1 1) (b0 : 0 ≤ t.2.2.1 0) (b1 : 0 ≤ t.2.2.1 1) (b2 : t.2.2.1 0 + t.2.2.1 1 ≤ 5) (k : Int) (s : Nat) (hs : s < 2) (go ov : Int) (hg : go = 0 ↔ ov ≠ 0) : ∃ v, fX7_gamesOfSet k (s : Int) go h = some (v, h) ∧ fX9_games_71 k (s : Int) ov h' = some (v, h') := by
  obtain ⟨t1, t2, t3, t4, t5, t6, t7, t8, t9⟩ := T
  obtain ⟨u1, u2, u3, u4, u5, u6, u7, u8, u9⟩ := T'
  have g35 : h 35 s = h' 35 s := by
    rcases (show s = 0 ∨ s = 1 by omega) with rfl | rfl
    · rw [t3, u3]
    · rw [t4, u4]
  clear t1 t2 t3 t4 t7 t8 u1 u2 u3 u4 u5 u6 u7 u8
  generalize t.2.2.1 0 = x at *
  generalize t.2.2.1 1 = y at *
  have w0 : am_w (h 36 0 + h 36 1) = x + y := by rw [t5, t6]; exact pw (by omega) (by omega)
  have w1 : am_w (x + y - 1) = x + y - 1 := by clear w0; exact pw (by omega) (by omega)
  unfold fX7_gamesOfSet fX9_games_71 fX7_gamesOfSet_28 fX7_setsInAll
  simp only [p_in, ↓am_b_t, w0, w1, f, fs2 hs, ↓reduceIte, Int.toNat_natCast]
  clear w0 w1
  by_cases c : 0 ≤ k ∧ k < x + y
  · have i0 : (k < 0) = False := eq_false (by omega)
    have i1 : (k < x + y) = True := eq_true (by omega)
    have i2 : (k < 5) = True := eq_true (by omega)
    have i3 : (0 ≤ 2 * k + (s : Int) ∧ 2 * k + (s : Int) < 10) = True := eq_true (by omega)
    have i4 : (0 ≤ k ∧ k ≤ x + y - 1) = True := eq_true (by omega)
    have i5 : (((2 * k + (s : Int)).toNat : Nat) : Int) < 2 * (x + y) := by omega
    have i6 : 0 ≤ k ∧ k < 5 := by omega
    simp only [i0, i1, i2, i4, ↓reduceIte, aw_ks k s i6 hs, i3, z10]
    exact ⟨_, rfl, by rw [t9 _ i5, u9 _ i5]⟩
  · have i4 : (0 ≤ k ∧ k ≤ x + y - 1) = False := eq_false (by omega)
    have key : ∀ z : Option (Int × am_M), (if k < 0 then z else if k < x + y then (if k < 5 then (if 0 ≤ am_w (am_w (2 * k) + (s : Int)) ∧ am_w (am_w (2 * k) + (s : Int)) < 10 then some (h 37 (Int.toNat (am_w (am_w (2 * k) + (s : Int)))), h) else none) else z) else z) = z := by
      intro z
      by_cases c0 : k < 0
      · rw [if_pos c0]
      · rw [if_neg c0, if_neg (by omega)]
    rw [key]
    simp only [i4, ↓reduceIte]
    by_cases cg : go = 0
    · have co : ¬ ov = 0 := hg.mp cg
      simp only [cg, co, ↓reduceIte]
      exact ⟨_, rfl, by split <;> rfl⟩
    · have co : ov = 0 := by
        by_cases z : ov = 0
        · exact z
        · exact absurd (hg.mpr z) cg
      simp only [eqF cg, eqT co, ↓reduceIte, g35]
      by_cases ck : k = x + y
      · simp only [eqT ck, ↓reduceIte]
        exact ⟨_, rfl, rfl⟩
      · simp only [eqF ck, ↓reduceIte]
        exact ⟨_, rfl, rfl⟩
theorem e_games {hx hm : am_M} (r : Rel hx hm) (a b c : Int) (ha : am_in a) : Same (fX8_games a b c hx) (fX9_games a b c hm) := by
  unfold fX8_games fX9_games fX8_games_64 fX9_games_66
  rcases mt r a ha with ⟨d, n, j, rfl, D, hj⟩ | ⟨e1, e2⟩
  · by_cases cs : c = 0 ∨ c = 1
    · have cs' : 0 ≤ c ∧ c ≤ 1 := by omega
      obtain ⟨s, rfl, hs2⟩ := isS cs
      have hP := D.pok hj
      obtain ⟨h1, e1, s1, T1, f1⟩ := D.xr hj hx (sc.rf _)
      obtain ⟨h2, e2, s2, T2, f2⟩ := D.mr hj hm (sc.rf _)
      have hws := D.ws hj
      have htb := hP.tb (Nat.le_refl _)
      have hL := D.L
      have hW := D.W hj
      have rr := r.sc s1 s2
      have u5 := T2.2.2.2.2.1
      have u6 := T2.2.2.2.2.2.1
      simp only [D.lw hj hx (sc.rf _), D.im hj hm (sc.rf _), ↓am_b_t, ↓am_l_t, am_on_some D.2.1, D.no hj, fj (D.j16 hj), fd D.2.1, fc D.2.1 (D.j16 hj), cd_div d j (D.j16 hj) D.2.1, cd_mod d j (D.j16 hj), ↓reduceIte, Int.toNat_natCast, z10, z00, p_isSide, p_in, cs, cs', e1, ← r.kk (k := 9) (by decide) (by decide), e2, s1 20 (by decide), s2 2 (by decide), ← r.kk (k := 2) (by decide) (by decide), u5, u6]
      clear e1 e2 hP u5 u6
      generalize tl_at (pQ hm d j) (hx 9 (16 * d + j)).toNat = t at *
      have b5 := htb.2.2.2.2.1
      have b6 := htb.2.2.2.2.2.1
      clear htb ha cs cs'
      by_cases c3 : hx 20 (16 * d + j) = 3
      · rw [if_pos c3] at hws
        have h01 : (t.2.2.1 0 = hx 2 d ∧ t.2.2.1 1 < hx 2 d) ∨ (t.2.2.1 1 = hx 2 d ∧ t.2.2.1 0 < hx 2 d) := by
          rcases hW with w | w <;> rw [w] at hws
          · exact Or.inl hws
          · exact Or.inr hws
        have b2 : t.2.2.1 0 + t.2.2.1 1 ≤ 5 := by clear hws; omega
        obtain ⟨v, v1, v2⟩ := t_games T1 T2 f2 b5.1 b6.1 b2 b s hs2 0 1 (by decide)
        simp only [eqT c3, ↓reduceIte, v1, ↓am_b_t, v2]
        rcases h01 with q | q
        · simp only [eqT q.1, ↓reduceIte]
          exact Same.mk rfl rr
        · simp only [eqT q.1, eqF (Int.ne_of_lt q.2), ↓reduceIte]
          exact Same.mk rfl rr
      · rw [if_neg c3] at hws
        have b2 : t.2.2.1 0 + t.2.2.1 1 ≤ 5 := by omega
        obtain ⟨v, v1, v2⟩ := t_games T1 T2 f2 b5.1 b6.1 b2 b s hs2 1 0 (by decide)
        simp only [eqF c3, ↓reduceIte, v1, ↓am_b_t, v2, eqF (Int.ne_of_lt hws.1), eqF (Int.ne_of_lt hws.2)]
        exact Same.mk rfl rr
    · have cs' : ¬ (0 ≤ c ∧ c ≤ 1) := by omega
      simp only [D.lw hj hx (sc.rf _), D.im hj hm (sc.rf _), ↓am_b_t, ↓am_l_t, am_on_some D.2.1, D.no hj, fj (D.j16 hj), fd D.2.1, fc D.2.1 (D.j16 hj), cd_div d j (D.j16 hj) D.2.1, cd_mod d j (D.j16 hj), ↓reduceIte, Int.toNat_natCast, z10, z00, p_isSide, p_in, cs, cs']
      exact Same.mk rfl r
  · rw [e1 _ (sc.rf _), am_b_some, am_on_none, e2 _ (sc.rf _), am_b_some, if_pos rfl]
    exact Same.mk rfl r
