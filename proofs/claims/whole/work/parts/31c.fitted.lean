/-! ===== fitted ===== -/
theorem onE_z {hx h : am_M} (s : sc0 hx h) (c : Nat) (a : Int) : onE h c a ↔ onE hx c a := by
  unfold onE isM
  rw [s 5 (by decide), s 1 (by decide), s 10 (by decide), sd_z s, sd_z s]
theorem ls_z {hx h : am_M} (s : sc0 hx h) (a : Int) : ∀ k, ls h a k = ls hx a k := by
  intro k
  induction k with
  | zero => rfl
  | succ k ih =>
    by_cases c : onE hx k a
    · rw [ls_p c, ls_p ((onE_z s k a).mpr c), ih, s 10 (by decide)]
    · rw [ls_n c, ls_n (fun z => c ((onE_z s k a).mp z)), ih]
theorem m_f11 (a mi : Int) (b0 : am_M) : ∀ (r p m : Nat) (b : am_M), p + r = 40 → r < m → (∀ k, k ≠ 49 → b k = b0 k) → (∀ i, i < p → b 49 i = 0) → ∃ b', am_it (fun _ _ _ _ => none) fX9_fitted_11b m a mi (p : Int) b = fX9_fitted_30 a mi b' ∧ (∀ k, k ≠ 49 → b' k = b0 k) ∧ (∀ i, i < 40 → b' 49 i = 0) := by
  intro r
  induction r with
  | zero =>
    intro p m b hp hf hk h0
    obtain ⟨m, rfl⟩ : ∃ q, m = q + 1 := ⟨m - 1, by omega⟩
    obtain rfl : p = 40 := by omega
    rw [am_it_s]
    unfold fX9_fitted_11b
    rw [if_neg (by decide)]
    exact ⟨b, rfl, hk, h0⟩
  | succ r ih =>
    intro p m b hp hf hk h0
    obtain ⟨m, rfl⟩ : ∃ q, m = q + 1 := ⟨m - 1, by omega⟩
    have i1 : ((p : Int) < 40) = True := eq_true (by omega)
    have i2 : (0 ≤ (p : Int) ∧ (p : Int) < 40) = True := eq_true (by omega)
    have c1 := pw1 p (by omega)
    have nx := fun (b : am_M) => ih (p + 1) m b (by clear c1; omega) (by clear c1; omega)
    rw [am_it_s]
    clear ih
    generalize am_it (fun _ _ _ _ => none) fX9_fitted_11b m = K at nx ⊢
    unfold fX9_fitted_11b
    simp only [i1, i2, ↓reduceIte, Int.toNat_natCast, ↓am_l_t, c1]
    clear c1
    refine nx _ (fun k hk1 => ?_) (fun i hi => ?_)
    · rw [am_up_ne _ _ _ hk1]; exact hk k hk1
    · by_cases e : i = p
      · rw [e, am_up_s]
      · rw [am_up_i _ _ _ e]; exact h0 i (by omega)
theorem x_p48 (h0 : am_M) : ∀ (r p m : Nat) (h : am_M), p + r = 40 → r < m → (∀ k, k ≠ 49 → h k = h0 k) → (∀ i, i < p → h 49 i = 0) → ∃ h', am_it (fun _ _ => none) fX3_prepare_48b m (p : Int) h = fX3_prepare_67 h' ∧ (∀ k, k ≠ 49 → h' k = h0 k) ∧ (∀ i, i < 40 → h' 49 i = 0) := by
  intro r
  induction r with
  | zero =>
    intro p m b hp hf hk h0
    obtain ⟨m, rfl⟩ : ∃ q, m = q + 1 := ⟨m - 1, by omega⟩
    obtain rfl : p = 40 := by omega
    rw [am_it_s]
    unfold fX3_prepare_48b
    rw [if_neg (by decide)]
    exact ⟨b, rfl, hk, h0⟩
  | succ r ih =>
    intro p m b hp hf hk h0
    obtain ⟨m, rfl⟩ : ∃ q, m = q + 1 := ⟨m - 1, by omega⟩
    have i1 : ((p : Int) < 40) = True := eq_true (by omega)
    have i2 : (0 ≤ (p : Int) ∧ (p : Int) < 40) = True := eq_true (by omega)
    have c1 := pw1 p (by omega)
    have nx := fun (b : am_M) => ih (p + 1) m b (by clear c1; omega) (by clear c1; omega)
    rw [am_it_s]
    clear ih
    generalize am_it (fun _ _ => none) fX3_prepare_48b m = K at nx ⊢
    unfold fX3_prepare_48b
    simp only [i1, i2, ↓reduceIte, Int.toNat_natCast, ↓am_l_t, c1]
    clear c1
    refine nx _ (fun k hk1 => ?_) (fun i hi => ?_)
    · rw [am_up_ne _ _ _ hk1]; exact hk k hk1
    · by_cases e : i = p
      · rw [e, am_up_s]
      · rw [am_up_i _ _ _ e]; exact h0 i (by omega)
/-- a court that the rain has stopped -/
def rf0 (h : am_M) (c : Nat) : Int := if h 19 0 = 0 then 0 else if h 12 c = 0 then 1 else 0
theorem rf0_b (h : am_M) (c : Nat) : rf0 h c = 0 ∨ rf0 h c = 1 := by unfold rf0; (repeat' split) <;> first | exact Or.inl rfl | exact Or.inr rfl
theorem x_p69 (h0 : am_M) : ∀ (r p m : Nat) (h : am_M), p + r = 6 → r < m → (∀ k, k ≠ 50 → h k = h0 k) → (∀ i, i < p → h 50 i = rf0 h0 i) → ∃ h', am_it (fun _ _ => none) fX3_prepare_69b m (p : Int) h = some ((), h') ∧ (∀ k, k ≠ 50 → h' k = h0 k) ∧ (∀ i, i < 6 → h' 50 i = rf0 h0 i) := by
  intro r
  induction r with
  | zero =>
    intro p m b hp hf hk h0
    obtain ⟨m, rfl⟩ : ∃ q, m = q + 1 := ⟨m - 1, by omega⟩
    obtain rfl : p = 6 := by omega
    rw [am_it_s]
    unfold fX3_prepare_69b
    rw [if_neg (by decide)]
    exact ⟨b, rfl, hk, h0⟩
  | succ r ih =>
    intro p m b hp hf hk h0'
    obtain ⟨m, rfl⟩ : ∃ q, m = q + 1 := ⟨m - 1, by omega⟩
    have i1 : ((p : Int) < 6) = True := eq_true (by omega)
    have i2 : (0 ≤ (p : Int) ∧ (p : Int) < 6) = True := eq_true (by omega)
    have c1 := pw1 p (by omega)
    have nx := fun (b : am_M) => ih (p + 1) m b (by clear c1; omega) (by clear c1; omega)
    have er : fX0_isRainedOff p b = some (rf0 h0 p, b) := by
      unfold fX0_isRainedOff rf0
      rw [hk 19 (by decide), hk 12 (by decide)]
      (repeat' split) <;> rfl
    rw [am_it_s]
    clear ih
    generalize am_it (fun _ _ => none) fX3_prepare_69b m = K at nx ⊢
    unfold fX3_prepare_69b
    simp only [i1, i2, ↓reduceIte, Int.toNat_natCast, er, ↓am_b_t, eqT (rf0_b h0 p), ↓am_l_t, c1]
    clear c1
    refine nx _ (fun k hk1 => ?_) (fun i hi => ?_)
    · rw [am_up_ne _ _ _ hk1]; exact hk k hk1
    · by_cases e : i = p
      · rw [e, am_up_s]
      · rw [am_up_i _ _ _ e]; exact h0' i (by omega)
theorem m_p66 (a : Int) (h0 : am_M) : ∀ (r p m : Nat) (h : am_M), p + r = 6 → r < m → (∀ k, k ≠ 50 → h k = h0 k) → (∀ i, i < p → h 50 i = rf0 h0 i) → ∃ h', am_it (fun _ _ _ => none) fX9_fitted_66b m a (p : Int) h = fX9_fitted_105 a h' ∧ (∀ k, k ≠ 50 → h' k = h0 k) ∧ (∀ i, i < 6 → h' 50 i = rf0 h0 i) := by
  intro r
  induction r with
  | zero =>
    intro p m b hp hf hk h0
    obtain ⟨m, rfl⟩ : ∃ q, m = q + 1 := ⟨m - 1, by omega⟩
    obtain rfl : p = 6 := by omega
    rw [am_it_s]
    unfold fX9_fitted_66b
    rw [if_neg (by decide)]
    exact ⟨b, rfl, hk, h0⟩
  | succ r ih =>
    intro p m b hp hf hk h0'
    obtain ⟨m, rfl⟩ : ∃ q, m = q + 1 := ⟨m - 1, by omega⟩
    have i1 : ((p : Int) < 6) = True := eq_true (by omega)
    have i2 : (0 ≤ (p : Int) ∧ (p : Int) < 6) = True := eq_true (by omega)
    have c1 := pw1 p (by omega)
    have nx := fun (b : am_M) => ih (p + 1) m b (by clear c1; omega) (by clear c1; omega)
    rw [am_it_s]
    clear ih
    generalize am_it (fun _ _ _ => none) fX9_fitted_66b m = K at nx ⊢
    have k98 : ∀ v : Int, v = rf0 h0 p → ∃ h', fX9_fitted_98 K a (p : Int) v (p : Int) b = fX9_fitted_105 a h' ∧ (∀ k, k ≠ 50 → h' k = h0 k) ∧ (∀ i, i < 6 → h' 50 i = rf0 h0 i) := by
      intro v ev
      have vb : v = 0 ∨ v = 1 := by rw [ev]; exact rf0_b h0 p
      unfold fX9_fitted_98
      simp only [eqT vb, i2, ↓reduceIte, ↓am_l_t, Int.toNat_natCast, c1]
      clear c1
      refine nx _ (fun k hk1 => ?_) (fun i hi => ?_)
      · rw [am_up_ne _ _ _ hk1]; exact hk k hk1
      · by_cases e : i = p
        · rw [e, am_up_s]; exact ev
        · rw [am_up_i _ _ _ e]; exact h0' i (by omega)
    unfold fX9_fitted_66b fX9_fitted_97
    simp only [i1, i2, ↓reduceIte, Int.toNat_natCast, hk 19 (by decide), hk 12 (by decide)]
    by_cases q1 : h0 19 0 = 0
    · simp only [eqT q1, ↓reduceIte]
      exact k98 0 (by unfold rf0; rw [if_pos q1])
    · by_cases q2 : h0 12 p = 0
      · simp only [eqF q1, eqT q2, ↓reduceIte]
        exact k98 1 (by unfold rf0; rw [if_neg q1, if_pos q2])
      · simp only [eqF q1, eqF q2, ↓reduceIte]
        exact k98 0 (by unfold rf0; rw [if_neg q1, if_neg q2])
/-- both mark which matches may be played -/
theorem e_fg {hx hm : am_M} (r0 : Rel hx hm) (a mi : Int) (hmi : -2147483648 ≤ mi) : ∀ (r c m m' : Nat) (h b : am_M), c + r = 64 → r < m → r < m' → sc0 hx h → sc0 hm b → (∀ p, p < 40 → h 41 (40 * 2 + p) = ls hx p 64) → (∀ p, p < 40 → b 49 p = 0) → (∀ i, i < c → (h 48 i = 1 ∧ b 48 i = 0 ∧ gd hx hm i) ∨ (h 48 i = 0 ∧ b 48 i = 1)) → ∃ h' b', am_it (fun _ _ _ => none) fX3_prepare_10b m mi (c : Int) h = fX3_prepare_46 h' ∧ am_it (fun _ _ _ _ => none) fX9_fitted_32b m' a mi (c : Int) b = fX9_fitted_64 a b' ∧ sc0 hx h' ∧ sc0 hm b' ∧ (∀ p, p < 40 → b' 49 p = 0) ∧ (∀ i, i < 64 → (h' 48 i = 1 ∧ b' 48 i = 0 ∧ gd hx hm i) ∨ (h' 48 i = 0 ∧ b' 48 i = 1)) := by
  intro r
  induction r with
  | zero =>
    intro c m m' h b hc hf hf' s1 s2 hp h49 hI
    obtain ⟨m, rfl⟩ : ∃ q, m = q + 1 := ⟨m - 1, by omega⟩
    obtain ⟨m', rfl⟩ : ∃ q, m' = q + 1 := ⟨m' - 1, by omega⟩
    obtain rfl : c = 64 := by omega
    refine ⟨h, b, ?_, ?_, s1, s2, h49, hI⟩
    · rw [am_it_s]
      unfold fX3_prepare_10b
      rw [if_neg (by decide)]
    · rw [am_it_s]
      unfold fX9_fitted_32b
      rw [if_neg (by decide)]
  | succ r ih =>
    intro c m m' h b hcr hf hf' s1 s2 hp h49 hI
    obtain ⟨m, rfl⟩ : ∃ q, m = q + 1 := ⟨m - 1, by omega⟩
    obtain ⟨m', rfl⟩ : ∃ q, m' = q + 1 := ⟨m' - 1, by omega⟩
    have hc : c < 64 := by omega
    have i1 : ((c : Int) < 64) = True := eq_true (by omega)
    have i2 : (0 ≤ (c : Int) ∧ (c : Int) < 64) = True := eq_true (by omega)
    have c1 := pw1 c (by omega)
    have l1 : c + 1 + r = 64 := by clear c1; omega
    have l2 : r < m := by clear c1; omega
    have l3 : r < m' := by clear c1; omega
    -- one turn
    have turn : ∃ v b1, fX6_hindrance 2 (c : Int) mi h = some (v, h) ∧ fX9_why (c : Int) mi b = some (v, b1) ∧ sc b b1 ∧ (v = 0 → gd hx hm c) := by
      rcases mtn r0 c hc with ⟨d, n, j, e, Q, hj⟩ | ⟨nm, e1, e2⟩
      · subst e
        have Q' := Q.z s1 s2
        obtain ⟨v, b1, t1, t2, t3, t4⟩ := e_hind Q' hj 2 mi hmi h b (sc.rf h) (sc.rf b) (fun p hp1 => by rw [ls_z s1]; exact hp p hp1)
        refine ⟨v, b1, t1, t2, t3, fun z => ?_⟩
        obtain ⟨u1, u2⟩ := t4 z
        rw [s1 20 (by decide)] at u1
        rw [sd_z s1, sd_z s1] at u2
        have n6 : hx 20 (16 * d + j) ≠ 6 := by rw [u1]; decide
        have a0 := sd_r Q (rd n j) j 0 rfl hj (by decide)
        have a1 := sd_r Q (rd n j) j 1 rfl hj (by decide)
        refine ⟨d, n, j, rfl, Q, hj, ?_, ?_⟩
        · rw [plr_e Q hj]
          rcases a0 with z | z | z
          · exact absurd (Or.inl z.1) u2
          · exact ⟨z.1, z.2.1⟩
          · exact absurd z.2.2.1 n6
        · rw [plr_e Q hj]
          rcases a1 with z | z | z
          · exact absurd (Or.inr z.1) u2
          · exact ⟨z.1, z.2.1⟩
          · exact absurd z.2.2.1 n6
      · have r' := r0.sc0 s1 s2
        rcases mtn r' c hc with ⟨d, n, j, e, Q, hj⟩ | ⟨_, e1', e2'⟩
        · exfalso
          apply nm
          have := Q.ism hj
          rw [← e] at this
          unfold isM at this ⊢
          rw [s1 5 (by decide), s1 1 (by decide)] at this
          exact this
        · refine ⟨1, b, ?_, ?_, sc.rf b, fun z => absurd z (by decide)⟩
          · unfold fX6_hindrance
            rw [e1' h (sc.rf h), am_b_some, am_on_none]
          · unfold fX9_why
            rw [e2' b (sc.rf b), am_b_some, if_pos rfl]
    obtain ⟨v, b1, t1, t2, t3, t4⟩ := turn
    have nx := fun (h b : am_M) => ih (c + 1) m m' h b l1 l2 l3
    rw [am_it_s, am_it_s]
    clear ih
    generalize am_it (fun _ _ _ => none) fX3_prepare_10b m = K at nx ⊢
    generalize am_it (fun _ _ _ _ => none) fX9_fitted_32b m' = K' at nx ⊢
    unfold fX3_prepare_10b fX3_prepare_39 fX9_fitted_32b fX9_fitted_57
    simp only [i1, i2, ↓reduceIte, Int.toNat_natCast, t1, t2, ↓am_b_t, ↓am_l_t, c1, show ((1 : Int) = 0 ∨ (1 : Int) = 1) = True by simp, show ((0 : Int) = 0 ∨ (0 : Int) = 1) = True by simp]
    clear c1 i1 i2 t1 t2
    have go : ∀ x y : Int, ((x = 1 ∧ y = 0 ∧ gd hx hm c) ∨ (x = 0 ∧ y = 1)) → ∃ h' b', K mi ((c + 1 : Nat) : Int) (am_up h 48 c x) = fX3_prepare_46 h' ∧ K' a mi ((c + 1 : Nat) : Int) (am_up b1 48 c y) = fX9_fitted_64 a b' ∧ sc0 hx h' ∧ sc0 hm b' ∧ (∀ p, p < 40 → b' 49 p = 0) ∧ (∀ i, i < 64 → (h' 48 i = 1 ∧ b' 48 i = 0 ∧ gd hx hm i) ∨ (h' 48 i = 0 ∧ b' 48 i = 1)) := by
      intro x y hxy
      refine nx _ _ (s1.up _ _ (by decide)) ((s2.tr t3.z).up _ _ (by decide)) (fun p hp1 => ?_) (fun p hp1 => ?_) (fun i hi => ?_)
      · rw [am_up_ne _ _ _ (by decide)]; exact hp p hp1
      · rw [am_up_ne _ _ _ (by decide), t3 49 (by decide)]; exact h49 p hp1
      · by_cases e : i = c
        · rw [e, am_up_s, am_up_s]; exact hxy
        · rw [am_up_i _ _ _ e, am_up_i _ _ _ e, t3 48 (by decide)]
          exact hI i (by omega)
    by_cases cv : v = 0
    · simp only [eqT cv, ↓reduceIte]
      exact go 1 0 (Or.inl ⟨rfl, rfl, t4 cv⟩)
    · simp only [eqF cv, ↓reduceIte]
      exact go 0 1 (Or.inr ⟨rfl, rfl⟩)
theorem e_fitted {hx hm : am_M} (r : Rel hx hm) (a mi : Int) (hmi : am_in mi) : Same (fX8_fitted a mi hx) (fX9_fitted a mi hm) := by
  unfold fX8_fitted fX9_fitted
  rw [p_findCourt, am_b_some, q_isCourt, am_b_some]
  by_cases c : 0 ≤ a ∧ a < 6
  · rw [if_pos c, am_on_some (show a.toNat < 6 by omega), if_neg (by rw [if_pos c]; decide)]
    obtain ⟨h1, e1, s1, k1, p1⟩ := x_gather r 2 hx (sc.rf _)
    obtain ⟨b1, f1, j1, z1⟩ := m_f11 a mi hm 40 0 400 hm (by decide) (by decide) (fun _ _ => rfl) (fun i hi => absurd hi (Nat.not_lt_zero _))
    have sb1 : sc0 hm b1 := fun k hk => j1 k (by omega)
    obtain ⟨h2, b2, e2, f2, s2, sb2, z2, I2⟩ := e_fg r a mi hmi.1 64 0 400 400 h1 b1 (by decide) (by decide) (by decide) s1.z sb1 p1 z1 (fun i hi => absurd hi (Nat.not_lt_zero _))
    obtain ⟨h3, e3, k3, z3⟩ := x_p48 h2 40 0 400 h2 (by decide) (by decide) (fun _ _ => rfl) (fun i hi => absurd hi (Nat.not_lt_zero _))
    have s3 : sc0 hx h3 := fun k hk => by rw [k3 k (by omega)]; exact s2 k hk
    obtain ⟨h4, e4, k4, z4⟩ := x_p69 h3 6 0 400 h3 (by decide) (by decide) (fun _ _ => rfl) (fun i hi => absurd hi (Nat.not_lt_zero _))
    have s4 : sc0 hx h4 := fun k hk => by rw [k4 k (by omega)]; exact s3 k hk
    obtain ⟨b4, f4, j4, y4⟩ := m_p66 a b2 6 0 400 b2 (by decide) (by decide) (fun _ _ => rfl) (fun i hi => absurd hi (Nat.not_lt_zero _))
    have sb4 : sc0 hm b4 := fun k hk => by rw [j4 k (by omega)]; exact sb2 k hk
    rw [show ((0 : Nat) : Int) = 0 from rfl] at f1 e2 f2 e3 e4 f4
    have H48 : h4 48 = h2 48 := by rw [k4 48 (by decide), k3 48 (by decide)]
    have B48 : b4 48 = b2 48 := j4 48 (by decide)
    have F : FI hx hm h4 b4 := by
      refine ⟨s4, sb4, fun i hi z => ?_, fun i hi z => ?_, fun i hi y z => ?_, fun p hp => ?_, fun k hk => ?_⟩
      · rw [H48] at z
        rcases I2 i hi with q | q
        · exact q.2.2
        · exact absurd q.1 z
      · rw [H48]
        rw [B48] at z
        rcases I2 i hi with q | q
        · rw [q.1]; decide
        · rw [q.2] at z; exact absurd z (by decide)
      · rw [H48] at y
        rw [B48] at z
        rcases I2 i hi with q | q
        · exact absurd q.2.1 z
        · exact absurd q.1 y
      · rw [k4 49 (by decide), z3 p hp, j4 49 (by decide), z2 p hp]
      · rw [z4 k hk, y4 k hk]
        unfold rf0
        rw [s3 19 (by decide), s3 12 (by decide), sb2 19 (by decide), sb2 12 (by decide), r.1 19 (by decide) (by decide), r.1 12 (by decide) (by decide)]
    obtain ⟨v, h5, b5, g1, g2, s5, sb5⟩ := e_fl r a 64 0 400 400 h4 b4 F (zc_le _ _) (by decide) (by have := zc_le (h4 50) 6; omega) (by decide)
    rw [show ((0 : Nat) : Int) = 0 from rfl] at g1
    have ex : fX3_matchFor a mi hx = some (v, h5) := by
      unfold fX3_matchFor fX3_prepare
      rw [e1, am_b_some]
      unfold fX3_prepare_10
      rw [e2]
      unfold fX3_prepare_46 fX3_prepare_48
      rw [e3]
      unfold fX3_prepare_67 fX3_prepare_69
      rw [e4, am_b_some]
      unfold fX3_matchFor_9
      exact g1
    have em : fX9_fitted_11 a mi 0 hm = some (v, b5) := by
      unfold fX9_fitted_11
      rw [f1]
      unfold fX9_fitted_30 fX9_fitted_32
      rw [f2]
      unfold fX9_fitted_64 fX9_fitted_66
      rw [f4]
      unfold fX9_fitted_105 fX9_fitted_110
      exact g2
    rw [ex, am_b_some, em]
    exact Same.mk rfl (r.sc0 s5 sb5)
  · rw [if_neg c, am_on_none, if_pos (by rw [if_neg c])]
    exact Same.mk rfl r
