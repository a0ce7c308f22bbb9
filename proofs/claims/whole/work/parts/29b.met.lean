/-! ===== met, meeting, lucky ===== -/
/-- the side of a player -/
def sf (hx : am_M) (d n j : Nat) (a : Int) : Int := if sd hx d n j 0 = a then 0 else if sd hx d n j 1 = a then 1 else -1
theorem ce_w (d n : Nat) (hd : d < 4) (hn : szn n) : am_w (am_w (am_w ((16 : Int) * (d : Int)) + (n : Int)) - 1) = ((16 * d + (n - 1) : Nat) : Int) := by
  have hb := hn.b
  have e : am_w (am_w ((16 : Int) * (d : Int)) + (n : Int)) = ((16 * d + n : Nat) : Int) := ix_w 16 d n (by omega)
  rw [e]
  clear e
  rw [pw (by omega) (by omega)]
  omega
theorem c35' {x : Int} (h : x = 0 ∨ x = 3 ∨ x = 4 ∨ x = 5 ∨ x = 6) (c0 : ¬ x = 0) (c4 : ¬ x = 4) (c6 : ¬ x = 6) : x = 3 ∨ x = 5 := by omega
theorem aw_m (x : Int) (h : -2147483648 < x) (h2 : x < 2147483648) : am_w (x + -1) = x + -1 := pw (by omega) (by omega)
theorem x_mt {hx hm : am_M} {d n : Nat} (D : Dr hx hm d n) (a : Int) : ∀ (r j m m' : Nat) (i sn lf : Int) (h h' : am_M), j + r = n - 1 → r < m → r < m' → 0 ≤ sn → sn ≤ j → sn ≤ i → i < 2147483648 → lf = i - sn → sc hx h → sc hm h' → ∃ v h'', am_it (fun _ _ _ _ _ _ => none) fX2_opponent_5b m d a i sn (j : Int) h = some (v, h) ∧ am_it (fun _ _ _ _ _ => none) fX9_met_35b m' (d : Int) a lf ((16 * d + j : Nat) : Int) h' = some (v, h'') ∧ sc hm h'' := by
  have hb := D.2.2.1.b
  have hd := D.2.1
  intro r
  induction r with
  | zero =>
    intro j m m' i sn lf h h' hjr hf1 hf2 h0 h1 h2 h3 h4 hs hs'
    obtain ⟨m, rfl⟩ : ∃ q, m = q + 1 := ⟨m - 1, by omega⟩
    obtain ⟨m', rfl⟩ : ∃ q, m' = q + 1 := ⟨m' - 1, by omega⟩
    have i1 : ((j : Int) < ((n - 1 : Nat) : Int)) = False := eq_false (by omega)
    have i2 : (((16 * d + j : Nat) : Int) < ((16 * d + (n - 1) : Nat) : Int)) = False := eq_false (by omega)
    refine ⟨-1, h', ?_, ?_, hs'⟩
    · rw [am_it_s]
      unfold fX2_opponent_5b
      simp only [D.d.x1 hs, n1_w D.2.2.1, i1, ↓reduceIte]
    · rw [am_it_s]
      unfold fX9_met_35b
      simp only [fd D.2.1, ↓reduceIte, Int.toNat_natCast, D.d.m1 hs', ce_w d n D.2.1 D.2.2.1, i2]
  | succ r ih =>
    intro j m m' i sn lf h h' hjr hf1 hf2 h0 h1 h2 h3 h4 hs hs'
    obtain ⟨m, rfl⟩ : ∃ q, m = q + 1 := ⟨m - 1, by omega⟩
    obtain ⟨m', rfl⟩ : ∃ q, m' = q + 1 := ⟨m' - 1, by omega⟩
    have hj : j < n - 1 := by omega
    have l1 : j + 1 + r = n - 1 := by omega
    have l2 : r < m := by omega
    have l3 : r < m' := by omega
    have hj16 := D.j16 hj
    have sn1 : sn < 1000 := by omega
    have i1 : ((j : Int) < ((n - 1 : Nat) : Int)) = True := eq_true (by omega)
    have i2 : (((16 * d + j : Nat) : Int) < ((16 * d + (n - 1) : Nat) : Int)) = True := eq_true (by omega)
    have h1' : sn ≤ ((j + 1 : Nat) : Int) := by omega
    have ll : (sn = i) = (lf = 0) := by apply propext; omega
    have nxt2 : ¬ lf = 0 → ∀ (h1 h1' : am_M), sc hx h1 → sc hm h1' → ∃ v h'', am_it (fun _ _ _ _ _ _ => none) fX2_opponent_5b m d a i (am_w (sn + 1)) ((j + 1 : Nat) : Int) h1 = some (v, h1) ∧ am_it (fun _ _ _ _ _ => none) fX9_met_35b m' (d : Int) a (am_w (lf + -1)) ((16 * d + (j + 1) : Nat) : Int) h1' = some (v, h'') ∧ sc hm h'' := by
      intro hlf h1 h1' q1 q2
      rw [aw_s sn h0 sn1, aw_m lf (by omega) (by omega)]
      exact ih (j + 1) m m' i (sn + 1) (lf + -1) h1 h1' l1 l2 l3 (by omega) (by omega) (by omega) h3 (by omega) q1 q2
    have c64 : 16 * d + j < 100000 := by omega
    have nxt := fun (h1 h1' : am_M) (q1 : sc hx h1) (q2 : sc hm h1') => ih (j + 1) m m' i sn lf h1 h1' l1 l2 l3 h0 (by omega) h2 h3 h4 q1 q2
    obtain ⟨g1, e1, s1⟩ := m_isEnded D hj h' hs'
    obtain ⟨g2, e2, s2⟩ := m_isOfBye D hj g1 s1
    obtain ⟨g3, e3, s3⟩ := m_side0 D hj g2 s2
    obtain ⟨g4, e4, s4⟩ := m_side1 D hj g3 s3
    rw [am_it_s, am_it_s]
    clear ih
    generalize am_it (fun _ _ _ _ _ _ => none) fX2_opponent_5b m = K at nxt nxt2 ⊢
    generalize am_it (fun _ _ _ _ _ => none) fX9_met_35b m' = K' at nxt nxt2 ⊢
    have hH := D.H hj
    have hE := D.E hj
    unfold fX2_opponent_5b fX2_opponent_38 fX2_opponent_43 fX2_opponent_61 fX2_opponent_90 fX2_opponent_76 fX9_met_35b fX9_met_116 fX9_met_131 fX9_met_145
    have c1w : am_w (((16 * d + j : Nat) : Int) + 1) = ((16 * d + (j + 1) : Nat) : Int) := pw1 (16 * d + j) c64
    simp only [D.d.x1 hs, n1_w D.2.2.1, i1, ↓reduceIte, fj hj16, Int.toNat_natCast, hs 20 (by decide), fd D.2.1, D.d.m1 hs', ce_w d n D.2.1 D.2.2.1, i2, e1, ↓am_b_t, fc D.2.1 hj16, s1 24 (by decide), hE, e2, e3, e4, c1w, pw1 j (Nat.lt_trans hj16 (by decide)), z10, show ((-1 : Int) < 0) = True by decide]
    clear hE c1w e1 e2 e3 e4 i1 i2
    by_cases c0 : hx 20 (16 * d + j) = 0
    · simp only [eqT c0, c0, ↓reduceIte, show ((0 : Int) = 3) = False by decide, show ((0 : Int) = 5) = False by decide]
      exact nxt h g1 hs s1
    · simp only [eqF c0, ↓reduceIte, z10]
      by_cases c4 : hx 20 (16 * d + j) = 4
      · simp only [c4, ↓reduceIte, show ((4 : Int) = 3) = False by decide, show ((4 : Int) = 5) = False by decide, true_or]
        exact nxt h g1 hs s1
      · by_cases c6 : hx 20 (16 * d + j) = 6
        · simp only [c6, ↓reduceIte, show ((6 : Int) = 3) = False by decide, show ((6 : Int) = 4) = False by decide, show ((6 : Int) = 5) = False by decide, show ((0 : Int) = 4) = False by decide, false_or, z10]
          exact nxt h g2 hs s2
        · have c35 : hx 20 (16 * d + j) = 3 ∨ hx 20 (16 * d + j) = 5 := c35' hH c0 c4 c6
          have cm : ((if hx 20 (16 * d + j) = 4 ∨ hx 20 (16 * d + j) = 5 then hx 20 (16 * d + j) else 0) = 4) = False := by
            apply eq_false
            rcases c35 with q | q <;> rw [q] <;> decide
          have cx : ∀ z y : Option (Int × am_M), (if hx 20 (16 * d + j) = 3 then z else if hx 20 (16 * d + j) = 5 then z else y) = z := by
            intro z y
            rcases c35 with q | q
            · rw [if_pos q]
            · rw [if_neg (by rw [q]; decide), if_pos q]
          rw [cx]
          simp only [cm, eqF c6, ↓reduceIte, p_sideOf D hj a h hs, ↓am_b_t]
          by_cases s0 : sd hx d n j 0 = a
          · simp only [eqT s0, ↓reduceIte, show ((0 : Int) < 0) = False by decide, ll, aw10]
            by_cases cl : lf = 0
            · obtain ⟨g5, e5, s5⟩ := m_side1 D hj g3 s3
              simp only [eqT cl, ↓reduceIte, p_st1 D hj h hs, ↓am_b_t, e5]
              exact ⟨_, _, rfl, rfl, s5⟩
            · simp only [eqF cl, ↓reduceIte]
              exact nxt2 cl h g3 hs s3
          · by_cases s1' : sd hx d n j 1 = a
            · simp only [eqF s0, eqT s1', ↓reduceIte, show ((1 : Int) < 0) = False by decide, ll, aw11]
              by_cases cl : lf = 0
              · obtain ⟨g5, e5, s5⟩ := m_side0 D hj g4 s4
                simp only [eqT cl, ↓reduceIte, p_st0 D hj h hs, ↓am_b_t, e5]
                exact ⟨_, _, rfl, rfl, s5⟩
              · simp only [eqF cl, ↓reduceIte]
                exact nxt2 cl h g4 hs s4
            · simp only [eqF s0, eqF s1', ↓reduceIte, show ((-1 : Int) < 0) = True by decide]
              exact nxt h g4 hs s4
theorem mn_w (lf : Int) (r : Nat) (hr : r < 1000) (h : lf < 0 ∨ (r : Int) + 1 < lf) (h1 : -2147483648 ≤ lf) (h2 : lf < 2147483648) : (am_w (lf + -1) < 0 ∨ (r : Int) < am_w (lf + -1)) ∧ -2147483648 ≤ am_w (lf + -1) ∧ am_w (lf + -1) < 2147483648 := by
  unfold am_w
  by_cases c : lf = -2147483648
  · subst c
    omega
  · have : (lf + -1 + 2147483648) % 4294967296 = lf + -1 + 2147483648 := Int.emod_eq_of_lt (by omega) (by omega)
    rw [this]
    omega
/-- i below 0: nothing is ever found -/
theorem m_mn {hx hm : am_M} {d n : Nat} (D : Dr hx hm d n) (a : Int) : ∀ (r j m' : Nat) (lf : Int) (h' : am_M), j + r = n - 1 → r < m' → (lf < 0 ∨ (r : Int) < lf) → -2147483648 ≤ lf → lf < 2147483648 → sc hm h' → Sc hm (am_it (fun _ _ _ _ _ => none) fX9_met_35b m' (d : Int) a lf ((16 * d + j : Nat) : Int) h') (-1) := by
  have hb := D.2.2.1.b
  have hd := D.2.1
  intro r
  induction r with
  | zero =>
    intro j m' lf h' hjr hm' h0 h1 h2 hs'
    obtain ⟨m', rfl⟩ : ∃ q, m' = q + 1 := ⟨m' - 1, by omega⟩
    have i2 : (((16 * d + j : Nat) : Int) < ((16 * d + (n - 1) : Nat) : Int)) = False := eq_false (by omega)
    rw [am_it_s]
    unfold fX9_met_35b
    simp only [fd D.2.1, ↓reduceIte, Int.toNat_natCast, D.d.m1 hs', ce_w d n D.2.1 D.2.2.1, i2]
    exact Sc.mk hs' rfl
  | succ r ih =>
    intro j m' lf h' hjr hm' h0 h1 h2 hs'
    obtain ⟨m', rfl⟩ : ∃ q, m' = q + 1 := ⟨m' - 1, by omega⟩
    have hj : j < n - 1 := by omega
    have l1 : j + 1 + r = n - 1 := by omega
    have l3 : r < m' := by omega
    have hj16 := D.j16 hj
    have i2 : (((16 * d + j : Nat) : Int) < ((16 * d + (n - 1) : Nat) : Int)) = True := eq_true (by omega)
    have cl : ¬ lf = 0 := by omega
    have hc1 : lf < 0 ∨ (r : Int) < lf := by omega
    have hc1' : lf < 0 ∨ (r : Int) + 1 < lf := by omega
    have nxt := fun (h1' : am_M) (q2 : sc hm h1') => ih (j + 1) m' lf h1' l1 l3 hc1 h1 h2 q2
    have hr9 : r < 1000 := by omega
    have hc2 := mn_w lf r hr9 hc1' h1 h2
    have c64 : 16 * d + j < 100000 := by clear hc2; omega
    have nxt2 := fun (h1' : am_M) (q2 : sc hm h1') => ih (j + 1) m' (am_w (lf + -1)) h1' l1 l3 hc2.1 hc2.2.1 hc2.2.2 q2
    obtain ⟨g1, e1, s1⟩ := m_isEnded D hj h' hs'
    obtain ⟨g2, e2, s2⟩ := m_isOfBye D hj g1 s1
    obtain ⟨g3, e3, s3⟩ := m_side0 D hj g2 s2
    obtain ⟨g4, e4, s4⟩ := m_side1 D hj g3 s3
    rw [am_it_s]
    generalize am_it (fun _ _ _ _ _ => none) fX9_met_35b m' = K' at nxt nxt2 ⊢
    unfold fX9_met_35b fX9_met_116 fX9_met_131 fX9_met_145
    have c1w : am_w (((16 * d + j : Nat) : Int) + 1) = ((16 * d + (j + 1) : Nat) : Int) := pw1 (16 * d + j) c64
    simp only [fd D.2.1, ↓reduceIte, Int.toNat_natCast, D.d.m1 hs', ce_w d n D.2.1 D.2.2.1, i2, e1, ↓am_b_t, fc D.2.1 hj16, e2, e3, e4, c1w, show ((-1 : Int) < 0) = True by decide, show ((0 : Int) < 0) = False by decide, show ((1 : Int) < 0) = False by decide, eqF cl]
    by_cases c0 : hx 20 (16 * d + j) = 0
    · simp only [eqT c0, ↓reduceIte]
      exact nxt g1 s1
    · simp only [eqF c0, ↓reduceIte, z10]
      by_cases c4 : g1 24 (16 * d + j) = 4
      · simp only [eqT c4, ↓reduceIte]
        exact nxt g1 s1
      · simp only [eqF c4, ↓reduceIte]
        by_cases c6 : hx 20 (16 * d + j) = 6
        · simp only [eqT c6, ↓reduceIte, z10]
          exact nxt g2 s2
        · simp only [eqF c6, ↓reduceIte]
          by_cases t0 : sd hx d n j 0 = a
          · simp only [eqT t0, ↓reduceIte]
            exact nxt2 g3 s3
          · by_cases t1 : sd hx d n j 1 = a
            · simp only [eqF t0, eqT t1, ↓reduceIte]
              exact nxt2 g4 s4
            · simp only [eqF t0, eqF t1, ↓reduceIte]
              exact nxt g4 s4
theorem x_mu {hx hm : am_M} {d n : Nat} (D : Dd hx hm d n) (h5 : hx 5 d = 0) (a i : Int) : ∀ (r j m : Nat) (sn : Int) (h : am_M), j + r = n - 1 → r < m → sc hx h → am_it (fun _ _ _ _ _ _ => none) fX2_opponent_5b m d a i sn (j : Int) h = some (-1, h) := by
  have hb := D.2.2.1.b
  intro r
  induction r with
  | zero =>
    intro j m sn h hjr hm hs
    obtain ⟨m, rfl⟩ : ∃ q, m = q + 1 := ⟨m - 1, by omega⟩
    have i1 : ((j : Int) < ((n - 1 : Nat) : Int)) = False := eq_false (by omega)
    rw [am_it_s]
    unfold fX2_opponent_5b
    simp only [D.x1 hs, n1_w D.2.2.1, i1, ↓reduceIte]
  | succ r ih =>
    intro j m sn h hjr hm hs
    obtain ⟨m, rfl⟩ : ∃ q, m = q + 1 := ⟨m - 1, by omega⟩
    have hj : j < n - 1 := by omega
    have i1 : ((j : Int) < ((n - 1 : Nat) : Int)) = True := eq_true (by omega)
    have nxt := ih (j + 1) m sn h (by omega) (by omega) hs
    have u := D.un h5 (D.j16 hj)
    rw [am_it_s]
    generalize am_it (fun _ _ _ _ _ _ => none) fX2_opponent_5b m = K at nxt ⊢
    unfold fX2_opponent_5b fX2_opponent_43 fX2_opponent_61 fX2_opponent_90
    simp only [D.x1 hs, n1_w D.2.2.1, i1, ↓reduceIte, fj (D.j16 hj), Int.toNat_natCast, hs 20 (by decide), u, show ((0 : Int) = 3) = False by decide, show ((0 : Int) = 5) = False by decide, show ((-1 : Int) < 0) = True by decide, pw1 j (Nat.lt_trans (D.j16 hj) (by decide))]
    exact nxt
theorem e_met {hx hm : am_M} (r : Rel hx hm) (a b c : Int) (hc : am_in c) : Same (fX8_met a b c hx) (fX9_met a b c hm) := by
  unfold fX8_met fX9_met
  rcases dt r a with ⟨d, n, rfl, D⟩ | ⟨e1, e2⟩
  · have hb := D.2.2.1.b
    have k5 := r.kk (k := 5) (by decide) (by decide) d
    have c0w : am_w ((16 : Int) * (d : Int)) = ((16 * d + 0 : Nat) : Int) := by have := D.2.1; rw [pw (by omega) (by omega)]; omega
    simp only [D.fnd hx (sc.rf _), ↓am_b_t, am_on_some D.2.1, D.isd hm (sc.rf _), z10, fd D.2.1, ↓reduceIte, Int.toNat_natCast, p_isPlayer, q_isPlayer, ← k5, ↓am_l_t, c0w]
    by_cases cp : 0 ≤ b ∧ b < 40
    · simp only [eqT cp, ↓reduceIte, z10]
      unfold am_in at hc
      rcases D.cs with q | q
      · simp only [q.2.2.2.2, z10, ↓reduceIte]
        by_cases c0 : c < 0
        · obtain ⟨h1, e1, s1⟩ := m_mn q b (n - 1) 0 400 c hm (by omega) (by clear c0w; omega) (Or.inl c0) hc.1 hc.2 (sc.rf _)
          unfold fX9_met_35
          rw [e1]
          simp only [eqT c0, ↓reduceIte]
          exact Same.mk rfl (r.sc (sc.rf _) s1)
        · obtain ⟨v, h1, e1, e2, s1⟩ := x_mt q b (n - 1) 0 400 400 c 0 c hx hm (by omega) (by clear c0w; omega) (by clear c0w; omega) (by decide) (by decide) (by omega) hc.2 (by omega) (sc.rf _) (sc.rf _)
          rw [show ((0 : Nat) : Int) = 0 from rfl] at e1
          unfold fX9_met_35 fX2_opponent fX2_opponent_5
          rw [e1, e2]
          simp only [eqF c0, ↓reduceIte, ↓am_b_t]
          exact Same.mk rfl (r.sc (sc.rf _) s1)
      · have e1 := x_mu D q b c (n - 1) 0 400 0 hx (by omega) (by clear c0w; omega) (sc.rf _)
        rw [show ((0 : Nat) : Int) = 0 from rfl] at e1
        unfold fX2_opponent fX2_opponent_5
        rw [e1]
        simp only [q, ↓reduceIte, ↓am_b_t]
        split <;> exact Same.mk rfl r
    · simp only [eqF cp, ↓reduceIte]
      split <;> exact Same.mk rfl r
  · rw [e1 _ (sc.rf _), am_b_some, am_on_none, e2 _ (sc.rf _), am_b_some, if_pos rfl]
    exact Same.mk rfl r
