/-! ===== a lucky one ===== -/
def bg (hx : am_M) (d n : Nat) (a : Int) (j : Nat) : Prop := (0 < hx 9 (16 * d + j) ∨ (hx 20 (16 * d + j) ≠ 0 ∧ hx 20 (16 * d + j) ≠ 6)) ∧ (sd hx d n j 0 = a ∨ sd hx d n j 1 = a)
theorem x_bg {hx hm : am_M} {d n : Nat} (D : Dr hx hm d n) (a : Int) (h : am_M) (hs : sc hx h) : ∀ (r j m : Nat), j + r = n - 1 → r < m → ∃ v, am_it (fun _ _ _ _ => none) fX2_hasBegun_2b m d a (j : Int) h = some (v, h) ∧ ((v = 1 ∧ ∃ i, j ≤ i ∧ i < n - 1 ∧ bg hx d n a i) ∨ (v = 0 ∧ ∀ i, j ≤ i → i < n - 1 → ¬ bg hx d n a i)) := by
  have hb := D.2.2.1.b
  intro r
  induction r with
  | zero =>
    intro j m hj hf1
    obtain ⟨m, rfl⟩ : ∃ q, m = q + 1 := ⟨m - 1, by omega⟩
    have i1 : ((j : Int) < ((n - 1 : Nat) : Int)) = False := eq_false (by omega)
    rw [am_it_s]
    unfold fX2_hasBegun_2b
    simp only [D.d.x1 hs, n1_w D.2.2.1, i1, ↓reduceIte]
    exact ⟨0, rfl, Or.inr ⟨rfl, fun i h1 h2 => by omega⟩⟩
  | succ r ih =>
    intro j m hjr hf1
    obtain ⟨m, rfl⟩ : ∃ q, m = q + 1 := ⟨m - 1, by omega⟩
    have hj : j < n - 1 := by omega
    have hj16 := D.j16 hj
    have i1 : ((j : Int) < ((n - 1 : Nat) : Int)) = True := eq_true (by omega)
    obtain ⟨v, e, k⟩ := ih (j + 1) m (by omega) (by omega)
    have go : ¬ bg hx d n a j → ((v = 1 ∧ ∃ i, j ≤ i ∧ i < n - 1 ∧ bg hx d n a i) ∨ (v = 0 ∧ ∀ i, j ≤ i → i < n - 1 → ¬ bg hx d n a i)) := by
      intro nb
      rcases k with ⟨k1, i, a1, a2, a3⟩ | ⟨k1, k2⟩
      · exact Or.inl ⟨k1, i, by omega, a2, a3⟩
      · refine Or.inr ⟨k1, fun i a1 a2 => ?_⟩
        by_cases ci : i = j
        · rw [ci]; exact nb
        · exact k2 i (by omega) a2
    rw [am_it_s]
    generalize am_it (fun _ _ _ _ => none) fX2_hasBegun_2b m = K at e ⊢
    unfold fX2_hasBegun_2b fX2_hasBegun_41 fX2_hasBegun_45 fX2_hasBegun_46 fX2_hasBegun_62
    simp only [D.d.x1 hs, n1_w D.2.2.1, i1, ↓reduceIte, fj hj16, Int.toNat_natCast, hs 9 (by decide), hs 20 (by decide), p_sideOf D hj a h hs, ↓am_b_t, pw1 j (Nat.lt_trans hj16 (by decide)), e, z10]
    clear e i1
    have sideK : (0 < hx 9 (16 * d + j) ∨ (hx 20 (16 * d + j) ≠ 0 ∧ hx 20 (16 * d + j) ≠ 6)) → ∃ v', (if (if sd hx d n j 0 = a then (0 : Int) else if sd hx d n j 1 = a then 1 else -1) < 0 then some (v, h) else some (1, h)) = some (v', h) ∧ ((v' = 1 ∧ ∃ i, j ≤ i ∧ i < n - 1 ∧ bg hx d n a i) ∨ (v' = 0 ∧ ∀ i, j ≤ i → i < n - 1 → ¬ bg hx d n a i)) := by
      intro hc
      by_cases s0 : sd hx d n j 0 = a
      · simp only [eqT s0, ↓reduceIte, show ((0 : Int) < 0) = False by decide]
        exact ⟨1, rfl, Or.inl ⟨rfl, j, Nat.le_refl _, hj, hc, Or.inl s0⟩⟩
      · by_cases s1 : sd hx d n j 1 = a
        · simp only [eqF s0, eqT s1, ↓reduceIte, show ((1 : Int) < 0) = False by decide]
          exact ⟨1, rfl, Or.inl ⟨rfl, j, Nat.le_refl _, hj, hc, Or.inr s1⟩⟩
        · simp only [eqF s0, eqF s1, ↓reduceIte, show ((-1 : Int) < 0) = True by decide]
          exact ⟨v, rfl, go (fun z => z.2.elim s0 s1)⟩
    by_cases cq : hx 9 (16 * d + j) ≤ 0
    · simp only [eqT cq, ↓reduceIte]
      have cq' : ¬ 0 < hx 9 (16 * d + j) := by clear go sideK k; omega
      by_cases c0 : hx 20 (16 * d + j) = 0
      · simp only [eqT c0, ↓reduceIte]
        exact ⟨v, rfl, go (fun z => z.1.elim cq' (fun y => y.1 c0))⟩
      · by_cases c6 : hx 20 (16 * d + j) = 6
        · simp only [eqF c0, eqT c6, ↓reduceIte]
          exact ⟨v, rfl, go (fun z => z.1.elim cq' (fun y => y.2 c6))⟩
        · simp only [eqF c0, eqF c6, ↓reduceIte]
          exact sideK (Or.inr ⟨c0, c6⟩)
    · simp only [eqF cq, ↓reduceIte]
      exact sideK (Or.inl (by clear go sideK k; omega))
theorem m_bg {hx hm : am_M} {d n : Nat} (D : Dr hx hm d n) (a b pl : Int) : ∀ (r j m : Nat) (h : am_M), j + r = n - 1 → r < m → sc hm h → ∃ h', sc hm h' ∧ ((am_it (fun _ _ _ _ _ _ => none) fX9_lucky_75b m (d : Int) a b pl ((16 * d + j : Nat) : Int) h = some (-7, h') ∧ ∃ i, j ≤ i ∧ i < n - 1 ∧ bg hx d n a i) ∨ (am_it (fun _ _ _ _ _ _ => none) fX9_lucky_75b m (d : Int) a b pl ((16 * d + j : Nat) : Int) h = fX9_lucky_155 (d : Int) b pl h' ∧ ∀ i, j ≤ i → i < n - 1 → ¬ bg hx d n a i)) := by
  have hb := D.2.2.1.b
  have hd := D.2.1
  intro r
  induction r with
  | zero =>
    intro j m h hjr hf hs
    obtain ⟨m, rfl⟩ : ∃ q, m = q + 1 := ⟨m - 1, by omega⟩
    have i2 : (((16 * d + j : Nat) : Int) < ((16 * d + (n - 1) : Nat) : Int)) = False := eq_false (by omega)
    rw [am_it_s]
    unfold fX9_lucky_75b
    simp only [fd D.2.1, ↓reduceIte, Int.toNat_natCast, D.d.m1 hs, ce_w d n D.2.1 D.2.2.1, i2]
    exact ⟨h, hs, Or.inr ⟨rfl, fun i h1 h2 => by omega⟩⟩
  | succ r ih =>
    intro j m h hjr hf hs
    obtain ⟨m, rfl⟩ : ∃ q, m = q + 1 := ⟨m - 1, by omega⟩
    have hj : j < n - 1 := by omega
    have hj16 := D.j16 hj
    have i2 : (((16 * d + j : Nat) : Int) < ((16 * d + (n - 1) : Nat) : Int)) = True := eq_true (by omega)
    have c64 : 16 * d + j < 100000 := by omega
    have l1 : j + 1 + r = n - 1 := by omega
    have l2 : r < m := by omega
    have nx := fun (h1 : am_M) (q : sc hm h1) => ih (j + 1) m h1 l1 l2 q
    have hH := D.H hj
    have hq := (D.Q hj16).1
    rw [am_it_s]
    clear ih
    generalize am_it (fun _ _ _ _ _ _ => none) fX9_lucky_75b m = K at nx ⊢
    have go : ∀ (h1 : am_M), sc hm h1 → ¬ bg hx d n a j → ∃ h', sc hm h' ∧ ((K (d : Int) a b pl ((16 * d + (j + 1) : Nat) : Int) h1 = some (-7, h') ∧ ∃ i, j ≤ i ∧ i < n - 1 ∧ bg hx d n a i) ∨ (K (d : Int) a b pl ((16 * d + (j + 1) : Nat) : Int) h1 = fX9_lucky_155 (d : Int) b pl h' ∧ ∀ i, j ≤ i → i < n - 1 → ¬ bg hx d n a i)) := by
      intro h1 q nb
      obtain ⟨h', s', k⟩ := nx h1 q
      refine ⟨h', s', ?_⟩
      rcases k with ⟨k1, i, a1, a2, a3⟩ | ⟨k1, k2⟩
      · exact Or.inl ⟨k1, i, by omega, a2, a3⟩
      · refine Or.inr ⟨k1, fun i a1 a2 => ?_⟩
        by_cases ci : i = j
        · rw [ci]; exact nb
        · exact k2 i (by omega) a2
    have c1w : am_w (((16 * d + j : Nat) : Int) + 1) = ((16 * d + (j + 1) : Nat) : Int) := pw1 (16 * d + j) c64
    have m118 : ∀ (h1 : am_M), sc hm h1 → (sd hx d n j 0 = a ∨ sd hx d n j 1 = a) → ∃ h', sc hm h' ∧ ((fX9_lucky_118 (fX9_lucky_149 K) (d : Int) a b pl ((16 * d + j : Nat) : Int) h1 = some (-7, h') ∧ ∃ i, j ≤ i ∧ i < n - 1 ∧ bg hx d n a i) ∨ (fX9_lucky_118 (fX9_lucky_149 K) (d : Int) a b pl ((16 * d + j : Nat) : Int) h1 = fX9_lucky_155 (d : Int) b pl h' ∧ ∀ i, j ≤ i → i < n - 1 → ¬ bg hx d n a i)) := by
      intro h1 q hsd
      obtain ⟨g1, e1, s1⟩ := m_isEnded D hj h1 q
      obtain ⟨g2, e2, s2⟩ := m_isOfBye D hj g1 s1
      unfold fX9_lucky_118 fX9_lucky_149
      simp only [fc D.2.1 hj16, ↓reduceIte, Int.toNat_natCast, q 9 (by decide), ← D.1.kk (k := 9) (by decide) (by decide), e1, ↓am_b_t, e2, c1w]
      clear c1w
      by_cases cq : hx 9 (16 * d + j) ≤ 0
      · simp only [eqT cq, ↓reduceIte]
        have cq' : ¬ 0 < hx 9 (16 * d + j) := by clear go hH i2; omega
        by_cases c0 : hx 20 (16 * d + j) = 0
        · simp only [eqT c0, ↓reduceIte]
          exact go g1 s1 (fun z => z.1.elim cq' (fun y => y.1 c0))
        · by_cases c6 : hx 20 (16 * d + j) = 6
          · simp only [eqF c0, eqT c6, ↓reduceIte, z10]
            exact go g2 s2 (fun z => z.1.elim cq' (fun y => y.2 c6))
          · simp only [eqF c0, eqF c6, ↓reduceIte, z10]
            exact ⟨g2, s2, Or.inl ⟨rfl, j, Nat.le_refl _, hj, Or.inr ⟨c0, c6⟩, hsd⟩⟩
      · simp only [eqF cq, ↓reduceIte]
        exact ⟨h1, q, Or.inl ⟨rfl, j, Nat.le_refl _, hj, Or.inl (by clear go hH i2; omega), hsd⟩⟩
    obtain ⟨g3, e3, s3⟩ := m_side0 D hj h hs
    obtain ⟨g4, e4, s4⟩ := m_side1 D hj g3 s3
    unfold fX9_lucky_75b
    simp only [fd D.2.1, ↓reduceIte, Int.toNat_natCast, D.d.m1 hs, ce_w d n D.2.1 D.2.2.1, i2, e3, e4, ↓am_b_t]
    by_cases s0 : sd hx d n j 0 = a
    · simp only [eqT s0, ↓reduceIte]
      exact m118 g3 s3 (Or.inl s0)
    · by_cases s1 : sd hx d n j 1 = a
      · simp only [eqF s0, eqT s1, ↓reduceIte]
        exact m118 g4 s4 (Or.inr s1)
      · simp only [eqF s0, eqF s1, ↓reduceIte]
        unfold fX9_lucky_149
        rw [c1w]
        exact go g4 s4 (fun z => z.2.elim s0 s1)
theorem RM.cgP {n : Nat} {L : Int} {P P' H W R Q B mQ mE mW : Nat → Int} {i : Nat} (h : RM n L P H W R Q B mQ mE mW i) (e : ∀ x, P' x = -1 ↔ P x = -1) : RM n L P' H W R Q B mQ mE mW i := by
  obtain ⟨a1, a2, a3, a4, a5⟩ := h
  refine ⟨a1, a2, ?_, fun z => ?_, a5⟩
  · rw [a3, e, e]
  · have := a4 z
    refine ⟨?_, this.2⟩
    rw [this.1]
    by_cases c : P (2 * i) = -1
    · rw [if_pos c, if_pos ((e _).mpr c)]
    · rw [if_neg c, if_neg (fun y => c ((e _).mp y))]
theorem u_lucky {hx hm : am_M} {d n p b : Nat} (D : Dr hx hm d n) (hp : p < n) (hpa : 0 ≤ hx 7 (16 * d + p)) (hb40 : b < 40) : Rel (am_up (am_up hx 7 (16 * d + p) (b : Int)) 8 (40 * d + b) 1) (am_up (am_up hm 7 (16 * d + p) (b : Int)) 8 (40 * d + b) 1) := by
  have hbn := D.2.2.1.b
  have hp16 : p < 16 := by omega
  refine ((((D.1.O d).x (b : Int) (Or.inr rfl) (ow16 (by decide) hp16)).m (b : Int) (Or.inr rfl) (om16 (by decide) hp16)).both 1 (by decide) (by decide) (ow8 hb40)).R ?_
  have h0 := D.1.2.2 d D.2.1
  have e1 := D.2.2.2.1
  unfold RDx at *
  simp only [am_up_k _ _ _ _ (show (1 : Nat) ≠ 8 by decide), am_up_k _ _ _ _ (show (2 : Nat) ≠ 8 by decide), am_up_k _ _ _ _ (show (3 : Nat) ≠ 8 by decide), am_up_k _ _ _ _ (show (4 : Nat) ≠ 8 by decide), am_up_k _ _ _ _ (show (5 : Nat) ≠ 8 by decide), lc_up_k _ _ _ _ _ (show (6 : Nat) ≠ 8 by decide), lc_up_k _ _ _ _ _ (show (7 : Nat) ≠ 8 by decide), lc_up_k _ _ _ _ _ (show (9 : Nat) ≠ 8 by decide), lc_up_k _ _ _ _ _ (show (10 : Nat) ≠ 8 by decide), lc_up_k _ _ _ _ _ (show (20 : Nat) ≠ 8 by decide), lc_up_k _ _ _ _ _ (show (21 : Nat) ≠ 8 by decide), lc_up_k _ _ _ _ _ (show (22 : Nat) ≠ 8 by decide), lc_up_k _ _ _ _ _ (show (23 : Nat) ≠ 8 by decide), lc_up_k _ _ _ _ _ (show (24 : Nat) ≠ 8 by decide), lc_up_k _ _ _ _ _ (show (25 : Nat) ≠ 8 by decide), lc_up_s _ _ _ _ hb40]
  simp only [am_up_k _ _ _ _ (show (1 : Nat) ≠ 7 by decide), am_up_k _ _ _ _ (show (2 : Nat) ≠ 7 by decide), am_up_k _ _ _ _ (show (3 : Nat) ≠ 7 by decide), am_up_k _ _ _ _ (show (4 : Nat) ≠ 7 by decide), am_up_k _ _ _ _ (show (5 : Nat) ≠ 7 by decide), lc_up_k _ _ _ _ _ (show (6 : Nat) ≠ 7 by decide), lc_up_k _ _ _ _ _ (show (8 : Nat) ≠ 7 by decide), lc_up_k _ _ _ _ _ (show (9 : Nat) ≠ 7 by decide), lc_up_k _ _ _ _ _ (show (10 : Nat) ≠ 7 by decide), lc_up_k _ _ _ _ _ (show (20 : Nat) ≠ 7 by decide), lc_up_k _ _ _ _ _ (show (21 : Nat) ≠ 7 by decide), lc_up_k _ _ _ _ _ (show (22 : Nat) ≠ 7 by decide), lc_up_k _ _ _ _ _ (show (23 : Nat) ≠ 7 by decide), lc_up_k _ _ _ _ _ (show (24 : Nat) ≠ 7 by decide), lc_up_k _ _ _ _ _ (show (25 : Nat) ≠ 7 by decide), lc_up_s _ _ _ _ hp16]
  have e : ∀ x, up1 (lc hx 7 d 16) p (b : Int) x = -1 ↔ lc hx 7 d 16 x = -1 := by
    intro x
    unfold up1
    by_cases c : x = p
    · rw [if_pos c, c, lc_at _ _ _ hp16]
      clear h0
      omega
    · rw [if_neg c]
  have z6 := h0.2.2.2.2.2.1
  have z8 := h0.2.2.2.2.2.2.2.1
  refine ⟨h0.1, h0.2.1, h0.2.2.1, h0.2.2.2.1, h0.2.2.2.2.1, fun i hi => ?_, h0.2.2.2.2.2.2.1, fun x hx' => ?_, h0.2.2.2.2.2.2.2.2.1, h0.2.2.2.2.2.2.2.2.2.1, fun z => ?_⟩
  · refine ⟨(z6 i hi).1, (z6 i hi).2.1, ?_⟩
    unfold up1
    split
    · rfl
    · exact (z6 i hi).2.2
  · unfold up1
    split
    · exact Or.inr rfl
    · exact z8 x hx'
  · have RL := h0.2.2.2.2.2.2.2.2.2.2 z
    refine ⟨RL.1, fun i hi => ?_, fun q hq => ?_, fun j hj => (RL.2.2.2 j hj).cgP e⟩
    · by_cases c : i = p
      · subst c
        rw [up1_s, up1_s]
        clear h0 RL
        omega
      · rw [up1_n _ _ c, up1_n _ _ c]
        exact RL.2.1 i hi
    · rw [e, e]
      exact RL.2.2.1 q hq
theorem e_lucky {hx hm : am_M} (r : Rel hx hm) (a b c : Int) : Same (fX8_lucky a b c hx) (fX9_lucky a b c hm) := by
  unfold fX8_lucky fX9_lucky
  rcases dt r a with ⟨d, n, rfl, D⟩ | ⟨e1, e2⟩
  · have hb := D.2.2.1.b
    have hd := D.2.1
    have k5 := r.kk (k := 5) (by decide) (by decide) d
    by_cases cp : 0 ≤ b ∧ b < 40
    · by_cases cq : 0 ≤ c ∧ c < 40
      · obtain ⟨q, rfl⟩ := p_nat cq.1
        have hq40 : q < 40 := by omega
        have e40 : am_w (am_w ((40 : Int) * (d : Int)) + (q : Int)) = ((40 * d + q : Nat) : Int) := ix_w 40 d q (by omega)
        have i40 : (0 ≤ ((40 * d + q : Nat) : Int) ∧ ((40 * d + q : Nat) : Int) < 160) = True := eq_true (by clear e40; omega)
        have k8 := r.kk (k := 8) (by decide) (by decide) (40 * d + q)
        simp only [D.fnd hx (sc.rf _), ↓am_b_t, am_on_some D.2.1, D.isd hm (sc.rf _), z10, fd D.2.1, ↓reduceIte, Int.toNat_natCast, p_isPlayer, q_isPlayer, ← k5, eqT cp, eqT cq, e40, i40, ← k8]
        rcases D.cs with Q | Q
        · simp only [Q.2.2.2.2, z10, ↓reduceIte]
          by_cases c8 : hx 8 (40 * d + q) = 0
          · simp only [eqT c8, ↓reduceIte, p_placeOf Q b hx (sc.rf _), m_placeOf Q b hm (sc.rf _), ↓am_b_t]
            rcases plc_s hx d b n 0 with z | ⟨p1, _, l1, z1, z2⟩
            · simp only [z, show ((-1 : Int) < 0) = True by decide, ↓reduceIte]
              exact Same.mk rfl r
            · have i1 : ((p1 : Int) < 0) = False := eq_false (by clear e40; omega)
              have h1 : p1 < n := by clear e40; omega
              have h16 : p1 < 16 := by clear e40; omega
              have c0w : am_w ((16 : Int) * (d : Int)) = ((16 * d + 0 : Nat) : Int) := by clear e40; rw [pw (by omega) (by omega)]; omega
              obtain ⟨v, e3, k3⟩ := x_bg Q b hx (sc.rf _) (n - 1) 0 400 (by clear e40 c0w; omega) (by clear e40 c0w; omega)
              obtain ⟨g, s4, k4⟩ := m_bg Q b (q : Int) (p1 : Int) (n - 1) 0 400 hm (by clear e40 c0w; omega) (by clear e40 c0w; omega) (sc.rf _)
              rw [show ((0 : Nat) : Int) = 0 from rfl] at e3
              unfold fX2_hasBegun fX2_hasBegun_2 fX9_lucky_75
              rw [z1]
              simp only [i1, ↓reduceIte, ↓am_l_t, c0w]
              rw [e3, am_b_some]
              rcases k3 with ⟨k1, i, _, a2, a3⟩ | ⟨k1, k2⟩
              · rcases k4 with ⟨k5, _⟩ | ⟨_, k6⟩
                · rw [k5, k1, if_neg (by decide)]
                  exact Same.mk rfl (r.sc (sc.rf _) s4)
                · exact absurd a3 (k6 i (Nat.zero_le _) a2)
              · rcases k4 with ⟨_, i, _, a2, a3⟩ | ⟨k5, _⟩
                · exact absurd a3 (k2 i (Nat.zero_le _) a2)
                · rw [k5, k1, if_pos rfl]
                  unfold fX9_lucky_155
                  rw [q_put d p1 _ D.2.1 h16, am_b_some]
                  simp only [fj h16, ↓reduceIte, ↓am_l_t, Int.toNat_natCast, e40, i40]
                  exact Same.mk rfl (u_lucky (Q.sc (sc.rf _) s4) h1 (by rw [z2]; exact cp.1) hq40)
          · simp only [eqF c8, ↓reduceIte]
            exact Same.mk rfl r
        · simp only [Q, ↓reduceIte]
          exact Same.mk rfl r
      · simp only [D.fnd hx (sc.rf _), ↓am_b_t, am_on_some D.2.1, D.isd hm (sc.rf _), z10, ↓reduceIte, p_isPlayer, q_isPlayer, eqT cp, eqF cq]
        exact Same.mk rfl r
    · simp only [D.fnd hx (sc.rf _), ↓am_b_t, am_on_some D.2.1, D.isd hm (sc.rf _), z10, ↓reduceIte, p_isPlayer, q_isPlayer, eqF cp]
      exact Same.mk rfl r
  · rw [e1 _ (sc.rf _), am_b_some, am_on_none, e2 _ (sc.rf _), am_b_some, if_pos rfl]
    exact Same.mk rfl r
