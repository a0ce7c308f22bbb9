/-! ===== draws, laid or not; of ===== -/
/-- draw d is there, with n places -/
def Dd (hx hm : am_M) (d n : Nat) : Prop := Rel hx hm ∧ d < 4 ∧ szn n ∧ hx 1 d = n
theorem Dr.d {hx hm : am_M} {d n : Nat} (D : Dr hx hm d n) : Dd hx hm d n := ⟨D.1, D.2.1, D.2.2.1, D.2.2.2.1⟩
theorem Dd.cs {hx hm : am_M} {d n : Nat} (D : Dd hx hm d n) : Dr hx hm d n ∨ hx 5 d = 0 := by
  rcases (D.1.2.2 d D.2.1).2.2.2.2.1 with q | q
  · exact Or.inr q
  · exact Or.inl ⟨D.1, D.2.1, D.2.2.1, D.2.2.2, q⟩
theorem Dd.j16 {hx hm : am_M} {d n j : Nat} (D : Dd hx hm d n) (hj : j < n - 1) : j < 16 := by
  have hb := D.2.2.1.b
  omega
theorem Dd.x1 {hx hm : am_M} {d n : Nat} (D : Dd hx hm d n) {h : am_M} (hs : sc hx h) : h 1 d = n := by rw [hs 1 (by decide)]; exact D.2.2.2
theorem Dd.m1 {hx hm : am_M} {d n : Nat} (D : Dd hx hm d n) {h : am_M} (hs : sc hm h) : h 1 d = n := by rw [hs 1 (by decide), ← D.1.kk (k := 1) (by decide) (by decide)]; exact D.2.2.2
theorem Dd.un {hx hm : am_M} {d n : Nat} (D : Dd hx hm d n) (h5 : hx 5 d = 0) {j : Nat} (hj : j < 16) : hx 20 (16 * d + j) = 0 := by
  have := ((D.1.2.2 d D.2.1).2.2.2.2.2.2.2.2.2.1 h5 (by rw [D.2.2.2]; have := D.2.2.1.b; omega) j hj).1
  rw [lc_at _ _ _ hj] at this
  exact this
theorem dt {hx hm : am_M} (r : Rel hx hm) (a : Int) : (∃ d n : Nat, a = (d : Int) ∧ Dd hx hm d n) ∨ ((∀ h, sc hx h → fX0_findDraw a h = some (none, h)) ∧ (∀ h, sc hm h → fX9_isDraw a h = some (0, h))) := by
  by_cases c : 0 ≤ a ∧ a < 4
  · obtain ⟨d, rfl⟩ := p_nat c.1
    have hd : d < 4 := by omega
    have hsz := (r.2.2 d hd).1
    by_cases c1 : hx 1 d = 0
    · right
      constructor
      · intro h hs
        rw [p_findDraw, Int.toNat_natCast, hs 1 (by decide), if_neg (fun z => z.2.2 c1)]
      · intro h hs
        rw [q_isDraw, Int.toNat_natCast, hs 1 (by decide), ← r.kk (k := 1) (by decide) (by decide), c1, if_neg (fun z => absurd z.2.2 (by decide))]
    · left
      refine ⟨d, (hx 1 d).toNat, rfl, r, hd, ?_, ?_⟩
      · unfold szn; omega
      · omega
  · right
    constructor
    · intro h hs
      rw [p_findDraw, if_neg (fun z => c ⟨z.1, z.2.1⟩)]
    · intro h hs
      rw [q_isDraw, if_neg (fun z => c ⟨z.1, z.2.1⟩)]
theorem Dd.fnd {hx hm : am_M} {d n : Nat} (D : Dd hx hm d n) (h : am_M) (hs : sc hx h) : fX0_findDraw (d : Int) h = some (some (10 + d), h) := by
  have hb := D.2.2.1.b
  have hd := D.2.1
  rw [p_findDraw, Int.toNat_natCast, D.x1 hs, if_pos ⟨by omega, by omega, by omega⟩]
theorem Dd.isd {hx hm : am_M} {d n : Nat} (D : Dd hx hm d n) (h : am_M) (hs : sc hm h) : fX9_isDraw (d : Int) h = some (1, h) := by
  have hb := D.2.2.1.b
  have hd := D.2.1
  rw [q_isDraw, Int.toNat_natCast, D.m1 hs, if_pos ⟨by omega, by omega, by omega⟩]
theorem n1_w {n : Nat} (h : szn n) : am_w ((n : Int) - 1) = ((n - 1 : Nat) : Int) := by
  have := h.b
  rw [pw (by omega) (by omega)]
  omega
theorem c_w (d j : Nat) (hd : d < 4) (hj : j < 16) : am_w (am_w ((16 : Int) * (d : Int)) + (j : Int)) = ((16 * d + j : Nat) : Int) := ix_w 16 d j (by omega)
theorem Dd.en {hx hm : am_M} {d n j : Nat} (D : Dd hx hm d n) (hj : j < n - 1) (h : am_M) (hs : sc hm h) : Sc hm (fX9_isEnded ((16 * d + j : Nat) : Int) h) (if hx 20 (16 * d + j) = 0 then 0 else 1) := by
  rcases D.cs with q | q
  · exact m_isEnded q hj h hs
  · have e5 : h 5 d = 0 := by rw [hs 5 (by decide), ← D.1.kk (k := 5) (by decide) (by decide)]; exact q
    rw [if_pos (D.un q (D.j16 hj))]
    unfold fX9_isEnded fX9_winnerOf
    simp only [cd_div d j (D.j16 hj) D.2.1, fd D.2.1, ↓reduceIte, Int.toNat_natCast, eqT e5, ↓am_b_t, show ((-1 : Int) < 0) = True by decide]
    exact Sc.mk hs rfl
/-- how many of r matches from j on have ended -/
def ce (hx : am_M) (d : Nat) : Nat → Nat → Int
  | 0, _ => 0
  | r + 1, j => (if hx 20 (16 * d + j) = 0 then 0 else 1) + ce hx d r (j + 1)
theorem ce_b (hx : am_M) (d : Nat) : ∀ r j, 0 ≤ ce hx d r j ∧ ce hx d r j ≤ r ∧ (ce hx d r j < r ↔ ∃ i, j ≤ i ∧ i < j + r ∧ hx 20 (16 * d + i) = 0) := by
  intro r
  induction r with
  | zero =>
    intro j
    refine ⟨Int.le_refl _, Int.le_refl _, ?_, ?_⟩
    · intro z; exact absurd z (Int.lt_irrefl _)
    · rintro ⟨i, h1, h2, _⟩; omega
  | succ r ih =>
    intro j
    obtain ⟨a, b, c⟩ := ih (j + 1)
    simp only [ce]
    by_cases q : hx 20 (16 * d + j) = 0
    · simp only [eqT q, ↓reduceIte]
      refine ⟨by omega, by omega, fun _ => ⟨j, Nat.le_refl _, by omega, q⟩, fun _ => by omega⟩
    · simp only [eqF q, ↓reduceIte]
      refine ⟨by omega, by omega, fun z => ?_, ?_⟩
      · obtain ⟨i, h1, h2, h3⟩ := c.mp (by omega)
        exact ⟨i, by omega, by omega, h3⟩
      · rintro ⟨i, h1, h2, h3⟩
        have : i ≠ j := fun z => q (z ▸ h3)
        have := c.mpr ⟨i, by omega, by omega, h3⟩
        omega
theorem aw_0 (x : Int) (h0 : 0 ≤ x) (h1 : x < 1000) : am_w (x + 0) = x := by rw [Int.add_zero]; exact pw (by omega) (by omega)
theorem x_ce (hx : am_M) (d E : Nat) (hE : E ≤ 16) : ∀ (r j m : Nat) (l : Int) (h : am_M), j + r = E → r < m → 0 ≤ l → l + r < 1000 → sc hx h → am_it (fun _ _ _ _ _ => none) fX2_countEnded_5b m d (E : Int) l (j : Int) h = some (l + ce hx d r j, h) := by
  intro r
  induction r with
  | zero =>
    intro j m l h hjr hm l0 l1 hs
    obtain ⟨m, rfl⟩ : ∃ m', m = m' + 1 := ⟨m - 1, by omega⟩
    rw [am_it_s]
    unfold fX2_countEnded_5b
    rw [if_neg (by omega), ce, Int.add_zero]
  | succ r ih =>
    intro j m l h hjr hm l0 l1 hs
    obtain ⟨m, rfl⟩ : ∃ m', m = m' + 1 := ⟨m - 1, by omega⟩
    have i1 : ((j : Int) < (E : Int)) = True := eq_true (by omega)
    have l2 : l < 1000 := by omega
    rw [am_it_s]
    generalize hK : am_it (fun _ _ _ _ _ => none) fX2_countEnded_5b m = K
    unfold fX2_countEnded_5b fX2_countEnded_24
    simp only [i1, ↓reduceIte, fj (show j < 16 by omega), Int.toNat_natCast, hs 20 (by decide), pw1 j (by omega), ce]
    by_cases q : hx 20 (16 * d + j) = 0
    · simp only [eqT q, ↓reduceIte]
      rw [← hK, ih (j + 1) m l h (by omega) (by omega) l0 (by omega) hs, Int.zero_add]
    · simp only [eqF q, ↓reduceIte, aw_s l l0 l2]
      rw [← hK, ih (j + 1) m (l + 1) h (by omega) (by omega) (by omega) (by omega) hs, Int.add_assoc]
theorem m_ce {hx hm : am_M} {d n : Nat} (D : Dd hx hm d n) : ∀ (r j m : Nat) (l : Int) (h : am_M), j + r = n - 1 → r < m → 0 ≤ l → l + r < 1000 → sc hm h → Sc hm (am_it (fun _ _ _ _ => none) fX9_of_100b m (d : Int) l (j : Int) h) (l + ce hx d r j) := by
  have hb := D.2.2.1.b
  intro r
  induction r with
  | zero =>
    intro j m l h hjr hm l0 l1 hs
    obtain ⟨m, rfl⟩ : ∃ m', m = m' + 1 := ⟨m - 1, by omega⟩
    have i1 : ((j : Int) < ((n - 1 : Nat) : Int)) = False := eq_false (by omega)
    rw [am_it_s]
    unfold fX9_of_100b
    simp only [fd D.2.1, ↓reduceIte, Int.toNat_natCast, D.m1 hs, n1_w D.2.2.1, i1]
    exact Sc.mk hs (by rw [ce, Int.add_zero])
  | succ r ih =>
    intro j m l h hjr hm l0 l1 hs
    obtain ⟨m, rfl⟩ : ∃ m', m = m' + 1 := ⟨m - 1, by omega⟩
    have i1 : ((j : Int) < ((n - 1 : Nat) : Int)) = True := eq_true (by omega)
    have hj : j < n - 1 := by omega
    have l2 : l < 1000 := by omega
    have l3 : l + 1 + r < 1000 := by omega
    have l4 : l + r < 1000 := by omega
    have l5 : r < m := by omega
    have l6 : j + 1 + r = n - 1 := by omega
    obtain ⟨h1, e1, s1⟩ := D.en hj h hs
    rw [am_it_s]
    generalize hK : am_it (fun _ _ _ _ => none) fX9_of_100b m = K
    unfold fX9_of_100b fX9_of_133
    simp only [fd D.2.1, ↓reduceIte, Int.toNat_natCast, D.m1 hs, n1_w D.2.2.1, i1, c_w d j D.2.1 (D.j16 hj), e1, ↓am_b_t, ↓am_l_t, pw1 j (Nat.lt_trans (D.j16 hj) (by decide)), aw_0 l l0 l2, aw_s l l0 l2, ce]
    by_cases q : hx 20 (16 * d + j) = 0
    · simp only [eqT q, ↓reduceIte, Int.zero_add]
      rw [← hK]
      exact ih (j + 1) m l h1 l6 l5 l0 l4 s1
    · simp only [eqF q, ↓reduceIte, z10]
      rw [← Int.add_assoc, ← hK]
      exact ih (j + 1) m (l + 1) h1 l6 l5 (by omega) l3 s1
/-- the matches of round r are those from fo n r up to fo n (r + 1) -/
theorem rf4 : ∀ r, r < 2 → fo 4 r < 3 ∧ fo 4 r ≤ fo 4 (r + 1) ∧ fo 4 (r + 1) ≤ 3 ∧ ∀ j, j < 3 → (rd 4 j = r ↔ fo 4 r ≤ j ∧ j < fo 4 (r + 1)) := by decide +kernel
theorem rf8 : ∀ r, r < 3 → fo 8 r < 7 ∧ fo 8 r ≤ fo 8 (r + 1) ∧ fo 8 (r + 1) ≤ 7 ∧ ∀ j, j < 7 → (rd 8 j = r ↔ fo 8 r ≤ j ∧ j < fo 8 (r + 1)) := by decide +kernel
theorem rf16 : ∀ r, r < 4 → fo 16 r < 15 ∧ fo 16 r ≤ fo 16 (r + 1) ∧ fo 16 (r + 1) ≤ 15 ∧ ∀ j, j < 15 → (rd 16 j = r ↔ fo 16 r ≤ j ∧ j < fo 16 (r + 1)) := by decide +kernel
theorem rf {n r : Nat} (hn : szn n) (hr : r < rn n) : fo n r < n - 1 ∧ fo n r ≤ fo n (r + 1) ∧ fo n (r + 1) ≤ n - 1 ∧ ∀ j, j < n - 1 → (rd n j = r ↔ fo n r ≤ j ∧ j < fo n (r + 1)) := by
  rcases hn with q | q | q
  · subst q; exact rf4 r hr
  · subst q; exact rf8 r hr
  · subst q; exact rf16 r hr
theorem rf_e {n : Nat} (hn : szn n) : fo n (rn n) = n - 1 ∧ rn n ≤ 4 := by
  rcases hn with q | q | q <;> subst q <;> decide +kernel
/-- a round of which a match hasn't ended -/
def op (hx : am_M) (d n r : Nat) : Prop := ∃ j, j < n - 1 ∧ rd n j = r ∧ hx 20 (16 * d + j) = 0
theorem m_op {hx hm : am_M} {d n : Nat} (D : Dd hx hm d n) (K : Int → Int → Int → am_M → Option (Int × am_M)) (l : Int) (rr : Nat) : ∀ (r j m : Nat) (o : Int) (h : am_M), j + r = n - 1 → r < m → (o = 0 ∨ o = 1) → sc hm h → ∃ v h', am_it (fun _ _ _ _ _ _ => none) (fX9_of_164b K) m (d : Int) l (rr : Int) o (j : Int) h = fX9_of_221 K (d : Int) l (rr : Int) v h' ∧ sc hm h' ∧ ((v = 1 ∧ (o = 1 ∨ ∃ i, j ≤ i ∧ i < n - 1 ∧ rd n i = rr ∧ hx 20 (16 * d + i) = 0)) ∨ (v = 0 ∧ o = 0 ∧ ∀ i, j ≤ i → i < n - 1 → rd n i = rr → hx 20 (16 * d + i) ≠ 0)) := by
  have hb := D.2.2.1.b
  intro r
  induction r with
  | zero =>
    intro j m o h hjr hm ho hs
    obtain ⟨m, rfl⟩ : ∃ m', m = m' + 1 := ⟨m - 1, by omega⟩
    have i1 : ((j : Int) < ((n - 1 : Nat) : Int)) = False := eq_false (by omega)
    rw [am_it_s]
    unfold fX9_of_164b
    simp only [fd D.2.1, ↓reduceIte, Int.toNat_natCast, D.m1 hs, n1_w D.2.2.1, i1]
    refine ⟨o, h, rfl, hs, ?_⟩
    rcases ho with q | q
    · exact Or.inr ⟨q, q, fun i h1 h2 => by omega⟩
    · exact Or.inl ⟨q, Or.inl q⟩
  | succ r ih =>
    intro j m o h hjr hm ho hs
    obtain ⟨m, rfl⟩ : ∃ m', m = m' + 1 := ⟨m - 1, by omega⟩
    have i1 : ((j : Int) < ((n - 1 : Nat) : Int)) = True := eq_true (by omega)
    have hj : j < n - 1 := by omega
    have l5 : r < m := by omega
    have l6 : j + 1 + r = n - 1 := by omega
    have j1 := pw1 j (Nat.lt_trans (D.j16 hj) (by decide))
    rw [am_it_s]
    generalize hK : am_it (fun _ _ _ _ _ _ => none) (fX9_of_164b K) m = KK
    unfold fX9_of_164b fX9_of_208 fX9_of_212 fX9_of_213
    simp only [fd D.2.1, ↓reduceIte, Int.toNat_natCast, D.m1 hs, n1_w D.2.2.1, i1, j1]
    rcases ho with q | q
    · obtain ⟨h1, e1, s1⟩ := D.en hj h hs
      simp only [eqT q, ↓reduceIte, q_roundOf d n j h D.2.1 D.2.2.1 (D.m1 hs) hj, ↓am_b_t, c_w d j D.2.1 (D.j16 hj), e1]
      by_cases cr : rd n j = rr
      · have cr' : (((rd n j : Nat) : Int) = (rr : Int)) = True := eq_true (by rw [cr])
        simp only [cr', ↓reduceIte]
        by_cases ch : hx 20 (16 * d + j) = 0
        · simp only [eqT ch, ↓reduceIte]
          rw [← hK]
          obtain ⟨v, h', e, s', k⟩ := ih (j + 1) m 1 h1 l6 l5 (Or.inr rfl) s1
          refine ⟨v, h', e, s', Or.inl ⟨?_, Or.inr ⟨j, Nat.le_refl _, hj, cr, ch⟩⟩⟩
          rcases k with k | k
          · exact k.1
          · exact absurd k.2.1 (by decide)
        · simp only [eqF ch, ↓reduceIte, z10]
          rw [← hK]
          obtain ⟨v, h', e, s', k⟩ := ih (j + 1) m 0 h1 l6 l5 (Or.inl rfl) s1
          refine ⟨v, h', e, s', ?_⟩
          rcases k with ⟨k1, k2 | ⟨i, a1, a2, a3, a4⟩⟩ | ⟨k1, k2, k3⟩
          · exact absurd k2 (by decide)
          · exact Or.inl ⟨k1, Or.inr ⟨i, by omega, a2, a3, a4⟩⟩
          · refine Or.inr ⟨k1, trivial, fun i a1 a2 a3 => ?_⟩
            by_cases ci : i = j
            · rw [ci]; exact ch
            · exact k3 i (by omega) a2 a3
      · have cr' : (((rd n j : Nat) : Int) = (rr : Int)) = False := eq_false (by omega)
        simp only [cr', ↓reduceIte]
        rw [← hK]
        obtain ⟨v, h', e, s', k⟩ := ih (j + 1) m 0 h l6 l5 (Or.inl rfl) hs
        refine ⟨v, h', e, s', ?_⟩
        rcases k with ⟨k1, k2 | ⟨i, a1, a2, a3, a4⟩⟩ | ⟨k1, k2, k3⟩
        · exact absurd k2 (by decide)
        · exact Or.inl ⟨k1, Or.inr ⟨i, by omega, a2, a3, a4⟩⟩
        · refine Or.inr ⟨k1, trivial, fun i a1 a2 a3 => ?_⟩
          by_cases ci : i = j
          · rw [ci] at a3; exact absurd a3 cr
          · exact k3 i (by omega) a2 a3
    · simp only [q, z10, ↓reduceIte]
      rw [← hK]
      obtain ⟨v, h', e, s', k⟩ := ih (j + 1) m 1 h l6 l5 (Or.inr rfl) hs
      refine ⟨v, h', e, s', Or.inl ⟨?_, Or.inl trivial⟩⟩
      rcases k with k | k
      · exact k.1
      · exact absurd k.2.1 (by decide)
theorem e_rnd {hx hm : am_M} {d n : Nat} (D : Dd hx hm d n) : ∀ (k r m m' : Nat) (l : Int) (h h' : am_M), r + k = rn n → k < m → k < m' → 0 ≤ l → l + k < 1000 → sc hx h → sc hm h' → ∃ v h'', am_it (fun _ _ _ _ => none) fX2_countOpenRounds_4b m d l (r : Int) h = some (v, h) ∧ am_it (fun _ _ _ _ => none) fX9_of_148b m' (d : Int) l (r : Int) h' = some (v, h'') ∧ sc hm h'' := by
  have hb := D.2.2.1.b
  have hr4 := rf_e D.2.2.1
  intro k
  induction k with
  | zero =>
    intro r m m' l h h' hrk hm hm' l0 l1 hs hs'
    obtain ⟨m, rfl⟩ : ∃ q, m = q + 1 := ⟨m - 1, by omega⟩
    obtain ⟨m', rfl⟩ : ∃ q, m' = q + 1 := ⟨m' - 1, by omega⟩
    obtain rfl : r = rn n := by omega
    have i1 : (((rn n : Nat) : Int) < ((rn n : Nat) : Int)) = False := eq_false (by omega)
    have i2 : (((n - 1 : Nat) : Int) < ((n - 1 : Nat) : Int)) = False := eq_false (by omega)
    refine ⟨l, h', ?_, ?_, hs'⟩
    · rw [am_it_s]
      unfold fX2_countOpenRounds_4b
      have i5 : rn n < 6 := by omega
      simp only [p_firstOf d n (rn n) h D.2.2.1 (D.x1 hs) i5, ↓am_b_t, D.x1 hs, n1_w D.2.2.1, hr4.1, i2, ↓reduceIte]
      split <;> rfl
    · rw [am_it_s]
      unfold fX9_of_148b
      simp only [q_rn d n h' D.2.1 D.2.2.1 (D.m1 hs'), ↓am_b_t, i1, ↓reduceIte]
  | succ k ih =>
    intro r m m' l h h' hrk hm hm' l0 l1 hs hs'
    obtain ⟨m, rfl⟩ : ∃ q, m = q + 1 := ⟨m - 1, by omega⟩
    obtain ⟨m', rfl⟩ : ∃ q, m' = q + 1 := ⟨m' - 1, by omega⟩
    have hr : r < rn n := by omega
    obtain ⟨f1, f2, f3, f4⟩ := rf D.2.2.1 hr
    have i1 : ((r : Int) < ((rn n : Nat) : Int)) = True := eq_true (by omega)
    have i2 : ((r : Int) < 4) = True := eq_true (by omega)
    have i3 : (((fo n r : Nat) : Int) < ((n - 1 : Nat) : Int)) = True := eq_true (by omega)
    have l2 : l < 1000 := by omega
    have r1 := pw1 r (by omega)
    have hfo : fo n (r + 1) ≤ 16 := by omega
    have hw : am_w (((fo n (r + 1) : Nat) : Int) - ((fo n r : Nat) : Int)) = ((fo n (r + 1) - fo n r : Nat) : Int) := by
      clear r1
      rw [pw (by omega) (by omega)]; omega
    have hce := x_ce hx d (fo n (r + 1)) hfo (fo n (r + 1) - fo n r) (fo n r) 400 0 h (by clear hw r1; omega) (by clear hw r1; omega) (by decide) (by clear hw r1; omega) hs
    rw [Int.zero_add] at hce
    have hcb := ce_b hx d (fo n (r + 1) - fo n r) (fo n r)
    have hop : ce hx d (fo n (r + 1) - fo n r) (fo n r) < ((fo n (r + 1) - fo n r : Nat) : Int) ↔ op hx d n r := by
      rw [hcb.2.2]
      clear hw r1 hce hcb
      constructor
      · rintro ⟨i, a1, a2, a3⟩
        have hi : i < n - 1 := by omega
        exact ⟨i, hi, (f4 i hi).mpr ⟨a1, by omega⟩, a3⟩
      · rintro ⟨i, a1, a2, a3⟩
        have := (f4 i a1).mp a2
        exact ⟨i, this.1, by omega, a3⟩
    obtain ⟨v1, h1, e1, s1, k1⟩ := m_op D (am_it (fun _ _ _ _ => none) fX9_of_148b m') l r (n - 1) 0 400 0 h' (by omega) (by clear hw r1; omega) (Or.inl rfl) hs'
    rw [show ((0 : Nat) : Int) = 0 from rfl] at e1
    have hx1 : am_it (fun _ _ _ _ => none) fX2_countOpenRounds_4b (m + 1) d l (r : Int) h = am_it (fun _ _ _ _ => none) fX2_countOpenRounds_4b m d (if ce hx d (fo n (r + 1) - fo n r) (fo n r) < ((fo n (r + 1) - fo n r : Nat) : Int) then l + 1 else l) ((r + 1 : Nat) : Int) h := by
      rw [am_it_s]
      have i5 : r < 6 := by clear hw r1; omega
      have i6 : r + 1 < 6 := by clear hw r1; omega
      generalize am_it (fun _ _ _ _ => none) fX2_countOpenRounds_4b m = K
      unfold fX2_countOpenRounds_4b fX2_countOpenRounds_55 fX2_countEnded fX2_countEnded_5
      simp only [i2, ↓reduceIte, r1, p_firstOf d n r h D.2.2.1 (D.x1 hs) i5, p_firstOf d n (r + 1) h D.2.2.1 (D.x1 hs) i6, ↓am_b_t, D.x1 hs, n1_w D.2.2.1, i3, hw]
      rw [hce, am_b_some]
      by_cases q : ce hx d (fo n (r + 1) - fo n r) (fo n r) < ((fo n (r + 1) - fo n r : Nat) : Int)
      · simp only [eqT q, ↓reduceIte, aw_s l l0 l2]
      · simp only [eqF q, ↓reduceIte]
    have hm1 : am_it (fun _ _ _ _ => none) fX9_of_148b (m' + 1) (d : Int) l (r : Int) h' = am_it (fun _ _ _ _ => none) fX9_of_148b m' (d : Int) (if v1 = 0 then l else l + 1) ((r + 1 : Nat) : Int) h1 := by
      rw [am_it_s]
      generalize am_it (fun _ _ _ _ => none) fX9_of_148b m' = K at e1 ⊢
      unfold fX9_of_148b
      rw [q_rn d n h' D.2.1 D.2.2.1 (D.m1 hs'), am_b_some]
      simp only [i1, ↓reduceIte]
      unfold fX9_of_164
      rw [e1]
      unfold fX9_of_221 fX9_of_232
      simp only [↓am_l_t, aw_0 l l0 l2, aw_s l l0 l2, r1]
      by_cases q : v1 = 0
      · simp only [eqT q, ↓reduceIte]
      · simp only [eqF q, ↓reduceIte]
    rw [hx1, hm1]
    have l5 : k < m := by omega
    have l6 : k < m' := by omega
    have l7 : r + 1 + k = rn n := by omega
    rcases k1 with ⟨k2, k3 | ⟨i, _, a2, a3, a4⟩⟩ | ⟨k2, _, k3⟩
    · exact absurd k3 (by decide)
    · rw [if_pos (hop.mpr ⟨i, a2, a3, a4⟩), k2, if_neg (by decide)]
      exact ih (r + 1) m m' (l + 1) h h1 l7 l5 l6 (by omega) (by clear hw r1; omega) hs s1
    · rw [if_neg (fun z => by obtain ⟨i, a1, a2, a3⟩ := hop.mp z; exact k3 i (Nat.zero_le _) a1 a2 a3), k2, if_pos rfl]
      exact ih (r + 1) m m' l h h1 l7 l5 l6 l0 (by clear hw r1; omega) hs s1
theorem e_of {hx hm : am_M} (r : Rel hx hm) (a b : Int) : Same (fX8_of a b hx) (fX9_of a b hm) := by
  unfold fX8_of fX9_of
  rcases dt r a with ⟨d, n, rfl, D⟩ | ⟨e1, e2⟩
  · have hb := D.2.2.1.b
    simp only [D.fnd hx (sc.rf _), ↓am_b_t, am_on_some D.2.1, D.isd hm (sc.rf _), z10, fd D.2.1, ↓reduceIte, Int.toNat_natCast]
    by_cases c0 : b = 0
    · rw [if_pos c0, if_pos c0]
      exact Same.mk (r.kk (by decide) (by decide) _) r
    by_cases c1 : b = 1
    · rw [if_neg c0, if_neg c0, if_pos c1, if_pos c1]
      exact Same.mk (r.kk (by decide) (by decide) _) r
    by_cases c2 : b = 2
    · rw [if_neg c0, if_neg c0, if_neg c1, if_neg c1, if_pos c2, if_pos c2]
      exact Same.mk (r.kk (by decide) (by decide) _) r
    by_cases c3 : b = 3
    · rw [if_neg c0, if_neg c0, if_neg c1, if_neg c1, if_neg c2, if_neg c2, if_pos c3, if_pos c3]
      exact Same.mk (r.kk (by decide) (by decide) _) r
    rw [if_neg c0, if_neg c0, if_neg c1, if_neg c1, if_neg c2, if_neg c2, if_neg c3, if_neg c3]
    by_cases c4 : b = 4
    · have k5 := r.kk (k := 5) (by decide) (by decide) d
      rw [if_pos c4, if_pos c4]
      by_cases q : hx 5 d = 0
      · rw [if_pos q, if_pos (k5.symm.trans q)]
        exact Same.mk rfl r
      · rw [if_neg q, if_neg (fun z => q (k5.trans z))]
        exact Same.mk rfl r
    rw [if_neg c4, if_neg c4]
    by_cases c5 : b = 5
    · rw [if_pos c5, if_pos c5, D.2.2.2, n1_w D.2.2.1]
      unfold fX2_countEnded fX2_countEnded_5 fX9_of_100
      have e0 := x_ce hx d (n - 1) (by omega) (n - 1) 0 400 0 hx (by omega) (by omega) (by decide) (by omega) (sc.rf _)
      obtain ⟨h1, e1, s1⟩ := m_ce D (n - 1) 0 400 0 hm (by omega) (by omega) (by decide) (by omega) (sc.rf _)
      rw [show ((0 : Nat) : Int) = 0 from rfl] at e0 e1
      rw [e0, e1, am_b_some]
      exact Same.mk rfl (r.sc (sc.rf _) s1)
    rw [if_neg c5, if_neg c5]
    by_cases c6 : b = 6
    · rw [if_pos c6, if_pos c6]
      have hr4 := rf_e D.2.2.1
      obtain ⟨v, h1, e1, e2, s1⟩ := e_rnd D (rn n) 0 400 400 0 hx hm (by omega) (by omega) (by omega) (by decide) (by omega) (sc.rf _) (sc.rf _)
      unfold fX2_countOpenRounds fX2_countOpenRounds_4 fX9_of_148
      rw [show ((0 : Nat) : Int) = 0 from rfl] at e1 e2
      rw [e1, e2, am_b_some]
      exact Same.mk rfl (r.sc (sc.rf _) s1)
    rw [if_neg c6, if_neg c6]
    exact Same.mk rfl r
  · rw [e1 _ (sc.rf _), am_b_some, am_on_none, e2 _ (sc.rf _), am_b_some, if_pos rfl]
    exact Same.mk rfl r
