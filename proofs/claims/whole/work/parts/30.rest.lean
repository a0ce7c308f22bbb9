/-! ===== rests; why ===== -/
/-- code c is a match of a laid draw -/
def isM (hx : am_M) (c : Nat) : Prop := hx 5 (c / 16) = 1 ∧ ((c % 16 : Nat) : Int) < hx 1 (c / 16) - 1
/-- player a stands on a side of it, and its real end is known -/
def onE (hx : am_M) (c : Nat) (a : Int) : Prop := isM hx c ∧ 0 ≤ hx 10 c ∧ (sd hx (c / 16) (hx 1 (c / 16)).toNat (c % 16) 0 = a ∨ sd hx (c / 16) (hx 1 (c / 16)).toNat (c % 16) 1 = a)
noncomputable def ls (hx : am_M) (a : Int) : Nat → Int
  | 0 => -1
  | k + 1 => @ite _ (onE hx k a) (Classical.propDecidable _) (max (ls hx a k) (hx 10 k)) (ls hx a k)
theorem ls_p {hx : am_M} {a : Int} {k : Nat} (h : onE hx k a) : ls hx a (k + 1) = max (ls hx a k) (hx 10 k) := if_pos h
theorem ls_n {hx : am_M} {a : Int} {k : Nat} (h : ¬ onE hx k a) : ls hx a (k + 1) = ls hx a k := if_neg h
theorem mtn {hx hm : am_M} (r : Rel hx hm) (c : Nat) (hc : c < 64) : (∃ d n j : Nat, c = 16 * d + j ∧ Dr hx hm d n ∧ j < n - 1) ∨ (¬ isM hx c ∧ (∀ h, sc hx h → fX0_laidWith (c : Int) h = some (none, h)) ∧ (∀ h, sc hm h → fX9_isMatch (c : Int) h = some (0, h))) := by
  have hd : c / 16 < 4 := by omega
  have h0 := r.2.2 (c / 16) hd
  have hsz := h0.1
  have h5 := h0.2.2.2.2.1
  by_cases c5 : hx 5 (c / 16) = 1 ∧ ((c % 16 : Nat) : Int) < hx 1 (c / 16) - 1
  · refine Or.inl ⟨c / 16, (hx 1 (c / 16)).toNat, c % 16, by omega, ⟨r, hd, ?_, ?_, c5.1⟩, ?_⟩
    · unfold szn; clear h0 h5; omega
    · clear h0 h5; omega
    · clear h0 h5; omega
  · right
    have n1 : ¬ (hx 5 (c / 16) ≠ 0 ∧ ((c % 16 : Nat) : Int) < hx 1 (c / 16) - 1) := by
      clear h0
      omega
    have w1 : am_w (hx 1 (c / 16) - 1) = hx 1 (c / 16) - 1 := pw (by clear h0 h5 n1 c5; omega) (by clear h0 h5 n1 c5; omega)
    refine ⟨c5, ?_, ?_⟩
    · intro h hs
      rw [p_lw c hc, hs 5 (by decide), hs 1 (by decide), w1, if_neg n1]
    · intro h hs
      rw [q_im c hc, hs 5 (by decide), hs 1 (by decide), ← r.kk (k := 1) (by decide) (by decide), ← r.kk (k := 5) (by decide) (by decide), w1, if_neg (fun z => n1 z.2)]
theorem Dr.ism {hx hm : am_M} {d n j : Nat} (D : Dr hx hm d n) (hj : j < n - 1) : isM hx (16 * d + j) := by
  have hj16 := D.j16 hj
  unfold isM
  rw [show (16 * d + j) / 16 = d by omega, show (16 * d + j) % 16 = j by omega, D.2.2.2.1]
  exact ⟨D.2.2.2.2, by omega⟩
theorem Dr.one_ {hx hm : am_M} {d n j : Nat} (D : Dr hx hm d n) (hj : j < n - 1) (a : Int) : onE hx (16 * d + j) a ↔ 0 ≤ hx 10 (16 * d + j) ∧ (sd hx d n j 0 = a ∨ sd hx d n j 1 = a) := by
  have hj16 := D.j16 hj
  show (isM hx (16 * d + j) ∧ 0 ≤ hx 10 (16 * d + j) ∧ (sd hx ((16 * d + j) / 16) (hx 1 ((16 * d + j) / 16)).toNat ((16 * d + j) % 16) 0 = a ∨ sd hx ((16 * d + j) / 16) (hx 1 ((16 * d + j) / 16)).toNat ((16 * d + j) % 16) 1 = a)) ↔ _
  rw [show (16 * d + j) / 16 = d by omega, show (16 * d + j) % 16 = j by omega, D.2.2.2.1, Int.toNat_natCast]
  exact ⟨fun z => z.2, fun z => ⟨D.ism hj, z⟩⟩
theorem ls_b {hx hm : am_M} (r : Rel hx hm) (a : Int) : ∀ k, k ≤ 64 → -1 ≤ ls hx a k ∧ ls hx a k ≤ 100000 := by
  intro k
  induction k with
  | zero => intro _; exact ⟨Int.le_refl _, by show (-1 : Int) ≤ 100000; decide⟩
  | succ k ih =>
    intro hk
    have i := ih (by omega)
    by_cases c : onE hx k a
    · rw [ls_p c]
      rcases mtn r k (by omega) with ⟨d, n, j, e, D, hj⟩ | ⟨nm, _⟩
      · have := (D.Q (D.j16 hj)).2
        rw [← e] at this
        omega
      · exact absurd c.1 nm
    · rw [ls_n c]; exact i
/-- a player's end is noted -/
def nt (D : Nat) (v R : Int) (h : am_M) : am_M := if 0 ≤ v ∧ v < 40 then am_up h 41 (40 * D + v.toNat) (max (h 41 (40 * D + v.toNat)) R) else h
theorem x_note (D : Nat) (v R : Int) (h : am_M) : fX6_note D v R h = some ((), nt D v R h) := by
  unfold fX6_note nt
  rw [p_isPlayer, am_b_some]
  by_cases c : 0 ≤ v ∧ v < 40
  · simp only [eqT c, ↓reduceIte, z10, ↓am_l_t]
  · simp only [eqF c, ↓reduceIte]
theorem nt_k (D : Nat) (v R : Int) (h : am_M) {k : Nat} (hk : k ≠ 41) : nt D v R h k = h k := by
  unfold nt
  split
  · exact am_up_ne _ _ _ hk
  · rfl
theorem nt_sc {hx h : am_M} (D : Nat) (v R : Int) (hs : sc hx h) : sc hx (nt D v R h) := fun k hk => by rw [nt_k D v R h (by omega)]; exact hs k hk
theorem nt_p (D : Nat) (v R : Int) (h : am_M) {p : Nat} (hp : p < 40) : nt D v R h 41 (40 * D + p) = if v = p then max (h 41 (40 * D + p)) R else h 41 (40 * D + p) := by
  unfold nt
  by_cases c : 0 ≤ v ∧ v < 40
  · rw [if_pos c]
    by_cases e : v = p
    · subst e
      rw [if_pos rfl, Int.toNat_natCast, am_up_s]
    · rw [if_neg e, am_up_i]
      omega
  · rw [if_neg c, if_neg (by omega)]
theorem p_no0 (c : Nat) (hc : c < 64) (h : am_M) : fX8_numberOf (c : Int) h = some (((c % 16 : Nat) : Int), h) := by
  unfold fX8_numberOf
  rw [p_and15 c hc]
theorem x_ga {hx hm : am_M} (r0 : Rel hx hm) (D : Nat) (h0 : am_M) : ∀ (r c m : Nat) (h : am_M), c + r = 64 → r < m → sc hx h → (∀ k, k ≠ 41 → h k = h0 k) → (∀ p, p < 40 → h 41 (40 * D + p) = ls hx p c) → ∃ h', am_it (fun _ _ _ => none) fX6_gather_23b m D (c : Int) h = some ((), h') ∧ sc hx h' ∧ (∀ k, k ≠ 41 → h' k = h0 k) ∧ (∀ p, p < 40 → h' 41 (40 * D + p) = ls hx p 64) := by
  intro r
  induction r with
  | zero =>
    intro c m h hc hf hs hk hp
    obtain ⟨m, rfl⟩ : ∃ q, m = q + 1 := ⟨m - 1, by omega⟩
    obtain rfl : c = 64 := by omega
    rw [am_it_s]
    unfold fX6_gather_23b
    rw [if_neg (by decide)]
    exact ⟨h, rfl, hs, hk, hp⟩
  | succ r ih =>
    intro c m h hcr hf hs hk hp
    obtain ⟨m, rfl⟩ : ∃ q, m = q + 1 := ⟨m - 1, by omega⟩
    have hc : c < 64 := by omega
    have i1 : ((c : Int) < 64) = True := eq_true (by omega)
    have c1 := pw1 c (by omega)
    have nx := fun (h : am_M) => ih (c + 1) m h (by clear c1; omega) (by clear c1; omega)
    rw [am_it_s]
    clear ih
    generalize am_it (fun _ _ _ => none) fX6_gather_23b m = K at nx ⊢
    unfold fX6_gather_23b fX6_gather_91
    rcases mtn r0 c hc with ⟨d, n, j, e, Q, hj⟩ | ⟨nm, e1, _⟩
    · subst e
      have hon := fun a => Q.one_ hj a
      simp only [i1, ↓reduceIte, Q.lw hj h hs, ↓am_b_t, Q.no hj, am_on_some Q.2.1, fj (Q.j16 hj), Int.toNat_natCast, hs 10 (by decide), c1]
      by_cases cR : hx 10 (16 * d + j) < 0
      · simp only [eqT cR, ↓reduceIte]
        refine nx h hs hk (fun p hp1 => ?_)
        rw [hp p hp1, ls_n]
        intro z
        have := ((hon _).mp z).1
        clear c1
        omega
      · simp only [eqF cR, ↓reduceIte, p_st0 Q hj h hs, ↓am_b_t, x_note, hs 10 (by decide)]
        have s1 := nt_sc D (sd hx d n j 0) (hx 10 (16 * d + j)) hs
        simp only [p_st1 Q hj _ s1, ↓am_b_t, x_note, s1 10 (by decide)]
        have s2 := nt_sc D (sd hx d n j 1) (hx 10 (16 * d + j)) s1
        refine nx _ s2 (fun k hk1 => ?_) (fun p hp1 => ?_)
        · rw [nt_k _ _ _ _ hk1, nt_k _ _ _ _ hk1]; exact hk k hk1
        · rw [nt_p _ _ _ _ hp1, nt_p _ _ _ _ hp1, hp p hp1]
          by_cases q : onE hx (16 * d + j) (p : Int)
          · rw [ls_p q]
            have q2 := ((hon _).mp q).2
            by_cases q0 : sd hx d n j 0 = p
            · rw [if_pos q0]
              by_cases q1 : sd hx d n j 1 = p
              · rw [if_pos q1]
                exact Int.max_eq_left (Int.le_max_right _ _)
              · rw [if_neg q1]
            · rcases q2 with q2 | q2
              · exact absurd q2 q0
              · rw [if_neg q0, if_pos q2]
          · rw [ls_n q]
            have q0 : ¬ sd hx d n j 0 = p := fun z => q ((hon _).mpr ⟨Int.not_lt.mp cR, Or.inl z⟩)
            have q1 : ¬ sd hx d n j 1 = p := fun z => q ((hon _).mpr ⟨Int.not_lt.mp cR, Or.inr z⟩)
            rw [if_neg q1, if_neg q0]
    · simp only [i1, ↓reduceIte, e1 h hs, ↓am_b_t, p_no0 c hc, am_on_none, c1]
      refine nx h hs hk (fun p hp1 => ?_)
      rw [hp p hp1, ls_n]
      exact fun z => nm z.1
theorem x_gw (D : Nat) (h0 : am_M) : ∀ (r c m : Nat) (h : am_M), c + r = 40 → r < m → (∀ k, k ≠ 41 → h k = h0 k) → (∀ p, p < c → h 41 (40 * D + p) = -1) → ∃ h', am_it (fun _ _ _ => none) fX6_gather_2b m D (c : Int) h = fX6_gather_21 D h' ∧ (∀ k, k ≠ 41 → h' k = h0 k) ∧ (∀ p, p < 40 → h' 41 (40 * D + p) = -1) := by
  intro r
  induction r with
  | zero =>
    intro c m h hc hf hk hp
    obtain ⟨m, rfl⟩ : ∃ q, m = q + 1 := ⟨m - 1, by omega⟩
    obtain rfl : c = 40 := by omega
    rw [am_it_s]
    unfold fX6_gather_2b
    rw [if_neg (by decide)]
    exact ⟨h, rfl, hk, hp⟩
  | succ r ih =>
    intro c m h hcr hf hk hp
    obtain ⟨m, rfl⟩ : ∃ q, m = q + 1 := ⟨m - 1, by omega⟩
    have i1 : ((c : Int) < 40) = True := eq_true (by omega)
    have i2 : (0 ≤ (c : Int) ∧ (c : Int) < 40) = True := eq_true (by omega)
    have c1 := pw1 c (by omega)
    have nx := fun (h : am_M) => ih (c + 1) m h (by clear c1; omega) (by clear c1; omega)
    rw [am_it_s]
    clear ih
    generalize am_it (fun _ _ _ => none) fX6_gather_2b m = K at nx ⊢
    unfold fX6_gather_2b
    simp only [i1, i2, ↓reduceIte, Int.toNat_natCast, ↓am_l_t, c1]
    clear c1
    refine nx _ (fun k hk1 => ?_) (fun p hp1 => ?_)
    · rw [am_up_ne _ _ _ hk1]; exact hk k hk1
    · by_cases e : p = c
      · rw [e, am_up_s]
      · rw [am_up_i _ _ _ (by omega)]
        exact hp p (by omega)
theorem x_gather {hx hm : am_M} (r : Rel hx hm) (D : Nat) (h : am_M) (hs : sc hx h) : ∃ h', fX6_gather D h = some ((), h') ∧ sc hx h' ∧ (∀ k, k ≠ 41 → h' k = h k) ∧ (∀ p, p < 40 → h' 41 (40 * D + p) = ls hx p 64) := by
  obtain ⟨h1, e1, k1, p1⟩ := x_gw D h 40 0 400 h (by decide) (by decide) (fun _ _ => rfl) (fun p hp => absurd hp (Nat.not_lt_zero _))
  have s1 : sc hx h1 := fun k hk => by rw [k1 k (by omega)]; exact hs k hk
  obtain ⟨h2, e2, s2, k2, p2⟩ := x_ga r D h 64 0 400 h1 (by decide) (by decide) s1 k1 (fun p hp => p1 p hp)
  rw [show ((0 : Nat) : Int) = 0 from rfl] at e1 e2
  refine ⟨h2, ?_, s2, k2, p2⟩
  unfold fX6_gather fX6_gather_2
  rw [e1]
  unfold fX6_gather_21 fX6_gather_23
  exact e2
theorem m_isOn {hx hm : am_M} {d n j : Nat} (D : Dr hx hm d n) (hj : j < n - 1) (a : Int) (ha : 0 ≤ a) (h : am_M) (hs : sc hm h) : ∃ v h', fX9_isOn ((16 * d + j : Nat) : Int) a h = some (v, h') ∧ sc hm h' ∧ ((v = 1 ∧ (sd hx d n j 0 = a ∨ sd hx d n j 1 = a)) ∨ (v = 0 ∧ ¬ (sd hx d n j 0 = a ∨ sd hx d n j 1 = a))) := by
  have i1 : (a < 0) = False := eq_false (by omega)
  obtain ⟨g3, e3, s3⟩ := m_side0 D hj h hs
  obtain ⟨g4, e4, s4⟩ := m_side1 D hj g3 s3
  unfold fX9_isOn
  simp only [i1, ↓reduceIte, e3, e4, ↓am_b_t]
  by_cases q0 : sd hx d n j 0 = a
  · simp only [eqT q0, ↓reduceIte]
    exact ⟨1, g3, rfl, s3, Or.inl ⟨rfl, Or.inl trivial⟩⟩
  · by_cases q1 : sd hx d n j 1 = a
    · simp only [eqF q0, eqT q1, ↓reduceIte]
      exact ⟨1, g4, rfl, s4, Or.inl ⟨rfl, Or.inr trivial⟩⟩
    · simp only [eqF q0, eqF q1, ↓reduceIte]
      exact ⟨0, g4, rfl, s4, Or.inr ⟨rfl, fun z => z.elim id id⟩⟩
theorem m_le {hx hm : am_M} (r0 : Rel hx hm) (a : Int) (ha : 0 ≤ a) : ∀ (r c m : Nat) (h : am_M), c + r = 64 → r < m → sc hm h → Sc hm (am_it (fun _ _ _ _ => none) fX9_lastEnd_4b m a (ls hx a c) (c : Int) h) (ls hx a 64) := by
  intro r
  induction r with
  | zero =>
    intro c m h hc hf hs
    obtain ⟨m, rfl⟩ : ∃ q, m = q + 1 := ⟨m - 1, by omega⟩
    obtain rfl : c = 64 := by omega
    rw [am_it_s]
    unfold fX9_lastEnd_4b
    rw [if_neg (by decide)]
    exact Sc.mk hs rfl
  | succ r ih =>
    intro c m h hcr hf hs
    obtain ⟨m, rfl⟩ : ∃ q, m = q + 1 := ⟨m - 1, by omega⟩
    have hc : c < 64 := by omega
    have i1 : ((c : Int) < 64) = True := eq_true (by omega)
    have c1 := pw1 c (by omega)
    have nx := fun (h : am_M) => ih (c + 1) m h (by clear c1; omega) (by clear c1; omega)
    rw [am_it_s]
    clear ih
    generalize am_it (fun _ _ _ _ => none) fX9_lastEnd_4b m = K at nx ⊢
    unfold fX9_lastEnd_4b fX9_lastEnd_55
    rcases mtn r0 c hc with ⟨d, n, j, e, Q, hj⟩ | ⟨nm, _, e1⟩
    · subst e
      have hon := Q.one_ hj a
      obtain ⟨g1, e1, s1⟩ := m_isEnded Q hj h hs
      simp only [i1, ↓reduceIte, Q.im hj h hs, ↓am_b_t, z10, e1, c1, fc Q.2.1 (Q.j16 hj), Int.toNat_natCast, s1 10 (by decide), ← r0.kk (k := 10) (by decide) (by decide)]
      clear c1
      by_cases c0 : hx 20 (16 * d + j) = 0
      · simp only [eqT c0, ↓reduceIte]
        have := Q.R hj c0
        rw [← ls_n (fun z => absurd (hon.mp z).1 (by rw [this]; decide))]
        exact nx g1 s1
      · simp only [eqF c0, ↓reduceIte, z10]
        by_cases cR : hx 10 (16 * d + j) < 0
        · simp only [eqT cR, ↓reduceIte]
          rw [← ls_n (fun z => absurd (hon.mp z).1 (Int.not_le.mpr cR))]
          exact nx g1 s1
        · obtain ⟨v, g2, e2, s2, k⟩ := m_isOn Q hj a ha g1 s1
          simp only [eqF cR, ↓reduceIte, e2, ↓am_b_t, ↓am_l_t, s2 10 (by decide), ← r0.kk (k := 10) (by decide) (by decide)]
          rcases k with ⟨k1, k2⟩ | ⟨k1, k2⟩
          · simp only [k1, z10, ↓reduceIte]
            rw [← ls_p (hon.mpr ⟨Int.not_lt.mp cR, k2⟩)]
            exact nx g2 s2
          · simp only [k1, ↓reduceIte]
            rw [← ls_n (fun z => k2 (hon.mp z).2)]
            exact nx g2 s2
    · simp only [i1, ↓reduceIte, e1 h hs, ↓am_b_t, c1]
      rw [← ls_n (fun z => nm z.1)]
      exact nx h hs
theorem m_lastEnd {hx hm : am_M} (r : Rel hx hm) (a : Int) (ha : 0 ≤ a) (h : am_M) (hs : sc hm h) : Sc hm (fX9_lastEnd a h) (ls hx a 64) := by
  have := m_le r a ha 64 0 400 h (by decide) (by decide) hs
  rw [show ((0 : Nat) : Int) = 0 from rfl] at this
  unfold fX9_lastEnd fX9_lastEnd_4
  exact this
/-- not rested at a minute -/
def rs (hx : am_M) (a mi : Int) : Prop := 0 ≤ ls hx a 64 ∧ mi < ls hx a 64 + hx 18 0
theorem rul {hx hm : am_M} (r : Rel hx hm) : 0 ≤ hx 18 0 ∧ hx 18 0 ≤ 2000 := r.2.1.2.2.1 0 (by decide)
theorem ls_w {hx hm : am_M} (r : Rel hx hm) (a : Int) : am_w (ls hx a 64 + hx 18 0) = ls hx a 64 + hx 18 0 := by
  have b := ls_b r a 64 (Nat.le_refl _)
  have u := rul r
  exact pw (by omega) (by omega)
theorem x_ready {hx hm : am_M} (r : Rel hx hm) (D : Nat) (a : Nat) (ha : a < 40) (h : am_M) (hp : ∀ p, p < 40 → h 41 (40 * D + p) = ls hx p 64) : fX6_readyAt D (a : Int) (hx 18 0) h = some (if ls hx a 64 < 0 then -2147483648 else ls hx a 64 + hx 18 0, h) := by
  have i1 : (0 ≤ (a : Int) ∧ (a : Int) < 40) = True := eq_true (by omega)
  unfold fX6_readyAt
  simp only [p_isPlayer, i1, ↓reduceIte, ↓am_b_t, z10, Int.toNat_natCast, hp a ha, ls_w r]
  by_cases c : ls hx a 64 < 0
  · simp only [eqT c, ↓reduceIte]
  · simp only [eqF c, ↓reduceIte]
theorem m_rest {hx hm : am_M} (r : Rel hx hm) (a : Int) (ha : 0 ≤ a) (mi : Int) (h : am_M) (hs : sc hm h) : ∃ v h', fX9_isRested a mi h = some (v, h') ∧ sc hm h' ∧ ((v = 0 ∧ rs hx a mi) ∨ (v = 1 ∧ ¬ rs hx a mi)) := by
  obtain ⟨h1, e1, s1⟩ := m_lastEnd r a ha h hs
  unfold fX9_isRested
  simp only [e1, ↓am_b_t, s1 18 (by decide), ← r.kk (k := 18) (by decide) (by decide), ls_w r]
  by_cases c : ls hx a 64 < 0
  · simp only [eqT c, ↓reduceIte]
    exact ⟨1, h1, rfl, s1, Or.inr ⟨rfl, fun z => absurd z.1 (Int.not_le.mpr c)⟩⟩
  · simp only [eqF c, ↓reduceIte]
    by_cases c2 : mi < ls hx a 64 + hx 18 0
    · simp only [eqT c2, ↓reduceIte]
      exact ⟨0, h1, rfl, s1, Or.inl ⟨rfl, Int.not_lt.mp c, c2⟩⟩
    · simp only [eqF c2, ↓reduceIte]
      exact ⟨1, h1, rfl, s1, Or.inr ⟨rfl, fun z => c2 z.2⟩⟩
theorem rdy_lt {hx : am_M} {a mi : Int} (hmi : -2147483648 ≤ mi) : (mi < (if ls hx a 64 < 0 then -2147483648 else ls hx a 64 + hx 18 0)) ↔ rs hx a mi := by
  unfold rs
  by_cases c : ls hx a 64 < 0
  · rw [if_pos c]
    exact ⟨fun z => by omega, fun z => by omega⟩
  · rw [if_neg c]
    exact ⟨fun z => ⟨Int.not_lt.mp c, z⟩, fun z => z.2⟩
/-- both words on a match that is: 1 to 6, or 0 -/
theorem e_hind {hx hm : am_M} {d n j : Nat} (Q : Dr hx hm d n) (hj : j < n - 1) (D : Nat) (mi : Int) (hmi : -2147483648 ≤ mi) (h h' : am_M) (hs : sc hx h) (hs' : sc hm h') (hp : ∀ p, p < 40 → h 41 (40 * D + p) = ls hx p 64) : ∃ v h'', fX6_hindrance D ((16 * d + j : Nat) : Int) mi h = some (v, h) ∧ fX9_why ((16 * d + j : Nat) : Int) mi h' = some (v, h'') ∧ sc hm h'' ∧ (v = 0 → hx 20 (16 * d + j) = 0 ∧ ¬ (sd hx d n j 0 = -2 ∨ sd hx d n j 1 = -2)) := by
  have r := Q.1
  obtain ⟨g1, e1, s1⟩ := m_side0 Q hj h' hs'
  obtain ⟨g2, e2, s2⟩ := m_side1 Q hj g1 s1
  obtain ⟨g3, e3, s3⟩ := m_isEnded Q hj g2 s2
  unfold fX6_hindrance fX9_why
  simp only [Q.lw hj h hs, ↓am_b_t, am_on_some Q.2.1, Q.no hj, ↓am_l_t, hs 18 (by decide), p_isKnown Q hj h hs, Q.im hj h' hs', z10, ↓reduceIte, e1, e2, e3, fj (Q.j16 hj), fc Q.2.1 (Q.j16 hj), Int.toNat_natCast, hs 20 (by decide), hs 9 (by decide), s3 9 (by decide), ← r.kk (k := 9) (by decide) (by decide)]
  by_cases k0 : sd hx d n j 0 = -2
  · simp only [eqT k0, ↓reduceIte, true_or]
    exact ⟨2, g1, rfl, rfl, s1, fun z => absurd z (by decide)⟩
  · by_cases k1 : sd hx d n j 1 = -2
    · simp only [eqF k0, eqT k1, ↓reduceIte, or_true]
      exact ⟨2, g2, rfl, rfl, s2, fun z => absurd z (by decide)⟩
    · simp only [eqF k0, eqF k1, ↓reduceIte, or_self, z10]
      by_cases c0 : hx 20 (16 * d + j) = 0
      · simp only [eqT c0, ↓reduceIte]
        by_cases cq : hx 9 (16 * d + j) ≤ 0
        · have c6 : hx 20 (16 * d + j) ≠ 6 := by rw [c0]; decide
          have a0 := sd_r Q (rd n j) j 0 rfl hj (by decide)
          have a1 := sd_r Q (rd n j) j 1 rfl hj (by decide)
          have p0 : 0 ≤ sd hx d n j 0 ∧ sd hx d n j 0 < 40 := by
            rcases a0 with z | z | z
            · exact absurd z.1 k0
            · exact ⟨z.1, z.2.1⟩
            · exact absurd z.2.2.1 c6
          have p1 : 0 ≤ sd hx d n j 1 ∧ sd hx d n j 1 < 40 := by
            rcases a1 with z | z | z
            · exact absurd z.1 k1
            · exact ⟨z.1, z.2.1⟩
            · exact absurd z.2.2.1 c6
          clear a0 a1
          simp only [eqT cq, ↓reduceIte, p_st0 Q hj h hs, p_st1 Q hj h hs, ↓am_b_t]
          obtain ⟨g4, e4, s4⟩ := m_side0 Q hj g3 s3
          obtain ⟨q0, hq0⟩ := p_nat p0.1
          obtain ⟨q1, hq1⟩ := p_nat p1.1
          have l0 : q0 < 40 := by rw [hq0] at p0; omega
          have l1 : q1 < 40 := by rw [hq1] at p1; omega
          rw [hq0] at e4
          simp only [hq0, hq1, x_ready r D q0 l0 h hp, x_ready r D q1 l1 h hp, ↓am_b_t, e4]
          obtain ⟨v5, g5, e5, s5, k5⟩ := m_rest r (q0 : Int) (by rw [← hq0]; exact p0.1) mi g4 s4
          simp only [e5, ↓am_b_t]
          have t0 := rdy_lt (hx := hx) (a := (q0 : Int)) hmi
          have t1 := rdy_lt (hx := hx) (a := (q1 : Int)) hmi
          rcases k5 with ⟨k6, k7⟩ | ⟨k6, k7⟩
          · simp only [k6, eqT (t0.mpr k7), ↓reduceIte]
            exact ⟨5, g5, rfl, rfl, s5, fun z => absurd z (by decide)⟩
          · simp only [k6, eqF (fun z => k7 (t0.mp z)), ↓reduceIte, z10, p_st1 Q hj h hs, ↓am_b_t, hq1, x_ready r D q1 l1 h hp]
            obtain ⟨g7, e7, s7⟩ := m_side1 Q hj g5 s5
            rw [hq1] at e7
            obtain ⟨v8, g8, e8, s8, k8⟩ := m_rest r (q1 : Int) (by rw [← hq1]; exact p1.1) mi g7 s7
            simp only [e7, ↓am_b_t, e8]
            rcases k8 with ⟨k9, k10⟩ | ⟨k9, k10⟩
            · simp only [k9, eqT (t1.mpr k10), ↓reduceIte]
              exact ⟨6, g8, rfl, rfl, s8, fun z => absurd z (by decide)⟩
            · simp only [k9, eqF (fun z => k10 (t1.mp z)), ↓reduceIte, z10]
              exact ⟨0, g8, rfl, rfl, s8, fun _ => ⟨trivial, fun z => z⟩⟩
        · simp only [eqF cq, ↓reduceIte]
          exact ⟨4, g3, rfl, rfl, s3, fun z => absurd z (by decide)⟩
      · simp only [eqF c0, ↓reduceIte, z10]
        exact ⟨3, g3, rfl, rfl, s3, fun z => absurd z (by decide)⟩
theorem e_why {hx hm : am_M} (r : Rel hx hm) (a b : Int) (ha : am_in a) (hb : am_in b) : Same (fX8_why a b hx) (fX9_why a b hm) := by
  obtain ⟨h1, e1, s1, k1, p1⟩ := x_gather r 0 hx (sc.rf _)
  unfold fX8_why
  rw [e1, am_b_some]
  rcases mt r a ha with ⟨d, n, j, rfl, D, hj⟩ | ⟨e1, e2⟩
  · obtain ⟨v, h2, e3, e4, s4, _⟩ := e_hind D hj 0 b hb.1 h1 hm s1 (sc.rf _) p1
    rw [e3, e4, am_b_some]
    exact Same.mk rfl (r.sc s1 s4)
  · unfold fX6_hindrance fX9_why
    rw [e1 _ s1, am_b_some, am_on_none, am_b_some, e2 _ (sc.rf _), am_b_some, if_pos rfl]
    exact Same.mk rfl (r.sc s1 (sc.rf _))
