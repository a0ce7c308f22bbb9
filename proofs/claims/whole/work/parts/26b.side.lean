/-! ===== who stands on a side, who has won ===== -/
theorem half_w {h : am_M} {d n : Nat} (hn : n ≤ 16) (e1 : h 1 d = n) : am_w (Int.tdiv (h 1 d) 2) = ((n / 2 : Nat) : Int) := by
  rw [e1, show (2 : Int) = ((2 : Nat) : Int) from rfl, p_tdiv, pw_n]
  omega
theorem pl_w (j s : Nat) (h : 2 * j + s < 16) : am_w (am_w (2 * (j : Int)) + (s : Int)) = ((2 * j + s : Nat) : Int) := by
  rw [pw (x := 2 * (j : Int)) (by omega) (by omega), pw (by omega) (by omega)]
  omega
def st (h : am_M) (d n : Nat) : Nat → Nat → Nat → Int
  | 0, j, s => if j < n / 2 then h 7 (16 * d + (2 * j + s)) else -2
  | f + 1, j, s => if j < n / 2 then h 7 (16 * d + (2 * j + s)) else if h 20 (16 * d + (2 * (j - n / 2) + s)) = 0 then -2 else st h d n f (2 * (j - n / 2) + s) (h 21 (16 * d + (2 * (j - n / 2) + s))).toNat
theorem st_0 (h : am_M) (d n f : Nat) {j : Nat} (s : Nat) (hj : j < n / 2) : st h d n f j s = h 7 (16 * d + (2 * j + s)) := by
  cases f with
  | zero => exact if_pos hj
  | succ f => exact if_pos hj
theorem st_s (h : am_M) (d n f : Nat) {j : Nat} (s : Nat) (hj : n / 2 ≤ j) : st h d n (f + 1) j s = if h 20 (16 * d + (2 * (j - n / 2) + s)) = 0 then -2 else st h d n f (2 * (j - n / 2) + s) (h 21 (16 * d + (2 * (j - n / 2) + s))).toNat := if_neg (by omega)
theorem rd_f4 : ∀ j, j < 3 → 2 ≤ j → ∀ s, s < 2 → rd 4 (2 * (j - 2) + s) + 1 = rd 4 j := by decide +kernel
theorem rd_f8 : ∀ j, j < 7 → 4 ≤ j → ∀ s, s < 2 → rd 8 (2 * (j - 4) + s) + 1 = rd 8 j := by decide +kernel
theorem rd_f16 : ∀ j, j < 15 → 8 ≤ j → ∀ s, s < 2 → rd 16 (2 * (j - 8) + s) + 1 = rd 16 j := by decide +kernel
theorem rd_f {n j s : Nat} (hn : szn n) (hj : j < n - 1) (hj2 : n / 2 ≤ j) (hs : s < 2) : rd n (2 * (j - n / 2) + s) + 1 = rd n j := by
  rcases hn with q | q | q <;> subst q
  · exact rd_f4 j hj hj2 s hs
  · exact rd_f8 j hj hj2 s hs
  · exact rd_f16 j hj hj2 s hs
theorem rd_lt (n j : Nat) : rd n j < 4 := by unfold rd; (repeat' split) <;> omega
theorem rd_z {n j : Nat} (h : rd n j = 0) : j < n / 2 := by
  unfold rd at h
  by_cases c : j < n / 2
  · exact c
  · rw [if_neg c] at h
    (repeat' split at h) <;> omega
theorem rd_0 {n j : Nat} (h : j < n / 2) : rd n j = 0 := if_pos h
theorem fr_lt {n j s : Nat} (hn : szn n) (hj : j < n - 1) (hj2 : n / 2 ≤ j) (hs : s < 2) : 2 * (j - n / 2) + s < n - 1 := by have := hn.b; omega
theorem st_ff {hx hm : am_M} {d n : Nat} (D : Dr hx hm d n) : ∀ (f f' j s : Nat), j < n - 1 → s < 2 → rd n j ≤ f → rd n j ≤ f' → st hx d n f j s = st hx d n f' j s := by
  intro f
  induction f with
  | zero =>
    intro f' j s hj hs h1 h2
    have : j < n / 2 := rd_z (by omega)
    rw [st_0 _ _ _ _ _ this, st_0 _ _ _ _ _ this]
  | succ f ih =>
    intro f' j s hj hs h1 h2
    by_cases c : j < n / 2
    · rw [st_0 _ _ _ _ _ c, st_0 _ _ _ _ _ c]
    · cases f' with
      | zero => exact absurd (rd_z (by omega)) c
      | succ f' =>
        have hr := rd_f D.2.2.1 hj (by omega) hs
        have hl := fr_lt D.2.2.1 hj (by omega) hs
        rw [st_s _ _ _ _ _ (by omega), st_s _ _ _ _ _ (by omega), ih f' _ _ hl (by have := D.W hl; omega) (by omega) (by omega)]
/-- the player (or bye, or nobody) on side s of match j -/
abbrev sd (hx : am_M) (d n j s : Nat) : Int := st hx d n 4 j s
theorem sd_s {hx hm : am_M} {d n j s : Nat} (D : Dr hx hm d n) (hj : j < n - 1) (hj2 : n / 2 ≤ j) (hs : s < 2) : sd hx d n j s = if hx 20 (16 * d + (2 * (j - n / 2) + s)) = 0 then -2 else sd hx d n (2 * (j - n / 2) + s) (hx 21 (16 * d + (2 * (j - n / 2) + s))).toNat := by
  have hl := fr_lt D.2.2.1 hj hj2 hs
  have := rd_f D.2.2.1 hj hj2 hs
  have := rd_lt n j
  unfold sd
  rw [st_s _ _ _ _ _ hj2, st_ff D 3 4 _ _ hl (by have := D.W hl; omega) (by omega) (by omega)]
theorem sd_0 (hx : am_M) (d n : Nat) {j : Nat} (s : Nat) (hj : j < n / 2) : sd hx d n j s = hx 7 (16 * d + (2 * j + s)) := st_0 hx d n 4 s hj
/-- a side is a player, or nobody yet; a bye only in the first round -/
theorem sd_r {hx hm : am_M} {d n : Nat} (D : Dr hx hm d n) : ∀ (r j s : Nat), rd n j = r → j < n - 1 → s < 2 → (sd hx d n j s = -2 ∧ n / 2 ≤ j ∧ hx 20 (16 * d + (2 * (j - n / 2) + s)) = 0) ∨ (0 ≤ sd hx d n j s ∧ sd hx d n j s < 40 ∧ (n / 2 ≤ j → hx 20 (16 * d + (2 * (j - n / 2) + s)) ≠ 0)) ∨ (sd hx d n j s = -1 ∧ j < n / 2 ∧ hx 20 (16 * d + j) = 6 ∧ hx 21 (16 * d + j) ≠ s) := by
  intro r
  induction r with
  | zero =>
    intro j s hr hj hs
    have c := rd_z hr
    have hb := D.2.2.1.b
    have hP := D.P (show 2 * j + s < n by omega)
    rw [sd_0 _ _ _ _ c]
    by_cases c1 : hx 7 (16 * d + (2 * j + s)) = -1
    · right; right
      have h6 : hx 20 (16 * d + j) = 6 := (D.y hj).mpr ⟨c, by rcases (show s = 0 ∨ s = 1 by omega) with rfl | rfl; exact Or.inl c1; exact Or.inr c1⟩
      refine ⟨c1, c, h6, ?_⟩
      have hw := (D.yw hj h6).1
      have hn := D.nb c
      rw [hw]
      rcases (show s = 0 ∨ s = 1 by omega) with rfl | rfl
      · rw [if_pos (by exact c1)]; decide
      · rw [if_neg (fun z => hn ⟨z, c1⟩)]; decide
    · right; left
      exact ⟨by omega, by omega, fun z => by omega⟩
  | succ r ih =>
    intro j s hr hj hs
    have c : n / 2 ≤ j := by
      by_cases c : j < n / 2
      · rw [rd_0 c] at hr; omega
      · omega
    have hl := fr_lt D.2.2.1 hj c hs
    have hrf := rd_f D.2.2.1 hj c hs
    rw [sd_s D hj c hs]
    by_cases c1 : hx 20 (16 * d + (2 * (j - n / 2) + s)) = 0
    · left
      exact ⟨if_pos c1, c, c1⟩
    · right; left
      rw [if_neg c1]
      have hw := D.W hl
      have i1 := ih (2 * (j - n / 2) + s) (hx 21 (16 * d + (2 * (j - n / 2) + s))).toNat (by omega) hl (by omega)
      rcases i1 with ⟨a1, a2, a3⟩ | ⟨a1, a2, _⟩ | ⟨_, _, a3, a4⟩
      · exfalso
        have := D.fd hl a2 (Or.inl c1)
        rcases hw with w | w <;> rw [w] at a3
        · exact this.1 a3
        · exact this.2 a3
      · exact ⟨a1, a2, fun _ => c1⟩
      · exfalso
        apply a4
        omega
theorem p_hasMatch {hx hm : am_M} {d n j : Nat} (D : Dr hx hm d n) (hj : j < n - 1) (h : am_M) (hs : sc hx h) : fX2_hasMatch d (j : Int) h = some (1, h) := by
  obtain ⟨_, hd, hn, e1, e5⟩ := D
  have hb := hn.b
  unfold fX2_hasMatch
  rw [hs 5 (by omega), hs 1 (by omega), e1, e5, if_neg (by decide), if_neg (by omega), pw (by omega) (by omega), if_pos (by omega)]
theorem x_st {hx hm : am_M} {d n : Nat} (D : Dr hx hm d n) (h : am_M) (hs : sc hx h) : ∀ (f step m j s : Nat), step + f = 4 → f < m → j < n - 1 → s < 2 → am_it (fun _ _ _ _ _ => none) fX2_standing_26b m d (j : Int) (s : Int) (step : Int) h = some (st hx d n f j s, h) := by
  have hb := D.2.2.1.b
  have e1 : h 1 d = n := by rw [hs 1 (by omega)]; exact D.2.2.2.1
  have w : am_w (Int.tdiv (h 1 d) 2) = ((n / 2 : Nat) : Int) := half_w hb.2.1 e1
  have t1 : ∀ (j s : Nat), j < n / 2 → s < 2 → fX2_standing_76 d (j : Int) (s : Int) h = some (hx 7 (16 * d + (2 * j + s)), h) := by
    intro j s hj hs2
    have i1 : (j : Int) < ((n / 2 : Nat) : Int) := by clear w; omega
    have i2 : 0 ≤ ((2 * j + s : Nat) : Int) ∧ ((2 * j + s : Nat) : Int) < 16 := by clear w; omega
    have i3 : 2 * j + s < 16 := by clear w; omega
    unfold fX2_standing_76
    rw [w, if_pos i1, pl_w j s i3, if_pos i2, Int.toNat_natCast, hs 7 (by decide)]
  have t2 : ∀ (j s : Nat), n / 2 ≤ j → fX2_standing_76 d (j : Int) (s : Int) h = some (-2, h) := by
    intro j s hj
    have i1 : ¬ (j : Int) < ((n / 2 : Nat) : Int) := by clear w; omega
    unfold fX2_standing_76
    rw [w, if_neg i1]
  intro f
  induction f with
  | zero =>
    intro step m j s hst hm hj hs2
    have i1 : ¬ (step : Int) < 4 := by clear w; omega
    obtain ⟨m, rfl⟩ : ∃ m', m = m' + 1 := ⟨m - 1, by clear w; omega⟩
    rw [am_it_s]
    unfold fX2_standing_26b
    rw [if_neg i1]
    by_cases c : j < n / 2
    · rw [t1 j s c hs2, st_0 _ _ _ _ _ c]
    · rw [t2 j s (Nat.le_of_not_lt c)]
      unfold st
      rw [if_neg c]
  | succ f ih =>
    intro step m j s hst hm hj hs2
    have i1 : (step : Int) < 4 := by clear w; omega
    have i6 : step < 100000 := by clear w; omega
    have i7 : step + 1 + f = 4 := by clear w; omega
    have hj16 : j < 16 := D.j16 hj
    obtain ⟨m, rfl⟩ : ∃ m', m = m' + 1 := ⟨m - 1, by clear w; omega⟩
    have i8 : f < m := by clear w; omega
    rw [am_it_s]
    unfold fX2_standing_26b
    rw [if_pos i1, w]
    by_cases c : j < n / 2
    · have i2 : (j : Int) < ((n / 2 : Nat) : Int) := by clear w; omega
      rw [if_pos i2, t1 j s c hs2, st_0 _ _ _ _ _ c]
    · have i2 : ¬ (j : Int) < ((n / 2 : Nat) : Int) := by clear w; omega
      have c' : n / 2 ≤ j := Nat.le_of_not_lt c
      have hl := fr_lt D.2.2.1 hj c' hs2
      have hw := D.W hl
      have hl16 := D.j16 hl
      have i3 : 0 ≤ ((2 * (j - n / 2) + s : Nat) : Int) ∧ ((2 * (j - n / 2) + s : Nat) : Int) < 16 := by clear w; omega
      rw [if_neg i2, p_feeder d n j s h D.2.2.1 e1 hj16 hs2, if_neg c, am_b_some, if_pos i3, Int.toNat_natCast, hs 20 (by decide), hs 21 (by decide), st_s _ _ _ _ _ c']
      by_cases c1 : hx 20 (16 * d + (2 * (j - n / 2) + s)) = 0
      · rw [if_pos c1, if_pos c1]
      · have i4 : (hx 21 (16 * d + (2 * (j - n / 2) + s))).toNat < 2 := by clear w; omega
        have i5 : 0 ≤ hx 21 (16 * d + (2 * (j - n / 2) + s)) := by clear w; omega
        rw [if_neg c1, if_neg c1, if_pos i3, am_l_eq, pw1 step i6]
        have := ih (step + 1) m (2 * (j - n / 2) + s) (hx 21 (16 * d + (2 * (j - n / 2) + s))).toNat i7 i8 hl i4
        rw [Int.toNat_of_nonneg i5] at this
        exact this
theorem p_st {hx hm : am_M} {d n j s : Nat} (D : Dr hx hm d n) (hj : j < n - 1) (hs2 : s < 2) (h : am_M) (hs : sc hx h) : fX2_standing d (j : Int) (s : Int) h = some (sd hx d n j s, h) := by
  unfold fX2_standing fX2_standing_26
  rw [p_hasMatch D hj h hs, am_b_some, if_neg (by decide), p_isSide, am_b_some, if_neg (by rw [if_pos (by omega)]; decide)]
  exact x_st D h hs 4 0 400 j s (by omega) (by omega) hj hs2
theorem p_st0 {hx hm : am_M} {d n j : Nat} (D : Dr hx hm d n) (hj : j < n - 1) (h : am_M) (hs : sc hx h) : fX2_standing d (j : Int) 0 h = some (sd hx d n j 0, h) := p_st D hj (by decide) h hs
theorem p_st1 {hx hm : am_M} {d n j : Nat} (D : Dr hx hm d n) (hj : j < n - 1) (h : am_M) (hs : sc hx h) : fX2_standing d (j : Int) 1 h = some (sd hx d n j 1, h) := p_st D hj (by decide) h hs
theorem p_isKnown {hx hm : am_M} {d n j : Nat} (D : Dr hx hm d n) (hj : j < n - 1) (h : am_M) (hs : sc hx h) : fX2_isKnown d (j : Int) h = some (if sd hx d n j 0 = -2 ∨ sd hx d n j 1 = -2 then 0 else 1, h) := by
  unfold fX2_isKnown
  rw [p_st0 D hj h hs, am_b_some, p_st1 D hj h hs, am_b_some]
  (repeat' split) <;> first | rfl | omega
theorem p_sideOf {hx hm : am_M} {d n j : Nat} (D : Dr hx hm d n) (hj : j < n - 1) (a : Int) (h : am_M) (hs : sc hx h) : fX2_sideOf d (j : Int) a h = some (if sd hx d n j 0 = a then 0 else if sd hx d n j 1 = a then 1 else -1, h) := by
  unfold fX2_sideOf
  rw [p_st0 D hj h hs, am_b_some, p_st1 D hj h hs, am_b_some]
  (repeat' split) <;> first | rfl | omega
/-! the reference -/
def Sc {α : Type} (hm : am_M) (o : Option (α × am_M)) (v : α) : Prop := ∃ h', o = some (v, h') ∧ sc hm h'
theorem Sc.b {α β : Type} {hm : am_M} {o : Option (α × am_M)} {K : α → am_M → Option (β × am_M)} {v : α} {w : β} (a : Sc hm o v) (b : ∀ h', sc hm h' → Sc hm (K v h') w) : Sc hm (am_b o K) w := by
  obtain ⟨h', e, s⟩ := a
  rw [e, am_b_some]
  exact b h' s
theorem Sc.mk {α : Type} {hm h : am_M} {v w : α} (s : sc hm h) (e : v = w) : Sc hm (some (v, h)) w := ⟨h, by rw [e], s⟩
/-- who has won: -1 as long as nobody has -/
def wn (hx : am_M) (d j : Nat) : Int := if hx 20 (16 * d + j) = 0 then -1 else hx 21 (16 * d + j)
theorem wn_neg {hx hm : am_M} {d n j : Nat} (D : Dr hx hm d n) (hj : j < n - 1) : wn hx d j < 0 ↔ hx 20 (16 * d + j) = 0 := by
  unfold wn
  have := D.W hj
  split <;> omega
theorem m_rd {hx hm : am_M} {d n j : Nat} (D : Dr hx hm d n) (hj : j < n - 1) (h : am_M) (hs : sc hm h) : fX9_roundOf (d : Int) (j : Int) h = some (((rd n j : Nat) : Int), h) :=
  q_roundOf d n j h D.2.1 D.2.2.1 (by rw [hs 1 (by omega), ← D.1.kk (k := 1) (by omega) (by omega)]; exact D.2.2.2.1) hj
theorem m_at {hx hm : am_M} {d n i : Nat} (D : Dr hx hm d n) (hi : i < n) (h : am_M) (hs : sc hm h) : fX9_at (d : Int) (i : Int) h = some (hx 7 (16 * d + i), h) := by
  have hb := D.2.2.1.b
  rw [q_at d i D.2.1 (by omega), hs 7 (by omega), (D.P hi).2.2]
/-- what a step of sideOf must know of the first round -/
def SOk (hx hm : am_M) (d n : Nat) (SO : Int → Int → am_M → Option (Int × am_M)) : Prop := ∀ (j s : Nat), j < n / 2 → s < 2 → ∀ h, sc hm h → Sc hm (SO ((16 * d + j : Nat) : Int) (s : Int) h) (hx 7 (16 * d + (2 * j + s)))
theorem m_bye {hx hm : am_M} {d n j : Nat} (D : Dr hx hm d n) (hj : j < n - 1) {SO : Int → Int → am_M → Option (Int × am_M)} (hS : SOk hx hm d n SO) (h : am_M) (hs : sc hm h) : Sc hm (fX9_isOfBye SO ((16 * d + j : Nat) : Int) h) (if hx 20 (16 * d + j) = 6 then 1 else 0) := by
  have hb := D.2.2.1.b
  unfold fX9_isOfBye
  rw [cd_div d j (by omega) D.2.1, cd_mod d j (by omega), m_rd D hj h hs, am_b_some]
  have hy := D.y hj
  by_cases c : j < n / 2
  · rw [rd_0 c, if_pos (by decide)]
    refine Sc.b (hS j 0 c (by decide) h hs) (fun h1 s1 => ?_)
    by_cases c0 : hx 7 (16 * d + (2 * j + 0)) = -1
    · rw [if_pos c0]
      exact Sc.mk s1 (by rw [if_pos (hy.mpr ⟨c, Or.inl c0⟩)])
    · rw [if_neg c0]
      refine Sc.b (hS j 1 c (by decide) h1 s1) (fun h2 s2 => ?_)
      by_cases c1 : hx 7 (16 * d + (2 * j + 1)) = -1
      · rw [if_pos c1]
        exact Sc.mk s2 (by rw [if_pos (hy.mpr ⟨c, Or.inr c1⟩)])
      · rw [if_neg c1]
        have nz : ¬ hx 20 (16 * d + j) = 6 := fun z => by
          rcases (hy.mp z).2 with q | q
          · exact c0 q
          · exact c1 q
        exact Sc.mk s2 (by rw [if_neg nz])
  · rw [if_neg (by have : rd n j ≠ 0 := fun z => c (rd_z z); omega)]
    exact Sc.mk hs (by rw [if_neg (fun z => c (hy.mp z).1)])
theorem m_win {hx hm : am_M} {d n j : Nat} (D : Dr hx hm d n) (hj : j < n - 1) {SO : Int → Int → am_M → Option (Int × am_M)} (hS : SOk hx hm d n SO) (h : am_M) (hs : sc hm h) : Sc hm (fX9_winnerOf SO ((16 * d + j : Nat) : Int) h) (wn hx d j) := by
  have hb := D.2.2.1.b
  have hd := D.2.1
  have e5 : hm 5 d = 1 := by rw [← D.1.kk (k := 5) (by omega) (by omega)]; exact D.2.2.2.2
  have hH := D.H hj
  unfold fX9_winnerOf
  rw [cd_div d j (by omega) hd, if_pos (by omega), Int.toNat_natCast, Int.toNat_natCast, hs 5 (by omega), e5, if_neg (by decide)]
  refine Sc.b (m_bye D hj hS h hs) (fun h1 s1 => ?_)
  by_cases c6 : hx 20 (16 * d + j) = 6
  · rw [if_pos c6, if_neg (by decide)]
    have hc := ((D.y hj).mp c6).1
    refine Sc.b (hS j 0 hc (by decide) h1 s1) (fun h2 s2 => ?_)
    have hw := (D.yw hj c6).1
    have ew : wn hx d j = if hx 7 (16 * d + 2 * j) = -1 then 1 else 0 := by
      unfold wn
      rw [if_neg (show ¬ hx 20 (16 * d + j) = 0 by omega), hw]
    rw [ew]
    by_cases c0 : hx 7 (16 * d + 2 * j) = -1
    · rw [if_pos c0, if_pos (show hx 7 (16 * d + (2 * j + 0)) = -1 from c0)]
      exact Sc.mk s2 rfl
    · rw [if_neg c0, if_neg (show ¬ hx 7 (16 * d + (2 * j + 0)) = -1 from c0)]
      exact Sc.mk s2 rfl
  · rw [if_neg c6, if_pos rfl, if_pos (by omega), s1 24 (by omega), s1 25 (by omega), s1 9 (by omega), ← D.1.kk (k := 9) (by omega) (by omega), D.E hj]
    by_cases c4 : hx 20 (16 * d + j) = 4 ∨ hx 20 (16 * d + j) = 5
    · rw [if_pos c4, if_neg (by omega), if_pos (by omega), D.E2 hj c4]
      exact Sc.mk s1 (by unfold wn; rw [if_neg (by omega)])
    · rw [if_neg c4, if_pos rfl, if_pos (by omega)]
      obtain ⟨h2, e2, s2, T2, _⟩ := D.mr hj h1 s1
      rw [e2, am_b_some, if_pos (by omega), s2 2 (by omega), ← D.1.kk (k := 2) (by omega) (by omega), T2.2.2.2.2.1, T2.2.2.2.2.2.1]
      have hws := D.ws hj
      have hW := D.W hj
      unfold wn
      by_cases c3 : hx 20 (16 * d + j) = 3
      · rw [if_pos c3] at hws
        rw [if_neg (show ¬ hx 20 (16 * d + j) = 0 by omega)]
        rcases hW with w | w
        · rw [w] at hws ⊢
          rw [if_pos (by exact hws.1)]
          exact Sc.mk s2 rfl
        · rw [w] at hws ⊢
          rw [if_neg (by have : (tl_at (pQ hm d j) (hx 9 (16 * d + j)).toNat).2.2.1 0 < hx 2 d := hws.2; omega), if_pos (by omega), if_pos (by exact hws.1)]
          exact Sc.mk s2 rfl
      · rw [if_neg c3] at hws
        rw [if_pos (show hx 20 (16 * d + j) = 0 by omega), if_neg (by omega), if_pos (by omega), if_neg (by omega)]
        exact Sc.mk s2 rfl
theorem so_s (k : Nat) : fX9_sideOf (k + 1) = fX9_sideOfb (fX9_sideOf k) := by unfold fX9_sideOf; rw [am_it_s]
theorem m_sd {hx hm : am_M} {d n : Nat} (D : Dr hx hm d n) : ∀ (k j s : Nat), rd n j < k → j < n - 1 → s < 2 → ∀ h, sc hm h → Sc hm (fX9_sideOf k ((16 * d + j : Nat) : Int) (s : Int) h) (sd hx d n j s) := by
  have hb := D.2.2.1.b
  intro k
  induction k with
  | zero => intro j s hr; omega
  | succ k ih =>
    intro j s hr hj hs2 h hs
    have e1 : h 1 d = n := by rw [hs 1 (by omega), ← D.1.kk (k := 1) (by omega) (by omega)]; exact D.2.2.2.1
    rw [so_s]
    unfold fX9_sideOfb
    rw [cd_div d j (by omega) D.2.1, cd_mod d j (by omega), am_l_eq, m_rd D hj h hs, am_b_some]
    by_cases c : j < n / 2
    · rw [rd_0 c, if_pos (by decide), pl_w j s (by omega), m_at D (by omega) h hs, am_b_some, sd_0 _ _ _ _ c]
      exact Sc.mk hs rfl
    · have hrz : rd n j ≠ 0 := fun z => c (rd_z z)
      have hl := fr_lt D.2.2.1 hj (by omega) hs2
      have hrf := rd_f D.2.2.1 hj (by omega) hs2
      rw [if_neg (by omega), q_feeds d n j s h D.2.1 D.2.2.1 e1 hj (by omega) hs2, am_b_some, sd_s D hj (by omega) hs2]
      refine Sc.b (m_win D hl (fun j' s' h1 h2 h3 h4 => ?_) h hs) (fun h1 s1 => ?_)
      · have := ih j' s' (by rw [rd_0 h1]; omega) (by omega) h2 h3 h4
        rw [sd_0 _ _ _ _ h1] at this
        exact this
      · have hn := wn_neg D hl
        by_cases c1 : hx 20 (16 * d + (2 * (j - n / 2) + s)) = 0
        · rw [if_pos (hn.mpr c1), if_pos c1]
          exact Sc.mk s1 rfl
        · have hw := D.W hl
          have ew : wn hx d (2 * (j - n / 2) + s) = ((hx 21 (16 * d + (2 * (j - n / 2) + s))).toNat : Int) := by unfold wn; rw [if_neg c1]; omega
          rw [if_neg (fun z => c1 (hn.mp z)), if_neg c1, ew]
          refine Sc.b (ih _ _ (by omega) hl (by omega) h1 s1) (fun h2 s2 => ?_)
          exact Sc.mk s2 rfl
theorem m_side {hx hm : am_M} {d n j s : Nat} (D : Dr hx hm d n) (hj : j < n - 1) (hs2 : s < 2) (h : am_M) (hs : sc hm h) : Sc hm (fX9_sideOf 8 ((16 * d + j : Nat) : Int) (s : Int) h) (sd hx d n j s) := m_sd D 8 j s (by have := rd_lt n j; omega) hj hs2 h hs
theorem m_side0 {hx hm : am_M} {d n j : Nat} (D : Dr hx hm d n) (hj : j < n - 1) (h : am_M) (hs : sc hm h) : Sc hm (fX9_sideOf 8 ((16 * d + j : Nat) : Int) 0 h) (sd hx d n j 0) := m_side D hj (by decide) h hs
theorem m_side1 {hx hm : am_M} {d n j : Nat} (D : Dr hx hm d n) (hj : j < n - 1) (h : am_M) (hs : sc hm h) : Sc hm (fX9_sideOf 8 ((16 * d + j : Nat) : Int) 1 h) (sd hx d n j 1) := m_side D hj (by decide) h hs
theorem m_so {hx hm : am_M} {d n : Nat} (D : Dr hx hm d n) : SOk hx hm d n (fX9_sideOf 8) := fun j s hj hs2 h hs => by
  have hb := D.2.2.1.b
  have := m_side D (show j < n - 1 by omega) hs2 h hs
  rw [sd_0 _ _ _ _ hj] at this
  exact this
theorem m_isOfBye {hx hm : am_M} {d n j : Nat} (D : Dr hx hm d n) (hj : j < n - 1) (h : am_M) (hs : sc hm h) : Sc hm (fX9_isOfBye (fX9_sideOf 8) ((16 * d + j : Nat) : Int) h) (if hx 20 (16 * d + j) = 6 then 1 else 0) := m_bye D hj (m_so D) h hs
theorem m_winner {hx hm : am_M} {d n j : Nat} (D : Dr hx hm d n) (hj : j < n - 1) (h : am_M) (hs : sc hm h) : Sc hm (fX9_winnerOf (fX9_sideOf 8) ((16 * d + j : Nat) : Int) h) (wn hx d j) := m_win D hj (m_so D) h hs
theorem m_isEnded {hx hm : am_M} {d n j : Nat} (D : Dr hx hm d n) (hj : j < n - 1) (h : am_M) (hs : sc hm h) : Sc hm (fX9_isEnded ((16 * d + j : Nat) : Int) h) (if hx 20 (16 * d + j) = 0 then 0 else 1) := by
  unfold fX9_isEnded
  refine Sc.b (m_winner D hj h hs) (fun h1 s1 => ?_)
  have hn := wn_neg D hj
  by_cases c : hx 20 (16 * d + j) = 0
  · rw [if_pos (hn.mpr c), if_pos c]; exact Sc.mk s1 rfl
  · rw [if_neg (fun z => c (hn.mp z)), if_neg c]; exact Sc.mk s1 rfl
theorem m_isKnown {hx hm : am_M} {d n j : Nat} (D : Dr hx hm d n) (hj : j < n - 1) (h : am_M) (hs : sc hm h) : Sc hm (fX9_isKnown ((16 * d + j : Nat) : Int) h) (if sd hx d n j 0 < 0 ∨ sd hx d n j 1 < 0 then 0 else 1) := by
  unfold fX9_isKnown
  refine Sc.b (m_side0 D hj h hs) (fun h1 s1 => ?_)
  by_cases c : sd hx d n j 0 < 0
  · rw [if_pos c, if_pos (Or.inl c)]; exact Sc.mk s1 rfl
  · rw [if_neg c]
    refine Sc.b (m_side1 D hj h1 s1) (fun h2 s2 => ?_)
    by_cases c2 : sd hx d n j 1 < 0
    · rw [if_pos c2, if_pos (Or.inr c2)]; exact Sc.mk s2 rfl
    · rw [if_neg c2, if_neg (by omega)]; exact Sc.mk s2 rfl
/-- as long as a match hasn't ended, both words for 'known' say the same -/
theorem kn {hx hm : am_M} {d n j : Nat} (D : Dr hx hm d n) (hj : j < n - 1) (h6 : hx 20 (16 * d + j) ≠ 6) : (sd hx d n j 0 < 0 ∨ sd hx d n j 1 < 0) ↔ (sd hx d n j 0 = -2 ∨ sd hx d n j 1 = -2) := by
  have a := sd_r D (rd n j) j 0 rfl hj (by decide)
  have b := sd_r D (rd n j) j 1 rfl hj (by decide)
  omega
