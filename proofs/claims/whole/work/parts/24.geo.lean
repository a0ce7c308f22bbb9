/-! ===== rounds, who feeds whom ===== -/
def szn (n : Nat) : Prop := n = 4 ∨ n = 8 ∨ n = 16
/-- the round of match j -/
def rd (n j : Nat) : Nat := if j < n / 2 then 0 else if j < n / 2 + n / 4 then 1 else if j < n / 2 + n / 4 + n / 8 then 2 else 3
/-- the first match of round r -/
def fo (n r : Nat) : Nat := n - n / 2 ^ r
theorem p_shr : ∀ n : Nat, n < 17 → ∀ r : Nat, r < 6 → am_shr (n : Int) (r : Int) = ((n / 2 ^ r : Nat) : Int) := by decide +kernel
theorem p_firstOf (d n r : Nat) (h : am_M) (hn : szn n) (e : h 1 d = n) (hr : r < 6) : fX2_firstOf d (r : Int) h = some (((fo n r : Nat) : Int), h) := by
  unfold fX2_firstOf fo
  have h16 : n < 17 := by rcases hn with q | q | q <;> omega
  rw [e, p_shr n h16 r hr]
  have : n / 2 ^ r ≤ n := Nat.div_le_self _ _
  generalize n / 2 ^ r = x at *
  rw [pw (by omega) (by omega)]
  congr 2
  omega
theorem p_feeder (d n j s : Nat) (h : am_M) (hn : szn n) (e : h 1 d = n) (hj : j < 16) (hs : s < 2) : fX2_feeder d (j : Int) (s : Int) h = some (if j < n / 2 then -1 else ((2 * (j - n / 2) + s : Nat) : Int), h) := by
  unfold fX2_feeder
  have w : am_w (Int.tdiv (h 1 d) 2) = ((n / 2 : Nat) : Int) := by rw [e, show (2 : Int) = ((2 : Nat) : Int) from rfl, p_tdiv, pw_n]; rcases hn with q | q | q <;> omega
  rw [w]
  by_cases c : j < n / 2
  · rw [if_pos (by omega), if_pos c]
  · rw [if_neg (by omega), if_neg c]
    have w1 : am_w ((j : Int) - ((n / 2 : Nat) : Int)) = ((j - n / 2 : Nat) : Int) := by rw [pw (by omega) (by rcases hn with q | q | q <;> omega)]; omega
    have w2 : am_w (2 * ((j - n / 2 : Nat) : Int)) = ((2 * (j - n / 2) : Nat) : Int) := by rw [pw (by omega) (by omega)]; omega
    rw [w1, w2, pw (by omega) (by omega)]
    congr 2
theorem p_next (d n j : Nat) (h : am_M) (hn : szn n) (e : h 1 d = n) (hj : j < 16) : fX2_next d (j : Int) h = some (if n / 2 + j / 2 < n - 1 then ((n / 2 + j / 2 : Nat) : Int) else -1, h) := by
  unfold fX2_next
  have w : am_w (Int.tdiv (h 1 d) 2) = ((n / 2 : Nat) : Int) := by rw [e, show (2 : Int) = ((2 : Nat) : Int) from rfl, p_tdiv, pw_n]; rcases hn with q | q | q <;> omega
  have w1 : am_w (Int.tdiv (j : Int) 2) = ((j / 2 : Nat) : Int) := by rw [show (2 : Int) = ((2 : Nat) : Int) from rfl, p_tdiv, pw_n]; omega
  have w2 : am_w (((n / 2 : Nat) : Int) + ((j / 2 : Nat) : Int)) = ((n / 2 + j / 2 : Nat) : Int) := by rw [pw (by omega) (by rcases hn with q | q | q <;> omega)]; omega
  have w3 : am_w (h 1 d - 1) = ((n - 1 : Nat) : Int) := by rw [e, pw (by rcases hn with q | q | q <;> omega) (by rcases hn with q | q | q <;> omega)]; rcases hn with q | q | q <;> omega
  rw [w, w1, w2, am_l_eq, w3]
  by_cases c : n / 2 + j / 2 < n - 1
  · rw [if_pos (by omega), if_pos c]
  · rw [if_neg (by omega), if_neg c]
/-- a turn of the reference's roundOf -/
theorem ro_1 (K : Int → Int → Int → Int → am_M → Option (Int × am_M)) (j r f z : Nat) (h : am_M) (hj : j < 100) (hr : r < 100) (hf : f < 100) (hz : z < 100) : fX9_roundOf_15b K (j : Int) (r : Int) (f : Int) (z : Int) h = if j < f + z then some ((r : Int), h) else K (j : Int) ((r + 1 : Nat) : Int) ((f + z : Nat) : Int) ((z / 2 : Nat) : Int) h := by
  unfold fX9_roundOf_15b
  have w1 : am_w ((f : Int) + (z : Int)) = ((f + z : Nat) : Int) := by rw [pw (by omega) (by omega)]; push_cast; rfl
  have w2 : am_w (Int.tdiv (z : Int) 2) = ((z / 2 : Nat) : Int) := by rw [show (2 : Int) = ((2 : Nat) : Int) from rfl, p_tdiv, pw_n]; omega
  have w3 : am_w ((r : Int) + 1) = ((r + 1 : Nat) : Int) := by rw [pw (by omega) (by omega)]; push_cast; rfl
  rw [w1, w2, w3, am_l_eq, am_l_eq]
  by_cases c : j < f + z
  · rw [if_pos (by omega), if_pos c]
  · rw [if_neg (by omega), if_neg c]
theorem ro_4 (n j m : Nat) (h : am_M) (hn : szn n) (hj : j < n - 1) : am_it (fun _ _ _ _ _ => none) fX9_roundOf_15b (m + 4) (j : Int) ((0 : Nat) : Int) ((0 : Nat) : Int) ((n / 2 : Nat) : Int) h = some (((rd n j : Nat) : Int), h) := by
  rw [am_it_s, ro_1 _ _ _ _ _ _ (by rcases hn with q | q | q <;> omega) (by omega) (by omega) (by rcases hn with q | q | q <;> omega)]
  unfold rd
  by_cases c0 : j < n / 2
  · rw [if_pos (by omega), if_pos c0]
  · rw [if_neg (by omega), if_neg c0, am_it_s, ro_1 _ _ _ _ _ _ (by rcases hn with q | q | q <;> omega) (by omega) (by rcases hn with q | q | q <;> omega) (by rcases hn with q | q | q <;> omega)]
    by_cases c1 : j < n / 2 + n / 4
    · rw [if_pos (by rcases hn with q | q | q <;> subst q <;> omega), if_pos c1]
    · rw [if_neg (by rcases hn with q | q | q <;> subst q <;> omega), if_neg c1, am_it_s, ro_1 _ _ _ _ _ _ (by rcases hn with q | q | q <;> omega) (by omega) (by rcases hn with q | q | q <;> omega) (by rcases hn with q | q | q <;> omega)]
      by_cases c2 : j < n / 2 + n / 4 + n / 8
      · rw [if_pos (by rcases hn with q | q | q <;> subst q <;> omega), if_pos c2]
      · rw [if_neg (by rcases hn with q | q | q <;> subst q <;> omega), if_neg c2, am_it_s, ro_1 _ _ _ _ _ _ (by rcases hn with q | q | q <;> omega) (by omega) (by rcases hn with q | q | q <;> omega) (by rcases hn with q | q | q <;> omega)]
        rw [if_pos (by rcases hn with q | q | q <;> subst q <;> omega)]
theorem q_roundOf (d n j : Nat) (h : am_M) (hd : d < 4) (hn : szn n) (e : h 1 d = n) (hj : j < n - 1) : fX9_roundOf (d : Int) (j : Int) h = some (((rd n j : Nat) : Int), h) := by
  unfold fX9_roundOf fX9_roundOf_15
  have w : am_w (Int.tdiv (h 1 d) 2) = ((n / 2 : Nat) : Int) := by rw [e, show (2 : Int) = ((2 : Nat) : Int) from rfl, p_tdiv, pw_n]; rcases hn with q | q | q <;> omega
  rw [if_pos (by omega), Int.toNat_natCast, w, am_l_eq]
  exact ro_4 n j 396 h hn hj
theorem q_rounds (d n : Nat) (h : am_M) (hd : d < 4) (hn : szn n) (e : h 1 d = n) : fX9_rounds (d : Int) h = some (if n = 4 then 2 else if n = 8 then 3 else 4, h) := by
  unfold fX9_rounds
  rw [if_pos (by omega), Int.toNat_natCast, e]
  rcases hn with q | q | q <;> subst q <;> (repeat' split) <;> first | rfl | omega
theorem fi_1 (K : Int → Int → Int → Int → am_M → Option (Int × am_M)) (d n r f k : Nat) (h : am_M) (hd : d < 4) (hn : szn n) (e : h 1 d = n) (hf : f < 100) (hk : k < 5) : fX9_firstOf_5b K (d : Int) (r : Int) (f : Int) (k : Int) h = if k < r then K (d : Int) (r : Int) ((f + n / 2 ^ (k + 1) : Nat) : Int) ((k + 1 : Nat) : Int) h else some ((f : Int), h) := by
  unfold fX9_firstOf_5b
  have h16 : n < 17 := by rcases hn with q | q | q <;> omega
  have w1 : am_w ((k : Int) + 1) = ((k + 1 : Nat) : Int) := by rw [pw (by omega) (by omega)]; push_cast; rfl
  have : n / 2 ^ (k + 1) ≤ n := Nat.div_le_self _ _
  have hp := p_shr n h16 (k + 1) (by omega)
  generalize n / 2 ^ (k + 1) = x at *
  by_cases c : k < r
  · have w2 : am_w ((f : Int) + (x : Int)) = ((f + x : Nat) : Int) := by rw [pw (by omega) (by omega)]; push_cast; rfl
    rw [if_pos (by omega), if_pos c, if_pos (by omega), Int.toNat_natCast, e, w1, hp, am_l_eq, w2]
  · rw [if_neg (by omega), if_neg c]
theorem fi_4 (d n r m : Nat) (h : am_M) (hd : d < 4) (hn : szn n) (e : h 1 d = n) (hr : r < 5) (h2 : 2 ^ r ≤ n) : am_it (fun _ _ _ _ _ => none) fX9_firstOf_5b (m + 5) (d : Int) (r : Int) ((0 : Nat) : Int) ((0 : Nat) : Int) h = some (((fo n r : Nat) : Int), h) := by
  rw [am_it_s, fi_1 _ d n r 0 0 h hd hn e (by omega) (by omega)]
  by_cases c0 : 0 < r
  · rw [if_pos c0, am_it_s, fi_1 _ d n r _ _ h hd hn e (by rcases hn with q | q | q <;> subst q <;> decide) (by omega)]
    by_cases c1 : 1 < r
    · rw [if_pos (by omega), am_it_s, fi_1 _ d n r _ _ h hd hn e (by rcases hn with q | q | q <;> subst q <;> decide) (by omega)]
      by_cases c2 : 2 < r
      · rw [if_pos (by omega), am_it_s, fi_1 _ d n r _ _ h hd hn e (by rcases hn with q | q | q <;> subst q <;> decide) (by omega)]
        by_cases c3 : 3 < r
        · rw [if_pos (by omega), am_it_s, fi_1 _ d n r _ _ h hd hn e (by rcases hn with q | q | q <;> subst q <;> decide) (by omega)]
          rw [if_neg (by omega)]
          obtain rfl : r = 4 := by omega
          rcases hn with q | q | q <;> subst q <;> first | rfl | (exfalso; revert h2; decide)
        · rw [if_neg (by omega)]
          obtain rfl : r = 3 := by omega
          rcases hn with q | q | q <;> subst q <;> first | rfl | (exfalso; revert h2; decide)
      · rw [if_neg (by omega)]
        obtain rfl : r = 2 := by omega
        rcases hn with q | q | q <;> subst q <;> first | rfl | (exfalso; revert h2; decide)
    · rw [if_neg (by omega)]
      obtain rfl : r = 1 := by omega
      rcases hn with q | q | q <;> subst q <;> first | rfl | (exfalso; revert h2; decide)
  · rw [if_neg c0]
    obtain rfl : r = 0 := by omega
    rcases hn with q | q | q <;> subst q <;> first | rfl | (exfalso; revert h2; decide)
theorem q_firstOf (d n r : Nat) (h : am_M) (hd : d < 4) (hn : szn n) (e : h 1 d = n) (hr : r < 5) (h2 : 2 ^ r ≤ n) : fX9_firstOf (d : Int) (r : Int) h = some (((fo n r : Nat) : Int), h) := by
  unfold fX9_firstOf fX9_firstOf_5
  exact fi_4 d n r 395 h hd hn e hr h2
/-- a match's code -/
theorem cd_div (d j : Nat) (hj : j < 16) (hd : d < 4) : am_w (Int.tdiv ((16 * d + j : Nat) : Int) 16) = (d : Int) := by
  rw [show (16 : Int) = ((16 : Nat) : Int) from rfl, p_tdiv, pw_n _ (by omega)]
  congr 1; omega
theorem cd_mod (d j : Nat) (hj : j < 16) : Int.tmod ((16 * d + j : Nat) : Int) 16 = (j : Int) := by
  rw [show (16 : Int) = ((16 : Nat) : Int) from rfl, p_tmod]
  congr 1; omega
theorem q_feeds (d n j s : Nat) (h : am_M) (hd : d < 4) (hn : szn n) (e : h 1 d = n) (hj : j < n - 1) (hj2 : n / 2 ≤ j) (hs : s < 2) : fX9_feeds ((16 * d + j : Nat) : Int) (s : Int) h = some (((16 * d + (2 * (j - n / 2) + s) : Nat) : Int), h) := by
  have hj16 : j < 16 := by rcases hn with q | q | q <;> omega
  unfold fX9_feeds
  rw [cd_div d j hj16 hd, cd_mod d j hj16, am_l_eq, q_roundOf d n j h hd hn e hj, am_b_some]
  obtain ⟨r, hr⟩ : ∃ r, rd n j = r + 1 := ⟨rd n j - 1, by unfold rd; rw [if_neg (by omega)]; split <;> (try split) <;> omega⟩
  have hr3 : r < 3 := by
    have : rd n j < 4 := by unfold rd; (repeat' split) <;> omega
    omega
  have h2r : 2 ^ (r + 1) ≤ n := by
    unfold rd at hr
    rcases (show r = 0 ∨ r = 1 ∨ r = 2 by omega) with q | q | q <;> subst q <;> rcases hn with q | q | q <;> subst q <;> first | decide | (exfalso; (repeat' split at hr) <;> omega)
  rw [hr, q_firstOf d n (r + 1) h hd hn e (by omega) h2r, am_b_some]
  have hfo : fo n (r + 1) ≤ j ∧ fo n r + 2 * (j - fo n (r + 1)) = 2 * (j - n / 2) := by
    unfold rd at hr
    unfold fo
    rcases (show r = 0 ∨ r = 1 ∨ r = 2 by omega) with q | q | q <;> subst q <;> rcases hn with q | q | q <;> subst q <;> simp only [Nat.reduceAdd, Nat.reducePow, Nat.reduceDiv, Nat.reduceSub, Nat.reduceMul] at hr ⊢ <;> (repeat' split at hr) <;> omega
  have w1 : am_w (((j : Nat) : Int) - ((fo n (r + 1) : Nat) : Int)) = ((j - fo n (r + 1) : Nat) : Int) := by rw [pw (by omega) (by omega)]; omega
  have w2 : am_w (((r + 1 : Nat) : Int) - 1) = (r : Int) := by rw [pw (by omega) (by omega)]; omega
  rw [w1, am_l_eq, w2, q_firstOf d n r h hd hn e (by omega) (Nat.le_trans (Nat.pow_le_pow_right (by omega) (by omega)) h2r), am_b_some]
  have w3 : am_w ((16 : Int) * (d : Int)) = ((16 * d : Nat) : Int) := by rw [pw (by omega) (by omega)]; push_cast; rfl
  have w4 : am_w (((16 * d : Nat) : Int) + ((fo n r : Nat) : Int)) = ((16 * d + fo n r : Nat) : Int) := by
    have : fo n r ≤ n := Nat.sub_le _ _
    rw [pw (by omega) (by rcases hn with q | q | q <;> omega)]; push_cast; rfl
  have w5 : am_w (2 * ((j - fo n (r + 1) : Nat) : Int)) = ((2 * (j - fo n (r + 1)) : Nat) : Int) := by rw [pw (by omega) (by omega)]; push_cast; rfl
  have w6 : am_w (((16 * d + fo n r : Nat) : Int) + ((2 * (j - fo n (r + 1)) : Nat) : Int)) = ((16 * d + 2 * (j - n / 2) : Nat) : Int) := by rw [pw (by omega) (by omega)]; omega
  have w7 : am_w (((16 * d + 2 * (j - n / 2) : Nat) : Int) + (s : Int)) = ((16 * d + (2 * (j - n / 2) + s) : Nat) : Int) := by rw [pw (by omega) (by omega)]; omega
  rw [w3, w4, w5, w6, w7]
