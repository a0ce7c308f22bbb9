/-! ===== whom a match feeds ===== -/
/-- how many rounds -/
def rn (n : Nat) : Nat := if n = 4 then 2 else if n = 8 then 3 else 4
theorem q_rn (d n : Nat) (h : am_M) (hd : d < 4) (hn : szn n) (e : h 1 d = n) : fX9_rounds (d : Int) h = some (((rn n : Nat) : Int), h) := by
  rw [q_rounds d n h hd hn e]
  rcases hn with q | q | q <;> subst q <;> rfl
theorem fe_t4 : ∀ j, j < 15 → 4 / 2 + j / 2 < 4 - 1 → rd 4 j < 4 ∧ 2 ^ (rd 4 j + 1) ≤ 4 ∧ fo 4 (rd 4 j) ≤ j ∧ fo 4 (rd 4 j + 1) + (j - fo 4 (rd 4 j)) / 2 = 4 / 2 + j / 2 ∧ rd 4 j + 1 ≠ rn 4 := by decide +kernel
theorem fe_f4 : ∀ j, j < 4 - 1 → ¬ 4 / 2 + j / 2 < 4 - 1 → rd 4 j + 1 = rn 4 := by decide +kernel
theorem fe_t8 : ∀ j, j < 15 → 8 / 2 + j / 2 < 8 - 1 → rd 8 j < 4 ∧ 2 ^ (rd 8 j + 1) ≤ 8 ∧ fo 8 (rd 8 j) ≤ j ∧ fo 8 (rd 8 j + 1) + (j - fo 8 (rd 8 j)) / 2 = 8 / 2 + j / 2 ∧ rd 8 j + 1 ≠ rn 8 := by decide +kernel
theorem fe_f8 : ∀ j, j < 8 - 1 → ¬ 8 / 2 + j / 2 < 8 - 1 → rd 8 j + 1 = rn 8 := by decide +kernel
theorem fe_t16 : ∀ j, j < 15 → 16 / 2 + j / 2 < 16 - 1 → rd 16 j < 4 ∧ 2 ^ (rd 16 j + 1) ≤ 16 ∧ fo 16 (rd 16 j) ≤ j ∧ fo 16 (rd 16 j + 1) + (j - fo 16 (rd 16 j)) / 2 = 16 / 2 + j / 2 ∧ rd 16 j + 1 ≠ rn 16 := by decide +kernel
theorem fe_f16 : ∀ j, j < 16 - 1 → ¬ 16 / 2 + j / 2 < 16 - 1 → rd 16 j + 1 = rn 16 := by decide +kernel
theorem fe_t {n j : Nat} (hn : szn n) (hj : j < 15) (c : n / 2 + j / 2 < n - 1) : rd n j < 4 ∧ 2 ^ (rd n j + 1) ≤ n ∧ fo n (rd n j) ≤ j ∧ fo n (rd n j + 1) + (j - fo n (rd n j)) / 2 = n / 2 + j / 2 ∧ rd n j + 1 ≠ rn n := by
  rcases hn with q | q | q
  · subst q; exact fe_t4 j hj c
  · subst q; exact fe_t8 j hj c
  · subst q; exact fe_t16 j hj c
theorem fe_f {n j : Nat} (hn : szn n) (hj : j < n - 1) (c : ¬ n / 2 + j / 2 < n - 1) : rd n j + 1 = rn n := by
  rcases hn with q | q | q
  · subst q; exact fe_f4 j hj c
  · subst q; exact fe_f8 j hj c
  · subst q; exact fe_f16 j hj c
theorem rn_b {n : Nat} (hn : szn n) : 2 ≤ rn n ∧ rn n ≤ 4 := by
  rcases hn with q | q | q <;> subst q <;> decide
theorem fe_w5 (x : Nat) (h : x < 1000) : am_w (Int.tdiv ((x : Nat) : Int) 2) = ((x / 2 : Nat) : Int) := by
  rw [show (2 : Int) = ((2 : Nat) : Int) from rfl, p_tdiv, pw_n _ (by omega)]
theorem fe_w6 (d x z : Nat) (hd : d < 4) (hx : x ≤ 16) (hz : z ≤ 16) : am_w (((16 * d + x : Nat) : Int) + ((z : Nat) : Int)) = ((16 * d + (x + z) : Nat) : Int) := by
  rw [pw (by omega) (by omega)]
  omega
theorem fe_w (d j x y m : Nat) (hd : d < 4) (hj : j < 16) (hx : x ≤ 16) (hy : y ≤ j) (hm : x + (j - y) / 2 = m) : am_w (am_w (am_w ((16 : Int) * (d : Int)) + ((x : Nat) : Int)) + am_w (Int.tdiv (am_w (((j : Nat) : Int) - ((y : Nat) : Int))) 2)) = ((16 * d + m : Nat) : Int) := by
  obtain ⟨z, rfl⟩ : ∃ z, j = y + z := ⟨j - y, by omega⟩
  rw [Nat.add_sub_cancel_left] at hm
  have w2 : am_w (((y + z : Nat) : Int) - ((y : Nat) : Int)) = ((z : Nat) : Int) := by rw [pw (by omega) (by omega)]; omega
  have w3 : am_w (am_w ((16 : Int) * (d : Int)) + ((x : Nat) : Int)) = ((16 * d + x : Nat) : Int) := ix_w 16 d x (by omega)
  rw [w2, fe_w5 z (by omega), w3, fe_w6 d x (z / 2) hd hx (by omega), hm]
theorem pw1 (r : Nat) (h : r < 100000) : am_w (((r : Nat) : Int) + 1) = ((r + 1 : Nat) : Int) := by
  rw [pw (by omega) (by omega)]; push_cast; rfl
theorem ne_i {r R : Nat} (h : 2 ≤ R) (n : r + 1 ≠ R) : ¬ (((r : Nat) : Int) = ((R - 1 : Nat) : Int)) := by omega
theorem q_fedBy (d n j : Nat) (h : am_M) (hd : d < 4) (hn : szn n) (e : h 1 d = n) (hj : j < n - 1) : fX9_fedBy ((16 * d + j : Nat) : Int) h = some (if n / 2 + j / 2 < n - 1 then ((16 * d + (n / 2 + j / 2) : Nat) : Int) else -1, h) := by
  have hn16 : n ≤ 16 := by rcases hn with q | q | q <;> omega
  have hj16 : j < 16 := by omega
  obtain ⟨hR1, hR2⟩ := rn_b hn
  have wR : am_w (((rn n : Nat) : Int) - 1) = ((rn n - 1 : Nat) : Int) := by rw [pw (by omega) (by omega)]; omega
  unfold fX9_fedBy
  rw [cd_div d j hj16 hd, cd_mod d j hj16, am_l_eq, q_roundOf d n j h hd hn e hj, am_b_some, q_rn d n h hd hn e, am_b_some, wR]
  by_cases c : n / 2 + j / 2 < n - 1
  · obtain ⟨hr4, h2r, g1, g2, g3⟩ := fe_t hn (by omega) c
    have e1 := q_firstOf d n (rd n j + 1) h hd hn e (by omega) h2r
    have e2 := q_firstOf d n (rd n j) h hd hn e (by omega) (Nat.le_trans (Nat.pow_le_pow_right (n := 2) (i := rd n j) (j := rd n j + 1) (by omega) (by omega)) h2r)
    clear h2r
    have w1 := pw1 (rd n j) (Nat.lt_trans hr4 (by decide))
    have b1 : fo n (rd n j + 1) ≤ n := Nat.sub_le _ _
    have fw := fe_w d j (fo n (rd n j + 1)) (fo n (rd n j)) (n / 2 + j / 2) hd hj16 (Nat.le_trans b1 hn16) g1 g2
    have ne : ¬ (((rd n j : Nat) : Int) = ((rn n - 1 : Nat) : Int)) := ne_i hR1 g3
    rw [if_neg ne, if_pos c, w1, e1, am_b_some, e2, am_b_some, fw]
  · have g := fe_f hn hj c
    have eq : ((rd n j : Nat) : Int) = ((rn n - 1 : Nat) : Int) := by omega
    rw [if_pos eq, if_neg c]
