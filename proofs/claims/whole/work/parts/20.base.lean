/-! ===== pure rows: small numbers, small functions ===== -/
theorem pw {x : Int} (h1 : -2147483648 ≤ x) (h2 : x < 2147483648) : am_w x = x := am_w_id ⟨h1, h2⟩
theorem pw_n (n : Nat) (h : n < 2147483648) : am_w (n : Int) = n := pw (by omega) (by omega)
theorem p_tdiv (a b : Nat) : Int.tdiv (a : Int) (b : Int) = ((a / b : Nat) : Int) := by
  rw [Int.tdiv_eq_ediv_of_nonneg (by omega)]; rfl
theorem p_tmod (a b : Nat) : Int.tmod (a : Int) (b : Int) = ((a % b : Nat) : Int) := by
  rw [Int.tmod_eq_emod_of_nonneg (by omega)]; rfl
theorem p_nat {a : Int} (h : 0 ≤ a) : ∃ n : Nat, a = n := ⟨a.toNat, by omega⟩
/-- up on one kind -/
def up1 (f : Nat → Int) (i : Nat) (v : Int) : Nat → Int := fun j => if j = i then v else f j
theorem am_up_at (h : am_M) (k i : Nat) (v : Int) : am_up h k i v k = up1 (h k) i v := by
  funext j; simp [am_up, up1]
theorem am_up_ne (h : am_M) {k a : Nat} (i : Nat) (v : Int) (n : a ≠ k) : am_up h k i v a = h a := by
  funext j; simp [am_up, n]
theorem up1_s (f : Nat → Int) (i : Nat) (v : Int) : up1 f i v i = v := by simp [up1]
theorem up1_n (f : Nat → Int) {i j : Nat} (v : Int) (n : j ≠ i) : up1 f i v j = f j := by simp [up1, n]
theorem p_isPlayer (a : Int) (h : am_M) : fX8_isPlayer a h = some (if 0 ≤ a ∧ a < 40 then 1 else 0, h) := by
  unfold fX8_isPlayer
  (repeat' split) <;> first | rfl | omega
theorem p_isSide (a : Int) (h : am_M) : fX8_isSide a h = some (if a = 0 ∨ a = 1 then 1 else 0, h) := by
  unfold fX8_isSide
  (repeat' split) <;> first | rfl | omega
theorem p_isMinute (a : Int) (h : am_M) : fX8_isMinute a h = some (if 0 ≤ a ∧ a ≤ 100000 then 1 else 0, h) := by
  unfold fX8_isMinute
  (repeat' split) <;> first | rfl | omega
theorem p_in (a lo hi : Int) (h : am_M) : fX9_in a lo hi h = some (if lo ≤ a ∧ a ≤ hi then 1 else 0, h) := by
  unfold fX9_in
  (repeat' split) <;> first | rfl | omega
theorem q_isPlayer (a : Int) (h : am_M) : fX9_isPlayer a h = some (if 0 ≤ a ∧ a < 40 then 1 else 0, h) := by
  unfold fX9_isPlayer
  rw [p_in, am_b_some]
  (repeat' split) <;> first | rfl | omega
theorem q_isCourt (a : Int) (h : am_M) : fX9_isCourt a h = some (if 0 ≤ a ∧ a < 6 then 1 else 0, h) := by
  unfold fX9_isCourt
  rw [p_in, am_b_some]
  (repeat' split) <;> first | rfl | omega
theorem q_isMinute (a : Int) (h : am_M) : fX9_isMinute a h = some (if 0 ≤ a ∧ a ≤ 100000 then 1 else 0, h) := by
  unfold fX9_isMinute
  rw [p_in, am_b_some]
  (repeat' split) <;> first | rfl | omega
theorem p_and15 : ∀ n : Nat, n < 64 → am_and (n : Int) 15 = ((n % 16 : Nat) : Int) := by decide +kernel
theorem p_shr4 : ∀ n : Nat, n < 64 → am_shr (n : Int) 4 = ((n / 16 : Nat) : Int) := by decide +kernel
theorem p_findDraw (a : Int) (h : am_M) : fX0_findDraw a h = some (if 0 ≤ a ∧ a < 4 ∧ h 1 a.toNat ≠ 0 then some (10 + a.toNat) else none, h) := by
  unfold fX0_findDraw
  (repeat' split) <;> first | rfl | omega
theorem p_findCourt (a : Int) (h : am_M) : fX0_findCourt a h = some (if 0 ≤ a ∧ a < 6 then some (46 + a.toNat) else none, h) := by
  unfold fX0_findCourt
  (repeat' split) <;> first | rfl | omega
theorem q_isDraw (a : Int) (h : am_M) : fX9_isDraw a h = some (if 0 ≤ a ∧ a < 4 ∧ 0 < h 1 a.toNat then 1 else 0, h) := by
  unfold fX9_isDraw
  rw [p_in, am_b_some]
  (repeat' split) <;> first | rfl | omega
theorem p_isMatchCode (a : Int) (h : am_M) : fX8_isMatchCode a h = some (if 0 ≤ a ∧ a < 64 ∧ a % 16 ≠ 15 then 1 else 0, h) := by
  unfold fX8_isMatchCode fX8_numberOf
  rw [am_b_some]
  by_cases c : 0 ≤ a ∧ a < 64
  · obtain ⟨n, rfl⟩ := p_nat c.1
    rw [p_and15 n (by omega)]
    (repeat' split) <;> first | rfl | omega
  · (repeat' split) <;> first | rfl | omega
theorem q_isAnyMatch (a : Int) (h : am_M) : fX9_isAnyMatch a h = some (if 0 ≤ a ∧ a < 64 ∧ a % 16 ≠ 15 then 1 else 0, h) := by
  unfold fX9_isAnyMatch
  rw [p_in, am_b_some]
  by_cases c : 0 ≤ a ∧ a < 64
  · obtain ⟨n, rfl⟩ := p_nat c.1
    rw [show (16 : Int) = ((16 : Nat) : Int) from rfl, p_tmod]
    (repeat' split) <;> first | rfl | omega
  · (repeat' split) <;> first | rfl | omega
/-- the reference's index of a draw's row -/
theorem ix_w (w d p : Nat) (h : w * d + p < 100000) : am_w (am_w ((w : Int) * (d : Int)) + (p : Int)) = ((w * d + p : Nat) : Int) := by
  have e : ((w : Int) * (d : Int)) = ((w * d : Nat) : Int) := by push_cast; rfl
  rw [e, pw (x := ((w * d : Nat) : Int)) (by omega) (by omega), pw (by omega) (by omega)]
  push_cast; rfl
theorem q_at (d p : Nat) (hd : d < 4) (hp : p < 16) (h : am_M) : fX9_at d p h = some (h 7 (16 * d + p), h) := by
  unfold fX9_at
  rw [show (16 : Int) = ((16 : Nat) : Int) from rfl, ix_w 16 d p (by omega), if_pos (by omega), Int.toNat_natCast]
theorem q_put (d p : Nat) (v : Int) (hd : d < 4) (hp : p < 16) (h : am_M) : fX9_put d p v h = some ((), am_up h 7 (16 * d + p) v) := by
  unfold fX9_put
  rw [show (16 : Int) = ((16 : Nat) : Int) from rfl, ix_w 16 d p (by omega), if_pos (by omega), Int.toNat_natCast]
  rfl
