/-! ===== scores ===== -/
theorem am_up_ap (h : am_M) (k i : Nat) (v : Int) (a b : Nat) : am_up h k i v a b = if a = k then (if b = i then v else h a b) else h a b := rfl
/-- the scratch memory holds score t -/
def TL (h : am_M) (t : tl_T) : Prop := h 34 0 = t.1 0 ∧ h 34 1 = t.1 1 ∧ h 35 0 = t.2.1 0 ∧ h 35 1 = t.2.1 1 ∧ h 36 0 = t.2.2.1 0 ∧ h 36 1 = t.2.2.1 1 ∧ h 38 0 = t.2.2.2.2.1 ∧ h 40 0 = t.2.2.2.2.2 ∧ ∀ i : Nat, (i : Int) < 2 * (t.2.2.1 0 + t.2.2.1 1) → h 37 i = t.2.2.2.1 i
/-- bounds after k points -/
def tb (k : Int) (t : tl_T) : Prop := (0 ≤ t.1 0 ∧ t.1 0 ≤ k) ∧ (0 ≤ t.1 1 ∧ t.1 1 ≤ k) ∧ (0 ≤ t.2.1 0 ∧ t.2.1 0 ≤ k) ∧ (0 ≤ t.2.1 1 ∧ t.2.1 1 ≤ k) ∧ (0 ≤ t.2.2.1 0 ∧ t.2.2.1 0 ≤ k) ∧ (0 ≤ t.2.2.1 1 ∧ t.2.2.1 1 ≤ k) ∧ (0 ≤ t.2.2.2.2.1 ∧ t.2.2.2.2.1 ≤ k) ∧ (0 ≤ t.2.2.2.2.2 ∧ t.2.2.2.2.2 ≤ k)
theorem tb_0 : tb 0 tl_0 := by simp [tb, tl_0]
theorem tb_s {k : Int} {t : tl_T} {w : Nat} (hw : w < 2) (h : tb k t) : tb (k + 1) (tl_step w t) := by
  obtain ⟨p, g, s, ws, ga, ch⟩ := t
  unfold tb at h
  dsimp only at h
  unfold tl_step tl_ch
  rcases (show w = 0 ∨ w = 1 by omega) with rfl | rfl <;> (repeat' split) <;> simp [tb, up1] <;> omega
theorem tb_at (p : Nat → Int) (Q : Nat) (hp : ∀ i, i < Q → p i = 0 ∨ p i = 1) : ∀ k, k ≤ Q → tb k (tl_at p k) := by
  intro k
  induction k with
  | zero => intro _; exact tb_0
  | succ k ih =>
    intro hk
    have := tb_s (w := (p k).toNat) (by have := hp k (by omega); omega) (ih (by omega))
    rw [show ((k + 1 : Nat) : Int) = (k : Int) + 1 by omega]
    exact this
/-- sets stay below L as long as nobody has won -/
theorem tl_lt (L : Int) (hL : 0 < L) (p : Nat → Int) (Q : Nat) (hp : ∀ i, i < Q → p i = 0 ∨ p i = 1) : ∀ k, k ≤ Q → (∀ i, i ≤ k → ¬ tl_won L (tl_at p i)) → (tl_at p k).2.2.1 0 < L ∧ (tl_at p k).2.2.1 1 < L := by
  intro k
  induction k with
  | zero => intro _ _; exact ⟨hL, hL⟩
  | succ k ih =>
    intro hk hn
    have i1 := ih (by omega) (fun i hi => hn i (by omega))
    have n1 := hn (k + 1) (by omega)
    have hw : (p k).toNat = 0 ∨ (p k).toNat = 1 := by have := hp k (by omega); omega
    unfold tl_won at n1
    simp only [tl_at] at n1 ⊢
    generalize tl_at p k = t at *
    obtain ⟨q, g, s, ws, ga, ch⟩ := t
    unfold tl_step at n1 ⊢
    dsimp only at i1
    rcases hw with e | e <;> rw [e] at n1 ⊢ <;> (repeat' split) <;> (simp_all [up1]) <;> omega
/-- not both have won -/
theorem tl_one (L : Int) (hL : 0 < L) (p : Nat → Int) (k : Nat) (hp : p k = 0 ∨ p k = 1) (h0 : (tl_at p k).2.2.1 0 < L) (h1 : (tl_at p k).2.2.1 1 < L) : (tl_at p (k + 1)).2.2.1 0 ≤ L ∧ (tl_at p (k + 1)).2.2.1 1 ≤ L ∧ ¬ ((tl_at p (k + 1)).2.2.1 0 = L ∧ (tl_at p (k + 1)).2.2.1 1 = L) := by
  have hw : (p k).toNat = 0 ∨ (p k).toNat = 1 := by omega
  simp only [tl_at]
  generalize tl_at p k = t at *
  obtain ⟨q, g, s, ws, ga, ch⟩ := t
  unfold tl_step
  dsimp only at h0 h1
  rcases hw with e | e <;> rw [e] <;> (repeat' split) <;> (simp_all [up1]) <;> omega
theorem x_isTie (h : am_M) : fX7_isTie h = some (if h 35 0 = 6 ∧ h 35 1 = 6 then 1 else 0, h) := by
  unfold fX7_isTie
  (repeat' split) <;> first | rfl | omega
theorem x_keepSet (h : am_M) (k : Nat) (hk : k < 5) (e : am_w (h 36 0 + h 36 1) = k) : fX7_keepSet h = some ((), am_up (am_up (am_up (am_up h 37 (2 * k) (h 35 0)) 37 (2 * k + 1) (h 35 1)) 35 0 0) 35 1 0) := by
  have w1 : am_w (2 * (k : Int)) = ((2 * k : Nat) : Int) := by rw [pw (by omega) (by omega)]; omega
  have w2 : am_w (((2 * k : Nat) : Int) + 1) = ((2 * k + 1 : Nat) : Int) := by rw [pw (by omega) (by omega)]; omega
  unfold fX7_keepSet fX7_setsInAll fX7_keepSet_40
  rw [am_b_some, e, if_pos (by omega), w1, if_pos (by omega), am_l_eq, w2, if_pos (by omega), am_l_eq, am_l_eq, am_l_eq, Int.toNat_natCast, Int.toNat_natCast, am_up_k _ _ _ _ (show (35 : Nat) ≠ 37 by decide)]
def Tk (L : Int) (w : Nat) (t : tl_T) (h : am_M) (o : Option (Int × am_M)) : Prop := ∃ h', o = some (tl_told L w t, h') ∧ TL h' (tl_step w t) ∧ sc h h' ∧ h' 39 0 = h 39 0
def Pk (L : Int) (w : Nat) (t : tl_T) (h : am_M) (o : Option (Unit × am_M)) : Prop := ∃ h', o = some ((), h') ∧ TL h' (tl_step w t) ∧ sc h h' ∧ h' 39 0 = (tl_step w t).2.2.1 0 + (tl_step w t).2.2.1 1 ∧ h' 51 0 = tl_told L w t
