/-! ===== calls on slots, places, entrants ===== -/
theorem p_addSlot (c q : Nat) (v : Int) (h : am_M) (hq : h 16 c = q) (h6 : q ≤ 6) : fX1_addSlot c v h = if q = 6 then some (-2, h) else some ((q : Int), am_up (am_up h 17 (6 * c + q) v) 16 c (q + 1)) := by
  simp only [fX1_addSlot, am_l, hq, am_up_k _ _ _ _ (show (16 : Nat) ≠ 17 by decide), am_up_s, Int.toNat_natCast]
  rw [pw (x := (q : Int) + 1) (by omega) (by omega), pw (x := (q : Int) + 1 - 1) (by omega) (by omega)]
  (repeat' split) <;> first | rfl | omega | (congr 2; omega)
theorem q_come (c q : Nat) (v : Int) (h : am_M) (hc : c < 6) (hq : h 16 c = q) (h6 : q ≤ 6) : fX9_come c v h = if q = 6 then some (-2, h) else some ((q : Int), am_up (am_up h 17 (6 * c + q) v) 16 c (q + 1)) := by
  simp only [fX9_come, am_l, hq, Int.toNat_natCast]
  rw [show (6 : Int) = ((6 : Nat) : Int) from rfl, ix_w 6 c q (by omega)]
  simp only [Int.toNat_natCast, am_up_k _ _ _ _ (show (16 : Nat) ≠ 17 by decide), am_up_s, hq]
  rw [pw (x := (q : Int) + 1) (by omega) (by omega), pw (x := (q : Int) + 1 - 1) (by omega) (by omega)]
  (repeat' split) <;> first | rfl | omega | (congr 2; omega)
theorem Rel.n16 {hx hm : am_M} (r : Rel hx hm) {c : Nat} (hc : c < 6) : ∃ q : Nat, hx 16 c = q ∧ hm 16 c = q ∧ q ≤ 6 := by
  obtain ⟨h1, h2⟩ := (r.2.1.1 c hc).2.2.2
  obtain ⟨q, e⟩ := p_nat h1
  exact ⟨q, e, by rw [← r.kk (k := 16) (by omega) (by omega), e], by omega⟩
theorem e_come {hx hm : am_M} (r : Rel hx hm) {c : Nat} (hc : c < 6) (v : Int) (hv : -1000 ≤ v ∧ v < 64 ∧ (0 ≤ v → v % 16 ≠ 15)) : Same (fX1_addSlot c v hx) (fX9_come c v hm) := by
  obtain ⟨q, e1, e2, h6⟩ := r.n16 hc
  rw [p_addSlot c q v hx e1 h6, q_come c q v hm hc e2 h6]
  split
  · exact Same.mk rfl r
  · exact Same.mk rfl ((r.day17 _ _ hv).day16 _ _ (by omega))
theorem Same.b {ox om : Option (Int × am_M)} (s : Same ox om) : Same (am_b ox fun v h => some (v, h)) (am_b om fun v h => some (v, h)) := by
  obtain ⟨v, a, b, e1, e2, r⟩ := s
  rw [e1, e2]
  exact Same.mk rfl r
theorem e_slot {hx hm : am_M} (r : Rel hx hm) (a b : Int) : Same (fX8_slot a b hx) (fX9_slot a b hm) := by
  simp only [fX8_slot, fX9_slot, p_findCourt, q_isCourt, p_isMatchCode, q_isAnyMatch, am_b_some]
  rw [am_on_if (fun h => by omega)]
  by_cases c1 : 0 ≤ a ∧ a < 6
  · obtain ⟨c, rfl⟩ := p_nat c1.1
    rw [Int.toNat_natCast]
    (repeat' split) <;> first | omega | exact Same.mk rfl r | exact (e_come r (by omega) b (by omega)).b
  · (repeat' split) <;> first | omega | exact Same.mk rfl r
theorem e_gap {hx hm : am_M} (r : Rel hx hm) (a b : Int) : Same (fX8_gap a b hx) (fX9_gap a b hm) := by
  simp only [fX8_gap, fX9_gap, p_findCourt, q_isCourt, p_in, am_b_some]
  rw [am_on_if (fun h => by omega)]
  by_cases c1 : 0 ≤ a ∧ a < 6
  · obtain ⟨c, rfl⟩ := p_nat c1.1
    rw [Int.toNat_natCast]
    by_cases c2 : 1 ≤ b ∧ b ≤ 1000
    · rw [pw (x := -b) (by omega) (by omega)]
      (repeat' split) <;> first | omega | exact Same.mk rfl r | exact (e_come r (by omega) (-b) (by omega)).b
    · (repeat' split) <;> first | omega | exact Same.mk rfl r
  · (repeat' split) <;> first | omega | exact Same.mk rfl r
theorem p_hasSlot (c : Nat) (a : Int) (h : am_M) : fX1_hasSlot c a h = some (if 0 ≤ a ∧ a < h 16 c then 1 else 0, h) := by
  unfold fX1_hasSlot
  (repeat' split) <;> first | rfl | omega
theorem q_isSlot (c : Nat) (a : Int) (h : am_M) (hc : c < 6) (h1 : 0 ≤ h 16 c ∧ h 16 c ≤ 6) : fX9_isSlot c a h = some (if 0 ≤ a ∧ a < h 16 c then 1 else 0, h) := by
  simp only [fX9_isSlot, q_isCourt, p_in, am_b_some, Int.toNat_natCast]
  rw [pw (x := h 16 c - 1) (by omega) (by omega)]
  (repeat' split) <;> first | rfl | omega
theorem q_isSlotN (a b : Int) (h : am_M) (hc : ¬ (0 ≤ a ∧ a < 6)) : fX9_isSlot a b h = some (0, h) := by
  simp only [fX9_isSlot, q_isCourt, am_b_some]
  (repeat' split) <;> first | rfl | omega
theorem e_held {hx hm : am_M} (r : Rel hx hm) (a b : Int) : Same (fX8_held a b hx) (fX9_held a b hm) := by
  simp only [fX8_held, fX9_held, p_findCourt, am_b_some]
  rw [am_on_if (fun h => by omega)]
  by_cases c1 : 0 ≤ a ∧ a < 6
  · obtain ⟨c, rfl⟩ := p_nat c1.1
    obtain ⟨q, e1, e2, h6⟩ := r.n16 (c := c) (by omega)
    rw [Int.toNat_natCast, q_isSlot c b hm (by omega) (by omega)]
    simp only [p_hasSlot, am_b_some, e1, e2]
    by_cases c2 : 0 ≤ b ∧ b < (q : Int)
    · obtain ⟨k, rfl⟩ := p_nat c2.1
      rw [show (6 : Int) = ((6 : Nat) : Int) from rfl, ix_w 6 c k (by omega)]
      simp only [Int.toNat_natCast]
      (repeat' split) <;> first | omega | exact Same.mk rfl r | exact Same.mk (r.kk (by omega) (by omega) _) r
    · (repeat' split) <;> first | omega | exact Same.mk rfl r
  · rw [q_isSlotN a b hm c1]
    (repeat' split) <;> first | omega | exact Same.mk rfl r | simp_all
/-- the loop of drop, on both sides -/
theorem e_dropL (c : Nat) (hc : c < 6) (q : Nat) (hq : q ≤ 5) : ∀ (m i : Nat) (hx hm : am_M), Rel hx hm → hx 16 c = q → q + 1 ≤ i + m → i ≤ q → ∃ hx' hm', am_it (fun _ _ _ => none) fX1_removeSlot_12b m c (i : Int) hx = some ((), hx') ∧ am_it (fun _ _ _ => none) fX9_drop_23b m (c : Int) (i : Int) hm = some ((q : Int), hm') ∧ Rel hx' hm' ∧ hx' 16 c = q := by
  intro m
  induction m with
  | zero => intro i hx hm _ _ h1 h2; omega
  | succ m ih =>
    intro i hx hm r e h1 h2
    have e2 : hm 16 c = q := by rw [← r.kk (k := 16) (by omega) (by omega), e]
    rw [am_it_s, am_it_s]
    unfold fX1_removeSlot_12b fX9_drop_23b
    simp only [e, e2, am_l, Int.toNat_natCast]
    by_cases ci : i < q
    · have w1 : am_w ((i : Int) + 1) = ((i + 1 : Nat) : Int) := by rw [pw (by omega) (by omega)]; push_cast; rfl
      have w2 : am_w (am_w ((6 : Int) * (c : Int)) + (i : Int)) = ((6 * c + i : Nat) : Int) := ix_w 6 c i (by omega)
      have w3 : am_w (((6 * c + i : Nat) : Int) + 1) = ((6 * c + (i + 1) : Nat) : Int) := by rw [pw (by omega) (by omega)]; push_cast; omega
      simp only [w1, w2, w3, Int.toNat_natCast]
      rw [if_pos (by omega), if_pos (by omega), if_pos (by omega), if_pos (by omega), if_pos (by omega), if_pos (by omega), if_pos (by omega), ← r.kk (k := 17) (by omega) (by omega)]
      exact ih (i + 1) _ _ (r.day17 _ _ (r.2.1.2.1 (6 * c + (i + 1)) (by omega))) (by rw [am_up_k _ _ _ _ (by decide)]; exact e) (by omega) (by omega)
    · rw [if_neg (by omega), if_pos (by omega), if_neg (by omega), if_pos (by omega)]
      exact ⟨hx, hm, rfl, rfl, r, e⟩
theorem e_drop {hx hm : am_M} (r : Rel hx hm) (a b : Int) : Same (fX8_drop a b hx) (fX9_drop a b hm) := by
  simp only [fX8_drop, fX9_drop, p_findCourt, am_b_some]
  rw [am_on_if (fun h => by omega)]
  by_cases c1 : 0 ≤ a ∧ a < 6
  · obtain ⟨c, rfl⟩ := p_nat c1.1
    obtain ⟨q, e1, e2, h6⟩ := r.n16 (c := c) (by omega)
    rw [Int.toNat_natCast, q_isSlot c b hm (by omega) (by omega)]
    simp only [p_hasSlot, am_b_some, e1, e2]
    by_cases c2 : 0 ≤ b ∧ b < (q : Int)
    · obtain ⟨k, rfl⟩ := p_nat c2.1
      obtain ⟨q', rfl⟩ : ∃ q', q = q' + 1 := ⟨q - 1, by omega⟩
      have w : am_w (((q' + 1 : Nat) : Int) - 1) = (q' : Int) := by rw [pw (by omega) (by omega)]; omega
      simp only [fX1_removeSlot, fX1_removeSlot_12, fX9_drop_23, am_l, e1, w]
      obtain ⟨hx', hm', f1, f2, r', e'⟩ := e_dropL c (by omega) q' (by omega) 400 k _ _ (r.day16 c (q' : Int) (by omega)) (am_up_s _ _ _ _) (by omega) (by omega)
      rw [f1, am_b_some, e']
      have c3 : (0 : Int) ≤ (c : Int) ∧ (c : Int) < 6 := c1
      simp only [c2, c3, and_self, if_true, if_false, Int.reduceEq, reduceIte, f2]
      exact Same.mk rfl r'
    · (repeat' split) <;> first | omega | exact Same.mk rfl r
  · rw [q_isSlotN a b hm c1]
    (repeat' split) <;> first | omega | exact Same.mk rfl r | simp_all
