/-! ===== calls on lands, courts, rules, slots, worths ===== -/
theorem Rel.kk {hx hm : am_M} (r : Rel hx hm) {k : Nat} (h : k < 20) (h7 : k ≠ 7) (i : Nat) : hx k i = hm k i := by rw [r.1 k h h7]
theorem Rel.day0 {hx hm : am_M} (r : Rel hx hm) (k i : Nat) (v : Int) (hk : k = 0 ∨ k = 11 ∨ k = 14) : Rel (am_up hx k i v) (am_up hm k i v) := by
  refine r.day k i v (by omega) ?_
  rw [am_up_ne hx i v (show 12 ≠ k by omega), am_up_ne hx i v (show 13 ≠ k by omega), am_up_ne hx i v (show 15 ≠ k by omega), am_up_ne hx i v (show 16 ≠ k by omega), am_up_ne hx i v (show 17 ≠ k by omega), am_up_ne hx i v (show 18 ≠ k by omega), am_up_ne hx i v (show 19 ≠ k by omega)]
  exact r.2.1
theorem up1_c {f : Nat → Int} {Q : Int → Prop} {n i : Nat} {v : Int} (h : ∀ c, c < n → Q (f c)) (hv : Q v) : ∀ c, c < n → Q (up1 f i v c) := by
  intro c hc
  unfold up1
  split
  · exact hv
  · exact h c hc
theorem Rel.day12 {hx hm : am_M} (r : Rel hx hm) (i : Nat) (v : Int) (hv : v = 0 ∨ v = 1) : Rel (am_up hx 12 i v) (am_up hm 12 i v) := by
  refine r.day 12 i v (by omega) ?_
  rw [am_up_at, am_up_ne hx i v (show 13 ≠ 12 by omega), am_up_ne hx i v (show 15 ≠ 12 by omega), am_up_ne hx i v (show 16 ≠ 12 by omega), am_up_ne hx i v (show 17 ≠ 12 by omega), am_up_ne hx i v (show 18 ≠ 12 by omega), am_up_ne hx i v (show 19 ≠ 12 by omega)]
  exact ⟨fun c hc => ⟨up1_c (Q := fun x => x = 0 ∨ x = 1) (fun c hc => (r.2.1.1 c hc).1) hv c hc, (r.2.1.1 c hc).2⟩, r.2.1.2⟩
theorem Rel.day13 {hx hm : am_M} (r : Rel hx hm) (i : Nat) (v : Int) (hv : v = 0 ∨ v = 1) : Rel (am_up hx 13 i v) (am_up hm 13 i v) := by
  refine r.day 13 i v (by omega) ?_
  rw [am_up_at, am_up_ne hx i v (show 12 ≠ 13 by omega), am_up_ne hx i v (show 15 ≠ 13 by omega), am_up_ne hx i v (show 16 ≠ 13 by omega), am_up_ne hx i v (show 17 ≠ 13 by omega), am_up_ne hx i v (show 18 ≠ 13 by omega), am_up_ne hx i v (show 19 ≠ 13 by omega)]
  exact ⟨fun c hc => ⟨(r.2.1.1 c hc).1, up1_c (Q := fun x => x = 0 ∨ x = 1) (fun c hc => (r.2.1.1 c hc).2.1) hv c hc, (r.2.1.1 c hc).2.2⟩, r.2.1.2⟩
theorem Rel.day15 {hx hm : am_M} (r : Rel hx hm) (i : Nat) (v : Int) (hv : 0 ≤ v ∧ v ≤ 100000) : Rel (am_up hx 15 i v) (am_up hm 15 i v) := by
  refine r.day 15 i v (by omega) ?_
  rw [am_up_at, am_up_ne hx i v (show 12 ≠ 15 by omega), am_up_ne hx i v (show 13 ≠ 15 by omega), am_up_ne hx i v (show 16 ≠ 15 by omega), am_up_ne hx i v (show 17 ≠ 15 by omega), am_up_ne hx i v (show 18 ≠ 15 by omega), am_up_ne hx i v (show 19 ≠ 15 by omega)]
  exact ⟨fun c hc => ⟨(r.2.1.1 c hc).1, (r.2.1.1 c hc).2.1, up1_c (Q := fun x => 0 ≤ x ∧ x ≤ 100000) (fun c hc => (r.2.1.1 c hc).2.2.1) hv c hc, (r.2.1.1 c hc).2.2.2⟩, r.2.1.2⟩
theorem Rel.day16 {hx hm : am_M} (r : Rel hx hm) (i : Nat) (v : Int) (hv : 0 ≤ v ∧ v ≤ 6) : Rel (am_up hx 16 i v) (am_up hm 16 i v) := by
  refine r.day 16 i v (by omega) ?_
  rw [am_up_at, am_up_ne hx i v (show 12 ≠ 16 by omega), am_up_ne hx i v (show 13 ≠ 16 by omega), am_up_ne hx i v (show 15 ≠ 16 by omega), am_up_ne hx i v (show 17 ≠ 16 by omega), am_up_ne hx i v (show 18 ≠ 16 by omega), am_up_ne hx i v (show 19 ≠ 16 by omega)]
  exact ⟨fun c hc => ⟨(r.2.1.1 c hc).1, (r.2.1.1 c hc).2.1, (r.2.1.1 c hc).2.2.1, up1_c (Q := fun x => 0 ≤ x ∧ x ≤ 6) (fun c hc => (r.2.1.1 c hc).2.2.2) hv c hc⟩, r.2.1.2⟩
theorem Rel.day17 {hx hm : am_M} (r : Rel hx hm) (i : Nat) (v : Int) (hv : -1000 ≤ v ∧ v < 64 ∧ (0 ≤ v → v % 16 ≠ 15)) : Rel (am_up hx 17 i v) (am_up hm 17 i v) := by
  refine r.day 17 i v (by omega) ?_
  rw [am_up_at, am_up_ne hx i v (show 12 ≠ 17 by omega), am_up_ne hx i v (show 13 ≠ 17 by omega), am_up_ne hx i v (show 15 ≠ 17 by omega), am_up_ne hx i v (show 16 ≠ 17 by omega), am_up_ne hx i v (show 18 ≠ 17 by omega), am_up_ne hx i v (show 19 ≠ 17 by omega)]
  exact ⟨r.2.1.1, up1_c (Q := fun x => -1000 ≤ x ∧ x < 64 ∧ (0 ≤ x → x % 16 ≠ 15)) r.2.1.2.1 hv, r.2.1.2.2⟩
theorem Rel.day18 {hx hm : am_M} (r : Rel hx hm) (i : Nat) (v : Int) (hi : i < 4) (hv : 0 ≤ v ∧ (i < 3 → v ≤ 2000) ∧ v ≤ 100000) : Rel (am_up hx 18 i v) (am_up hm 18 i v) := by
  refine r.day 18 i v (by omega) ?_
  rw [am_up_at, am_up_ne hx i v (show 12 ≠ 18 by omega), am_up_ne hx i v (show 13 ≠ 18 by omega), am_up_ne hx i v (show 15 ≠ 18 by omega), am_up_ne hx i v (show 16 ≠ 18 by omega), am_up_ne hx i v (show 17 ≠ 18 by omega), am_up_ne hx i v (show 19 ≠ 18 by omega)]
  refine ⟨r.2.1.1, r.2.1.2.1, fun q hq => ?_, ?_, r.2.1.2.2.2.2⟩
  · unfold up1
    split
    · have := hv.2.1 (by omega); omega
    · exact r.2.1.2.2.1 q hq
  · unfold up1
    split
    · omega
    · exact r.2.1.2.2.2.1
theorem Rel.day19 {hx hm : am_M} (r : Rel hx hm) (i : Nat) (v : Int) (hv : v = 0 ∨ v = 1) : Rel (am_up hx 19 i v) (am_up hm 19 i v) := by
  refine r.day 19 i v (by omega) ?_
  rw [am_up_at, am_up_ne hx i v (show 12 ≠ 19 by omega), am_up_ne hx i v (show 13 ≠ 19 by omega), am_up_ne hx i v (show 15 ≠ 19 by omega), am_up_ne hx i v (show 16 ≠ 19 by omega), am_up_ne hx i v (show 17 ≠ 19 by omega), am_up_ne hx i v (show 18 ≠ 19 by omega)]
  refine ⟨r.2.1.1, r.2.1.2.1, r.2.1.2.2.1, r.2.1.2.2.2.1, ?_⟩
  unfold up1
  split
  · exact hv
  · exact r.2.1.2.2.2.2
theorem e_land {hx hm : am_M} (r : Rel hx hm) (a b : Int) : Same (fX8_land a b hx) (fX9_land a b hm) := by
  simp only [fX8_land, fX9_land, p_isPlayer, q_isPlayer, p_in, am_b_some, am_l]
  (repeat' split) <;> first | omega | exact Same.mk rfl r | exact Same.mk (r.kk (by omega) (by omega) _) (r.day0 0 _ _ (by omega))
theorem e_worth {hx hm : am_M} (r : Rel hx hm) (a b : Int) : Same (fX8_worth a b hx) (fX9_worth a b hm) := by
  simp only [fX8_worth, fX9_worth, p_isMatchCode, q_isAnyMatch, p_in, am_b_some, am_l]
  (repeat' split) <;> first | omega | exact Same.mk rfl r | exact Same.mk rfl (r.day0 11 _ _ (by omega))
theorem e_rule {hx hm : am_M} (r : Rel hx hm) (a b : Int) : Same (fX8_rule a b hx) (fX9_rule a b hm) := by
  simp only [fX8_rule, fX9_rule, fX8_rule_29, fX9_rule_37, q_isMinute, p_in, am_b_some, am_l]
  (repeat' split) <;> first | omega | exact Same.mk rfl r | exact Same.mk (r.kk (by omega) (by omega) _) (r.day18 _ _ (by omega) (by omega))
theorem e_rain {hx hm : am_M} (r : Rel hx hm) (a : Int) (ha : a = 0 ∨ a = 1) : Same (fX8_rain a hx) (fX9_rain a hm) := by
  simp only [fX8_rain, fX9_rain, fX8_rain_16, fX9_rain_13, am_l]
  have := r.kk (k := 19) (by omega) (by omega) 0
  (repeat' split) <;> first | omega | exact Same.mk rfl (r.day19 _ _ ha) | simp_all
theorem am_on_if {β : Type} {c : Prop} [Decidable c] {b n d : Nat} {z : Option β} {K : Nat → Option β} (h : c → d < n) : am_on (if c then some (b + d) else none) b n z K = if c then K d else z := by
  by_cases hc : c
  · rw [if_pos hc, if_pos hc, am_on_some (h hc)]
  · rw [if_neg hc, if_neg hc]; rfl
theorem e_court {hx hm : am_M} (r : Rel hx hm) (a b c e f : Int) (hb : b = 0 ∨ b = 1) (hc : c = 0 ∨ c = 1) : Same (fX8_court a b c e f hx) (fX9_court a b c e f hm) := by
  simp only [fX8_court, fX9_court, p_findCourt, q_isCourt, p_isMinute, q_isMinute, p_in, am_b_some, am_l]
  rw [am_on_if (fun h => by omega)]
  (repeat' split) <;> first | omega | exact Same.mk rfl r | exact Same.mk rfl ((((r.day12 _ _ hb).day13 _ _ hc).day0 14 _ _ (by omega)).day15 _ _ (by omega))
