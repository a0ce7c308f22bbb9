/-! ===== a new draw, an entrant ===== -/
theorem up_comm (h : am_M) {k k' : Nat} (i j : Nat) (v w : Int) (n : k ≠ k') : am_up (am_up h k i v) k' j w = am_up (am_up h k' j w) k i v := by
  funext a b
  unfold am_up
  by_cases e1 : a = k'
  · have : a ≠ k := by omega
    simp [e1, Ne.symm n]
  · simp [e1]
theorem e_enter {hx hm : am_M} (r : Rel hx hm) (a b : Int) : Same (fX8_enter a b hx) (fX9_enter a b hm) := by
  simp only [fX8_enter, fX9_enter, p_findDraw, q_isDraw, p_isPlayer, q_isPlayer, am_b_some, am_l]
  rw [am_on_if (fun h => by omega)]
  by_cases c1 : 0 ≤ a ∧ a < 4
  · obtain ⟨d, rfl⟩ := p_nat c1.1
    have hd : d < 4 := by omega
    rw [Int.toNat_natCast, ← r.kk (k := 1) (by omega) (by omega), ← r.kk (k := 5) (by omega) (by omega)]
    have hs := r.sz hd
    by_cases c2 : 0 ≤ b ∧ b < 40
    · obtain ⟨p, rfl⟩ := p_nat c2.1
      have e40 : am_w (am_w ((40 : Int) * (d : Int)) + (p : Int)) = ((40 * d + p : Nat) : Int) := ix_w 40 d p (by omega)
      have h0 := r.2.2 d hd
      obtain ⟨q, hq⟩ := p_nat h0.2.2.1.1
      have hqm : hm 3 d = q := by rw [← r.kk (k := 3) (by omega) (by omega)]; exact hq
      have e16 : am_w (am_w ((16 : Int) * (d : Int)) + (q : Int)) = ((16 * d + q : Nat) : Int) := ix_w 16 d q (by have := h0.2.2.1; omega)
      simp only [e40, Int.toNat_natCast, fX2_admit, am_l, hq, hqm, ← r.kk (k := 8) (by omega) (by omega), am_up_k _ _ _ _ (show (3 : Nat) ≠ 8 by decide), am_up_k _ _ _ _ (show (3 : Nat) ≠ 6 by decide), am_up_s, e16]
      have w1 : am_w ((q : Int) + 1) = ((q + 1 : Nat) : Int) := by rw [pw (by have := h0.2.2.1; omega) (by have := h0.2.2.1; omega)]; push_cast; rfl
      simp only [w1]
      by_cases c3 : hx 5 d = 0 ∧ hx 8 (40 * d + p) = 0 ∧ (q : Int) < hx 1 d
      · have hql : q < 16 := by omega
        have key : Rel (am_up (am_up (am_up hx 6 (16 * d + q) (p : Int)) 8 (40 * d + p) 1) 3 d ((q + 1 : Nat) : Int)) (am_up (am_up (am_up hm 8 (40 * d + p) 1) 6 (16 * d + q) (p : Int)) 3 d ((q + 1 : Nat) : Int)) := by
          rw [up_comm hm _ _ _ _ (show (8 : Nat) ≠ 6 by decide)]
          refine ((((r.O d).both (p : Int) (by omega) (by omega) (ow16 (k := 6) (by omega) hql)).both 1 (by omega) (by omega) (ow8 (by omega))).both _ (by omega) (by omega) (ow1 (k := 3) (by omega))).R ?_
          unfold RDx at *
          simp only [am_up_k _ _ _ _ (show (1 : Nat) ≠ 3 by decide), am_up_k _ _ _ _ (show (2 : Nat) ≠ 3 by decide), am_up_k _ _ _ _ (show (4 : Nat) ≠ 3 by decide), am_up_k _ _ _ _ (show (5 : Nat) ≠ 3 by decide), lc_up_k _ _ _ _ _ (show (6 : Nat) ≠ 3 by decide), lc_up_k _ _ _ _ _ (show (7 : Nat) ≠ 3 by decide), lc_up_k _ _ _ _ _ (show (8 : Nat) ≠ 3 by decide), lc_up_k _ _ _ _ _ (show (9 : Nat) ≠ 3 by decide), lc_up_k _ _ _ _ _ (show (10 : Nat) ≠ 3 by decide), lc_up_k _ _ _ _ _ (show (20 : Nat) ≠ 3 by decide), lc_up_k _ _ _ _ _ (show (21 : Nat) ≠ 3 by decide), lc_up_k _ _ _ _ _ (show (22 : Nat) ≠ 3 by decide), lc_up_k _ _ _ _ _ (show (23 : Nat) ≠ 3 by decide), lc_up_k _ _ _ _ _ (show (24 : Nat) ≠ 3 by decide), lc_up_k _ _ _ _ _ (show (25 : Nat) ≠ 3 by decide), am_up_s]
          simp only [am_up_k _ _ _ _ (show (1 : Nat) ≠ 8 by decide), am_up_k _ _ _ _ (show (2 : Nat) ≠ 8 by decide), am_up_k _ _ _ _ (show (3 : Nat) ≠ 8 by decide), am_up_k _ _ _ _ (show (4 : Nat) ≠ 8 by decide), am_up_k _ _ _ _ (show (5 : Nat) ≠ 8 by decide), lc_up_k _ _ _ _ _ (show (6 : Nat) ≠ 8 by decide), lc_up_k _ _ _ _ _ (show (7 : Nat) ≠ 8 by decide), lc_up_k _ _ _ _ _ (show (9 : Nat) ≠ 8 by decide), lc_up_k _ _ _ _ _ (show (10 : Nat) ≠ 8 by decide), lc_up_k _ _ _ _ _ (show (20 : Nat) ≠ 8 by decide), lc_up_k _ _ _ _ _ (show (21 : Nat) ≠ 8 by decide), lc_up_k _ _ _ _ _ (show (22 : Nat) ≠ 8 by decide), lc_up_k _ _ _ _ _ (show (23 : Nat) ≠ 8 by decide), lc_up_k _ _ _ _ _ (show (24 : Nat) ≠ 8 by decide), lc_up_k _ _ _ _ _ (show (25 : Nat) ≠ 8 by decide), lc_up_s _ _ _ _ (show p < 40 by omega)]
          simp only [am_up_k _ _ _ _ (show (1 : Nat) ≠ 6 by decide), am_up_k _ _ _ _ (show (2 : Nat) ≠ 6 by decide), am_up_k _ _ _ _ (show (3 : Nat) ≠ 6 by decide), am_up_k _ _ _ _ (show (4 : Nat) ≠ 6 by decide), am_up_k _ _ _ _ (show (5 : Nat) ≠ 6 by decide), lc_up_k _ _ _ _ _ (show (7 : Nat) ≠ 6 by decide), lc_up_k _ _ _ _ _ (show (8 : Nat) ≠ 6 by decide), lc_up_k _ _ _ _ _ (show (9 : Nat) ≠ 6 by decide), lc_up_k _ _ _ _ _ (show (10 : Nat) ≠ 6 by decide), lc_up_k _ _ _ _ _ (show (20 : Nat) ≠ 6 by decide), lc_up_k _ _ _ _ _ (show (21 : Nat) ≠ 6 by decide), lc_up_k _ _ _ _ _ (show (22 : Nat) ≠ 6 by decide), lc_up_k _ _ _ _ _ (show (23 : Nat) ≠ 6 by decide), lc_up_k _ _ _ _ _ (show (24 : Nat) ≠ 6 by decide), lc_up_k _ _ _ _ _ (show (25 : Nat) ≠ 6 by decide), lc_up_s _ _ _ _ hql]
          rw [hq] at h0
          obtain ⟨z1, z2, z3, z4, z5, z6, z7, z8, z9, z10, z11⟩ := h0
          have hcp : lc hx 8 d 40 p = 0 := by rw [lc_at _ _ _ (by omega)]; exact c3.2.1
          refine ⟨z1, z2, ⟨by omega, by omega⟩, z4, z5, fun i hi => ?_, fun i j hi hj e => ?_, fun x hx' => ?_, z9, z10, fun e => by omega⟩
          · by_cases e : i = q
            · subst e
              rw [up1_s, Int.toNat_natCast, up1_s]
              exact ⟨by omega, by omega, rfl⟩
            · rw [up1_n _ _ e]
              obtain ⟨y1, y2, y3⟩ := z6 i (by omega)
              refine ⟨y1, y2, ?_⟩
              unfold up1
              split
              · rfl
              · exact y3
          · have key2 : ∀ i : Nat, (i : Int) < q → lc hx 6 d 16 i ≠ (p : Int) := fun i hi e => by
              obtain ⟨y1, y2, y3⟩ := z6 i hi
              rw [e, Int.toNat_natCast, hcp] at y3
              omega
            by_cases e1 : i = q
            · by_cases e2 : j = q
              · omega
              · subst e1
                rw [up1_s, up1_n _ _ e2] at e
                exact absurd e.symm (key2 j (by omega))
            · by_cases e2 : j = q
              · subst e2
                rw [up1_s, up1_n _ _ e1] at e
                exact absurd e (key2 i (by omega))
              · rw [up1_n _ _ e1, up1_n _ _ e2] at e
                exact z7 i j (by omega) (by omega) e
          · unfold up1
            split
            · exact Or.inr rfl
            · exact z8 x hx'
        (repeat' split) <;> first | omega | exact Same.mk rfl r | exact Same.mk (am_up_s (am_up (am_up hx 6 (16 * d + q) (p : Int)) 8 (40 * d + p) 1) 3 d ((q + 1 : Nat) : Int)) key
      · have h88 := h0.2.2.2.2.2.2.2.1 p (by omega)
        have h3 := h0.2.2.1
        rw [hq] at h3
        (repeat' split) <;> first | omega | exact Same.mk rfl r
    · (repeat' split) <;> first | omega | exact Same.mk rfl r
  · (repeat' split) <;> first | omega | exact Same.mk rfl r
