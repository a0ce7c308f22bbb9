/-! ===== writes to one draw ===== -/
theorem RDx.ofl {hx hm hx' hm' : am_M} {d : Nat} (h : RDx hx hm d) (e1 : ∀ k, 0 < k → k < 6 → hx' k d = hx k d) (e16 : ∀ k, k = 6 ∨ k = 7 ∨ k = 9 ∨ k = 10 ∨ k = 20 ∨ k = 21 → lc hx' k d 16 = lc hx k d 16) (e8 : lc hx' 8 d 40 = lc hx 8 d 40) (e22 : lc hx' 22 d 160 = lc hx 22 d 160) (m16 : ∀ k, k = 7 ∨ k = 24 ∨ k = 25 → lc hm' k d 16 = lc hm k d 16) (m23 : lc hm' 23 d 4800 = lc hm 23 d 4800) : RDx hx' hm' d := by
  unfold RDx at *
  rw [e1 1 (by omega) (by omega), e1 2 (by omega) (by omega), e1 3 (by omega) (by omega), e1 4 (by omega) (by omega), e1 5 (by omega) (by omega), e16 6 (by omega), e16 7 (by omega), e8, e16 20 (by omega), e16 21 (by omega), e16 10 (by omega), e16 9 (by omega), e22, m16 7 (by omega), m23, m16 24 (by omega), m16 25 (by omega)]
  exact h
/-- a place of draw d in the class's memory -/
def ownx (d k ix : Nat) : Prop := (0 < k ∧ k < 6 ∧ ix = d) ∨ ((k = 6 ∨ k = 7 ∨ k = 9 ∨ k = 10 ∨ k = 20 ∨ k = 21) ∧ ∃ i, i < 16 ∧ ix = 16 * d + i) ∨ (k = 8 ∧ ∃ i, i < 40 ∧ ix = 40 * d + i) ∨ (k = 22 ∧ ∃ i, i < 160 ∧ ix = 160 * d + i)
def ownm (d k ix : Nat) : Prop := (k < 20 ∧ k ≠ 7) ∨ ((k = 7 ∨ k = 24 ∨ k = 25) ∧ ∃ i, i < 16 ∧ ix = 16 * d + i) ∨ (k = 23 ∧ ∃ i, i < 4800 ∧ ix = 4800 * d + i) ∨ 30 ≤ k
theorem RDx.ox {hx hm : am_M} {d d' k ix : Nat} {v : Int} (h : RDx hx hm d') (ho : ownx d k ix) (n : d' ≠ d) : RDx (am_up hx k ix v) hm d' := by
  refine h.ofl (fun a h0 h6 => ?_) (fun a ha => ?_) ?_ ?_ (fun _ _ => rfl) rfl
  · by_cases e : a = k
    · subst e
      rcases ho with ⟨_, _, rfl⟩ | ⟨q, _⟩ | ⟨q, _⟩ | ⟨q, _⟩
      · exact am_up_i _ _ _ n
      · omega
      · omega
      · omega
    · exact am_up_k _ _ _ _ e
  · by_cases e : a = k
    · subst e
      rcases ho with ⟨_, _, rfl⟩ | ⟨_, i, hi, rfl⟩ | ⟨q, _⟩ | ⟨q, _⟩
      · omega
      · exact lc_up_d _ _ _ hi n
      · omega
      · omega
    · exact lc_up_k _ _ _ _ _ e
  · by_cases e : 8 = k
    · subst e
      rcases ho with ⟨_, q, rfl⟩ | ⟨q, _⟩ | ⟨_, i, hi, rfl⟩ | ⟨q, _⟩
      · omega
      · omega
      · exact lc_up_d _ _ _ hi n
      · omega
    · exact lc_up_k _ _ _ _ _ e
  · by_cases e : 22 = k
    · subst e
      rcases ho with ⟨_, q, rfl⟩ | ⟨q, _⟩ | ⟨q, _⟩ | ⟨_, i, hi, rfl⟩
      · omega
      · omega
      · omega
      · exact lc_up_d _ _ _ hi n
    · exact lc_up_k _ _ _ _ _ e
theorem RDx.om {hx hm : am_M} {d d' k ix : Nat} {v : Int} (h : RDx hx hm d') (ho : ownm d k ix) (n : d' ≠ d) : RDx hx (am_up hm k ix v) d' := by
  refine h.ofl (fun _ _ _ => rfl) (fun _ _ => rfl) rfl rfl (fun a ha => ?_) ?_
  · by_cases e : a = k
    · subst e
      rcases ho with ⟨_, q⟩ | ⟨_, i, hi, rfl⟩ | ⟨q, _⟩ | q
      · omega
      · exact lc_up_d _ _ _ hi n
      · omega
      · omega
    · exact lc_up_k _ _ _ _ _ e
  · by_cases e : 23 = k
    · subst e
      rcases ho with ⟨_, q⟩ | ⟨q, _⟩ | ⟨_, i, hi, rfl⟩ | q
      · omega
      · omega
      · exact lc_up_d _ _ _ hi n
      · omega
    · exact lc_up_k _ _ _ _ _ e
/-- all but draw d -/
def RelO (d : Nat) (hx hm : am_M) : Prop := (∀ k, k < 20 → k ≠ 7 → hx k = hm k) ∧ DY (hx 12) (hx 13) (hx 15) (hx 16) (hx 17) (hx 18) (hx 19) ∧ ∀ d', d' < 4 → d' ≠ d → RDx hx hm d'
theorem Rel.O {hx hm : am_M} (r : Rel hx hm) (d : Nat) : RelO d hx hm := ⟨r.1, r.2.1, fun d' h _ => r.2.2 d' h⟩
theorem RelO.R {d : Nat} {hx hm : am_M} (r : RelO d hx hm) (h : RDx hx hm d) : Rel hx hm := ⟨r.1, r.2.1, fun d' h' => if e : d' = d then e ▸ h else r.2.2 d' h' e⟩
theorem ownx_day {d k ix : Nat} (h : ownx d k ix) : k < 12 ∨ 20 ≤ k := by
  rcases h with q | q | q | q <;> omega
theorem DY_up {hx : am_M} {k ix : Nat} {v : Int} (hk : k < 12 ∨ 20 ≤ k) (h : DY (hx 12) (hx 13) (hx 15) (hx 16) (hx 17) (hx 18) (hx 19)) : DY (am_up hx k ix v 12) (am_up hx k ix v 13) (am_up hx k ix v 15) (am_up hx k ix v 16) (am_up hx k ix v 17) (am_up hx k ix v 18) (am_up hx k ix v 19) := by
  rw [am_up_ne hx ix v (show 12 ≠ k by omega), am_up_ne hx ix v (show 13 ≠ k by omega), am_up_ne hx ix v (show 15 ≠ k by omega), am_up_ne hx ix v (show 16 ≠ k by omega), am_up_ne hx ix v (show 17 ≠ k by omega), am_up_ne hx ix v (show 18 ≠ k by omega), am_up_ne hx ix v (show 19 ≠ k by omega)]
  exact h
/-- the same write on both sides -/
theorem RelO.both {d : Nat} {hx hm : am_M} (r : RelO d hx hm) {k ix : Nat} (v : Int) (h20 : k < 20) (h7 : k ≠ 7) (ho : ownx d k ix) : RelO d (am_up hx k ix v) (am_up hm k ix v) :=
  ⟨up_eq r.1 k ix v, DY_up (ownx_day ho) r.2.1, fun d' h n => ((r.2.2 d' h n).ox ho n).om (d := d) (Or.inl ⟨h20, h7⟩) n⟩
theorem RelO.x {d : Nat} {hx hm : am_M} (r : RelO d hx hm) {k ix : Nat} (v : Int) (h20 : 20 ≤ k ∨ k = 7) (ho : ownx d k ix) : RelO d (am_up hx k ix v) hm :=
  ⟨fun a ha h7 => by rw [am_up_ne hx ix v (by omega)]; exact r.1 a ha h7, DY_up (ownx_day ho) r.2.1, fun d' h n => (r.2.2 d' h n).ox ho n⟩
theorem RelO.m {d : Nat} {hx hm : am_M} (r : RelO d hx hm) {k ix : Nat} (v : Int) (h20 : 20 ≤ k ∨ k = 7) (ho : ownm d k ix) : RelO d hx (am_up hm k ix v) :=
  ⟨fun a ha h7 => by rw [am_up_ne hm ix v (by omega)]; exact r.1 a ha h7, r.2.1, fun d' h n => (r.2.2 d' h n).om ho n⟩
theorem RelO.sc {d : Nat} {hx hm hx' hm' : am_M} (r : RelO d hx hm) (a : sc hx hx') (b : sc hm hm') : RelO d hx' hm' := by
  obtain ⟨r1, r2, r3⟩ := r
  refine ⟨fun k hk h7 => by rw [a k (by omega), b k (by omega)]; exact r1 k hk h7, ?_, fun d hd n => (r3 d hd n).of (fun k hk _ _ => a k (Or.inl hk)) (fun k hk _ => b k (Or.inl hk))⟩
  rw [a 12 (by omega), a 13 (by omega), a 15 (by omega), a 16 (by omega), a 17 (by omega), a 18 (by omega), a 19 (by omega)]
  exact r2
theorem ow1 {d k : Nat} (h : 0 < k ∧ k < 6) : ownx d k d := Or.inl ⟨h.1, h.2, rfl⟩
theorem ow16 {d k i : Nat} (h : k = 6 ∨ k = 7 ∨ k = 9 ∨ k = 10 ∨ k = 20 ∨ k = 21) (hi : i < 16) : ownx d k (16 * d + i) := Or.inr (Or.inl ⟨h, i, hi, rfl⟩)
theorem ow8 {d i : Nat} (hi : i < 40) : ownx d 8 (40 * d + i) := Or.inr (Or.inr (Or.inl ⟨rfl, i, hi, rfl⟩))
theorem ow22 {d i : Nat} (hi : i < 160) : ownx d 22 (160 * d + i) := Or.inr (Or.inr (Or.inr ⟨rfl, i, hi, rfl⟩))
theorem om16 {d k i : Nat} (h : k = 7 ∨ k = 24 ∨ k = 25) (hi : i < 16) : ownm d k (16 * d + i) := Or.inr (Or.inl ⟨h, i, hi, rfl⟩)
theorem om23 {d i : Nat} (hi : i < 4800) : ownm d 23 (4800 * d + i) := Or.inr (Or.inr (Or.inl ⟨rfl, i, hi, rfl⟩))
/-- what a draw is -/
theorem Rel.sz {hx hm : am_M} (r : Rel hx hm) {d : Nat} (hd : d < 4) : hx 1 d = 0 ∨ hx 1 d = 4 ∨ hx 1 d = 8 ∨ hx 1 d = 16 := (r.2.2 d hd).1
theorem e_place {hx hm : am_M} (r : Rel hx hm) (a b : Int) : Same (fX8_place a b hx) (fX9_place a b hm) := by
  simp only [fX8_place, fX9_place, p_findDraw, q_isDraw, p_in, am_b_some]
  rw [am_on_if (fun h => by omega)]
  by_cases c1 : 0 ≤ a ∧ a < 4
  · obtain ⟨d, rfl⟩ := p_nat c1.1
    have hd : d < 4 := by omega
    rw [Int.toNat_natCast, ← r.kk (k := 1) (by omega) (by omega), ← r.kk (k := 5) (by omega) (by omega)]
    have hs := r.sz hd
    rw [pw (x := hx 1 d - 1) (by omega) (by omega)]
    by_cases c2 : 0 ≤ b ∧ b < hx 1 d ∧ hx 5 d ≠ 0
    · obtain ⟨p, rfl⟩ := p_nat c2.1
      rw [q_at d p hd (by omega), am_b_some]
      have hl := ((r.2.2 d hd).2.2.2.2.2.2.2.2.2.2 (by have := (r.2.2 d hd).2.2.2.2.1; omega)).2.1 p (by omega)
      rw [lc_at _ _ _ (by omega), lc_at _ _ _ (by omega)] at hl
      (repeat' split) <;> first | omega | exact Same.mk rfl r | exact Same.mk hl.2.2.symm r
    · (repeat' split) <;> first | omega | exact Same.mk rfl r
  · (repeat' split) <;> first | omega | exact Same.mk rfl r
theorem e_seeds {hx hm : am_M} (r : Rel hx hm) (a b : Int) : Same (fX8_seeds a b hx) (fX9_seeds a b hm) := by
  simp only [fX8_seeds, fX9_seeds, p_findDraw, q_isDraw, p_in, am_b_some, am_l]
  rw [am_on_if (fun h => by omega)]
  by_cases c1 : 0 ≤ a ∧ a < 4
  · obtain ⟨d, rfl⟩ := p_nat c1.1
    have hd : d < 4 := by omega
    rw [Int.toNat_natCast, ← r.kk (k := 1) (by omega) (by omega), ← r.kk (k := 5) (by omega) (by omega)]
    have hs := r.sz hd
    by_cases c2 : hx 5 d = 0
    · by_cases c3 : 0 ≤ b ∧ b ≤ 4
      · have key : Rel (am_up hx 4 d b) (am_up hm 4 d b) := by
          refine ((r.O d).both b (by omega) (by omega) (ow1 (by omega))).R ?_
          have h0 := r.2.2 d hd
          unfold RDx at *
          simp only [lc_up_k _ _ _ _ _ (show (6 : Nat) ≠ 4 by decide), lc_up_k _ _ _ _ _ (show (7 : Nat) ≠ 4 by decide), lc_up_k _ _ _ _ _ (show (8 : Nat) ≠ 4 by decide), lc_up_k _ _ _ _ _ (show (9 : Nat) ≠ 4 by decide), lc_up_k _ _ _ _ _ (show (10 : Nat) ≠ 4 by decide), lc_up_k _ _ _ _ _ (show (20 : Nat) ≠ 4 by decide), lc_up_k _ _ _ _ _ (show (21 : Nat) ≠ 4 by decide), lc_up_k _ _ _ _ _ (show (22 : Nat) ≠ 4 by decide), lc_up_k _ _ _ _ _ (show (23 : Nat) ≠ 4 by decide), lc_up_k _ _ _ _ _ (show (24 : Nat) ≠ 4 by decide), lc_up_k _ _ _ _ _ (show (25 : Nat) ≠ 4 by decide), am_up_k _ _ _ _ (show (1 : Nat) ≠ 4 by decide), am_up_k _ _ _ _ (show (2 : Nat) ≠ 4 by decide), am_up_k _ _ _ _ (show (3 : Nat) ≠ 4 by decide), am_up_k _ _ _ _ (show (5 : Nat) ≠ 4 by decide), am_up_s]
          exact ⟨h0.1, h0.2.1, h0.2.2.1, c3, h0.2.2.2.2⟩
        (repeat' split) <;> first | omega | exact Same.mk rfl r | exact Same.mk rfl key
      · (repeat' split) <;> first | omega | exact Same.mk rfl r
    · (repeat' split) <;> first | omega | exact Same.mk rfl r
  · (repeat' split) <;> first | omega | exact Same.mk rfl r
