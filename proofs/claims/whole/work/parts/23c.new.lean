/-! ===== a new draw ===== -/
theorem am_up_j (h : am_M) (k : Nat) {i j : Nat} (v : Int) (a : Nat) (n : j ≠ i) : am_up h k i v a j = h a j := by
  unfold am_up
  split
  · first | rw [if_neg n] | rfl
  · rfl
theorem w5_k (h : am_M) (ix : Nat) (v1 v2 v3 v4 v5 : Int) {k : Nat} (n : k ≠ 7 ∧ k ≠ 20 ∧ k ≠ 21 ∧ k ≠ 10 ∧ k ≠ 9) (j : Nat) : am_up (am_up (am_up (am_up (am_up h 7 ix v1) 20 ix v2) 21 ix v3) 10 ix v4) 9 ix v5 k j = h k j := by
  rw [am_up_k _ _ _ _ n.2.2.2.2, am_up_k _ _ _ _ n.2.2.2.1, am_up_k _ _ _ _ n.2.2.1, am_up_k _ _ _ _ n.2.1, am_up_k _ _ _ _ n.1]
theorem w5_j (h : am_M) {ix j : Nat} (v1 v2 v3 v4 v5 : Int) (k : Nat) (n : j ≠ ix) : am_up (am_up (am_up (am_up (am_up h 7 ix v1) 20 ix v2) 21 ix v3) 10 ix v4) 9 ix v5 k j = h k j := by
  rw [am_up_j _ _ _ _ n, am_up_j _ _ _ _ n, am_up_j _ _ _ _ n, am_up_j _ _ _ _ n, am_up_j _ _ _ _ n]
theorem w5_s (h : am_M) (ix : Nat) (v1 v2 v3 v4 v5 : Int) : am_up (am_up (am_up (am_up (am_up h 7 ix v1) 20 ix v2) 21 ix v3) 10 ix v4) 9 ix v5 9 ix = v5 ∧ am_up (am_up (am_up (am_up (am_up h 7 ix v1) 20 ix v2) 21 ix v3) 10 ix v4) 9 ix v5 10 ix = v4 ∧ am_up (am_up (am_up (am_up (am_up h 7 ix v1) 20 ix v2) 21 ix v3) 10 ix v4) 9 ix v5 20 ix = v2 ∧ am_up (am_up (am_up (am_up (am_up h 7 ix v1) 20 ix v2) 21 ix v3) 10 ix v4) 9 ix v5 21 ix = v3 := by
  refine ⟨am_up_s _ _ _ _, ?_, ?_, ?_⟩
  · rw [am_up_k _ _ _ _ (by decide), am_up_s]
  · rw [am_up_k _ _ _ _ (by decide), am_up_k _ _ _ _ (by decide), am_up_k _ _ _ _ (by decide), am_up_s]
  · rw [am_up_k _ _ _ _ (by decide), am_up_k _ _ _ _ (by decide), am_up_s]
theorem w3_s (h : am_M) (ix : Nat) (v1 v2 v3 : Int) : am_up (am_up (am_up h 9 ix v1) 24 ix v2) 10 ix v3 24 ix = v2 := by
  rw [am_up_k _ _ _ _ (by decide), am_up_s]
theorem w3_j (h : am_M) {ix j : Nat} (v1 v2 v3 : Int) (k : Nat) (n : j ≠ ix) : am_up (am_up (am_up h 9 ix v1) 24 ix v2) 10 ix v3 k j = h k j := by
  rw [am_up_j _ _ _ _ n, am_up_j _ _ _ _ n, am_up_j _ _ _ _ n]
/-- one turn of the class's second loop, and of the reference's -/
theorem rn_s (K : Nat → Int → am_M → Option (Unit × am_M)) (d i : Nat) (h : am_M) (hi : i < 16) : fX2_renew_48b K d (i : Int) h = K d ((i + 1 : Nat) : Int) (am_up (am_up (am_up (am_up (am_up h 7 (16 * d + i) (-2)) 20 (16 * d + i) 0) 21 (16 * d + i) 0) 10 (16 * d + i) (-1)) 9 (16 * d + i) 0) := by
  unfold fX2_renew_48b
  have w1 : am_w ((i : Int) + 1) = ((i + 1 : Nat) : Int) := by rw [pw (by omega) (by omega)]; push_cast; rfl
  rw [if_pos (by omega), if_pos (by omega), am_l_eq, if_pos (by omega), am_l_eq, if_pos (by omega), am_l_eq, if_pos (by omega), am_l_eq, if_pos (by omega), am_l_eq, w1, Int.toNat_natCast]
theorem rn_m (K : Int → Int → am_M → Option (Int × am_M)) (d i : Nat) (h : am_M) (hd : d < 4) (hi : i < 16) : fX9_draw_104b K (d : Int) (i : Int) h = K (d : Int) ((i + 1 : Nat) : Int) (am_up (am_up (am_up h 9 (16 * d + i) 0) 24 (16 * d + i) 0) 10 (16 * d + i) (-1)) := by
  have w1 : am_w ((i : Int) + 1) = ((i + 1 : Nat) : Int) := by rw [pw (by omega) (by omega)]; push_cast; rfl
  have w2 : am_w (am_w ((16 : Int) * (d : Int)) + (i : Int)) = ((16 * d + i : Nat) : Int) := ix_w 16 d i (by omega)
  have c : fX9_clear ((16 * d + i : Nat) : Int) h = some ((), am_up (am_up (am_up h 9 (16 * d + i) 0) 24 (16 * d + i) 0) 10 (16 * d + i) (-1)) := by
    unfold fX9_clear
    rw [if_pos (by omega), am_l_eq, if_pos (by omega), am_l_eq, if_pos (by omega), am_l_eq, Int.toNat_natCast]
  unfold fX9_draw_104b
  rw [if_pos (by omega), w2, c, am_b_some, w1]
/-- draw d is new so far: the rows up to p of kind 8, up to i of the others -/
def dn_A (S L : Int) (d p i : Nat) (hx hm : am_M) : Prop := RelO d hx hm ∧ hx 1 d = S ∧ hx 2 d = L ∧ hx 3 d = 0 ∧ hx 4 d = 0 ∧ hx 5 d = 0 ∧ (∀ x, x < p → hx 8 (40 * d + x) = 0) ∧ ∀ j, j < i → hx 9 (16 * d + j) = 0 ∧ hx 10 (16 * d + j) = -1 ∧ hx 20 (16 * d + j) = 0 ∧ hx 21 (16 * d + j) = 0 ∧ hm 24 (16 * d + j) = 0
theorem dn_16 (S L : Int) (d : Nat) (hd : d < 4) : ∀ (m i : Nat) (hx hm : am_M), dn_A S L d 40 i hx hm → 17 ≤ i + m → i ≤ 16 → ∃ hx' hm', am_it (fun _ _ _ => none) fX2_renew_48b m d (i : Int) hx = some ((), hx') ∧ am_it (fun _ _ _ => none) fX9_draw_104b m (d : Int) (i : Int) hm = some (1, hm') ∧ dn_A S L d 40 16 hx' hm' := by
  intro m
  induction m with
  | zero => intro i hx hm _ h1 h2; omega
  | succ m ih =>
    intro i hx hm r h1 h2
    rw [am_it_s, am_it_s]
    by_cases ci : i < 16
    · rw [rn_s _ d i hx ci, rn_m _ d i hm hd ci]
      refine ih (i + 1) _ _ ?_ (by omega) (by omega)
      obtain ⟨r0, f1, f2, f3, f4, f5, f8, fj⟩ := r
      refine ⟨?_, (w5_k _ _ _ _ _ _ _ (by omega) _).trans f1, (w5_k _ _ _ _ _ _ _ (by omega) _).trans f2, (w5_k _ _ _ _ _ _ _ (by omega) _).trans f3, (w5_k _ _ _ _ _ _ _ (by omega) _).trans f4, (w5_k _ _ _ _ _ _ _ (by omega) _).trans f5, fun x hx' => (w5_k _ _ _ _ _ _ _ (by omega) _).trans (f8 x hx'), fun j hj => ?_⟩
      · rw [up_comm _ _ _ _ _ (show (24 : Nat) ≠ 10 by decide), up_comm hm _ _ _ _ (show (9 : Nat) ≠ 10 by decide)]
        exact ((((((r0.x _ (by omega) (ow16 (k := 7) (by omega) ci)).x _ (by omega) (ow16 (k := 20) (by omega) ci)).x _ (by omega) (ow16 (k := 21) (by omega) ci)).both _ (by omega) (by omega) (ow16 (k := 10) (by omega) ci)).both _ (by omega) (by omega) (ow16 (k := 9) (by omega) ci)).m _ (by omega) (om16 (k := 24) (by omega) ci))
      · by_cases e : j = i
        · subst e
          obtain ⟨y1, y2, y3, y4⟩ := w5_s hx (16 * d + j) (-2) 0 0 (-1) 0
          exact ⟨y1, y2, y3, y4, w3_s _ _ _ _ _⟩
        · have n : 16 * d + j ≠ 16 * d + i := by omega
          rw [w5_j _ _ _ _ _ _ _ n, w5_j _ _ _ _ _ _ _ n, w5_j _ _ _ _ _ _ _ n, w5_j _ _ _ _ _ _ _ n, w3_j _ _ _ _ _ n]
          exact fj j (by omega)
    · have : i = 16 := by omega
      subst this
      exact ⟨hx, hm, rfl, rfl, r⟩
theorem ra_s (K : Nat → Int → am_M → Option (Unit × am_M)) (d p : Nat) (h : am_M) (hi : p < 40) : fX2_renew_27b K d (p : Int) h = K d ((p + 1 : Nat) : Int) (am_up h 8 (40 * d + p) 0) := by
  unfold fX2_renew_27b
  have w1 : am_w ((p : Int) + 1) = ((p + 1 : Nat) : Int) := by rw [pw (by omega) (by omega)]; push_cast; rfl
  rw [if_pos (by omega), if_pos (by omega), am_l_eq, w1, Int.toNat_natCast]
theorem ra_m (K : Int → Int → am_M → Option (Int × am_M)) (d p : Nat) (h : am_M) (hd : d < 4) (hi : p < 40) : fX9_draw_75b K (d : Int) (p : Int) h = K (d : Int) ((p + 1 : Nat) : Int) (am_up h 8 (40 * d + p) 0) := by
  have w1 : am_w ((p : Int) + 1) = ((p + 1 : Nat) : Int) := by rw [pw (by omega) (by omega)]; push_cast; rfl
  have w2 : am_w (am_w ((40 : Int) * (d : Int)) + (p : Int)) = ((40 * d + p : Nat) : Int) := ix_w 40 d p (by omega)
  unfold fX9_draw_75b
  rw [if_pos (by omega), w2, if_pos (by omega), am_l_eq, w1, Int.toNat_natCast]
theorem ra_x (K : Nat → Int → am_M → Option (Unit × am_M)) (d : Nat) (h : am_M) : fX2_renew_27b K d ((40 : Nat) : Int) h = am_it (fun _ _ _ => none) fX2_renew_48b 400 d ((0 : Nat) : Int) h := rfl
theorem ra_y (K : Int → Int → am_M → Option (Int × am_M)) (d : Nat) (h : am_M) : fX9_draw_75b K (d : Int) ((40 : Nat) : Int) h = am_it (fun _ _ _ => none) fX9_draw_104b 400 (d : Int) ((0 : Nat) : Int) h := rfl
theorem dn_40 (S L : Int) (d : Nat) (hd : d < 4) : ∀ (m p : Nat) (hx hm : am_M), dn_A S L d p 0 hx hm → 41 ≤ p + m → p ≤ 40 → ∃ hx' hm', am_it (fun _ _ _ => none) fX2_renew_27b m d (p : Int) hx = some ((), hx') ∧ am_it (fun _ _ _ => none) fX9_draw_75b m (d : Int) (p : Int) hm = some (1, hm') ∧ dn_A S L d 40 16 hx' hm' := by
  intro m
  induction m with
  | zero => intro i hx hm _ h1 h2; omega
  | succ m ih =>
    intro p hx hm r h1 h2
    rw [am_it_s, am_it_s]
    by_cases ci : p < 40
    · rw [ra_s _ d p hx ci, ra_m _ d p hm hd ci]
      refine ih (p + 1) _ _ ?_ (by omega) (by omega)
      obtain ⟨r0, f1, f2, f3, f4, f5, f8, fj⟩ := r
      refine ⟨r0.both _ (by omega) (by omega) (ow8 ci), (am_up_k _ _ _ _ (by decide)).trans f1, (am_up_k _ _ _ _ (by decide)).trans f2, (am_up_k _ _ _ _ (by decide)).trans f3, (am_up_k _ _ _ _ (by decide)).trans f4, (am_up_k _ _ _ _ (by decide)).trans f5, fun x hx' => ?_, fun j hj => by omega⟩
      by_cases e : x = p
      · subst e
        exact am_up_s _ _ _ _
      · exact (am_up_j _ _ _ _ (show 40 * d + x ≠ 40 * d + p by omega)).trans (f8 x (by omega))
    · have : p = 40 := by omega
      subst this
      rw [ra_x, ra_y]
      exact dn_16 S L d hd 400 0 hx hm r (by omega) (by omega)
theorem dn_R {S L : Int} {d : Nat} {hx hm : am_M} (hS : S = 4 ∨ S = 8 ∨ S = 16) (hL : L = 2 ∨ L = 3) (r : dn_A S L d 40 16 hx hm) : Rel hx hm := by
  obtain ⟨r0, f1, f2, f3, f4, f5, f8, fj⟩ := r
  refine r0.R ?_
  unfold RDx
  rw [f1, f2, f3, f4, f5]
  refine ⟨by omega, fun _ => hL, by omega, by omega, by omega, fun i hi => by omega, fun i j hi => by omega, fun p hp => Or.inl (by rw [lc_at _ _ _ hp]; exact f8 p hp), fun j hj => ?_, fun _ _ j hj => ?_, fun e => by omega⟩
  · rw [lc_at _ _ _ hj, lc_at _ _ _ hj, (fj j hj).1, (fj j hj).2.1]
    omega
  · rw [lc_at _ _ _ hj, lc_at _ _ _ hj, lc_at _ _ _ hj, lc_at _ _ _ hj, lc_at _ _ _ hj]
    exact ⟨(fj j hj).2.2.1, (fj j hj).2.2.2.1, (fj j hj).2.1, (fj j hj).1, (fj j hj).2.2.2.2⟩
theorem p_isSize (a : Int) (h : am_M) : fX8_isSize a h = some (if a = 4 ∨ a = 8 ∨ a = 16 then 1 else 0, h) := by
  unfold fX8_isSize
  (repeat' split) <;> first | rfl | omega
theorem p_isLength (a : Int) (h : am_M) : fX8_isLength a h = some (if a = 2 ∨ a = 3 then 1 else 0, h) := by
  unfold fX8_isLength
  (repeat' split) <;> first | rfl | omega
theorem q_draw (a b c : Int) (h : am_M) : fX9_draw a b c h = if 0 ≤ a ∧ a < 4 then (if b = 4 ∨ b = 8 ∨ b = 16 then fX9_draw_26 a b c h else some (-1, h)) else some (-1, h) := by
  simp only [fX9_draw, p_in, am_b_some]
  (repeat' split) <;> first | rfl | omega
theorem dn_ok {hx hm : am_M} (r : Rel hx hm) (d : Nat) (hd : d < 4) (b c : Int) (cb : b = 4 ∨ b = 8 ∨ b = 16) (cc : c = 2 ∨ c = 3) : ∃ hx' hm', fX2_renew d b c hx = some ((), hx') ∧ fX9_draw_75 (d : Int) 0 (am_up (am_up (am_up (am_up (am_up hm 1 d b) 2 d c) 3 d 0) 4 d 0) 5 d 0) = some (1, hm') ∧ Rel hx' hm' := by
  have key : dn_A b c d 0 0 (am_up (am_up (am_up (am_up (am_up hx 1 d b) 2 d c) 3 d 0) 4 d 0) 5 d 0) (am_up (am_up (am_up (am_up (am_up hm 1 d b) 2 d c) 3 d 0) 4 d 0) 5 d 0) := by
    refine ⟨((((((r.O d).both _ (by omega) (by omega) (ow1 (by omega))).both _ (by omega) (by omega) (ow1 (by omega))).both _ (by omega) (by omega) (ow1 (by omega))).both _ (by omega) (by omega) (ow1 (by omega))).both _ (by omega) (by omega) (ow1 (by omega))), ?_, ?_, ?_, ?_, ?_, fun x hx' => by omega, fun j hj => by omega⟩
    · rw [am_up_k _ _ _ _ (by decide), am_up_k _ _ _ _ (by decide), am_up_k _ _ _ _ (by decide), am_up_k _ _ _ _ (by decide), am_up_s]
    · rw [am_up_k _ _ _ _ (by decide), am_up_k _ _ _ _ (by decide), am_up_k _ _ _ _ (by decide), am_up_s]
    · rw [am_up_k _ _ _ _ (by decide), am_up_k _ _ _ _ (by decide), am_up_s]
    · rw [am_up_k _ _ _ _ (by decide), am_up_s]
    · rw [am_up_s]
  obtain ⟨hx', hm', e1, e2, r'⟩ := dn_40 b c d hd 400 0 _ _ key (by omega) (by omega)
  rw [show ((0 : Nat) : Int) = 0 from rfl] at e1 e2
  refine ⟨hx', hm', ?_, ?_, dn_R cb cc r'⟩
  · unfold fX2_renew fX2_renew_27
    rw [am_l_eq, am_l_eq, am_l_eq, am_l_eq, am_l_eq]
    exact e1
  · unfold fX9_draw_75
    exact e2
theorem p_draw (a b c : Int) (h : am_M) : fX8_draw a b c h = if (0 ≤ a ∧ a < 4) ∧ (b = 4 ∨ b = 8 ∨ b = 16) ∧ (c = 2 ∨ c = 3) then am_b (fX2_renew a.toNat b c h) (fun _ h7 => some (1, h7)) else some (-1, h) := by
  unfold fX8_draw
  rw [p_isSize, am_b_some, p_isLength, am_b_some]
  (repeat' split) <;> first | rfl | omega
theorem q_draw26 (d : Nat) (b c : Int) (h : am_M) (hd : d < 4) (cc : c = 2 ∨ c = 3) : fX9_draw_26 (d : Int) b c h = fX9_draw_75 (d : Int) 0 (am_up (am_up (am_up (am_up (am_up h 1 d b) 2 d c) 3 d 0) 4 d 0) 5 d 0) := by
  unfold fX9_draw_26
  rw [p_in, am_b_some, if_pos (show 2 ≤ c ∧ c ≤ 3 by omega), if_neg (by decide), if_pos (by omega), am_l_eq, if_pos (by omega), am_l_eq, if_pos (by omega), am_l_eq, if_pos (by omega), am_l_eq, if_pos (by omega), am_l_eq, Int.toNat_natCast]
theorem q_draw26n (a b c : Int) (h : am_M) (cc : ¬ (c = 2 ∨ c = 3)) : fX9_draw_26 a b c h = some (-1, h) := by
  unfold fX9_draw_26
  rw [p_in, am_b_some, if_neg (show ¬ (2 ≤ c ∧ c ≤ 3) by omega), if_pos rfl]
theorem e_draw {hx hm : am_M} (r : Rel hx hm) (a b c : Int) : Same (fX8_draw a b c hx) (fX9_draw a b c hm) := by
  rw [q_draw, p_draw]
  by_cases c1 : 0 ≤ a ∧ a < 4
  · obtain ⟨d, rfl⟩ := p_nat c1.1
    have hd : d < 4 := by omega
    rw [if_pos c1, Int.toNat_natCast]
    by_cases cb : b = 4 ∨ b = 8 ∨ b = 16
    · rw [if_pos cb]
      by_cases cc : c = 2 ∨ c = 3
      · obtain ⟨hx', hm', X, M, r'⟩ := dn_ok r d hd b c cb cc
        rw [if_pos ⟨c1, cb, cc⟩, q_draw26 d b c hm hd cc, X, M, am_b_some]
        exact Same.mk rfl r'
      · rw [if_neg (fun z => cc z.2.2), q_draw26n _ _ _ _ cc]
        exact Same.mk rfl r
    · rw [if_neg cb, if_neg (fun z => cb z.2.1)]
      exact Same.mk rfl r
  · rw [if_neg c1, if_neg (fun z => c1 z.1)]
    exact Same.mk rfl r
