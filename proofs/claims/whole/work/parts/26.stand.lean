/-! ===== a laid draw, a match of it; who stands on a side ===== -/
def Dr (hx hm : am_M) (d n : Nat) : Prop := Rel hx hm ∧ d < 4 ∧ szn n ∧ hx 1 d = n ∧ hx 5 d = 1
theorem szn.b {n : Nat} (h : szn n) : 4 ≤ n ∧ n ≤ 16 ∧ n = 2 * (n / 2) := by rcases h with q | q | q <;> omega
theorem Dr.rl {hx hm : am_M} {d n : Nat} (D : Dr hx hm d n) : RLd n (hx 2 d) (lc hx 7 d 16) (lc hx 20 d 16) (lc hx 21 d 16) (lc hx 10 d 16) (lc hx 9 d 16) (lc hx 22 d 160) (lc hm 7 d 16) (lc hm 23 d 4800) (lc hm 24 d 16) (lc hm 25 d 16) := by
  obtain ⟨r, hd, hn, e1, e5⟩ := D
  have := ((r.2.2 d hd).2.2.2.2.2.2.2.2.2.2 e5).2
  rw [e1, Int.toNat_natCast] at this
  exact this
theorem Dr.L {hx hm : am_M} {d n : Nat} (D : Dr hx hm d n) : hx 2 d = 2 ∨ hx 2 d = 3 := by
  obtain ⟨r, hd, hn, e1, e5⟩ := D
  exact (r.2.2 d hd).2.1 (by rw [e1]; have := hn.b; omega)
theorem Dr.P {hx hm : am_M} {d n i : Nat} (D : Dr hx hm d n) (hi : i < n) : -1 ≤ hx 7 (16 * d + i) ∧ hx 7 (16 * d + i) < 40 ∧ hm 7 (16 * d + i) = hx 7 (16 * d + i) := by
  have := D.rl.1 i hi
  have hb := D.2.2.1.b
  have i1 : i < 16 := by clear this; omega
  rw [lc_at _ _ _ i1, lc_at _ _ _ i1] at this
  exact this
theorem Dr.nb {hx hm : am_M} {d n q : Nat} (D : Dr hx hm d n) (hq : q < n / 2) : ¬ (hx 7 (16 * d + 2 * q) = -1 ∧ hx 7 (16 * d + (2 * q + 1)) = -1) := by
  have := D.rl.2.1 q hq
  have hb := D.2.2.1.b
  rw [lc_at _ _ _ (by omega), lc_at _ _ _ (by omega)] at this
  exact this
theorem Dr.m {hx hm : am_M} {d n j : Nat} (D : Dr hx hm d n) (hj : j < n - 1) : RM n (hx 2 d) (lc hx 7 d 16) (lc hx 20 d 16) (lc hx 21 d 16) (lc hx 10 d 16) (lc hx 9 d 16) (lc hx 22 d 160) (lc hm 23 d 4800) (lc hm 24 d 16) (lc hm 25 d 16) j := D.rl.2.2 j hj
theorem Dr.W {hx hm : am_M} {d n j : Nat} (D : Dr hx hm d n) (hj : j < n - 1) : hx 21 (16 * d + j) = 0 ∨ hx 21 (16 * d + j) = 1 := by
  have := (D.m hj).1
  rw [lc_at _ _ _ (by have := D.2.2.1.b; omega)] at this
  exact this
theorem Dr.H {hx hm : am_M} {d n j : Nat} (D : Dr hx hm d n) (hj : j < n - 1) : hx 20 (16 * d + j) = 0 ∨ hx 20 (16 * d + j) = 3 ∨ hx 20 (16 * d + j) = 4 ∨ hx 20 (16 * d + j) = 5 ∨ hx 20 (16 * d + j) = 6 := by
  have := (D.m hj).2.1
  rw [lc_at _ _ _ (by have := D.2.2.1.b; omega)] at this
  exact this
/-- a match of a bye -/
theorem Dr.y {hx hm : am_M} {d n j : Nat} (D : Dr hx hm d n) (hj : j < n - 1) : hx 20 (16 * d + j) = 6 ↔ j < n / 2 ∧ (hx 7 (16 * d + 2 * j) = -1 ∨ hx 7 (16 * d + (2 * j + 1)) = -1) := by
  have := (D.m hj).2.2.1
  have hb := D.2.2.1.b
  rw [lc_at hx 20 _ (show j < 16 by omega)] at this
  rw [this]
  constructor
  · rintro ⟨a, b⟩
    rw [lc_at _ _ _ (by omega), lc_at _ _ _ (by omega)] at b
    exact ⟨a, b⟩
  · rintro ⟨a, b⟩
    rw [lc_at _ _ _ (by omega), lc_at _ _ _ (by omega)]
    exact ⟨a, b⟩
theorem Dr.yw {hx hm : am_M} {d n j : Nat} (D : Dr hx hm d n) (hj : j < n - 1) (h6 : hx 20 (16 * d + j) = 6) : hx 21 (16 * d + j) = (if hx 7 (16 * d + 2 * j) = -1 then 1 else 0) ∧ hx 9 (16 * d + j) = 0 := by
  have hb := D.2.2.1.b
  have hy := ((D.y hj).mp h6).1
  have := (D.m hj).2.2.2.1
  rw [lc_at hx 20 _ (show j < 16 by omega), lc_at hx 21 _ (show j < 16 by omega), lc_at hx 9 _ (show j < 16 by omega), lc_at hx 7 _ (show 2 * j < 16 by omega)] at this
  exact this h6
/-- what goes on or has ended by play has ended feeders -/
theorem Dr.fd {hx hm : am_M} {d n j : Nat} (D : Dr hx hm d n) (hj : j < n - 1) (hj2 : n / 2 ≤ j) (h : hx 20 (16 * d + j) ≠ 0 ∨ 0 < hx 9 (16 * d + j)) : hx 20 (16 * d + 2 * (j - n / 2)) ≠ 0 ∧ hx 20 (16 * d + (2 * (j - n / 2) + 1)) ≠ 0 := by
  have hb := D.2.2.1.b
  have hH := D.H hj
  have hy := D.y hj
  have := (D.m hj).2.2.2.2.1
  rw [lc_at hx 20 _ (show j < 16 by omega), lc_at hx 9 _ (show j < 16 by omega), lc_at hx 20 _ (show 2 * (j - n / 2) < 16 by omega), lc_at hx 20 _ (show 2 * (j - n / 2) + 1 < 16 by omega)] at this
  exact this (by rcases h with h | h <;> omega) hj2
theorem Dr.R {hx hm : am_M} {d n j : Nat} (D : Dr hx hm d n) (hj : j < n - 1) (h : hx 20 (16 * d + j) = 0) : hx 10 (16 * d + j) = -1 := by
  have hb := D.2.2.1.b
  have := (D.m hj).2.2.2.2.2.1
  rw [lc_at hx 20 _ (show j < 16 by omega), lc_at hx 10 _ (show j < 16 by omega)] at this
  exact this h
theorem Dr.E {hx hm : am_M} {d n j : Nat} (D : Dr hx hm d n) (hj : j < n - 1) : hm 24 (16 * d + j) = if hx 20 (16 * d + j) = 4 ∨ hx 20 (16 * d + j) = 5 then hx 20 (16 * d + j) else 0 := by
  have hb := D.2.2.1.b
  have := (D.m hj).2.2.2.2.2.2.1
  rw [lc_at hx 20 _ (show j < 16 by omega), lc_at hm 24 _ (show j < 16 by omega)] at this
  exact this
theorem Dr.E2 {hx hm : am_M} {d n j : Nat} (D : Dr hx hm d n) (hj : j < n - 1) (h : hx 20 (16 * d + j) = 4 ∨ hx 20 (16 * d + j) = 5) : hm 25 (16 * d + j) = hx 21 (16 * d + j) := by
  have hb := D.2.2.1.b
  have := (D.m hj).2.2.2.2.2.2.2.1
  rw [lc_at hx 20 _ (show j < 16 by omega), lc_at hm 25 _ (show j < 16 by omega), lc_at hx 21 _ (show j < 16 by omega)] at this
  exact this h
theorem Dr.Q {hx hm : am_M} {d n j : Nat} (D : Dr hx hm d n) (hj : j < 16) : (0 ≤ hx 9 (16 * d + j) ∧ hx 9 (16 * d + j) ≤ 300) ∧ -1 ≤ hx 10 (16 * d + j) ∧ hx 10 (16 * d + j) ≤ 100000 := by
  have := (D.1.2.2 d D.2.1).2.2.2.2.2.2.2.2.1 j hj
  rw [lc_at _ _ _ hj, lc_at _ _ _ hj] at this
  exact this
/-- a match's points -/
def pQ (hm : am_M) (d j : Nat) : Nat → Int := fun i => lc hm 23 d 4800 (300 * j + i)
theorem pQ_at (hm : am_M) (d : Nat) {j i : Nat} (hj : j < 16) (hi : i < 300) : hm 23 (300 * (16 * d + j) + i) = pQ hm d j i := by
  unfold pQ
  rw [lc_at _ _ _ (by omega)]
  congr 1; omega
theorem po_w (d j i : Nat) (hj : j < 16) (hi : i < 300) (h : am_M) : fX2_pointOf d (j : Int) (i : Int) h = some (am_and (am_ushr (h 22 (160 * d + (10 * j + i / 32))) ((i % 32 : Nat) : Int)) 1, h) := by
  have w1 : am_w (Int.tdiv (i : Int) 32) = ((i / 32 : Nat) : Int) := by rw [show (32 : Int) = ((32 : Nat) : Int) from rfl, p_tdiv, pw_n]; omega
  have w2 : am_w ((j : Int) * 10) = ((10 * j : Nat) : Int) := by clear w1; rw [pw (by omega) (by omega)]; omega
  have w3 : am_w (((10 * j : Nat) : Int) + ((i / 32 : Nat) : Int)) = ((10 * j + i / 32 : Nat) : Int) := by clear w1 w2; rw [pw (by omega) (by omega)]; omega
  have b1 : 0 ≤ ((10 * j + i / 32 : Nat) : Int) ∧ ((10 * j + i / 32 : Nat) : Int) < 160 := by clear w1 w2 w3; omega
  unfold fX2_pointOf
  rw [w1, w2, w3, if_pos b1, Int.toNat_natCast, show (32 : Int) = ((32 : Nat) : Int) from rfl, p_tmod]
theorem Dr.j16 {hx hm : am_M} {d n j : Nat} (D : Dr hx hm d n) (hj : j < n - 1) : j < 16 := by
  have hb := D.2.2.1.b
  omega
theorem Dr.a9 {hx hm : am_M} {d n j : Nat} (D : Dr hx hm d n) (hj : j < n - 1) : ∀ i : Nat, (i : Int) < hx 9 (16 * d + j) → (pQ hm d j i = 0 ∨ pQ hm d j i = 1) ∧ am_and (am_ushr (hx 22 (160 * d + (10 * j + i / 32))) ((i % 32 : Nat) : Int)) 1 = pQ hm d j i := by
  have hj16 := D.j16 hj
  have hq := (D.Q hj16).1
  intro i hi
  have i1 : 10 * j + i / 32 < 160 := by omega
  have p1 := (D.m hj).2.2.2.2.2.2.2.2.1
  rw [lc_at hx 9 _ hj16] at p1
  have := p1 i hi
  rw [lc_at hx 22 _ i1] at this
  exact this
theorem Dr.a10 {hx hm : am_M} {d n j : Nat} (D : Dr hx hm d n) (hj : j < n - 1) : ∀ k : Nat, (k : Int) < hx 9 (16 * d + j) → ¬ tl_won (hx 2 d) (tl_at (pQ hm d j) k) := by
  have hj16 := D.j16 hj
  have p1 := (D.m hj).2.2.2.2.2.2.2.2.2.1
  rw [lc_at hx 9 _ hj16] at p1
  exact p1
theorem Dr.pok {hx hm : am_M} {d n j : Nat} (D : Dr hx hm d n) (hj : j < n - 1) : pok (hx 2 d) (pQ hm d j) (hx 9 (16 * d + j)).toNat := by
  have hq := (D.Q (D.j16 hj)).1
  exact ⟨D.L, by omega, fun i hi => (D.a9 hj i (by omega)).1, fun k hk => D.a10 hj k (by omega)⟩
theorem Dr.bit {hx hm : am_M} {d n j : Nat} (D : Dr hx hm d n) (hj : j < n - 1) {i : Nat} (hi : i < (hx 9 (16 * d + j)).toNat) (h : am_M) (hs : sc hx h) : fX2_pointOf d (j : Int) (i : Int) h = some (pQ hm d j i, h) := by
  have hq := (D.Q (D.j16 hj)).1
  rw [po_w d j i (D.j16 hj) (by omega), hs 22 (by omega), (D.a9 hj i (by omega)).2]
theorem Dr.won3 {hx hm : am_M} {d n j : Nat} (D : Dr hx hm d n) (hj : j < n - 1) (h3 : hx 20 (16 * d + j) = 3) : (tl_at (pQ hm d j) (hx 9 (16 * d + j)).toNat).2.2.1 (hx 21 (16 * d + j)).toNat = hx 2 d := by
  have hj16 := D.j16 hj
  have p3 := (D.m hj).2.2.2.2.2.2.2.2.2.2.1
  rw [lc_at hx 9 _ hj16, lc_at hx 20 _ hj16, lc_at hx 21 _ hj16] at p3
  exact p3 h3
theorem Dr.nwon {hx hm : am_M} {d n j : Nat} (D : Dr hx hm d n) (hj : j < n - 1) (h3 : hx 20 (16 * d + j) ≠ 3) : ¬ tl_won (hx 2 d) (tl_at (pQ hm d j) (hx 9 (16 * d + j)).toNat) := by
  have hj16 := D.j16 hj
  have p4 := (D.m hj).2.2.2.2.2.2.2.2.2.2.2
  rw [lc_at hx 9 _ hj16, lc_at hx 20 _ hj16] at p4
  exact p4 h3
/-- both sides replay a match -/
theorem Dr.xr {hx hm : am_M} {d n j : Nat} (D : Dr hx hm d n) (hj : j < n - 1) (h : am_M) (hs : sc hx h) : ∃ h', fX7_replay d (j : Int) h = some ((), h') ∧ sc hx h' ∧ TL h' (tl_at (pQ hm d j) (hx 9 (16 * d + j)).toNat) ∧ h' 39 0 = hx 2 d := by
  have hq := (D.Q (D.j16 hj)).1
  exact x_replay d j _ (hx 2 d) _ hx (D.j16 hj) (by omega) rfl (D.pok hj) (fun i hi h hs => D.bit hj hi h hs) h hs
theorem Dr.mr {hx hm : am_M} {d n j : Nat} (D : Dr hx hm d n) (hj : j < n - 1) (h : am_M) (hs : sc hm h) : ∃ h', fX9_replay ((16 * d + j : Nat) : Int) (hx 9 (16 * d + j)) h = some ((), h') ∧ sc hm h' ∧ TL h' (tl_at (pQ hm d j) (hx 9 (16 * d + j)).toNat) ∧ h' 39 0 = (tl_at (pQ hm d j) (hx 9 (16 * d + j)).toNat).2.2.1 0 + (tl_at (pQ hm d j) (hx 9 (16 * d + j)).toNat).2.2.1 1 := by
  have hj16 := D.j16 hj
  have hq := (D.Q hj16).1
  have h3 : (hx 9 (16 * d + j)).toNat ≤ 300 := by omega
  obtain ⟨h', e, s', T, f, _⟩ := m_replay d j (hx 9 (16 * d + j)).toNat (hx 2 d) (pQ hm d j) hm D.2.1 hj16 (D.1.kk (k := 2) (by decide) (by decide) d).symm h3 (D.pok hj) (fun i hi => pQ_at hm d hj16 (Nat.lt_of_lt_of_le hi h3)) h hs
  rw [Int.toNat_of_nonneg hq.1] at e
  exact ⟨h', e, s', T, f⟩
/-- the scores of a laid match: who has won, if one has -/
theorem Dr.ws {hx hm : am_M} {d n j : Nat} (D : Dr hx hm d n) (hj : j < n - 1) : if hx 20 (16 * d + j) = 3 then (tl_at (pQ hm d j) (hx 9 (16 * d + j)).toNat).2.2.1 (hx 21 (16 * d + j)).toNat = hx 2 d ∧ (tl_at (pQ hm d j) (hx 9 (16 * d + j)).toNat).2.2.1 (1 - (hx 21 (16 * d + j)).toNat) < hx 2 d else (tl_at (pQ hm d j) (hx 9 (16 * d + j)).toNat).2.2.1 0 < hx 2 d ∧ (tl_at (pQ hm d j) (hx 9 (16 * d + j)).toNat).2.2.1 1 < hx 2 d := by
  have hP := D.pok hj
  have hL := D.L
  have hW := D.W hj
  by_cases h3 : hx 20 (16 * d + j) = 3
  · rw [if_pos h3]
    have e := D.won3 hj h3
    refine ⟨e, ?_⟩
    cases hq : (hx 9 (16 * d + j)).toNat with
    | zero =>
      rw [hq] at e
      have : (0 : Int) = hx 2 d := e
      omega
    | succ k =>
      rw [hq] at e hP
      have hl := hP.lt (show k < k + 1 by omega)
      obtain ⟨o1, o2, o3⟩ := tl_one (hx 2 d) (by omega) (pQ hm d j) k (hP.2.2.1 k (by omega)) hl.1 hl.2
      rcases hW with w | w <;> rw [w] at e ⊢
      · have e' : (tl_at (pQ hm d j) (k + 1)).2.2.1 0 = hx 2 d := e
        show (tl_at (pQ hm d j) (k + 1)).2.2.1 1 < hx 2 d
        omega
      · have e' : (tl_at (pQ hm d j) (k + 1)).2.2.1 1 = hx 2 d := e
        show (tl_at (pQ hm d j) (k + 1)).2.2.1 0 < hx 2 d
        omega
  · rw [if_neg h3]
    have e := D.nwon hj h3
    refine tl_lt (hx 2 d) (by omega) (pQ hm d j) _ hP.2.2.1 _ (Nat.le_refl _) (fun i hi => ?_)
    rcases Nat.lt_or_eq_of_le hi with q | q
    · exact hP.2.2.2 i q
    · rw [q]; exact e
