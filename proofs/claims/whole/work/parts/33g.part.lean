/-! ===== lay: lands parted ===== -/
def FN (hx hm : am_M) (d n Sd N : Nat) (L : List Nat) (h b : am_M) : Prop := fr7 d hx h ∧ fr7 d hm b ∧ ∀ z, z < n → pc h d z = pc b d z ∧ (pc h d z = -1 ↔ L.getD z 9 = 2) ∧ okp hx d Sd N (pc h d z) (h 32 z)
theorem SI.f {hx hm : am_M} {d n Sd N : Nat} {h b : am_M} {L : List Nat} (I : SI hx hm d n Sd N n L h b) : FN hx hm d n Sd N L h b := by
  refine ⟨I.1, I.2.1, fun z hz => ⟨(I.2.2 z hz).1, (I.2.2 z hz).2.1, ?_⟩⟩
  rcases (I.2.2 z hz).2.2 with ⟨k1, _⟩ | ⟨_, _, k3⟩
  · omega
  · exact k3
/-- draw d, unlaid, may be laid: n places, N entrants, Sd seeds -/
def UD (hx hm : am_M) (d n Sd N : Nat) : Prop := Rel hx hm ∧ d < 4 ∧ szn n ∧ hx 1 d = n ∧ hx 3 d = N ∧ hx 4 d = Sd ∧ Sd ≤ 4 ∧ Sd ≤ N ∧ N ≤ n ∧ (∀ k, k < N → 0 ≤ hx 6 (16 * d + k) ∧ hx 6 (16 * d + k) < 40) ∧ ∀ i j, i < N → j < N → hx 6 (16 * d + i) = hx 6 (16 * d + j) → i = j
theorem okp.b {hx hm : am_M} {d n Sd N : Nat} {v s : Int} (U : UD hx hm d n Sd N) (o : okp hx d Sd N v s) : -1 ≤ v ∧ v < 40 := by
  obtain ⟨_, _, _, _, _, _, _, u1, _, u2, _⟩ := U
  rcases o with ⟨k, k1, k2, _⟩ | ⟨_, k2⟩ | ⟨_, k, _, k1, k2⟩
  · have := u2 k (Nat.lt_of_lt_of_le k1 u1)
    rw [k2]; exact ⟨by omega, this.2⟩
  · rw [k2]; decide
  · have := u2 k k1
    rw [k2]; exact ⟨by omega, this.2⟩
theorem okp.s {hx : am_M} {d Sd N : Nat} {v s : Int} (o : okp hx d Sd N v s) : s = 0 ∨ s = 1 := by
  rcases o with ⟨k, k1, k2, q⟩ | ⟨q, k2⟩ | ⟨q, _⟩
  · exact Or.inr q
  · exact Or.inl q
  · exact Or.inl q
theorem okp.i {hx hm : am_M} {d n Sd N : Nat} {v s : Int} (U : UD hx hm d n Sd N) (o : okp hx d Sd N v s) : (∃ j, 0 ≤ j ∧ j < Sd ∧ hx 6 (16 * d + j) = v) ↔ s = 1 := by
  obtain ⟨_, _, _, _, _, _, _, u1, _, u2, u3⟩ := U
  rcases o with ⟨k, k1, k2, q⟩ | ⟨q, k2⟩ | ⟨q, k, k0, k1, k2⟩
  · exact ⟨fun _ => q, fun _ => ⟨k, Nat.zero_le _, k1, k2.symm⟩⟩
  · refine ⟨fun ⟨j, _, j1, j2⟩ => ?_, fun e => ?_⟩
    · have := (u2 j (Nat.lt_of_lt_of_le j1 u1)).1
      rw [j2, k2] at this
      exact absurd this (by decide)
    · rw [q] at e; exact absurd e (by decide)
  · refine ⟨fun ⟨j, _, j1, j2⟩ => ?_, fun e => ?_⟩
    · have := u3 j k (Nat.lt_of_lt_of_le j1 u1) k1 (by rw [j2, k2])
      omega
    · rw [q] at e; exact absurd e (by decide)
theorem m_is {hx hm : am_M} {d n Sd N : Nat} (U : UD hx hm d n Sd N) {b : am_M} (F : fr7 d hm b) (v s : Int) (hs : s = 0 ∨ s = 1) : ∀ (r k f : Nat) (g : Int), k + r = Sd → r < f → (g = 0 ∨ g = 1) → ((g = 1 ∨ ∃ j, k ≤ j ∧ j < Sd ∧ hx 6 (16 * d + j) = v) ↔ s = 1) → am_it (fun _ _ _ _ _ => none) fX9_isSeed_5b f (d : Int) v g (k : Int) b = some (s, b) := by
  have b4 : b 4 d = Sd := by rw [F.1 4 (by decide) (by decide), ← U.1.kk (k := 4) (by decide) (by decide)]; exact U.2.2.2.2.2.1
  have b6 : ∀ k, b 6 (16 * d + k) = hx 6 (16 * d + k) := fun k => by rw [F.1 6 (by decide) (by decide), ← U.1.kk (k := 6) (by decide) (by decide)]
  have hd := U.2.1
  have hS := U.2.2.2.2.2.2.1
  clear U F
  intro r
  induction r with
  | zero =>
    intro k f g hk hf hg hi
    obtain ⟨f, rfl⟩ : ∃ q, f = q + 1 := ⟨f - 1, by omega⟩
    obtain rfl : k = Sd := by omega
    have i1 : ((k : Int) < (k : Int)) = False := eq_false (by omega)
    have e : g = s := by
      have n0 : ¬ ∃ j, k ≤ j ∧ j < k ∧ hx 6 (16 * d + j) = v := fun ⟨j, j1, j2, _⟩ => absurd j2 (Nat.not_lt.mpr j1)
      by_cases q : g = 1
      · rw [q]; exact (hi.mp (Or.inl q)).symm
      · rcases hs with z | z
        · rcases hg with y | y
          · rw [y, z]
          · exact absurd y q
        · rcases hi.mpr z with y | y
          · exact absurd y q
          · exact absurd y n0
    rw [am_it_s]
    unfold fX9_isSeed_5b
    simp only [fd hd, ↓reduceIte, Int.toNat_natCast, b4, i1, e, eqT hs]
  | succ r ih =>
    intro k f g hk hf hg hi
    obtain ⟨f, rfl⟩ : ∃ q, f = q + 1 := ⟨f - 1, by omega⟩
    have k16 : k < 16 := by omega
    have i1 : ((k : Int) < (Sd : Int)) = True := eq_true (by omega)
    have cw := c_w d k hd k16
    have c1 := pw1 k (Nat.lt_trans k16 (by decide))
    have nx := fun (g : Int) => ih (k + 1) f g (by clear c1 cw; omega) (by clear c1 cw; omega)
    rw [am_it_s]
    clear ih
    generalize am_it (fun _ _ _ _ _ => none) fX9_isSeed_5b f = K at nx ⊢
    unfold fX9_isSeed_5b fX9_isSeed_36 fX9_isSeed_41
    simp only [fd hd, ↓reduceIte, Int.toNat_natCast, b4, i1, cw, fc hd k16, b6, c1]
    clear c1 cw
    by_cases g0 : g = 0
    · rw [if_pos g0]
      by_cases ev : hx 6 (16 * d + k) = v
      · rw [if_pos ev]
        refine nx 1 (Or.inr rfl) ⟨fun _ => hi.mp (Or.inr ⟨k, Nat.le_refl _, by omega, ev⟩), fun _ => Or.inl rfl⟩
      · rw [if_neg ev]
        refine nx 0 (Or.inl rfl) ⟨fun y => ?_, fun y => ?_⟩
        · rcases y with y | ⟨j, j1, j2, j3⟩
          · exact absurd y (by decide)
          · exact hi.mp (Or.inr ⟨j, by omega, j2, j3⟩)
        · rcases hi.mpr y with y | ⟨j, j1, j2, j3⟩
          · rw [g0] at y; exact absurd y (by decide)
          · refine Or.inr ⟨j, ?_, j2, j3⟩
            by_cases e : j = k
            · rw [e] at j3; exact absurd j3 ev
            · omega
    · rw [if_neg g0]
      have g1 : g = 1 := by
        rcases hg with y | y
        · exact absurd y g0
        · exact y
      exact nx 1 (Or.inr rfl) ⟨fun _ => hi.mp (Or.inl g1), fun _ => Or.inl rfl⟩
theorem m_isSeed {hx hm : am_M} {d n Sd N : Nat} (U : UD hx hm d n Sd N) {b : am_M} (F : fr7 d hm b) {v s : Int} (o : okp hx d Sd N v s) : fX9_isSeed (d : Int) v b = some (s, b) := by
  have hS := U.2.2.2.2.2.2.1
  unfold fX9_isSeed fX9_isSeed_5
  refine m_is U F v s o.s Sd 0 400 0 (Nat.zero_add _) (by omega) (Or.inl rfl) ?_
  have := okp.i U o
  refine ⟨fun y => ?_, fun y => Or.inr (this.mpr y)⟩
  rcases y with y | y
  · exact absurd y (by decide)
  · exact this.mp y
/-- of one land -/
def ol (hx : am_M) (v w : Int) : Int := if v < 0 ∨ w < 0 then 0 else if hx 0 v.toNat = hx 0 w.toNat then 1 else 0
theorem x_ol {hx h : am_M} {v w : Int} (e : h 0 = hx 0) (hv : -1 ≤ v ∧ v < 40) (hw : -1 ≤ w ∧ w < 40) : fX4_areOfOneLand v w h = some (ol hx v w, h) := by
  unfold fX4_areOfOneLand ol
  rw [p_isPlayer, am_b_some, p_isPlayer]
  by_cases c1 : v < 0
  · rw [if_neg (show ¬ (0 ≤ v ∧ v < 40) by omega), if_pos rfl, if_pos (Or.inl c1)]
  · rw [if_pos (show 0 ≤ v ∧ v < 40 by omega), if_neg (by decide), am_b_some, e]
    by_cases c2 : w < 0
    · rw [if_neg (show ¬ (0 ≤ w ∧ w < 40) by omega), if_pos rfl, if_pos (Or.inr c2)]
    · rw [if_pos (show 0 ≤ w ∧ w < 40 by omega), if_neg (by decide), if_pos (show 0 ≤ v ∧ v < 40 by omega), if_pos (show 0 ≤ w ∧ w < 40 by omega), if_neg (show ¬ (v < 0 ∨ w < 0) by omega)]
      split <;> rfl
theorem m_ol {hx b : am_M} {v w : Int} (e : b 0 = hx 0) (hv : -1 ≤ v ∧ v < 40) (hw : -1 ≤ w ∧ w < 40) : fX9_isOneLand v w b = some (ol hx v w, b) := by
  unfold fX9_isOneLand ol
  rw [e]
  by_cases c1 : v < 0
  · rw [if_pos c1, if_pos (Or.inl c1)]
  · rw [if_neg c1]
    by_cases c2 : w < 0
    · rw [if_pos c2, if_pos (Or.inr c2)]
    · rw [if_neg c2, if_pos (show 0 ≤ v ∧ v < 40 by omega), if_pos (show 0 ≤ w ∧ w < 40 by omega), if_neg (show ¬ (v < 0 ∨ w < 0) by omega)]
      split <;> rfl
theorem ol_p {hx : am_M} {v w : Int} (h : ¬ ol hx v w = 0) : 0 ≤ v ∧ 0 ≤ w := by
  unfold ol at h
  by_cases c : v < 0 ∨ w < 0
  · rw [if_pos c] at h; exact absurd rfl h
  · omega
theorem FN.x0 {hx hm : am_M} {d n Sd N : Nat} {h b : am_M} {L : List Nat} (I : FN hx hm d n Sd N L h b) : h 0 = hx 0 := I.1.1 0 (by decide) (by decide)
theorem FN.m0 {hx hm : am_M} {d n Sd N : Nat} {h b : am_M} {L : List Nat} (I : FN hx hm d n Sd N L h b) (U : UD hx hm d n Sd N) : b 0 = hx 0 := by rw [I.2.1.1 0 (by decide) (by decide), U.1.1 0 (by decide) (by decide)]
theorem FN.sw {hx hm : am_M} {d n Sd N : Nat} {h b : am_M} {L : List Nat} (I : FN hx hm d n Sd N L h b) {s z : Nat} (hs16 : s < 16) (hz16 : z < 16) (hs : s < n) (hz : z < n) (s0 : h 32 s = 0) (z0 : h 32 z = 0) (sp0 : 0 ≤ pc h d s) (zp : 0 ≤ pc h d z) : FN hx hm d n Sd N L (am_up (am_up h 7 (16 * d + s) (pc h d z)) 7 (16 * d + z) (pc h d s)) (am_up (am_up b 7 (16 * d + s) (pc h d z)) 7 (16 * d + z) (pc h d s)) := by
  refine ⟨(I.1.p hs16 _).p hz16 _, (I.2.1.p hs16 _).p hz16 _, fun y hy => ?_⟩
  have os := I.2.2 s hs
  have oz := I.2.2 z hz
  rw [s0] at os
  rw [z0] at oz
  have ns : ¬ L.getD s 9 = 2 := fun q => by
    have := os.2.1.mpr q
    rw [this] at sp0
    exact absurd sp0 (by decide)
  have nz : ¬ L.getD z 9 = 2 := fun q => by
    have := oz.2.1.mpr q
    rw [this] at zp
    exact absurd zp (by decide)
  have ms : ¬ pc h d s = -1 := fun q => ns (os.2.1.mp q)
  have mz : ¬ pc h d z = -1 := fun q => nz (oz.2.1.mp q)
  rw [pc_up, pc_up, pc_up, pc_up, am_up_ne _ _ _ (show (32 : Nat) ≠ 7 by decide), am_up_ne _ _ _ (show (32 : Nat) ≠ 7 by decide)]
  by_cases e : y = z
  · rw [if_pos e, if_pos e, e, z0]
    exact ⟨rfl, ⟨fun q => absurd q ms, fun q => absurd q nz⟩, os.2.2⟩
  · rw [if_neg e, if_neg e]
    by_cases e2 : y = s
    · rw [if_pos e2, if_pos e2, e2, s0]
      exact ⟨rfl, ⟨fun q => absurd q mz, fun q => absurd q ns⟩, oz.2.2⟩
    · rw [if_neg e2, if_neg e2]
      exact I.2.2 y hy
/-- one is moved away: from place z on -/
theorem e_mv {hx hm : am_M} {d n Sd N : Nat} {L : List Nat} (U : UD hx hm d n Sd N) {h b : am_M} (I : FN hx hm d n Sd N L h b) {s : Nat} (hs : s < n) (s0 : h 32 s = 0) (sp0 : 0 ≤ pc h d s) : ∀ (r z f f' : Nat), z + r = n → r < f → r < f' → ∃ h' b', am_it (fun _ _ _ _ => none) fX4_moveAway_7b f d (s : Int) (z : Int) h = some ((), h') ∧ am_it (fun _ _ _ _ _ _ => none) fX9_part_101b f' (d : Int) (s : Int) (pc h d s) (pc h d (xr s)) (z : Int) b = some ((), b') ∧ FN hx hm d n Sd N L h' b' := by
  have hb := U.2.2.1.b
  have hd := U.2.1
  have s16 : s < 16 := Nat.lt_of_lt_of_le hs hb.2.1
  have xn := xr_lt U.2.2.1 hs
  have x16 : xr s < 16 := Nat.lt_of_lt_of_le xn hb.2.1
  have h1 : h 1 d = n := by rw [I.1.1 1 (by decide) (by decide)]; exact U.2.2.2.1
  have b1 : b 1 d = n := by rw [I.2.1.1 1 (by decide) (by decide), ← U.1.kk (k := 1) (by decide) (by decide)]; exact U.2.2.2.1
  have bs := okp.b U (I.2.2 s hs).2.2
  have bx := okp.b U (I.2.2 (xr s) xn).2.2
  intro r
  induction r with
  | zero =>
    intro z f f' hz hf hf'
    obtain ⟨f, rfl⟩ : ∃ q, f = q + 1 := ⟨f - 1, by omega⟩
    obtain ⟨f', rfl⟩ : ∃ q, f' = q + 1 := ⟨f' - 1, by omega⟩
    obtain rfl : z = n := by omega
    have i1 : ((z : Int) < (z : Int)) = False := eq_false (by omega)
    refine ⟨h, b, ?_, ?_, I⟩
    · rw [am_it_s]
      unfold fX4_moveAway_7b
      simp only [h1, i1, ↓reduceIte]
    · rw [am_it_s]
      unfold fX9_part_101b
      simp only [fd hd, Int.toNat_natCast, b1, i1, ↓reduceIte]
  | succ r ih =>
    intro z f f' hz hf hf'
    have l1 : z + 1 + r = n := by clear bs bx; omega
    have hzn : z < n := by clear bs bx; omega
    have i1 : ((z : Int) < (n : Int)) = True := eq_true (by clear bs bx; omega)
    have z16 : z < 16 := Nat.lt_of_lt_of_le hzn hb.2.1
    obtain ⟨f, rfl⟩ : ∃ q, f = q + 1 := ⟨f - 1, by clear bs bx; omega⟩
    obtain ⟨f', rfl⟩ : ∃ q, f' = q + 1 := ⟨f' - 1, by clear bs bx; omega⟩
    have l2 : r < f := by clear bs bx; omega
    have l3 : r < f' := by clear bs bx; omega
    have nx := ih (z + 1) f f' l1 l2 l3
    have xzn := xr_lt U.2.2.1 hzn
    have xz16 : xr z < 16 := Nat.lt_of_lt_of_le xzn hb.2.1
    have oz := I.2.2 z hzn
    have bz := okp.b U oz.2.2
    have bxz := okp.b U (I.2.2 (xr z) xzn).2.2
    have a1 : fX9_at (d : Int) (z : Int) b = some (pc h d z, b) := by rw [oz.1]; exact q_at d z hd z16 b
    have a2 : fX9_at (d : Int) ((xr z : Nat) : Int) b = some (pc h d (xr z), b) := by rw [(I.2.2 (xr z) xzn).1]; exact q_at d (xr z) hd xz16 b
    have a3 : fX9_isSeed (d : Int) (pc h d z) b = some (h 32 z, b) := m_isSeed U I.2.1 oz.2.2
    have a4 : fX9_isOneLand (pc h d (xr s)) (pc h d z) b = some (ol hx (pc h d (xr s)) (pc h d z), b) := m_ol (I.m0 U) bx bz
    have a5 : fX9_isOneLand (pc h d (xr z)) (pc h d s) b = some (ol hx (pc h d (xr z)) (pc h d s), b) := m_ol (I.m0 U) bxz bs
    have y4 : fX4_areOfOneLand (h 7 (16 * d + xr s)) (h 7 (16 * d + z)) h = some (ol hx (pc h d (xr s)) (pc h d z), h) := x_ol I.x0 bx bz
    have y5 : fX4_areOfOneLand (h 7 (16 * d + xr z)) (h 7 (16 * d + s)) h = some (ol hx (pc h d (xr z)) (pc h d s), h) := x_ol I.x0 bxz bs
    have c1 := pw1 z (Nat.lt_trans z16 (by decide))
    rw [am_it_s, am_it_s]
    clear ih
    generalize am_it (fun _ _ _ _ => none) fX4_moveAway_7b f = K at nx ⊢
    generalize am_it (fun _ _ _ _ _ _ => none) fX9_part_101b f' = K' at nx ⊢
    unfold fX4_moveAway_7b fX4_mayChange fX9_part_101b fX9_part_187
    simp only [h1, b1, i1, fd hd, Int.toNat_natCast, ↓reduceIte, xr_x _ s16, xr_x _ z16, fj z16, fj s16, fj x16, fj xz16, a1, ↓am_b_t, c1]
    by_cases q1 : pc h d z < 0
    · have q1' : h 7 (16 * d + z) < 0 := q1
      simp only [eqT q1, eqT q1', ↓reduceIte, ↓am_b_t, z00, c1]
      exact nx
    · have q1' : ¬ h 7 (16 * d + z) < 0 := q1
      simp only [eqF q1, eqF q1', ↓reduceIte, a3, ↓am_b_t]
      by_cases q2 : h 32 z = 0
      · simp only [eqT q2, ↓reduceIte, a4, y4, ↓am_b_t]
        by_cases q3 : ol hx (pc h d (xr s)) (pc h d z) = 0
        · simp only [eqT q3, ↓reduceIte, a2, a5, y5, ↓am_b_t]
          by_cases q4 : ol hx (pc h d (xr z)) (pc h d s) = 0
          · unfold fX4_moveAway_28 fX9_part_168
            simp only [eqT q4, ↓reduceIte, ↓am_b_t, z10, fj s16, fj z16, ↓am_l_t, Int.toNat_natCast, q_put d s _ hd s16, q_put d z _ hd z16]
            clear c1
            exact ⟨_, _, rfl, rfl, I.sw s16 z16 hs hzn s0 q2 sp0 (by omega)⟩
          · simp only [eqF q4, ↓reduceIte, ↓am_b_t, z00, c1]
            exact nx
        · simp only [eqF q3, ↓reduceIte, ↓am_b_t, z00, c1]
          exact nx
      · simp only [eqF q2, ↓reduceIte, ↓am_b_t, z00, c1]
        exact nx
theorem or_1 : ∀ q : Nat, q < 8 → am_or ((2 * q : Nat) : Int) 1 = ((2 * q + 1 : Nat) : Int) ∧ am_or ((2 * q + 1 : Nat) : Int) 1 = ((2 * q + 1 : Nat) : Int) := by decide +kernel
theorem e_mvA {hx hm : am_M} {d n Sd N : Nat} {L : List Nat} (U : UD hx hm d n Sd N) {h b : am_M} (I : FN hx hm d n Sd N L h b) {s q : Nat} (hq : q < n / 2) (hsq : s = 2 * q ∨ s = 2 * q + 1) (s0 : h 32 s = 0) (sp0 : 0 ≤ pc h d s) : ∃ h' b', fX4_moveAway d (s : Int) h = some ((), h') ∧ fX9_part_72 (d : Int) (q : Int) (s : Int) b = some ((), b') ∧ FN hx hm d n Sd N L h' b' := by
  have hb := U.2.2.1.b
  have hd := U.2.1
  have hs : s < n := by omega
  have q8 : q < 8 := by omega
  have q100 : q < 100 := by omega
  have hr : 2 * (q + 1) + (n - 2 * (q + 1)) = n := by omega
  have h400 : n - 2 * (q + 1) < 400 := by omega
  have s16 : s < 16 := Nat.lt_of_lt_of_le hs hb.2.1
  have xn := xr_lt U.2.2.1 hs
  have x16 : xr s < 16 := Nat.lt_of_lt_of_le xn hb.2.1
  have w1 : am_or (s : Int) 1 = ((2 * q + 1 : Nat) : Int) := by
    rcases hsq with e | e
    · rw [e]; exact (or_1 q q8).1
    · rw [e]; exact (or_1 q q8).2
  have w2 : am_w (((2 * q + 1 : Nat) : Int) + 1) = ((2 * (q + 1) : Nat) : Int) := pw1 (2 * q + 1) (by clear w1; omega)
  have aw := aw_2 q q100
  have a1 : fX9_at (d : Int) (s : Int) b = some (pc h d s, b) := by rw [(I.2.2 s hs).1]; exact q_at d s hd s16 b
  have a2 : fX9_at (d : Int) ((xr s : Nat) : Int) b = some (pc h d (xr s), b) := by rw [(I.2.2 (xr s) xn).1]; exact q_at d (xr s) hd x16 b
  unfold fX4_moveAway fX9_part_72 fX4_moveAway_7 fX9_part_101
  simp only [w1, w2, ↓am_l_t, a1, xr_x _ s16, a2, ↓am_b_t, aw.2.2.2, aw.2.2.1]
  exact e_mv U I hs s0 sp0 (n - 2 * (q + 1)) (2 * (q + 1)) 400 400 hr h400 h400
theorem e_pl {hx hm : am_M} {d n Sd N : Nat} {L : List Nat} (U : UD hx hm d n Sd N) (B : Int) : ∀ (r q f f' : Nat) (h b : am_M), q + r = n / 2 → r < f → r < f' → FN hx hm d n Sd N L h b → ∃ h' b', am_it (fun _ _ _ => none) fX4_partLands_2b f d ((2 * q : Nat) : Int) h = some ((), h') ∧ am_it (fun _ _ _ _ _ => none) fX9_lay_355b f' (d : Int) (n : Int) B (q : Int) b = fX9_lay_376 (d : Int) B b' ∧ FN hx hm d n Sd N L h' b' := by
  have hn := U.2.2.1
  have hb := hn.b
  have hd := U.2.1
  have hw : am_w (Int.tdiv (n : Int) 2) = ((n / 2 : Nat) : Int) := by rw [show (2 : Int) = ((2 : Nat) : Int) from rfl, p_tdiv, pw_n]; omega
  intro r
  induction r with
  | zero =>
    intro q f f' h b hq hf hf' I
    have i1 : (((2 * q + 1 : Nat) : Int) < (n : Int)) = False := eq_false (by clear hw; omega)
    have i2 : ((q : Int) < ((n / 2 : Nat) : Int)) = False := eq_false (by clear hw; omega)
    have q100 : q < 100 := by clear hw; omega
    obtain ⟨f, rfl⟩ : ∃ z, f = z + 1 := ⟨f - 1, by clear hw; omega⟩
    obtain ⟨f', rfl⟩ : ∃ z, f' = z + 1 := ⟨f' - 1, by clear hw; omega⟩
    have h1 : h 1 d = n := by rw [I.1.1 1 (by decide) (by decide)]; exact U.2.2.2.1
    have aw := aw_2 q q100
    refine ⟨h, b, ?_, ?_, I⟩
    · rw [am_it_s]
      unfold fX4_partLands_2b
      simp only [h1, aw.2.1, i1, ↓reduceIte]
    · rw [am_it_s]
      unfold fX9_lay_355b
      simp only [hw, i2, ↓reduceIte]
  | succ r ih =>
    intro q f f' h b hq hf hf' I
    have l1 : q + 1 + r = n / 2 := by clear hw; omega
    have hqn : q < n / 2 := by clear hw; omega
    have i1 : (((2 * q + 1 : Nat) : Int) < (n : Int)) = True := eq_true (by clear hw; omega)
    have i2 : ((q : Int) < ((n / 2 : Nat) : Int)) = True := eq_true (by clear hw; omega)
    have q100 : q < 100 := by clear hw; omega
    have p0 : 2 * q < n := by clear hw; omega
    have p1 : 2 * q + 1 < n := by clear hw; omega
    have p016 : 2 * q < 16 := by clear hw; omega
    have p116 : 2 * q + 1 < 16 := by clear hw; omega
    obtain ⟨f, rfl⟩ : ∃ z, f = z + 1 := ⟨f - 1, by clear hw; omega⟩
    obtain ⟨f', rfl⟩ : ∃ z, f' = z + 1 := ⟨f' - 1, by clear hw; omega⟩
    have l2 : r < f := by clear hw; omega
    have l3 : r < f' := by clear hw; omega
    have h1 : h 1 d = n := by rw [I.1.1 1 (by decide) (by decide)]; exact U.2.2.2.1
    have nx := fun (h b : am_M) => ih (q + 1) f f' h b l1 l2 l3
    have o0 := I.2.2 (2 * q) p0
    have o1 := I.2.2 (2 * q + 1) p1
    have b0 := okp.b U o0.2.2
    have b1 := okp.b U o1.2.2
    have at0 : fX9_at (d : Int) ((2 * q : Nat) : Int) b = some (pc h d (2 * q), b) := by rw [o0.1]; exact q_at d _ hd p016 b
    have at1 : fX9_at (d : Int) ((2 * q + 1 : Nat) : Int) b = some (pc h d (2 * q + 1), b) := by rw [o1.1]; exact q_at d _ hd p116 b
    have a3 : fX9_isSeed (d : Int) (pc h d (2 * q)) b = some (h 32 (2 * q), b) := m_isSeed U I.2.1 o0.2.2
    have a4 : fX9_isSeed (d : Int) (pc h d (2 * q + 1)) b = some (h 32 (2 * q + 1), b) := m_isSeed U I.2.1 o1.2.2
    have a5 : fX9_isOneLand (pc h d (2 * q)) (pc h d (2 * q + 1)) b = some (ol hx (pc h d (2 * q)) (pc h d (2 * q + 1)), b) := m_ol (I.m0 U) b0 b1
    have y5 : fX4_areOfOneLand (h 7 (16 * d + 2 * q)) (h 7 (16 * d + (2 * q + 1))) h = some (ol hx (pc h d (2 * q)) (pc h d (2 * q + 1)), h) := x_ol I.x0 b0 b1
    have aw := aw_2 q q100
    have c1 := pw1 q (Nat.lt_trans q100 (by decide))
    rw [am_it_s, am_it_s]
    clear ih
    generalize am_it (fun _ _ _ => none) fX4_partLands_2b f = K at nx ⊢
    generalize am_it (fun _ _ _ _ _ => none) fX9_lay_355b f' = K' at nx ⊢
    unfold fX4_partLands_2b fX4_partLands_75 fX9_lay_355b fX9_part fX9_part_51
    simp only [h1, hw, aw.2.1, aw.2.2.1, aw.2.2.2, i1, i2, ↓reduceIte, Int.toNat_natCast, fj p016, fj p116, at0, at1, ↓am_b_t, a5, y5, c1]
    clear hw
    by_cases q1 : ol hx (pc h d (2 * q)) (pc h d (2 * q + 1)) = 0
    · simp only [eqT q1, ↓reduceIte, ↓am_b_t]
      exact nx h b I
    · have qp := ol_p q1
      simp only [eqF q1, ↓reduceIte, a3, a4, ↓am_b_t]
      by_cases q2 : h 32 (2 * q + 1) = 0
      · obtain ⟨h', b', m1, m2, I'⟩ := e_mvA U I hqn (Or.inr rfl) q2 qp.2
        simp only [eqT q2, ↓reduceIte, m1, ↓am_b_t, ite_self, m2]
        exact nx h' b' I'
      · by_cases q3 : h 32 (2 * q) = 0
        · obtain ⟨h', b', m1, m2, I'⟩ := e_mvA U I hqn (Or.inl rfl) q3 qp.1
          simp only [eqF q2, eqT q3, ↓reduceIte, m1, ↓am_b_t, m2]
          exact nx h' b' I'
        · simp only [eqF q2, eqF q3, ↓reduceIte, ↓am_b_t]
          exact nx h b I
