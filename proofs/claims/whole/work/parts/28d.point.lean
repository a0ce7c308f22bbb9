/-! ===== a point is told ===== -/
theorem tl_t3 (L : Int) (w : Nat) (hw : w < 2) (t : tl_T) (h0 : t.2.2.1 0 < L) (h1 : t.2.2.1 1 < L) : (tl_told L w t = 3 → (tl_step w t).2.2.1 w = L) ∧ (tl_told L w t ≠ 3 → ¬ tl_won L (tl_step w t)) := by
  obtain ⟨p, g, s, ws, ga, ch⟩ := t
  dsimp only at h0 h1
  unfold tl_told tl_step tl_won
  by_cases c1 : tl_on w (p, g, s, ws, ga, ch)
  · simp only [eqT c1, ↓reduceIte]
    exact ⟨fun z => absurd z (by decide), fun _ z => by omega⟩
  · by_cases c2 : tl_son w (p, g, s, ws, ga, ch)
    · simp only [eqF c1, eqT c2, ↓reduceIte]
      exact ⟨fun z => absurd z (by decide), fun _ z => by omega⟩
    · simp only [eqF c1, eqF c2, ↓reduceIte]
      clear c1 c2
      rcases (show w = 0 ∨ w = 1 by omega) with rfl | rfl
      · by_cases c3 : s 0 + 1 = L
        · simp only [eqT c3, ↓reduceIte, up1]
          exact ⟨fun _ => trivial, fun z => absurd rfl z⟩
        · simp only [eqF c3, ↓reduceIte, up1]
          refine ⟨fun z => absurd z (by decide), fun _ z => ?_⟩
          rcases z with z | z
          · exact z
          · simp at z; omega
      · by_cases c3 : s 1 + 1 = L
        · simp only [eqT c3, ↓reduceIte, up1]
          exact ⟨fun _ => trivial, fun z => absurd rfl z⟩
        · simp only [eqF c3, ↓reduceIte, up1]
          refine ⟨fun z => absurd z (by decide), fun _ z => ?_⟩
          rcases z with z | z
          · simp at z; omega
          · exact z
theorem x_addP (d j Q s : Nat) (h : am_M) (hj : j < 16) (hQ : h 9 (16 * d + j) = Q) (hq : Q < 300) (hs : s < 2) : fX2_addPoint d (j : Int) (s : Int) h = some ((), am_up (am_up h 22 (160 * d + (10 * j + Q / 32)) (if s = 1 then am_or (h 22 (160 * d + (10 * j + Q / 32))) (am_shl 1 ((Q % 32 : Nat) : Int)) else am_and (h 22 (160 * d + (10 * j + Q / 32))) (am_xor (am_shl 1 ((Q % 32 : Nat) : Int)) (-1)))) 9 (16 * d + j) (((Q + 1 : Nat) : Int))) := by
  have i1 : (0 ≤ ((10 * j + Q / 32 : Nat) : Int) ∧ ((10 * j + Q / 32 : Nat) : Int) < 160) = True := eq_true (by omega)
  have i2 : ((s : Int) = 1) = (s = 1) := by apply propext; omega
  have w1 : am_w (Int.tdiv (Q : Int) 32) = ((Q / 32 : Nat) : Int) := by rw [show (32 : Int) = ((32 : Nat) : Int) from rfl, p_tdiv, pw_n]; omega
  have w2 : am_w ((j : Int) * 10) = ((10 * j : Nat) : Int) := by clear w1; rw [pw (by omega) (by omega)]; omega
  have w3 : am_w (((10 * j : Nat) : Int) + ((Q / 32 : Nat) : Int)) = ((10 * j + Q / 32 : Nat) : Int) := by clear w1 w2; rw [pw (by omega) (by omega)]; omega
  have w4 : Int.tmod (Q : Int) 32 = ((Q % 32 : Nat) : Int) := by rw [show (32 : Int) = ((32 : Nat) : Int) from rfl, p_tmod]
  have w5 := pw1 Q (Nat.lt_trans hq (by decide))
  unfold fX2_addPoint fX2_addPoint_62
  simp only [fj hj, ↓reduceIte, Int.toNat_natCast, hQ, ↓am_l_t, w1, w2, w3, w4, i1, i2, am_up_k _ _ _ _ (show (9 : Nat) ≠ 22 by decide), w5]
  by_cases c : s = 1
  · simp only [eqT c, ↓reduceIte]
  · simp only [eqF c, ↓reduceIte]
/-- the new bit -/
theorem bit_new (b : Int) (r0 s : Nat) (h0 : r0 < 32) (hs : s < 2) : ∀ r : Nat, r < 32 → am_and (am_ushr (if s = 1 then am_or b (am_shl 1 (r0 : Int)) else am_and b (am_xor (am_shl 1 (r0 : Int)) (-1))) (r : Int)) 1 = if r = r0 then (s : Int) else am_and (am_ushr b (r : Int)) 1 := by
  intro r hr
  by_cases c : s = 1
  · subst c
    rw [if_pos rfl, bit_or b r0 r h0 hr]
    rfl
  · have : s = 0 := by omega
    subst this
    rw [if_neg c, bit_an b r0 r h0 hr]
    rfl
theorem pQ_up (hm : am_M) (d j Q : Nat) (s : Int) (hj : j < 16) (hq : Q < 300) (x : Int) (y : Nat) : ∀ i, pQ (am_up (am_up hm 23 (300 * (16 * d + j) + Q) s) 9 y x) d j i = if i = Q then s else pQ hm d j i := by
  intro i
  unfold pQ lc
  by_cases c : 300 * j + i < 4800
  · rw [if_pos c, if_pos c, am_up_k _ _ _ _ (by decide)]
    by_cases ci : i = Q
    · subst ci
      rw [if_pos rfl, show 4800 * d + (300 * j + i) = 300 * (16 * d + j) + i by omega, am_up_s]
    · rw [if_neg ci, am_up_i]
      omega
  · rw [if_neg c, if_neg c, if_neg (by omega)]
theorem tl_p' {p p' : Nat → Int} {Q : Nat} {s : Int} (e : ∀ i, p' i = if i = Q then s else p i) : (∀ k, k ≤ Q → tl_at p' k = tl_at p k) ∧ tl_at p' (Q + 1) = tl_step s.toNat (tl_at p Q) := by
  have a : ∀ k, k ≤ Q → tl_at p' k = tl_at p k := fun k hk => tl_cg k (fun i hi => by rw [e, if_neg (by omega)])
  refine ⟨a, ?_⟩
  simp only [tl_at]
  rw [a Q (Nat.le_refl _), e, if_pos rfl]
theorem u_pt {hx hm : am_M} {d n j Q s : Nat} (D : Dr hx hm d n) (hj : j < n - 1) (hs : s < 2) (h0 : hx 20 (16 * d + j) = 0) (hk : n / 2 ≤ j → hx 20 (16 * d + 2 * (j - n / 2)) ≠ 0 ∧ hx 20 (16 * d + (2 * (j - n / 2) + 1)) ≠ 0) (hQ : hx 9 (16 * d + j) = Q) (hq : Q < 300) (v : Int) (hv : ∀ r : Nat, r < 32 → am_and (am_ushr v (r : Int)) 1 = if r = Q % 32 then (s : Int) else am_and (am_ushr (hx 22 (160 * d + (10 * j + Q / 32))) (r : Int)) 1) (ht : tl_told (hx 2 d) s (tl_at (pQ hm d j) Q) ≠ 3) : Rel (am_up (am_up hx 22 (160 * d + (10 * j + Q / 32)) v) 9 (16 * d + j) ((Q + 1 : Nat) : Int)) (am_up (am_up hm 23 (300 * (16 * d + j) + Q) (s : Int)) 9 (16 * d + j) ((Q + 1 : Nat) : Int)) := by
  have hj16 := D.j16 hj
  have hR := (D.Q hj16).2
  have hW := D.W hj
  have hE := D.E hj
  rw [h0, if_neg (by decide)] at hE
  have hR0 := D.R hj h0
  have p9 := D.a9 hj
  have p10 := D.a10 hj
  have p12 := D.nwon hj (by rw [h0]; decide)
  have hP := D.pok hj
  have hws := D.ws hj
  rw [if_neg (by rw [h0]; decide)] at hws
  rw [hQ, Int.toNat_natCast] at p12 hP hws
  rw [hQ] at p9 p10
  have t3 := tl_t3 (hx 2 d) s hs _ hws.1 hws.2
  have i22 : 10 * j + Q / 32 < 160 := by clear hW hws p12; omega
  have i23 : 300 * j + Q < 4800 := by clear hW hws p12; omega
  have hq2 : 0 ≤ ((Q + 1 : Nat) : Int) ∧ ((Q + 1 : Nat) : Int) ≤ 300 := by clear hW hws p12; omega
  have ep := pQ_up hm d j Q (s : Int) hj16 hq (((Q + 1 : Nat) : Int)) (16 * d + j)
  obtain ⟨et1, et2⟩ := tl_p' ep
  rw [Int.toNat_natCast] at et2
  have key9 : ∀ i : Nat, (i : Int) < ((Q + 1 : Nat) : Int) → (pQ (am_up (am_up hm 23 (300 * (16 * d + j) + Q) (s : Int)) 9 (16 * d + j) ((Q + 1 : Nat) : Int)) d j i = 0 ∨ pQ (am_up (am_up hm 23 (300 * (16 * d + j) + Q) (s : Int)) 9 (16 * d + j) ((Q + 1 : Nat) : Int)) d j i = 1) ∧ am_and (am_ushr ((am_up (am_up hx 22 (160 * d + (10 * j + Q / 32)) v) 9 (16 * d + j) ((Q + 1 : Nat) : Int)) 22 (160 * d + (10 * j + i / 32))) ((i % 32 : Nat) : Int)) 1 = pQ (am_up (am_up hm 23 (300 * (16 * d + j) + Q) (s : Int)) 9 (16 * d + j) ((Q + 1 : Nat) : Int)) d j i := by
    intro i hi
    rw [ep i, am_up_k _ _ _ _ (show (22 : Nat) ≠ 9 by decide)]
    have i32 : i % 32 < 32 := Nat.mod_lt _ (by decide)
    by_cases ci : i = Q
    · subst ci
      rw [if_pos rfl, am_up_s, hv _ i32, if_pos rfl]
      refine ⟨?_, rfl⟩
      clear hv hW hws p12 p9 p10
      omega
    · have ci2 : i < Q := by clear hW hws p12; omega
      have p := p9 i (by clear hW hws p12; omega)
      rw [if_neg ci]
      refine ⟨p.1, ?_⟩
      by_cases cw : i / 32 = Q / 32
      · have cm : ¬ i % 32 = Q % 32 := by clear hW hws p12; omega
        rw [cw, am_up_s, hv _ i32, if_neg cm, ← cw]
        exact p.2
      · have cw2 : 160 * d + (10 * j + i / 32) ≠ 160 * d + (10 * j + Q / 32) := by clear hW hws p12; omega
        rw [am_up_i _ _ _ cw2]
        exact p.2
  have key10 : ∀ k : Nat, (k : Int) < ((Q + 1 : Nat) : Int) → ¬ tl_won (hx 2 d) (tl_at (pQ (am_up (am_up hm 23 (300 * (16 * d + j) + Q) (s : Int)) 9 (16 * d + j) ((Q + 1 : Nat) : Int)) d j) k) := by
    intro k hk2
    have k1 : k ≤ Q := by clear hW hws p12; omega
    rw [et1 k k1]
    rcases Nat.lt_or_eq_of_le k1 with q | q
    · exact p10 k (by clear hW hws p12; omega)
    · rw [q]; exact p12
  refine D.upd hj ?_
    (fun k h0 h6 => by simp only [am_up_ap, ↓reduceIte, eqF (show ¬ k = 9 by omega), eqF (show ¬ k = 10 by omega), eqF (show ¬ k = 20 by omega), eqF (show ¬ k = 21 by omega), eqF (show ¬ k = 22 by omega)])
    (fun i hi => by simp only [am_up_ap, Nat.reduceEqDiff, ↓reduceIte]) (fun i hi => by simp only [am_up_ap, Nat.reduceEqDiff, ↓reduceIte]) (fun i hi => by simp only [am_up_ap, Nat.reduceEqDiff, ↓reduceIte]) (fun i hi => by simp only [am_up_ap, Nat.reduceEqDiff, ↓reduceIte])
    (fun i hi hne => by simp only [am_up_ap, Nat.reduceEqDiff, ↓reduceIte, eqF (ixne d hne)]) (fun i hi hne => by simp only [am_up_ap, Nat.reduceEqDiff, ↓reduceIte, eqF (ixne d hne)]) (fun i hi hne => by simp only [am_up_ap, Nat.reduceEqDiff, ↓reduceIte, eqF (ixne d hne)]) (fun i hi hne => by simp only [am_up_ap, Nat.reduceEqDiff, ↓reduceIte, eqF (ixne d hne)]) (fun i hi hne => by simp only [am_up_ap, Nat.reduceEqDiff, ↓reduceIte, eqF (ixne d hne)]) (fun i hi hne => by simp only [am_up_ap, Nat.reduceEqDiff, ↓reduceIte, eqF (ixne d hne)])
    (fun i hi hne q hq => ?_) (fun i hi hne q hq => ?_)
    (by simp only [am_up_ap, Nat.reduceEqDiff, ↓reduceIte]; exact hq2) (by simp only [am_up_ap, Nat.reduceEqDiff, ↓reduceIte]; exact hR) (fun _ z => absurd h0 z) (RM.mk D hj ?_ ?_ (by rw [h0]; decide) (fun _ hj2 => ?_) ?_ ?_ ?_ (by simp only [am_up_ap, Nat.reduceEqDiff, ↓reduceIte]; exact hq2) ?_ ?_ ?_ ?_)
  · exact (((D.1.O d).x v (Or.inl (by decide)) (ow22 i22)).m (s : Int) (Or.inl (by decide)) (by rw [show 300 * (16 * d + j) + Q = 4800 * d + (300 * j + Q) by omega]; exact om23 i23)).both _ (by decide) (by decide) (ow16 (by decide) hj16)
  · have : ¬ 160 * d + (10 * i + q) = 160 * d + (10 * j + Q / 32) := by clear hW hws p12; omega
    simp only [am_up_ap, Nat.reduceEqDiff, ↓reduceIte, eqF this]
  · have : ¬ 4800 * d + (300 * i + q) = 300 * (16 * d + j) + Q := by clear hW hws p12; omega
    simp only [am_up_ap, Nat.reduceEqDiff, ↓reduceIte, eqF this]
  · simp only [am_up_ap, Nat.reduceEqDiff, ↓reduceIte]
    exact hW
  · simp only [am_up_ap, Nat.reduceEqDiff, ↓reduceIte]
    exact Or.inl h0
  · have nn := ff_ne D.2.2.1 hj hj2
    simp only [am_up_ap, Nat.reduceEqDiff, ↓reduceIte, eqF (ixne d nn.1), eqF (ixne d nn.2)]
    exact hk hj2
  · simp only [am_up_ap, Nat.reduceEqDiff, ↓reduceIte]
    exact fun _ => hR0
  · simp only [am_up_ap, Nat.reduceEqDiff, ↓reduceIte]
    rw [h0, if_neg (by decide)]; exact hE
  · simp only [am_up_ap, Nat.reduceEqDiff, ↓reduceIte]
    rw [h0]; exact fun z => absurd z (by decide)
  · simp only [am_up_s]
    exact key9
  · simp only [am_up_s]
    exact key10
  · simp only [am_up_ap, Nat.reduceEqDiff, ↓reduceIte]
    rw [h0]; exact fun z => absurd z (by decide)
  · simp only [am_up_ap, Nat.reduceEqDiff, ↓reduceIte]
    simp only [Int.toNat_natCast, et2]; exact fun _ => t3.2 ht
theorem u_pt3 {hx hm : am_M} {d n j Q s : Nat} (D : Dr hx hm d n) (hj : j < n - 1) (hs : s < 2) (h0 : hx 20 (16 * d + j) = 0) (hk : n / 2 ≤ j → hx 20 (16 * d + 2 * (j - n / 2)) ≠ 0 ∧ hx 20 (16 * d + (2 * (j - n / 2) + 1)) ≠ 0) (hQ : hx 9 (16 * d + j) = Q) (hq : Q < 300) (v : Int) (hv : ∀ r : Nat, r < 32 → am_and (am_ushr v (r : Int)) 1 = if r = Q % 32 then (s : Int) else am_and (am_ushr (hx 22 (160 * d + (10 * j + Q / 32))) (r : Int)) 1) (ht : tl_told (hx 2 d) s (tl_at (pQ hm d j) Q) = 3) : Rel (am_up (am_up (am_up (am_up hx 22 (160 * d + (10 * j + Q / 32)) v) 9 (16 * d + j) ((Q + 1 : Nat) : Int)) 20 (16 * d + j) 3) 21 (16 * d + j) (s : Int)) (am_up (am_up hm 23 (300 * (16 * d + j) + Q) (s : Int)) 9 (16 * d + j) ((Q + 1 : Nat) : Int)) := by
  have hj16 := D.j16 hj
  have hR := (D.Q hj16).2
  have hW := D.W hj
  have hE := D.E hj
  rw [h0, if_neg (by decide)] at hE
  have hR0 := D.R hj h0
  have p9 := D.a9 hj
  have p10 := D.a10 hj
  have p12 := D.nwon hj (by rw [h0]; decide)
  have hP := D.pok hj
  have hws := D.ws hj
  rw [if_neg (by rw [h0]; decide)] at hws
  rw [hQ, Int.toNat_natCast] at p12 hP hws
  rw [hQ] at p9 p10
  have t3 := tl_t3 (hx 2 d) s hs _ hws.1 hws.2
  have i22 : 10 * j + Q / 32 < 160 := by clear hW hws p12; omega
  have i23 : 300 * j + Q < 4800 := by clear hW hws p12; omega
  have hq2 : 0 ≤ ((Q + 1 : Nat) : Int) ∧ ((Q + 1 : Nat) : Int) ≤ 300 := by clear hW hws p12; omega
  have ep := pQ_up hm d j Q (s : Int) hj16 hq (((Q + 1 : Nat) : Int)) (16 * d + j)
  obtain ⟨et1, et2⟩ := tl_p' ep
  rw [Int.toNat_natCast] at et2
  have key9 : ∀ i : Nat, (i : Int) < ((Q + 1 : Nat) : Int) → (pQ (am_up (am_up hm 23 (300 * (16 * d + j) + Q) (s : Int)) 9 (16 * d + j) ((Q + 1 : Nat) : Int)) d j i = 0 ∨ pQ (am_up (am_up hm 23 (300 * (16 * d + j) + Q) (s : Int)) 9 (16 * d + j) ((Q + 1 : Nat) : Int)) d j i = 1) ∧ am_and (am_ushr ((am_up (am_up hx 22 (160 * d + (10 * j + Q / 32)) v) 9 (16 * d + j) ((Q + 1 : Nat) : Int)) 22 (160 * d + (10 * j + i / 32))) ((i % 32 : Nat) : Int)) 1 = pQ (am_up (am_up hm 23 (300 * (16 * d + j) + Q) (s : Int)) 9 (16 * d + j) ((Q + 1 : Nat) : Int)) d j i := by
    intro i hi
    rw [ep i, am_up_k _ _ _ _ (show (22 : Nat) ≠ 9 by decide)]
    have i32 : i % 32 < 32 := Nat.mod_lt _ (by decide)
    by_cases ci : i = Q
    · subst ci
      rw [if_pos rfl, am_up_s, hv _ i32, if_pos rfl]
      refine ⟨?_, rfl⟩
      clear hv hW hws p12 p9 p10
      omega
    · have ci2 : i < Q := by clear hW hws p12; omega
      have p := p9 i (by clear hW hws p12; omega)
      rw [if_neg ci]
      refine ⟨p.1, ?_⟩
      by_cases cw : i / 32 = Q / 32
      · have cm : ¬ i % 32 = Q % 32 := by clear hW hws p12; omega
        rw [cw, am_up_s, hv _ i32, if_neg cm, ← cw]
        exact p.2
      · have cw2 : 160 * d + (10 * j + i / 32) ≠ 160 * d + (10 * j + Q / 32) := by clear hW hws p12; omega
        rw [am_up_i _ _ _ cw2]
        exact p.2
  have key10 : ∀ k : Nat, (k : Int) < ((Q + 1 : Nat) : Int) → ¬ tl_won (hx 2 d) (tl_at (pQ (am_up (am_up hm 23 (300 * (16 * d + j) + Q) (s : Int)) 9 (16 * d + j) ((Q + 1 : Nat) : Int)) d j) k) := by
    intro k hk2
    have k1 : k ≤ Q := by clear hW hws p12; omega
    rw [et1 k k1]
    rcases Nat.lt_or_eq_of_le k1 with q | q
    · exact p10 k (by clear hW hws p12; omega)
    · rw [q]; exact p12
  refine D.upd hj ?_
    (fun k h0 h6 => by simp only [am_up_ap, ↓reduceIte, eqF (show ¬ k = 9 by omega), eqF (show ¬ k = 10 by omega), eqF (show ¬ k = 20 by omega), eqF (show ¬ k = 21 by omega), eqF (show ¬ k = 22 by omega)])
    (fun i hi => by simp only [am_up_ap, Nat.reduceEqDiff, ↓reduceIte]) (fun i hi => by simp only [am_up_ap, Nat.reduceEqDiff, ↓reduceIte]) (fun i hi => by simp only [am_up_ap, Nat.reduceEqDiff, ↓reduceIte]) (fun i hi => by simp only [am_up_ap, Nat.reduceEqDiff, ↓reduceIte])
    (fun i hi hne => by simp only [am_up_ap, Nat.reduceEqDiff, ↓reduceIte, eqF (ixne d hne)]) (fun i hi hne => by simp only [am_up_ap, Nat.reduceEqDiff, ↓reduceIte, eqF (ixne d hne)]) (fun i hi hne => by simp only [am_up_ap, Nat.reduceEqDiff, ↓reduceIte, eqF (ixne d hne)]) (fun i hi hne => by simp only [am_up_ap, Nat.reduceEqDiff, ↓reduceIte, eqF (ixne d hne)]) (fun i hi hne => by simp only [am_up_ap, Nat.reduceEqDiff, ↓reduceIte, eqF (ixne d hne)]) (fun i hi hne => by simp only [am_up_ap, Nat.reduceEqDiff, ↓reduceIte, eqF (ixne d hne)])
    (fun i hi hne q hq => ?_) (fun i hi hne q hq => ?_)
    (by simp only [am_up_ap, Nat.reduceEqDiff, ↓reduceIte]; exact hq2) (by simp only [am_up_ap, Nat.reduceEqDiff, ↓reduceIte]; exact hR) (fun _ z => absurd h0 z) (RM.mk D hj ?_ ?_ (by rw [h0]; decide) (fun _ hj2 => ?_) ?_ ?_ ?_ (by simp only [am_up_ap, Nat.reduceEqDiff, ↓reduceIte]; exact hq2) ?_ ?_ ?_ ?_)
  · exact (((((D.1.O d).x v (Or.inl (by decide)) (ow22 i22)).m (s : Int) (Or.inl (by decide)) (by rw [show 300 * (16 * d + j) + Q = 4800 * d + (300 * j + Q) by omega]; exact om23 i23)).both _ (by decide) (by decide) (ow16 (by decide) hj16)).x 3 (Or.inl (by decide)) (ow16 (by decide) hj16)).x (s : Int) (Or.inl (by decide)) (ow16 (by decide) hj16)
  · have : ¬ 160 * d + (10 * i + q) = 160 * d + (10 * j + Q / 32) := by clear hW hws p12; omega
    simp only [am_up_ap, Nat.reduceEqDiff, ↓reduceIte, eqF this]
  · have : ¬ 4800 * d + (300 * i + q) = 300 * (16 * d + j) + Q := by clear hW hws p12; omega
    simp only [am_up_ap, Nat.reduceEqDiff, ↓reduceIte, eqF this]
  · simp only [am_up_ap, Nat.reduceEqDiff, ↓reduceIte]
    exact (by clear hW hws p12; omega)
  · simp only [am_up_ap, Nat.reduceEqDiff, ↓reduceIte]
    exact Or.inr (Or.inl trivial)
  · have nn := ff_ne D.2.2.1 hj hj2
    simp only [am_up_ap, Nat.reduceEqDiff, ↓reduceIte, eqF (ixne d nn.1), eqF (ixne d nn.2)]
    exact hk hj2
  · simp only [am_up_ap, Nat.reduceEqDiff, ↓reduceIte]
    exact fun z => absurd z (by decide)
  · simp only [am_up_ap, Nat.reduceEqDiff, ↓reduceIte]
    exact hE
  · simp only [am_up_ap, Nat.reduceEqDiff, ↓reduceIte]
    exact fun z => absurd z (by decide)
  · simp only [am_up_k _ _ _ _ (show (22 : Nat) ≠ 21 by decide), am_up_k _ _ _ _ (show (22 : Nat) ≠ 20 by decide), am_up_k _ _ _ _ (show (9 : Nat) ≠ 21 by decide), am_up_k _ _ _ _ (show (9 : Nat) ≠ 20 by decide), am_up_s]
    exact key9
  · simp only [am_up_k _ _ _ _ (show (9 : Nat) ≠ 21 by decide), am_up_k _ _ _ _ (show (9 : Nat) ≠ 20 by decide), am_up_s]
    exact key10
  · simp only [am_up_k _ _ _ _ (show (9 : Nat) ≠ 21 by decide), am_up_k _ _ _ _ (show (9 : Nat) ≠ 20 by decide), am_up_s, Int.toNat_natCast, et2]
    exact fun _ => t3.1 ht
  · simp only [am_up_ap, Nat.reduceEqDiff, ↓reduceIte]
    exact fun z => absurd rfl z
theorem pok_up {L : Int} {p p' : Nat → Int} {Q s : Nat} (e : ∀ i, p' i = if i = Q then (s : Int) else p i) (hs : s < 2) (hq : Q < 300) (hP : pok L p Q) (hn : ¬ tl_won L (tl_at p Q)) : pok L p' (Q + 1) := by
  refine ⟨hP.1, by omega, fun i hi => ?_, fun k hk => ?_⟩
  · rw [e i]
    by_cases c : i = Q
    · rw [if_pos c]; omega
    · rw [if_neg c]; exact hP.2.2.1 i (by omega)
  · rw [(tl_p' e).1 k (by omega)]
    rcases Nat.lt_or_eq_of_le (Nat.le_of_lt_succ hk) with q | q
    · exact hP.2.2.2 k q
    · rw [q]; exact hn
theorem f128 {s : Nat} (h : s < 2) : (-128 ≤ (s : Int) ∧ (s : Int) < 128) = True := eq_true (by omega)
theorem f192 {c Q : Nat} (h : c < 64) (hq : Q < 300) : (0 ≤ ((300 * c + Q : Nat) : Int) ∧ ((300 * c + Q : Nat) : Int) < 19200) = True := eq_true (by omega)
theorem mpt {hx hm : am_M} {d n j Q s : Nat} (D : Dr hx hm d n) (hj : j < n - 1) (hs : s < 2) (h0 : hx 20 (16 * d + j) = 0) (hQ : hx 9 (16 * d + j) = Q) (hq : Q < 300) : ∃ h', fX9_replay ((16 * d + j : Nat) : Int) ((Q + 1 : Nat) : Int) (am_up (am_up hm 23 (300 * (16 * d + j) + Q) (s : Int)) 9 (16 * d + j) ((Q + 1 : Nat) : Int)) = some ((), h') ∧ sc (am_up (am_up hm 23 (300 * (16 * d + j) + Q) (s : Int)) 9 (16 * d + j) ((Q + 1 : Nat) : Int)) h' ∧ h' 51 0 = tl_told (hx 2 d) s (tl_at (pQ hm d j) Q) := by
  have hj16 := D.j16 hj
  have p12 := D.nwon hj (by rw [h0]; decide)
  have hP := D.pok hj
  rw [hQ, Int.toNat_natCast] at p12 hP
  have ep := pQ_up hm d j Q (s : Int) hj16 hq (((Q + 1 : Nat) : Int)) (16 * d + j)
  have hL : (am_up (am_up hm 23 (300 * (16 * d + j) + Q) (s : Int)) 9 (16 * d + j) ((Q + 1 : Nat) : Int)) 2 d = hx 2 d := by
    rw [am_up_k _ _ _ _ (by decide), am_up_k _ _ _ _ (by decide)]
    exact (D.1.kk (k := 2) (by decide) (by decide) d).symm
  obtain ⟨h', e, s', _, _, l⟩ := m_replay d j (Q + 1) (hx 2 d) _ _ D.2.1 hj16 hL hq (pok_up ep hs hq hP p12) (fun i hi => pQ_at _ d hj16 (Nat.lt_of_lt_of_le hi hq)) _ (sc.rf _)
  refine ⟨h', e, s', ?_⟩
  rw [l]
  simp only [tl_last]
  rw [(tl_p' ep).1 Q (Nat.le_refl _), ep, if_pos rfl, Int.toNat_natCast]
theorem e_point {hx hm : am_M} (r : Rel hx hm) (a b : Int) (ha : am_in a) : Same (fX8_point a b hx) (fX9_point a b hm) := by
  unfold fX8_point fX9_point
  rcases mt r a ha with ⟨d, n, j, rfl, D, hj⟩ | ⟨e1, e2⟩
  · by_cases cs : b = 0 ∨ b = 1
    · have cs' : 0 ≤ b ∧ b ≤ 1 := by omega
      obtain ⟨s, rfl, hs2⟩ := isS cs
      have hq := (D.Q (D.j16 hj)).1
      obtain ⟨h1, e1, s1⟩ := m_isEnded D hj hm (sc.rf _)
      simp only [D.lw hj hx (sc.rf _), D.im hj hm (sc.rf _), ↓am_b_t, ↓am_l_t, am_on_some D.2.1, D.no hj, fj (D.j16 hj), fd D.2.1, fc D.2.1 (D.j16 hj), cd_div d j (D.j16 hj) D.2.1, cd_mod d j (D.j16 hj), ↓reduceIte, Int.toNat_natCast, z10, z00, p_isSide, p_in, eqT cs, eqT cs', e1, p_ref D hj hx (sc.rf _)]
      by_cases c : hx 20 (16 * d + j) = 0
      · have c6 : hx 20 (16 * d + j) ≠ 6 := by rw [c]; decide
        obtain ⟨h2, e2, s2⟩ := m_isKnown D hj h1 s1
        have hkn := kn D hj c6
        have r2 : Rel hx h2 := r.sc (sc.rf _) s2
        simp only [eqT c, ↓reduceIte, e2, ↓am_b_t, ← r2.kk (k := 9) (by decide) (by decide)]
        by_cases c2 : sd hx d n j 0 = -2 ∨ sd hx d n j 1 = -2
        · have c3 := hkn.mpr c2
          simp only [eqT c2, eqT c3, ↓reduceIte, show ((-5 : Int) = 0) = False by decide]
          exact Same.mk rfl r2
        · have c3 : ¬ (sd hx d n j 0 < 0 ∨ sd hx d n j 1 < 0) := fun z => c2 (hkn.mp z)
          simp only [eqF c2, eqF c3, ↓reduceIte, z10]
          by_cases cq : hx 9 (16 * d + j) = 300
          · have cq' : ¬ hx 9 (16 * d + j) < 300 := by omega
            simp only [eqT cq, eqF cq', ↓reduceIte]
            exact Same.mk rfl r2
          · have cq' : hx 9 (16 * d + j) < 300 := by omega
            obtain ⟨Q, hQ⟩ := p_nat hq.1
            have hQ3 : Q < 300 := by omega
            simp only [eqF cq, eqT cq', ↓reduceIte]
            obtain ⟨g1, f1, t1, T1, l1⟩ := D.xr hj hx (sc.rf _)
            have hP := D.pok hj
            have hws := D.ws hj
            rw [if_neg (by rw [c]; decide)] at hws
            rw [hQ, Int.toNat_natCast] at hP hws T1
            have hL3 : hx 2 d ≤ 3 := by have := D.L; omega
            obtain ⟨g2, f2, T2, t2, l2⟩ := x_take (s : Int) (hx 2 d) Q (tl_at (pQ hm d j) Q) g1 (by omega) T1 (hP.tb (Nat.le_refl _)) (by omega) hL3 l1 hws.1 hws.2
            have t12 := t1.tr t2
            have hQ2 : g2 9 (16 * d + j) = Q := by rw [t12 9 (by decide)]; exact hQ
            have D2 := D.sc t12 s2
            have ec : g2 20 (16 * d + j) = 0 := by rw [t12 20 (by decide)]; exact c
            have ek : n / 2 ≤ j → g2 20 (16 * d + 2 * (j - n / 2)) ≠ 0 ∧ g2 20 (16 * d + (2 * (j - n / 2) + 1)) ≠ 0 := by rw [t12 20 (by decide)]; exact fun z => kn_f D hj c2 z
            have eL : g2 2 d = hx 2 d := by rw [t12 2 (by decide)]
            have epq : pQ h2 d j = pQ hm d j := pQ_cg (s2 23 (by decide))
            obtain ⟨h3, e3, s3, v3⟩ := mpt D2 hj hs2 ec hQ2 hQ3
            rw [eL, epq] at v3
            have c64 : 16 * d + j < 64 := by have := D.2.1; have := D.j16 hj; omega
            rw [Int.toNat_natCast] at f2
            unfold fX2_finish
            simp only [f1, ↓am_b_t, f2, x_addP d j Q s g2 (D.j16 hj) hQ2 hQ3 hs2, f128 hs2, ↓reduceIte, hQ, m_ix (16 * d + j) Q c64 hQ3, f192 c64 hQ3, ↓am_l_t, fj (D.j16 hj), fc D.2.1 (D.j16 hj), Int.toNat_natCast, am_up_k _ _ _ _ (show (9 : Nat) ≠ 23 by decide), ← r2.kk (k := 9) (by decide) (by decide), pw1 Q (Nat.lt_trans hQ3 (by decide)), am_up_s, e3, v3]
            have hv := bit_new (g2 22 (160 * d + (10 * j + Q / 32))) (Q % 32) s (Nat.mod_lt _ (by decide)) hs2
            by_cases c5 : tl_told (hx 2 d) s (tl_at (pQ hm d j) Q) = 3
            · simp only [eqT c5, ↓reduceIte]
              exact Same.mk rfl ((u_pt3 D2 hj hs2 ec ek hQ2 hQ3 _ hv (by rw [eL, epq]; exact c5)).sc (sc.rf _) s3)
            · simp only [eqF c5, ↓reduceIte]
              exact Same.mk rfl ((u_pt D2 hj hs2 ec ek hQ2 hQ3 _ hv (by rw [eL, epq]; exact c5)).sc (sc.rf _) s3)
      · simp only [eqF c, ↓reduceIte, z10, show ((-6 : Int) = 0) = False by decide]
        exact Same.mk rfl (r.sc (sc.rf _) s1)
    · have cs' : ¬ (0 ≤ b ∧ b ≤ 1) := by omega
      simp only [D.lw hj hx (sc.rf _), D.im hj hm (sc.rf _), ↓am_b_t, ↓am_l_t, am_on_some D.2.1, D.no hj, fj (D.j16 hj), fd D.2.1, fc D.2.1 (D.j16 hj), cd_div d j (D.j16 hj) D.2.1, cd_mod d j (D.j16 hj), ↓reduceIte, Int.toNat_natCast, z10, z00, p_isSide, p_in, eqF cs, eqF cs']
      exact Same.mk rfl r
  · rw [e1 _ (sc.rf _), am_b_some, am_on_none, e2 _ (sc.rf _), am_b_some, if_pos rfl]
    exact Same.mk rfl r
