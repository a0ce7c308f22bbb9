/-! ===== a match changes ===== -/
theorem tl_cg {p p' : Nat → Int} : ∀ k : Nat, (∀ i, i < k → p' i = p i) → tl_at p' k = tl_at p k := by
  intro k
  induction k with
  | zero => intro _; rfl
  | succ k ih =>
    intro h
    simp only [tl_at]
    rw [ih (fun i hi => h i (by omega)), h k (by omega)]
theorem RM.cg {n : Nat} {L : Int} {P H W R Q B mQ mE mW H' W' R' Q' B' mQ' mE' mW' : Nat → Int} {i : Nat} (h : RM n L P H W R Q B mQ mE mW i) (hQ : Q i ≤ 300) (e1 : H' i = H i) (e2 : W' i = W i) (e3 : R' i = R i) (e4 : Q' i = Q i) (e5 : mE' i = mE i) (e6 : mW' i = mW i) (e7 : ∀ q, q < 300 → mQ' (300 * i + q) = mQ (300 * i + q)) (e8 : ∀ q, q < 10 → B' (10 * i + q) = B (10 * i + q))
    (hf : (H i = 3 ∨ H i = 4 ∨ H i = 5 ∨ 0 < Q i) → n / 2 ≤ i → H (2 * (i - n / 2)) ≠ 0 ∧ H (2 * (i - n / 2) + 1) ≠ 0 → H' (2 * (i - n / 2)) ≠ 0 ∧ H' (2 * (i - n / 2) + 1) ≠ 0) : RM n L P H' W' R' Q' B' mQ' mE' mW' i := by
  obtain ⟨a1, a2, a3, a4, a5, a6, a7, a8, a9, a10, a11, a12⟩ := h
  have hq : ∀ k : Nat, (k : Int) ≤ Q i → tl_at (fun q => mQ' (300 * i + q)) k = tl_at (fun q => mQ (300 * i + q)) k := fun k hk => tl_cg k (fun q hq => e7 q (by omega))
  unfold RM
  rw [e1, e2, e3, e4, e5, e6]
  refine ⟨a1, a2, a3, a4, fun z1 z2 => hf z1 z2 (a5 z1 z2), a6, a7, a8, fun q hq1 => ?_, fun k hk => ?_, fun z => ?_, fun z => ?_⟩
  · rw [e7 q (by omega), e8 (q / 32) (by omega)]
    exact a9 q hq1
  · rw [hq k (by omega)]; exact a10 k hk
  · by_cases c : 0 ≤ Q i
    · rw [hq _ (by omega)]; exact a11 z
    · have : (Q i).toNat = 0 := by omega
      rw [this] at a11 ⊢
      exact a11 z
  · by_cases c : 0 ≤ Q i
    · rw [hq _ (by omega)]; exact a12 z
    · have : (Q i).toNat = 0 := by omega
      rw [this] at a12 ⊢
      exact a12 z
theorem ix10 {i q : Nat} (hi : i < 16) (hq : q < 10) : 10 * i + q < 160 := by omega
theorem ix300 {i q : Nat} (hi : i < 16) (hq : q < 300) : 300 * i + q < 4800 := by omega
theorem ff_e {n f i : Nat} (hn : szn n) (hi : n / 2 ≤ i) (e : f = 2 * (i - n / 2) ∨ f = 2 * (i - n / 2) + 1) : n / 2 + f / 2 = i := by omega
theorem ff_16 {n i : Nat} (hn : szn n) (hi : i < n - 1) : 2 * (i - n / 2) + 1 < 16 := by have := hn.b; omega
theorem Dr.upd {hx hm hx' hm' : am_M} {d n j : Nat} (D : Dr hx hm d n) (hj : j < n - 1) (RO : RelO d hx' hm')
    (k1 : ∀ k, 0 < k → k < 6 → hx' k d = hx k d) (k6 : ∀ i, i < 16 → hx' 6 (16 * d + i) = hx 6 (16 * d + i)) (k7 : ∀ i, i < 16 → hx' 7 (16 * d + i) = hx 7 (16 * d + i)) (k8 : ∀ i, i < 40 → hx' 8 (40 * d + i) = hx 8 (40 * d + i)) (m7 : ∀ i, i < 16 → hm' 7 (16 * d + i) = hm 7 (16 * d + i))
    (o20 : ∀ i, i < 16 → i ≠ j → hx' 20 (16 * d + i) = hx 20 (16 * d + i)) (o21 : ∀ i, i < 16 → i ≠ j → hx' 21 (16 * d + i) = hx 21 (16 * d + i)) (o10 : ∀ i, i < 16 → i ≠ j → hx' 10 (16 * d + i) = hx 10 (16 * d + i)) (o9 : ∀ i, i < 16 → i ≠ j → hx' 9 (16 * d + i) = hx 9 (16 * d + i)) (o24 : ∀ i, i < 16 → i ≠ j → hm' 24 (16 * d + i) = hm 24 (16 * d + i)) (o25 : ∀ i, i < 16 → i ≠ j → hm' 25 (16 * d + i) = hm 25 (16 * d + i))
    (o22 : ∀ i, i < 16 → i ≠ j → ∀ q, q < 10 → hx' 22 (160 * d + (10 * i + q)) = hx 22 (160 * d + (10 * i + q))) (o23 : ∀ i, i < 16 → i ≠ j → ∀ q, q < 300 → hm' 23 (4800 * d + (300 * i + q)) = hm 23 (4800 * d + (300 * i + q)))
    (hQ : 0 ≤ hx' 9 (16 * d + j) ∧ hx' 9 (16 * d + j) ≤ 300) (hR : -1 ≤ hx' 10 (16 * d + j) ∧ hx' 10 (16 * d + j) ≤ 100000)
    (hf : hx' 20 (16 * d + j) = 0 → hx 20 (16 * d + j) ≠ 0 → n / 2 + j / 2 < n - 1 → hx 20 (16 * d + (n / 2 + j / 2)) = 0 ∧ hx 9 (16 * d + (n / 2 + j / 2)) = 0)
    (hM : RM n (hx 2 d) (lc hx 7 d 16) (lc hx' 20 d 16) (lc hx' 21 d 16) (lc hx' 10 d 16) (lc hx' 9 d 16) (lc hx' 22 d 160) (lc hm' 23 d 4800) (lc hm' 24 d 16) (lc hm' 25 d 16) j) : Rel hx' hm' := by
  have RL := D.rl
  have LE : ∀ {h h' : am_M} {k w : Nat}, (∀ i, i < w → h' k (w * d + i) = h k (w * d + i)) → lc h' k d w = lc h k d w := by
    intro h h' k w e
    funext i
    unfold lc
    by_cases c : i < w
    · rw [if_pos c, if_pos c, e i c]
    · rw [if_neg c, if_neg c]
  refine RO.R ?_
  have h0 := D.1.2.2 d D.2.1
  have e5 := D.2.2.2.2
  have e1 := D.2.2.2.1
  unfold RDx at *
  rw [k1 1 (by decide) (by decide), k1 2 (by decide) (by decide), k1 3 (by decide) (by decide), k1 4 (by decide) (by decide), k1 5 (by decide) (by decide), LE k6, LE k7, LE k8, LE m7]
  have at16 : ∀ (h : am_M) (k : Nat) {i : Nat}, i < 16 → lc h k d 16 i = h k (16 * d + i) := fun h k i hi => lc_at h k d hi
  have z9 := h0.2.2.2.2.2.2.2.2.1
  refine ⟨h0.1, h0.2.1, h0.2.2.1, h0.2.2.2.1, h0.2.2.2.2.1, h0.2.2.2.2.2.1, h0.2.2.2.2.2.2.1, h0.2.2.2.2.2.2.2.1, fun i hi => ?_, fun z => absurd (e5.symm.trans z) (by decide), fun z => ⟨(h0.2.2.2.2.2.2.2.2.2.2 z).1, ?_⟩⟩
  · rw [at16 _ _ hi, at16 _ _ hi]
    by_cases c : i = j
    · subst c; exact ⟨hQ, hR⟩
    · rw [o9 i hi c, o10 i hi c]
      have := z9 i hi
      rw [at16 _ _ hi, at16 _ _ hi] at this
      exact this
  · rw [e1, Int.toNat_natCast]
    refine ⟨RL.1, RL.2.1, fun i hi => ?_⟩
    by_cases c : i = j
    · subst c; exact hM
    · have hi16 : i < 16 := D.j16 hi
      refine (RL.2.2 i hi).cg ?_ ?_ ?_ ?_ ?_ ?_ ?_ (fun q hq => ?_) (fun q hq => ?_) (fun y1 y2 y3 => ?_)
      · exact (z9 i hi16).1.2
      · rw [at16 _ _ hi16, at16 _ _ hi16]; exact o20 i hi16 c
      · rw [at16 _ _ hi16, at16 _ _ hi16]; exact o21 i hi16 c
      · rw [at16 _ _ hi16, at16 _ _ hi16]; exact o10 i hi16 c
      · rw [at16 _ _ hi16, at16 _ _ hi16]; exact o9 i hi16 c
      · rw [at16 _ _ hi16, at16 _ _ hi16]; exact o24 i hi16 c
      · rw [at16 _ _ hi16, at16 _ _ hi16]; exact o25 i hi16 c
      · rw [lc_at _ _ _ (ix300 hi16 hq), lc_at _ _ _ (ix300 hi16 hq)]; exact o23 i hi16 c q hq
      · rw [lc_at _ _ _ (ix10 hi16 hq), lc_at _ _ _ (ix10 hi16 hq)]; exact o22 i hi16 c q hq
      · have key : ∀ f, f < 16 → (f = 2 * (i - n / 2) ∨ f = 2 * (i - n / 2) + 1) → lc hx 20 d 16 f ≠ 0 → lc hx' 20 d 16 f ≠ 0 := by
          intro f hf16 hfe hne
          rw [at16 _ _ hf16] at hne ⊢
          by_cases cf : f = j
          · subst cf
            intro z
            have hi2 : n / 2 + f / 2 = i := ff_e D.2.2.1 y2 hfe
            have := hf z hne (by rw [hi2]; exact hi)
            rw [hi2] at this
            rw [at16 _ _ hi16, at16 _ _ hi16] at y1
            rcases y1 with q | q | q | q
            · exact absurd (this.1.symm.trans q) (by decide)
            · exact absurd (this.1.symm.trans q) (by decide)
            · exact absurd (this.1.symm.trans q) (by decide)
            · rw [this.2] at q; exact absurd q (by decide)
          · rw [o20 f hf16 cf]; exact hne
        have b := ff_16 D.2.2.1 hi
        exact ⟨key _ (Nat.lt_of_succ_lt b) (Or.inl rfl) y3.1, key _ b (Or.inr rfl) y3.2⟩
/-- shorter: what is given of match j itself -/
theorem RM.mk {hx hm hx' hm' : am_M} {d n j : Nat} (D : Dr hx hm d n) (hj : j < n - 1) (a1 : hx' 21 (16 * d + j) = 0 ∨ hx' 21 (16 * d + j) = 1) (a2 : hx' 20 (16 * d + j) = 0 ∨ hx' 20 (16 * d + j) = 3 ∨ hx' 20 (16 * d + j) = 4 ∨ hx' 20 (16 * d + j) = 5) (a3 : hx 20 (16 * d + j) ≠ 6)
    (af : (hx' 20 (16 * d + j) ≠ 0 ∨ 0 < hx' 9 (16 * d + j)) → n / 2 ≤ j → hx' 20 (16 * d + 2 * (j - n / 2)) ≠ 0 ∧ hx' 20 (16 * d + (2 * (j - n / 2) + 1)) ≠ 0)
    (a6 : hx' 20 (16 * d + j) = 0 → hx' 10 (16 * d + j) = -1) (a7 : hm' 24 (16 * d + j) = if hx' 20 (16 * d + j) = 4 ∨ hx' 20 (16 * d + j) = 5 then hx' 20 (16 * d + j) else 0) (a8 : hx' 20 (16 * d + j) = 4 ∨ hx' 20 (16 * d + j) = 5 → hm' 25 (16 * d + j) = hx' 21 (16 * d + j))
    (hq : 0 ≤ hx' 9 (16 * d + j) ∧ hx' 9 (16 * d + j) ≤ 300)
    (a9 : ∀ i : Nat, (i : Int) < hx' 9 (16 * d + j) → (pQ hm' d j i = 0 ∨ pQ hm' d j i = 1) ∧ am_and (am_ushr (hx' 22 (160 * d + (10 * j + i / 32))) ((i % 32 : Nat) : Int)) 1 = pQ hm' d j i)
    (a10 : ∀ k : Nat, (k : Int) < hx' 9 (16 * d + j) → ¬ tl_won (hx 2 d) (tl_at (pQ hm' d j) k))
    (a11 : hx' 20 (16 * d + j) = 3 → (tl_at (pQ hm' d j) (hx' 9 (16 * d + j)).toNat).2.2.1 (hx' 21 (16 * d + j)).toNat = hx 2 d) (a12 : hx' 20 (16 * d + j) ≠ 3 → ¬ tl_won (hx 2 d) (tl_at (pQ hm' d j) (hx' 9 (16 * d + j)).toNat)) :
    RM n (hx 2 d) (lc hx 7 d 16) (lc hx' 20 d 16) (lc hx' 21 d 16) (lc hx' 10 d 16) (lc hx' 9 d 16) (lc hx' 22 d 160) (lc hm' 23 d 4800) (lc hm' 24 d 16) (lc hm' 25 d 16) j := by
  have hj16 : j < 16 := D.j16 hj
  have hy := D.y hj
  have n6 : ¬ hx' 20 (16 * d + j) = 6 := by
    rcases a2 with q | q | q | q <;> rw [q] <;> decide
  unfold RM
  rw [lc_at hx' 20 d hj16, lc_at hx' 21 d hj16, lc_at hx' 10 d hj16, lc_at hx' 9 d hj16, lc_at hm' 24 d hj16, lc_at hm' 25 d hj16]
  refine ⟨a1, ?_, ⟨fun z => absurd z n6, fun z => ?_⟩, fun z => absurd z n6, fun z1 z2 => ?_, a6, a7, a8, fun i hi => ?_, a10, a11, a12⟩
  · rcases a2 with q | q | q | q
    · exact Or.inl q
    · exact Or.inr (Or.inl q)
    · exact Or.inr (Or.inr (Or.inl q))
    · exact Or.inr (Or.inr (Or.inr (Or.inl q)))
  · exfalso
    apply a3
    rw [hy]
    have b1 : 2 * j < 16 ∧ 2 * j + 1 < 16 := by
      have := D.2.2.1.b
      have := z.1
      omega
    rw [lc_at _ _ _ b1.1, lc_at _ _ _ b1.2] at z
    exact z
  · have b := ff_16 D.2.2.1 hj
    rw [lc_at _ _ _ (Nat.lt_of_succ_lt b), lc_at _ _ _ b]
    refine af ?_ z2
    rcases z1 with q | q | q | q
    · left; rw [q]; decide
    · left; rw [q]; decide
    · left; rw [q]; decide
    · right; exact q
  · have b : i / 32 < 10 := by omega
    rw [lc_at hx' 22 d (ix10 hj16 b)]
    exact a9 i hi
theorem pQ_cg {hm hm' : am_M} {d j : Nat} (e : hm' 23 = hm 23) : pQ hm' d j = pQ hm d j := by
  unfold pQ
  rw [lc_eq d 4800 e]
