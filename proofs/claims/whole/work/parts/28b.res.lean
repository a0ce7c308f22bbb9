/-! ===== over, walk, retire, undo, back ===== -/
theorem ixne (d : Nat) {i j : Nat} (h : i ≠ j) : ¬ 16 * d + i = 16 * d + j := by omega
theorem Dr.sc {hx hm hx' hm' : am_M} {d n : Nat} (D : Dr hx hm d n) (sx : sc hx hx') (sm : sc hm hm') : Dr hx' hm' d n := by
  refine ⟨D.1.sc sx sm, D.2.1, D.2.2.1, ?_, ?_⟩
  · rw [sx 1 (by decide)]; exact D.2.2.2.1
  · rw [sx 5 (by decide)]; exact D.2.2.2.2
theorem ff_ne {n j : Nat} (hn : szn n) (hj : j < n - 1) (h : n / 2 ≤ j) : 2 * (j - n / 2) ≠ j ∧ 2 * (j - n / 2) + 1 ≠ j := by have := hn.b; omega
theorem kn_f {hx hm : am_M} {d n j : Nat} (D : Dr hx hm d n) (hj : j < n - 1) (h2 : ¬ (sd hx d n j 0 = -2 ∨ sd hx d n j 1 = -2)) (hj2 : n / 2 ≤ j) : hx 20 (16 * d + 2 * (j - n / 2)) ≠ 0 ∧ hx 20 (16 * d + (2 * (j - n / 2) + 1)) ≠ 0 := by
  constructor
  · intro z
    apply h2
    left
    rw [sd_s D hj hj2 (by decide)]
    exact if_pos z
  · intro z
    apply h2
    right
    rw [sd_s D hj hj2 (by decide)]
    exact if_pos z
theorem n30 {x : Int} (h : x = 0 ∨ x = 3 ∨ x = 4 ∨ x = 5) : ¬ x = 6 := by omega
theorem u_over {hx hm : am_M} {d n j : Nat} (D : Dr hx hm d n) (hj : j < n - 1) (hH : ¬ hx 20 (16 * d + j) = 0) (v : Int) (hv : 0 ≤ v ∧ v ≤ 100000) : Rel (am_up hx 10 (16 * d + j) v) (am_up hm 10 (16 * d + j) v) := by
  have hj16 := D.j16 hj
  have M := D.m hj
  have hq := (D.Q hj16).1
  have hR : -1 ≤ v ∧ v ≤ 100000 := ⟨by omega, hv.2⟩
  refine D.upd hj ((D.1.O d).both v (by decide) (by decide) (ow16 (by decide) hj16))
    (fun k h0 h6 => by simp only [am_up_ap, ↓reduceIte, eqF (show ¬ k = 9 by omega), eqF (show ¬ k = 10 by omega), eqF (show ¬ k = 20 by omega), eqF (show ¬ k = 21 by omega), eqF (show ¬ k = 22 by omega)])
    (fun i hi => by simp only [am_up_ap, Nat.reduceEqDiff, ↓reduceIte]) (fun i hi => by simp only [am_up_ap, Nat.reduceEqDiff, ↓reduceIte]) (fun i hi => by simp only [am_up_ap, Nat.reduceEqDiff, ↓reduceIte]) (fun i hi => by simp only [am_up_ap, Nat.reduceEqDiff, ↓reduceIte])
    (fun i hi hne => by simp only [am_up_ap, Nat.reduceEqDiff, ↓reduceIte, eqF (ixne d hne)]) (fun i hi hne => by simp only [am_up_ap, Nat.reduceEqDiff, ↓reduceIte, eqF (ixne d hne)]) (fun i hi hne => by simp only [am_up_ap, Nat.reduceEqDiff, ↓reduceIte, eqF (ixne d hne)]) (fun i hi hne => by simp only [am_up_ap, Nat.reduceEqDiff, ↓reduceIte, eqF (ixne d hne)]) (fun i hi hne => by simp only [am_up_ap, Nat.reduceEqDiff, ↓reduceIte, eqF (ixne d hne)]) (fun i hi hne => by simp only [am_up_ap, Nat.reduceEqDiff, ↓reduceIte, eqF (ixne d hne)])
    (fun i hi hne q hq => by simp only [am_up_ap, Nat.reduceEqDiff, ↓reduceIte]) (fun i hi hne q hq => by simp only [am_up_ap, Nat.reduceEqDiff, ↓reduceIte])
    (by simp only [am_up_ap, Nat.reduceEqDiff, ↓reduceIte]; exact hq) (by rw [am_up_s]; exact hR) (by simp only [am_up_ap, Nat.reduceEqDiff, ↓reduceIte]; exact fun z z2 => absurd z z2) ?_
  rw [lc_up_k _ _ _ _ _ (show (20 : Nat) ≠ 10 by decide), lc_up_k _ _ _ _ _ (show (21 : Nat) ≠ 10 by decide), lc_up_k _ _ _ _ _ (show (9 : Nat) ≠ 10 by decide), lc_up_k _ _ _ _ _ (show (22 : Nat) ≠ 10 by decide), lc_up_k _ _ _ _ _ (show (23 : Nat) ≠ 10 by decide), lc_up_k _ _ _ _ _ (show (24 : Nat) ≠ 10 by decide), lc_up_k _ _ _ _ _ (show (25 : Nat) ≠ 10 by decide)]
  refine ⟨M.1, M.2.1, M.2.2.1, M.2.2.2.1, M.2.2.2.2.1, fun z => ?_, M.2.2.2.2.2.2⟩
  rw [lc_at _ _ _ hj16] at z
  exact absurd z hH
theorem u_fin {hx hm : am_M} {d n j : Nat} (D : Dr hx hm d n) (hj : j < n - 1) (h0 : hx 20 (16 * d + j) = 0) (hk : n / 2 ≤ j → hx 20 (16 * d + 2 * (j - n / 2)) ≠ 0 ∧ hx 20 (16 * d + (2 * (j - n / 2) + 1)) ≠ 0) (how w : Int) (hh : how = 4 ∨ how = 5) (hw : w = 0 ∨ w = 1) : Rel (am_up (am_up hx 20 (16 * d + j) how) 21 (16 * d + j) w) (am_up (am_up hm 24 (16 * d + j) how) 25 (16 * d + j) w) := by
  have hj16 := D.j16 hj
  have hq := (D.Q hj16).1
  have hR := (D.Q hj16).2
  have hn0 : ¬ how = 0 := by omega
  have hn3 : ¬ how = 3 := by omega
  have p9 := D.a9 hj
  have p10 := D.a10 hj
  have p12 := D.nwon hj (by rw [h0]; decide)
  have ep : pQ (am_up (am_up hm 24 (16 * d + j) how) 25 (16 * d + j) w) d j = pQ hm d j := pQ_cg (by funext z; simp only [am_up_ap, Nat.reduceEqDiff, ↓reduceIte])
  refine D.upd hj ?_
    (fun k h0 h6 => by simp only [am_up_ap, ↓reduceIte, eqF (show ¬ k = 9 by omega), eqF (show ¬ k = 10 by omega), eqF (show ¬ k = 20 by omega), eqF (show ¬ k = 21 by omega), eqF (show ¬ k = 22 by omega)])
    (fun i hi => by simp only [am_up_ap, Nat.reduceEqDiff, ↓reduceIte]) (fun i hi => by simp only [am_up_ap, Nat.reduceEqDiff, ↓reduceIte]) (fun i hi => by simp only [am_up_ap, Nat.reduceEqDiff, ↓reduceIte]) (fun i hi => by simp only [am_up_ap, Nat.reduceEqDiff, ↓reduceIte])
    (fun i hi hne => by simp only [am_up_ap, Nat.reduceEqDiff, ↓reduceIte, eqF (ixne d hne)]) (fun i hi hne => by simp only [am_up_ap, Nat.reduceEqDiff, ↓reduceIte, eqF (ixne d hne)]) (fun i hi hne => by simp only [am_up_ap, Nat.reduceEqDiff, ↓reduceIte, eqF (ixne d hne)]) (fun i hi hne => by simp only [am_up_ap, Nat.reduceEqDiff, ↓reduceIte, eqF (ixne d hne)]) (fun i hi hne => by simp only [am_up_ap, Nat.reduceEqDiff, ↓reduceIte, eqF (ixne d hne)]) (fun i hi hne => by simp only [am_up_ap, Nat.reduceEqDiff, ↓reduceIte, eqF (ixne d hne)])
    (fun i hi hne q hq => by simp only [am_up_ap, Nat.reduceEqDiff, ↓reduceIte]) (fun i hi hne q hq => by simp only [am_up_ap, Nat.reduceEqDiff, ↓reduceIte])
    (by simp only [am_up_ap, Nat.reduceEqDiff, ↓reduceIte]; exact hq) (by simp only [am_up_ap, Nat.reduceEqDiff, ↓reduceIte]; exact hR) ?_ (RM.mk D hj ?_ ?_ (by rw [h0]; decide) (fun _ hj2 => ?_) ?_ ?_ ?_ (by simp only [am_up_ap, Nat.reduceEqDiff, ↓reduceIte]; exact hq) ?_ ?_ ?_ ?_)
  · exact ((((D.1.O d).x how (Or.inl (by decide)) (ow16 (by decide) hj16)).x w (Or.inl (by decide)) (ow16 (by decide) hj16)).m how (Or.inl (by decide)) (om16 (by decide) hj16)).m w (Or.inl (by decide)) (om16 (by decide) hj16)
  · simp only [am_up_ap, Nat.reduceEqDiff, ↓reduceIte]
    exact fun z => absurd z hn0
  · simp only [am_up_ap, Nat.reduceEqDiff, ↓reduceIte]
    exact hw
  · simp only [am_up_ap, Nat.reduceEqDiff, ↓reduceIte]
    rcases hh with q | q
    · exact Or.inr (Or.inr (Or.inl q))
    · exact Or.inr (Or.inr (Or.inr q))
  · have nn := ff_ne D.2.2.1 hj hj2
    simp only [am_up_ap, Nat.reduceEqDiff, ↓reduceIte, eqF (ixne d nn.1), eqF (ixne d nn.2)]
    exact hk hj2
  · simp only [am_up_ap, Nat.reduceEqDiff, ↓reduceIte]
    exact fun z => absurd z hn0
  · simp only [am_up_ap, Nat.reduceEqDiff, ↓reduceIte]
    rw [if_pos hh]
  · simp only [am_up_ap, Nat.reduceEqDiff, ↓reduceIte]
    exact fun _ => trivial
  · rw [ep]
    simp only [am_up_ap, Nat.reduceEqDiff, ↓reduceIte]
    exact p9
  · rw [ep]
    simp only [am_up_ap, Nat.reduceEqDiff, ↓reduceIte]
    exact p10
  · simp only [am_up_ap, Nat.reduceEqDiff, ↓reduceIte]
    exact fun z => absurd z hn3
  · rw [ep]
    simp only [am_up_ap, Nat.reduceEqDiff, ↓reduceIte]
    exact fun _ => p12
theorem u_re {hx hm : am_M} {d n j : Nat} (D : Dr hx hm d n) (hj : j < n - 1) (h4 : hx 20 (16 * d + j) = 4 ∨ hx 20 (16 * d + j) = 5) (hf : n / 2 + j / 2 < n - 1 → hx 20 (16 * d + (n / 2 + j / 2)) = 0 ∧ hx 9 (16 * d + (n / 2 + j / 2)) = 0) : Rel (am_up (am_up hx 20 (16 * d + j) 0) 10 (16 * d + j) (-1)) (am_up (am_up hm 24 (16 * d + j) 0) 10 (16 * d + j) (-1)) := by
  have hj16 := D.j16 hj
  have hq := (D.Q hj16).1
  have hW := D.W hj
  have hH0 : hx 20 (16 * d + j) ≠ 0 := by omega
  have hH3 : hx 20 (16 * d + j) ≠ 3 := by omega
  have hH6 : hx 20 (16 * d + j) ≠ 6 := by omega
  have p9 := D.a9 hj
  have p10 := D.a10 hj
  have p12 := D.nwon hj hH3
  have hfd := fun z => D.fd hj z (Or.inl hH0)
  have ep : pQ (am_up (am_up hm 24 (16 * d + j) 0) 10 (16 * d + j) (-1)) d j = pQ hm d j := pQ_cg (by funext z; simp only [am_up_ap, Nat.reduceEqDiff, ↓reduceIte])
  refine D.upd hj ?_
    (fun k h0 h6 => by simp only [am_up_ap, ↓reduceIte, eqF (show ¬ k = 9 by omega), eqF (show ¬ k = 10 by omega), eqF (show ¬ k = 20 by omega), eqF (show ¬ k = 21 by omega), eqF (show ¬ k = 22 by omega)])
    (fun i hi => by simp only [am_up_ap, Nat.reduceEqDiff, ↓reduceIte]) (fun i hi => by simp only [am_up_ap, Nat.reduceEqDiff, ↓reduceIte]) (fun i hi => by simp only [am_up_ap, Nat.reduceEqDiff, ↓reduceIte]) (fun i hi => by simp only [am_up_ap, Nat.reduceEqDiff, ↓reduceIte])
    (fun i hi hne => by simp only [am_up_ap, Nat.reduceEqDiff, ↓reduceIte, eqF (ixne d hne)]) (fun i hi hne => by simp only [am_up_ap, Nat.reduceEqDiff, ↓reduceIte, eqF (ixne d hne)]) (fun i hi hne => by simp only [am_up_ap, Nat.reduceEqDiff, ↓reduceIte, eqF (ixne d hne)]) (fun i hi hne => by simp only [am_up_ap, Nat.reduceEqDiff, ↓reduceIte, eqF (ixne d hne)]) (fun i hi hne => by simp only [am_up_ap, Nat.reduceEqDiff, ↓reduceIte, eqF (ixne d hne)]) (fun i hi hne => by simp only [am_up_ap, Nat.reduceEqDiff, ↓reduceIte, eqF (ixne d hne)])
    (fun i hi hne q hq => by simp only [am_up_ap, Nat.reduceEqDiff, ↓reduceIte]) (fun i hi hne q hq => by simp only [am_up_ap, Nat.reduceEqDiff, ↓reduceIte])
    (by simp only [am_up_ap, Nat.reduceEqDiff, ↓reduceIte]; exact hq) (by simp only [am_up_ap, Nat.reduceEqDiff, ↓reduceIte]; decide) (fun _ _ => hf) (RM.mk D hj ?_ ?_ hH6 (fun _ hj2 => ?_) ?_ ?_ ?_ (by simp only [am_up_ap, Nat.reduceEqDiff, ↓reduceIte]; exact hq) ?_ ?_ ?_ ?_)
  · exact (((D.1.O d).x 0 (Or.inl (by decide)) (ow16 (by decide) hj16)).m 0 (Or.inl (by decide)) (om16 (by decide) hj16)).both (-1) (by decide) (by decide) (ow16 (by decide) hj16)
  · simp only [am_up_ap, Nat.reduceEqDiff, ↓reduceIte]
    exact hW
  · simp only [am_up_ap, Nat.reduceEqDiff, ↓reduceIte]
    exact Or.inl trivial
  · have nn := ff_ne D.2.2.1 hj hj2
    simp only [am_up_ap, Nat.reduceEqDiff, ↓reduceIte, eqF (ixne d nn.1), eqF (ixne d nn.2)]
    exact hfd hj2
  · simp only [am_up_ap, Nat.reduceEqDiff, ↓reduceIte]
    exact fun _ => trivial
  · simp only [am_up_ap, Nat.reduceEqDiff, ↓reduceIte]
    rfl
  · simp only [am_up_ap, Nat.reduceEqDiff, ↓reduceIte]
    exact fun z => absurd z (by decide)
  · rw [ep]
    simp only [am_up_ap, Nat.reduceEqDiff, ↓reduceIte]
    exact p9
  · rw [ep]
    simp only [am_up_ap, Nat.reduceEqDiff, ↓reduceIte]
    exact p10
  · simp only [am_up_ap, Nat.reduceEqDiff, ↓reduceIte]
    exact fun z => absurd z (by decide)
  · rw [ep]
    simp only [am_up_ap, Nat.reduceEqDiff, ↓reduceIte]
    exact fun _ => p12
theorem u_b0 {hx hm : am_M} {d n j : Nat} (D : Dr hx hm d n) (hj : j < n - 1) (h0 : hx 20 (16 * d + j) = 0) (hq0 : 0 < hx 9 (16 * d + j)) : Rel (am_up hx 9 (16 * d + j) (hx 9 (16 * d + j) - 1)) (am_up hm 9 (16 * d + j) (hx 9 (16 * d + j) - 1)) := by
  have hj16 := D.j16 hj
  have hq := (D.Q hj16).1
  have hR := (D.Q hj16).2
  have hW := D.W hj
  have hH6 : hx 20 (16 * d + j) ≠ 6 := by rw [h0]; decide
  have hE := D.E hj
  have p9 := D.a9 hj
  have p10 := D.a10 hj
  have hR0 := D.R hj h0
  have hfd := fun z => D.fd hj z (Or.inr hq0)
  have hq2 : 0 ≤ hx 9 (16 * d + j) - 1 ∧ hx 9 (16 * d + j) - 1 ≤ 300 := by omega
  have ep : pQ (am_up hm 9 (16 * d + j) (hx 9 (16 * d + j) - 1)) d j = pQ hm d j := pQ_cg (by funext z; simp only [am_up_ap, Nat.reduceEqDiff, ↓reduceIte])
  refine D.upd hj ?_
    (fun k h0 h6 => by simp only [am_up_ap, ↓reduceIte, eqF (show ¬ k = 9 by omega), eqF (show ¬ k = 10 by omega), eqF (show ¬ k = 20 by omega), eqF (show ¬ k = 21 by omega), eqF (show ¬ k = 22 by omega)])
    (fun i hi => by simp only [am_up_ap, Nat.reduceEqDiff, ↓reduceIte]) (fun i hi => by simp only [am_up_ap, Nat.reduceEqDiff, ↓reduceIte]) (fun i hi => by simp only [am_up_ap, Nat.reduceEqDiff, ↓reduceIte]) (fun i hi => by simp only [am_up_ap, Nat.reduceEqDiff, ↓reduceIte])
    (fun i hi hne => by simp only [am_up_ap, Nat.reduceEqDiff, ↓reduceIte, eqF (ixne d hne)]) (fun i hi hne => by simp only [am_up_ap, Nat.reduceEqDiff, ↓reduceIte, eqF (ixne d hne)]) (fun i hi hne => by simp only [am_up_ap, Nat.reduceEqDiff, ↓reduceIte, eqF (ixne d hne)]) (fun i hi hne => by simp only [am_up_ap, Nat.reduceEqDiff, ↓reduceIte, eqF (ixne d hne)]) (fun i hi hne => by simp only [am_up_ap, Nat.reduceEqDiff, ↓reduceIte, eqF (ixne d hne)]) (fun i hi hne => by simp only [am_up_ap, Nat.reduceEqDiff, ↓reduceIte, eqF (ixne d hne)])
    (fun i hi hne q hq => by simp only [am_up_ap, Nat.reduceEqDiff, ↓reduceIte]) (fun i hi hne q hq => by simp only [am_up_ap, Nat.reduceEqDiff, ↓reduceIte])
    (by simp only [am_up_ap, Nat.reduceEqDiff, ↓reduceIte]; exact hq2) (by simp only [am_up_ap, Nat.reduceEqDiff, ↓reduceIte]; exact hR) (by simp only [am_up_ap, Nat.reduceEqDiff, ↓reduceIte]; exact fun _ z => absurd h0 z) (RM.mk D hj ?_ ?_ hH6 (fun _ hj2 => ?_) ?_ ?_ ?_ (by simp only [am_up_ap, Nat.reduceEqDiff, ↓reduceIte]; exact hq2) ?_ ?_ ?_ ?_)
  · exact (D.1.O d).both _ (by decide) (by decide) (ow16 (by decide) hj16)
  · simp only [am_up_ap, Nat.reduceEqDiff, ↓reduceIte]
    exact hW
  · simp only [am_up_ap, Nat.reduceEqDiff, ↓reduceIte]
    exact Or.inl h0
  · simp only [am_up_ap, Nat.reduceEqDiff, ↓reduceIte]
    exact hfd hj2
  · simp only [am_up_ap, Nat.reduceEqDiff, ↓reduceIte]
    exact fun _ => hR0
  · simp only [am_up_ap, Nat.reduceEqDiff, ↓reduceIte]
    exact hE
  · simp only [am_up_ap, Nat.reduceEqDiff, ↓reduceIte]
    rw [h0]
    exact fun z => absurd z (by decide)
  · rw [ep]
    simp only [am_up_ap, Nat.reduceEqDiff, ↓reduceIte]
    exact fun i hi => p9 i (by omega)
  · rw [ep]
    simp only [am_up_ap, Nat.reduceEqDiff, ↓reduceIte]
    exact fun i hi => p10 i (by omega)
  · simp only [am_up_ap, Nat.reduceEqDiff, ↓reduceIte]
    rw [h0]
    exact fun z => absurd z (by decide)
  · rw [ep]
    simp only [am_up_ap, Nat.reduceEqDiff, ↓reduceIte]
    exact fun _ => p10 _ (by omega)
theorem u_b3 {hx hm : am_M} {d n j : Nat} (D : Dr hx hm d n) (hj : j < n - 1) (h3 : hx 20 (16 * d + j) = 3) (hq0 : 0 < hx 9 (16 * d + j)) (hf : n / 2 + j / 2 < n - 1 → hx 20 (16 * d + (n / 2 + j / 2)) = 0 ∧ hx 9 (16 * d + (n / 2 + j / 2)) = 0) : Rel (am_up (am_up (am_up hx 20 (16 * d + j) 0) 10 (16 * d + j) (-1)) 9 (16 * d + j) (hx 9 (16 * d + j) - 1)) (am_up (am_up hm 9 (16 * d + j) (hx 9 (16 * d + j) - 1)) 10 (16 * d + j) (-1)) := by
  have hj16 := D.j16 hj
  have hq := (D.Q hj16).1
  have hW := D.W hj
  have hH6 : hx 20 (16 * d + j) ≠ 6 := by rw [h3]; decide
  have hE := D.E hj
  rw [h3, if_neg (by decide)] at hE
  have p9 := D.a9 hj
  have p10 := D.a10 hj
  have hfd := fun z => D.fd hj z (Or.inr hq0)
  have hq2 : 0 ≤ hx 9 (16 * d + j) - 1 ∧ hx 9 (16 * d + j) - 1 ≤ 300 := by omega
  rw [up_comm hm _ _ _ _ (show (9 : Nat) ≠ 10 by decide)]
  have ep : pQ (am_up (am_up hm 10 (16 * d + j) (-1)) 9 (16 * d + j) (hx 9 (16 * d + j) - 1)) d j = pQ hm d j := pQ_cg (by funext z; simp only [am_up_ap, Nat.reduceEqDiff, ↓reduceIte])
  refine D.upd hj ?_
    (fun k h0 h6 => by simp only [am_up_ap, ↓reduceIte, eqF (show ¬ k = 9 by omega), eqF (show ¬ k = 10 by omega), eqF (show ¬ k = 20 by omega), eqF (show ¬ k = 21 by omega), eqF (show ¬ k = 22 by omega)])
    (fun i hi => by simp only [am_up_ap, Nat.reduceEqDiff, ↓reduceIte]) (fun i hi => by simp only [am_up_ap, Nat.reduceEqDiff, ↓reduceIte]) (fun i hi => by simp only [am_up_ap, Nat.reduceEqDiff, ↓reduceIte]) (fun i hi => by simp only [am_up_ap, Nat.reduceEqDiff, ↓reduceIte])
    (fun i hi hne => by simp only [am_up_ap, Nat.reduceEqDiff, ↓reduceIte, eqF (ixne d hne)]) (fun i hi hne => by simp only [am_up_ap, Nat.reduceEqDiff, ↓reduceIte, eqF (ixne d hne)]) (fun i hi hne => by simp only [am_up_ap, Nat.reduceEqDiff, ↓reduceIte, eqF (ixne d hne)]) (fun i hi hne => by simp only [am_up_ap, Nat.reduceEqDiff, ↓reduceIte, eqF (ixne d hne)]) (fun i hi hne => by simp only [am_up_ap, Nat.reduceEqDiff, ↓reduceIte, eqF (ixne d hne)]) (fun i hi hne => by simp only [am_up_ap, Nat.reduceEqDiff, ↓reduceIte, eqF (ixne d hne)])
    (fun i hi hne q hq => by simp only [am_up_ap, Nat.reduceEqDiff, ↓reduceIte]) (fun i hi hne q hq => by simp only [am_up_ap, Nat.reduceEqDiff, ↓reduceIte])
    (by simp only [am_up_ap, Nat.reduceEqDiff, ↓reduceIte]; exact hq2) (by simp only [am_up_ap, Nat.reduceEqDiff, ↓reduceIte]; decide) (fun _ _ => hf) (RM.mk D hj ?_ ?_ hH6 (fun _ hj2 => ?_) ?_ ?_ ?_ (by simp only [am_up_ap, Nat.reduceEqDiff, ↓reduceIte]; exact hq2) ?_ ?_ ?_ ?_)
  · exact (((D.1.O d).x 0 (Or.inl (by decide)) (ow16 (by decide) hj16)).both (-1) (by decide) (by decide) (ow16 (by decide) hj16)).both _ (by decide) (by decide) (ow16 (by decide) hj16)
  · simp only [am_up_ap, Nat.reduceEqDiff, ↓reduceIte]
    exact hW
  · simp only [am_up_ap, Nat.reduceEqDiff, ↓reduceIte]
    exact Or.inl trivial
  · have nn := ff_ne D.2.2.1 hj hj2
    simp only [am_up_ap, Nat.reduceEqDiff, ↓reduceIte, eqF (ixne d nn.1), eqF (ixne d nn.2)]
    exact hfd hj2
  · simp only [am_up_ap, Nat.reduceEqDiff, ↓reduceIte]
    exact fun _ => trivial
  · simp only [am_up_ap, Nat.reduceEqDiff, ↓reduceIte]
    exact hE
  · simp only [am_up_ap, Nat.reduceEqDiff, ↓reduceIte]
    exact fun z => absurd z (by decide)
  · rw [ep]
    simp only [am_up_ap, Nat.reduceEqDiff, ↓reduceIte]
    exact fun i hi => p9 i (by omega)
  · rw [ep]
    simp only [am_up_ap, Nat.reduceEqDiff, ↓reduceIte]
    exact fun i hi => p10 i (by omega)
  · simp only [am_up_ap, Nat.reduceEqDiff, ↓reduceIte]
    exact fun z => absurd z (by decide)
  · rw [ep]
    simp only [am_up_ap, Nat.reduceEqDiff, ↓reduceIte]
    exact fun _ => p10 _ (by omega)
