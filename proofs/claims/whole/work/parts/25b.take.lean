/-! ===== a point ===== -/
theorem im {a b : Int} (h : 0 ≤ a) : Int.tmod a b = a % b := Int.tmod_eq_emod_of_nonneg h
theorem idv {a b : Int} (h : 0 ≤ a) : Int.tdiv a b = a / b := Int.tdiv_eq_ediv_of_nonneg h
theorem tn0 : Int.toNat 0 = 0 := rfl
theorem tn1 : Int.toNat 1 = 1 := rfl
theorem aw10 : am_w (1 - 0) = 1 := by unfold am_w; omega
theorem aw11 : am_w (1 - 1) = 0 := by unfold am_w; omega
theorem ic0 : ((0 : Int) ≤ 0 ∧ (0 : Int) < 2) = True := by simp
theorem ic1 : ((0 : Int) ≤ 1 ∧ (1 : Int) < 2) = True := by simp
theorem aw_k (k : Nat) (h : k < 5) : am_w (2 * (k : Int)) = ((2 * k : Nat) : Int) ∧ am_w (((2 * k : Nat) : Int) + 1) = ((2 * k + 1 : Nat) : Int) ∧ am_w ((k : Int) + 1) = ((k : Int) + 1) ∧ (0 ≤ ((2 * k : Nat) : Int) ∧ ((2 * k : Nat) : Int) < 10) = True ∧ (0 ≤ ((2 * k + 1 : Nat) : Int) ∧ ((2 * k + 1 : Nat) : Int) < 10) = True := by
  refine ⟨?_, ?_, ?_, ?_, ?_⟩
  · rw [pw (by omega) (by omega)]; omega
  · rw [pw (by omega) (by omega)]; omega
  · rw [pw (by omega) (by omega)]
  · simp only [eq_iff_iff, iff_true]; omega
  · simp only [eq_iff_iff, iff_true]; omega
theorem aw_s (x : Int) (h0 : 0 ≤ x) (h1 : x < 1000) : am_w (x + 1) = x + 1 := pw (by omega) (by omega)
theorem aw_p (x y : Int) (hx : 0 ≤ x ∧ x ≤ 300) (hy : 0 ≤ y ∧ y ≤ 300) : am_w (x + 1) = x + 1 ∧ am_w (x + 1 - y) = x + 1 - y ∧ am_w (x + 1 + y) = x + y + 1 ∧ am_w (y + (x + 1)) = y + x + 1 := ⟨pw (by omega) (by omega), pw (by omega) (by omega), by rw [pw (by omega) (by omega)]; omega, by rw [pw (by omega) (by omega)]; omega⟩
theorem im_p (x y : Int) (hx : 0 ≤ x ∧ x ≤ 300) (hy : 0 ≤ y ∧ y ≤ 300) : Int.tmod (x + y + 1) 6 = (x + y + 1) % 6 ∧ Int.tmod (x + y + 1) 2 = (x + y + 1) % 2 := ⟨im (by omega), im (by omega)⟩
theorem m_tie (a b : Int) (h : am_M) : fX9_play a b h = fX9_play_27 a b (if h 35 0 = 6 ∧ h 35 1 = 6 then 1 else 0) h := by
  unfold fX9_play fX9_play_26
  by_cases c : h 35 0 = 6
  · by_cases c2 : h 35 1 = 6
    · rw [if_pos c, if_pos c2, if_pos ⟨c, c2⟩]
    · rw [if_pos c, if_neg c2, if_neg (fun z => c2 z.2)]
  · rw [if_neg c, if_neg (fun z => c z.1)]
theorem eqT {p : Prop} (h : p) : p = True := eq_true h
theorem eqF {p : Prop} (h : ¬ p) : p = False := eq_false h
theorem aw_q (x : Int) (hx : 0 ≤ x ∧ x ≤ 300) : am_w (x + 1) = x + 1 := pw (by omega) (by omega)
theorem le3 {x k : Int} (h : 0 ≤ x ∧ x ≤ k) (hk : k ≤ 300) : 0 ≤ x ∧ x ≤ 300 := ⟨h.1, Int.le_trans h.2 hk⟩
theorem ws_up {H h' : am_M} {ws : Nat → Int} {k : Nat} {x y : Int} (hk : ∀ i : Nat, (i : Int) < 2 * (k : Int) → H 37 i = ws i) (e : ∀ i, h' 37 i = am_up (am_up H 37 (2 * k) x) 37 (2 * k + 1) y 37 i) : ∀ i : Nat, (i : Int) < 2 * ((k : Int) + 1) → h' 37 i = up1 (up1 ws (2 * (k : Int)).toNat x) (2 * (k : Int) + 1).toNat y i := by
  intro i hi
  rw [e, am_up_ap, am_up_ap, if_pos rfl, if_pos rfl]
  have e1 : (2 * (k : Int)).toNat = 2 * k := by omega
  have e2 : (2 * (k : Int) + 1).toNat = 2 * k + 1 := by omega
  rw [e1, e2]
  unfold up1
  by_cases c1 : i = 2 * k + 1
  · rw [if_pos c1, if_pos c1]
  · rw [if_neg c1, if_neg c1]
    by_cases c2 : i = 2 * k
    · rw [if_pos c2, if_pos c2]
    · rw [if_neg c2, if_neg c2]
      exact hk i (by omega)
theorem x_187_0 {L G0 G1 GA CH told : Int} {s ws : Nat → Int} {H h0 : am_M} {o : Option (Int × am_M)} (eo : fX7_take_187 0 H = o) (a1 : H 34 0 = 0) (a2 : H 34 1 = 0) (a3 : H 35 0 = G0) (a4 : H 35 1 = G1) (a5 : H 36 0 = s 0) (a6 : H 36 1 = s 1) (a7 : H 38 0 = GA) (a8 : H 40 0 = CH) (a9 : ∀ i : Nat, (i : Int) < 2 * (s 0 + s 1) → H 37 i = ws i) (b0 : 0 ≤ s 0) (b1 : 0 ≤ s 1) (c0 : s 0 < L) (c1 : s 1 < L) (hL : L ≤ 3) (h39 : H 39 0 = L) (et : told = if s 0 + 1 = L then 3 else 2) (hs : sc h0 H) (h39' : h0 39 0 = L) : ∃ h', o = some (told, h') ∧ TL h' (fun _ => 0, fun _ => 0, up1 s 0 (s 0 + 1), up1 (up1 ws (2 * (s 0 + s 1)).toNat G0) (2 * (s 0 + s 1) + 1).toNat G1, GA, CH) ∧ sc h0 h' ∧ h' 39 0 = h0 39 0 := by
  obtain ⟨k, hk⟩ : ∃ k : Nat, s 0 + s 1 = k := ⟨(s 0 + s 1).toNat, by omega⟩
  have e : am_w (H 36 0 + H 36 1) = k := by rw [a5, a6, hk, pw (by omega) (by omega)]
  have w1 : am_w (H 36 0 + 1) = s 0 + 1 := by rw [pw (by omega) (by omega)]; omega
  unfold fX7_take_187 at eo
  rw [x_keepSet H k (by omega) e, am_b_some, if_pos (by decide), if_pos (by decide), am_l_eq, if_pos (by decide)] at eo
  simp only [am_up_ap, Nat.reduceEqDiff, ↓reduceIte, tn0, w1, h39, a3, a4] at eo
  have fin : o = some (told, am_up (am_up (am_up (am_up (am_up H 37 (2 * k) G0) 37 (2 * k + 1) G1) 35 0 0) 35 1 0) 36 0 (s 0 + 1)) := by
    rw [← eo, et]
    (repeat' split) <;> first | rfl | omega
  refine ⟨_, fin, ⟨?_, ?_, ?_, ?_, ?_, ?_, ?_, ?_, ?_⟩, ?_, ?_⟩
  · simp [am_up_ap, a1]
  · simp [am_up_ap, a2]
  · simp [am_up_ap]
  · simp [am_up_ap]
  · simp [am_up_ap, up1, a5]
  · simp [am_up_ap, up1, a6]
  · simp [am_up_ap, a7]
  · simp [am_up_ap, a8]
  · intro i hi
    rw [hk]
    rw [hk] at a9
    refine ws_up a9 (fun j => by simp [am_up_ap]) i ?_
    simp [up1] at hi
    omega
  · exact (((((hs.upt _ _ (by decide)).upt _ _ (by decide)).upt _ _ (by decide)).upt _ _ (by decide)).upt _ _ (by decide))
  · simp [am_up_ap, h39, h39']
theorem x_230_0 {L G0 G1 GA CH told : Int} {s ws : Nat → Int} {H h0 : am_M} {o : Option (Unit × am_M)} (eo : fX9_play_230 0 L H = o) (a1 : H 34 0 = 0) (a2 : H 34 1 = 0) (a3 : H 35 0 = G0) (a4 : H 35 1 = G1) (a5 : H 36 0 = s 0) (a6 : H 36 1 = s 1) (a7 : H 38 0 = GA) (a8 : H 40 0 = CH) (a9 : ∀ i : Nat, (i : Int) < 2 * (s 0 + s 1) → H 37 i = ws i) (b0 : 0 ≤ s 0) (b1 : 0 ≤ s 1) (c0 : s 0 < L) (c1 : s 1 < L) (hL : L ≤ 3) (h39 : H 39 0 = s 0 + s 1) (et : told = if s 0 + 1 = L then 3 else 2) (hs : sc h0 H) : ∃ h', o = some ((), h') ∧ TL h' (fun _ => 0, fun _ => 0, up1 s 0 (s 0 + 1), up1 (up1 ws (2 * (s 0 + s 1)).toNat G0) (2 * (s 0 + s 1) + 1).toNat G1, GA, CH) ∧ sc h0 h' ∧ h' 39 0 = up1 s 0 (s 0 + 1) 0 + up1 s 0 (s 0 + 1) 1 ∧ h' 51 0 = told := by
  obtain ⟨k, hk⟩ : ∃ k : Nat, s 0 + s 1 = k := ⟨(s 0 + s 1).toNat, by omega⟩
  have hk5 : k < 5 := by clear et; omega
  have bw : s 0 < 1000 := by clear et; omega
  have w1 : am_w (H 36 0 + 1) = s 0 + 1 := by
    rw [a5]
    exact aw_s _ b0 bw
  have ef : k + 1 = (up1 s 0 (s 0 + 1) 0 + up1 s 0 (s 0 + 1) 1) := by simp [up1]; omega
  obtain ⟨w2, w3, w4, i1, i2⟩ := aw_k k hk5
  unfold fX9_play_230 at eo
  rw [hk] at h39
  simp only [↓am_l_eq, am_up_ap, Nat.reduceEqDiff, ↓reduceIte, h39, w2, w3, w4, i1, i2, ic0, ic1, tn0, w1, a3, a4, Int.toNat_natCast, ite_true] at eo
  by_cases cL : s 0 + 1 = L
  · rw [if_pos cL] at eo et
    subst eo
    refine ⟨_, rfl, ⟨?_, ?_, ?_, ?_, ?_, ?_, ?_, ?_, ?_⟩, ?_, ?_, ?_⟩
    · simp [am_up_ap, a1]
    · simp [am_up_ap, a2]
    · simp [am_up_ap]
    · simp [am_up_ap]
    · simp [am_up_ap, up1, a5]
    · simp [am_up_ap, up1, a6]
    · simp [am_up_ap, a7]
    · simp [am_up_ap, a8]
    · intro i hi
      rw [hk]
      rw [hk] at a9
      refine ws_up a9 (fun j => by simp [am_up_ap]) i ?_
      clear w1 w2 w3 w4 i1 i2 et
      simp [up1] at hi
      omega
    · (repeat' first | with_reducible exact hs | with_reducible refine sc.upt ?_ _ _ ?_ | decide)
    · rw [← ef]; simp [am_up_ap]
    · simp [am_up_ap, et]
  · rw [if_neg cL] at eo et
    subst eo
    refine ⟨_, rfl, ⟨?_, ?_, ?_, ?_, ?_, ?_, ?_, ?_, ?_⟩, ?_, ?_, ?_⟩
    · simp [am_up_ap, a1]
    · simp [am_up_ap, a2]
    · simp [am_up_ap]
    · simp [am_up_ap]
    · simp [am_up_ap, up1, a5]
    · simp [am_up_ap, up1, a6]
    · simp [am_up_ap, a7]
    · simp [am_up_ap, a8]
    · intro i hi
      rw [hk]
      rw [hk] at a9
      refine ws_up a9 (fun j => by simp [am_up_ap]) i ?_
      clear w1 w2 w3 w4 i1 i2 et
      simp [up1] at hi
      omega
    · (repeat' first | with_reducible exact hs | with_reducible refine sc.upt ?_ _ _ ?_ | decide)
    · rw [← ef]; simp [am_up_ap]
    · simp [am_up_ap, et]
theorem x_take_0 (L k : Int) (t : tl_T) (h : am_M) (hT : TL h t) (hb : tb k t) (hk : k ≤ 300) (hL : L ≤ 3) (h39 : h 39 0 = L) (s0 : t.2.2.1 0 < L) (s1 : t.2.2.1 1 < L) : Tk L 0 t h (fX7_take 0 h) := by
  obtain ⟨p, g, s, ws, ga, ch⟩ := t
  obtain ⟨t1, t2, t3, t4, t5, t6, t7, t8, t9⟩ := hT
  unfold tb at hb
  obtain ⟨b1, b2, b3, b4, b5, b6, b7, b8⟩ := hb
  dsimp only at t1 t2 t3 t4 t5 t6 t7 t8 t9 b1 b2 b3 b4 b5 b6 b7 b8 s0 s1 h39
  obtain ⟨A1, A2, A3, A4⟩ := aw_p (p 0) (p 1) (le3 b1 hk) (le3 b2 hk)
  obtain ⟨A5, A6, A7, A8⟩ := aw_p (g 0) (g 1) (le3 b3 hk) (le3 b4 hk)
  have A9 := aw_q ga (le3 b7 hk)
  have A10 := aw_q ch (le3 b8 hk)
  have M1 := (im_p (p 0) (p 1) (le3 b1 hk) (le3 b2 hk)).1
  have M2 := (im_p (g 0) (g 1) (le3 b3 hk) (le3 b4 hk)).2
  have ic : ((0 : Int) ≤ 0 ∧ (0 : Int) < 2) = True := ic0
  have id : ((0 : Int) ≤ 1 ∧ (1 : Int) < 2) = True := ic1
  have z1 : ((1 : Int) = 0) = False := by decide
  have z0 : ((0 : Int) = 0) = True := by decide
  by_cases tie : g 0 = 6 ∧ g 1 = 6
  · have nt := eqT tie
    by_cases cA : p 0 + 1 < 7
    · have c1 := eqT cA
      have hon : tl_on 0 (p, g, s, ws, ga, ch) := by
        show p 0 + 1 < (if g 0 = 6 ∧ g 1 = 6 then 7 else 4) ∨ p 0 + 1 - p 1 < 2
        rw [if_pos tie]; exact Or.inl cA
      have e1 : tl_told L 0 (p, g, s, ws, ga, ch) = 0 := if_pos hon
      by_cases mm : (p 0 + p 1 + 1) % 6 = 0
      · have m1 := eqT mm
        have e2 : tl_step 0 (p, g, s, ws, ga, ch) = (up1 p 0 (p 0 + 1), g, s, ws, ga, ch + 1) := by
          unfold tl_step
          rw [if_pos hon]
          show (up1 p 0 (p 0 + 1), g, s, ws, ga, if (g 0 = 6 ∧ g 1 = 6) ∧ (p 0 + p 1 + 1) % 6 = 0 then ch + 1 else ch) = _
          rw [if_pos ⟨tie, mm⟩]
        unfold Tk
        rw [e1, e2]
        generalize eo : fX7_take 0 h = o
        simp only [fX7_take, fX7_take_31, fX7_take_53, fX7_take_151, x_isTie, ↓am_b_some, ↓am_l_eq, am_up_ap, Nat.reduceEqDiff, ↓reduceIte, tn0, tn1, aw10, aw11, ic, id, z1, z0, t1, t2, t3, t4, t7, t8, A1, A2, A3, A4, A5, A6, A7, A8, A9, A10, M1, M2, nt, c1, m1] at eo
        subst eo
        refine ⟨_, rfl, ⟨?_, ?_, ?_, ?_, ?_, ?_, ?_, ?_, ?_⟩, ?_, ?_⟩
        · simp [am_up_ap, up1, t1, t2, t3, t4, t5, t6, t7, t8]
        · simp [am_up_ap, up1, t1, t2, t3, t4, t5, t6, t7, t8]
        · simp [am_up_ap, up1, t1, t2, t3, t4, t5, t6, t7, t8]
        · simp [am_up_ap, up1, t1, t2, t3, t4, t5, t6, t7, t8]
        · simp [am_up_ap, up1, t1, t2, t3, t4, t5, t6, t7, t8]
        · simp [am_up_ap, up1, t1, t2, t3, t4, t5, t6, t7, t8]
        · simp [am_up_ap, up1, t1, t2, t3, t4, t5, t6, t7, t8]
        · simp [am_up_ap, up1, t1, t2, t3, t4, t5, t6, t7, t8]
        · intro i hi
          simp only [am_up_ap, Nat.reduceEqDiff, ↓reduceIte]
          exact t9 i hi
        · (repeat' first | with_reducible exact sc.rf _ | with_reducible refine sc.upt ?_ _ _ ?_ | decide)
        · simp [am_up_ap]
      · have m1 := eqF mm
        have e2 : tl_step 0 (p, g, s, ws, ga, ch) = (up1 p 0 (p 0 + 1), g, s, ws, ga, ch) := by
          unfold tl_step
          rw [if_pos hon]
          show (up1 p 0 (p 0 + 1), g, s, ws, ga, if (g 0 = 6 ∧ g 1 = 6) ∧ (p 0 + p 1 + 1) % 6 = 0 then ch + 1 else ch) = _
          rw [if_neg (fun z => mm z.2)]
        unfold Tk
        rw [e1, e2]
        generalize eo : fX7_take 0 h = o
        simp only [fX7_take, fX7_take_31, fX7_take_53, fX7_take_151, x_isTie, ↓am_b_some, ↓am_l_eq, am_up_ap, Nat.reduceEqDiff, ↓reduceIte, tn0, tn1, aw10, aw11, ic, id, z1, z0, t1, t2, t3, t4, t7, t8, A1, A2, A3, A4, A5, A6, A7, A8, A9, A10, M1, M2, nt, c1, m1] at eo
        subst eo
        refine ⟨_, rfl, ⟨?_, ?_, ?_, ?_, ?_, ?_, ?_, ?_, ?_⟩, ?_, ?_⟩
        · simp [am_up_ap, up1, t1, t2, t3, t4, t5, t6, t7, t8]
        · simp [am_up_ap, up1, t1, t2, t3, t4, t5, t6, t7, t8]
        · simp [am_up_ap, up1, t1, t2, t3, t4, t5, t6, t7, t8]
        · simp [am_up_ap, up1, t1, t2, t3, t4, t5, t6, t7, t8]
        · simp [am_up_ap, up1, t1, t2, t3, t4, t5, t6, t7, t8]
        · simp [am_up_ap, up1, t1, t2, t3, t4, t5, t6, t7, t8]
        · simp [am_up_ap, up1, t1, t2, t3, t4, t5, t6, t7, t8]
        · simp [am_up_ap, up1, t1, t2, t3, t4, t5, t6, t7, t8]
        · intro i hi
          simp only [am_up_ap, Nat.reduceEqDiff, ↓reduceIte]
          exact t9 i hi
        · (repeat' first | with_reducible exact sc.rf _ | with_reducible refine sc.upt ?_ _ _ ?_ | decide)
        · simp [am_up_ap]
    by_cases cB : p 0 + 1 - p 1 < 2
    · have c1 := eqF cA
      have c2 := eqT cB
      have hon : tl_on 0 (p, g, s, ws, ga, ch) := by
        show p 0 + 1 < (if g 0 = 6 ∧ g 1 = 6 then 7 else 4) ∨ p 0 + 1 - p 1 < 2
        rw [if_pos tie]; exact Or.inr cB
      have e1 : tl_told L 0 (p, g, s, ws, ga, ch) = 0 := if_pos hon
      by_cases mm : (p 0 + p 1 + 1) % 6 = 0
      · have m1 := eqT mm
        have e2 : tl_step 0 (p, g, s, ws, ga, ch) = (up1 p 0 (p 0 + 1), g, s, ws, ga, ch + 1) := by
          unfold tl_step
          rw [if_pos hon]
          show (up1 p 0 (p 0 + 1), g, s, ws, ga, if (g 0 = 6 ∧ g 1 = 6) ∧ (p 0 + p 1 + 1) % 6 = 0 then ch + 1 else ch) = _
          rw [if_pos ⟨tie, mm⟩]
        unfold Tk
        rw [e1, e2]
        generalize eo : fX7_take 0 h = o
        simp only [fX7_take, fX7_take_31, fX7_take_53, fX7_take_151, x_isTie, ↓am_b_some, ↓am_l_eq, am_up_ap, Nat.reduceEqDiff, ↓reduceIte, tn0, tn1, aw10, aw11, ic, id, z1, z0, t1, t2, t3, t4, t7, t8, A1, A2, A3, A4, A5, A6, A7, A8, A9, A10, M1, M2, nt, c1, c2, m1] at eo
        subst eo
        refine ⟨_, rfl, ⟨?_, ?_, ?_, ?_, ?_, ?_, ?_, ?_, ?_⟩, ?_, ?_⟩
        · simp [am_up_ap, up1, t1, t2, t3, t4, t5, t6, t7, t8]
        · simp [am_up_ap, up1, t1, t2, t3, t4, t5, t6, t7, t8]
        · simp [am_up_ap, up1, t1, t2, t3, t4, t5, t6, t7, t8]
        · simp [am_up_ap, up1, t1, t2, t3, t4, t5, t6, t7, t8]
        · simp [am_up_ap, up1, t1, t2, t3, t4, t5, t6, t7, t8]
        · simp [am_up_ap, up1, t1, t2, t3, t4, t5, t6, t7, t8]
        · simp [am_up_ap, up1, t1, t2, t3, t4, t5, t6, t7, t8]
        · simp [am_up_ap, up1, t1, t2, t3, t4, t5, t6, t7, t8]
        · intro i hi
          simp only [am_up_ap, Nat.reduceEqDiff, ↓reduceIte]
          exact t9 i hi
        · (repeat' first | with_reducible exact sc.rf _ | with_reducible refine sc.upt ?_ _ _ ?_ | decide)
        · simp [am_up_ap]
      · have m1 := eqF mm
        have e2 : tl_step 0 (p, g, s, ws, ga, ch) = (up1 p 0 (p 0 + 1), g, s, ws, ga, ch) := by
          unfold tl_step
          rw [if_pos hon]
          show (up1 p 0 (p 0 + 1), g, s, ws, ga, if (g 0 = 6 ∧ g 1 = 6) ∧ (p 0 + p 1 + 1) % 6 = 0 then ch + 1 else ch) = _
          rw [if_neg (fun z => mm z.2)]
        unfold Tk
        rw [e1, e2]
        generalize eo : fX7_take 0 h = o
        simp only [fX7_take, fX7_take_31, fX7_take_53, fX7_take_151, x_isTie, ↓am_b_some, ↓am_l_eq, am_up_ap, Nat.reduceEqDiff, ↓reduceIte, tn0, tn1, aw10, aw11, ic, id, z1, z0, t1, t2, t3, t4, t7, t8, A1, A2, A3, A4, A5, A6, A7, A8, A9, A10, M1, M2, nt, c1, c2, m1] at eo
        subst eo
        refine ⟨_, rfl, ⟨?_, ?_, ?_, ?_, ?_, ?_, ?_, ?_, ?_⟩, ?_, ?_⟩
        · simp [am_up_ap, up1, t1, t2, t3, t4, t5, t6, t7, t8]
        · simp [am_up_ap, up1, t1, t2, t3, t4, t5, t6, t7, t8]
        · simp [am_up_ap, up1, t1, t2, t3, t4, t5, t6, t7, t8]
        · simp [am_up_ap, up1, t1, t2, t3, t4, t5, t6, t7, t8]
        · simp [am_up_ap, up1, t1, t2, t3, t4, t5, t6, t7, t8]
        · simp [am_up_ap, up1, t1, t2, t3, t4, t5, t6, t7, t8]
        · simp [am_up_ap, up1, t1, t2, t3, t4, t5, t6, t7, t8]
        · simp [am_up_ap, up1, t1, t2, t3, t4, t5, t6, t7, t8]
        · intro i hi
          simp only [am_up_ap, Nat.reduceEqDiff, ↓reduceIte]
          exact t9 i hi
        · (repeat' first | with_reducible exact sc.rf _ | with_reducible refine sc.upt ?_ _ _ ?_ | decide)
        · simp [am_up_ap]
    have c1 := eqF cA
    have c2 := eqF cB
    have hon : ¬ tl_on 0 (p, g, s, ws, ga, ch) := by
      show ¬ (p 0 + 1 < (if g 0 = 6 ∧ g 1 = 6 then 7 else 4) ∨ p 0 + 1 - p 1 < 2)
      rw [if_pos tie]; exact fun z => z.elim cA cB
    have hson : ¬ tl_son 0 (p, g, s, ws, ga, ch) := fun z => z.1 tie
    have e1 : tl_told L 0 (p, g, s, ws, ga, ch) = (if s 0 + 1 = L then 3 else 2) := (if_neg hon).trans (if_neg hson)
    by_cases mm : (g 0 + g 1 + 1) % 2 = 1
    · have m1 := eqT mm
      have e2 : tl_step 0 (p, g, s, ws, ga, ch) = (fun _ => 0, fun _ => 0, up1 s 0 (s 0 + 1), up1 (up1 ws (2 * (s 0 + s 1)).toNat (up1 g 0 (g 0 + 1) 0)) (2 * (s 0 + s 1) + 1).toNat (up1 g 0 (g 0 + 1) 1), ga + 1, ch + 1) := by
        unfold tl_step
        rw [if_neg hon, if_neg hson]
        unfold tl_ch
        rw [if_pos mm]
      unfold Tk
      rw [e1, e2]
      generalize eo : fX7_take 0 h = o
      simp only [fX7_take, fX7_take_31, fX7_take_53, fX7_take_151, x_isTie, ↓am_b_some, ↓am_l_eq, am_up_ap, Nat.reduceEqDiff, ↓reduceIte, tn0, tn1, aw10, aw11, ic, id, z1, z0, t1, t2, t3, t4, t7, t8, A1, A2, A3, A4, A5, A6, A7, A8, A9, A10, M1, M2, nt, c1, c2, m1] at eo
      refine x_187_0 (s := s) (ws := ws) eo ?_ ?_ ?_ ?_ ?_ ?_ ?_ ?_ ?_ b5.1 b6.1 s0 s1 hL ?_ rfl ?_ h39
      · simp [am_up_ap, up1, t1, t2, t3, t4, t5, t6, t7, t8]
      · simp [am_up_ap, up1, t1, t2, t3, t4, t5, t6, t7, t8]
      · simp [am_up_ap, up1, t1, t2, t3, t4, t5, t6, t7, t8]
      · simp [am_up_ap, up1, t1, t2, t3, t4, t5, t6, t7, t8]
      · simp [am_up_ap, up1, t1, t2, t3, t4, t5, t6, t7, t8]
      · simp [am_up_ap, up1, t1, t2, t3, t4, t5, t6, t7, t8]
      · simp [am_up_ap, up1, t1, t2, t3, t4, t5, t6, t7, t8]
      · simp [am_up_ap, up1, t1, t2, t3, t4, t5, t6, t7, t8]
      · intro i hi
        simp only [am_up_ap, Nat.reduceEqDiff, ↓reduceIte]
        exact t9 i hi
      · simp [am_up_ap, h39]
      · (repeat' first | with_reducible exact sc.rf _ | with_reducible refine sc.upt ?_ _ _ ?_ | decide)
    · have m1 := eqF mm
      have e2 : tl_step 0 (p, g, s, ws, ga, ch) = (fun _ => 0, fun _ => 0, up1 s 0 (s 0 + 1), up1 (up1 ws (2 * (s 0 + s 1)).toNat (up1 g 0 (g 0 + 1) 0)) (2 * (s 0 + s 1) + 1).toNat (up1 g 0 (g 0 + 1) 1), ga + 1, ch) := by
        unfold tl_step
        rw [if_neg hon, if_neg hson]
        unfold tl_ch
        rw [if_neg mm]
      unfold Tk
      rw [e1, e2]
      generalize eo : fX7_take 0 h = o
      simp only [fX7_take, fX7_take_31, fX7_take_53, fX7_take_151, x_isTie, ↓am_b_some, ↓am_l_eq, am_up_ap, Nat.reduceEqDiff, ↓reduceIte, tn0, tn1, aw10, aw11, ic, id, z1, z0, t1, t2, t3, t4, t7, t8, A1, A2, A3, A4, A5, A6, A7, A8, A9, A10, M1, M2, nt, c1, c2, m1] at eo
      refine x_187_0 (s := s) (ws := ws) eo ?_ ?_ ?_ ?_ ?_ ?_ ?_ ?_ ?_ b5.1 b6.1 s0 s1 hL ?_ rfl ?_ h39
      · simp [am_up_ap, up1, t1, t2, t3, t4, t5, t6, t7, t8]
      · simp [am_up_ap, up1, t1, t2, t3, t4, t5, t6, t7, t8]
      · simp [am_up_ap, up1, t1, t2, t3, t4, t5, t6, t7, t8]
      · simp [am_up_ap, up1, t1, t2, t3, t4, t5, t6, t7, t8]
      · simp [am_up_ap, up1, t1, t2, t3, t4, t5, t6, t7, t8]
      · simp [am_up_ap, up1, t1, t2, t3, t4, t5, t6, t7, t8]
      · simp [am_up_ap, up1, t1, t2, t3, t4, t5, t6, t7, t8]
      · simp [am_up_ap, up1, t1, t2, t3, t4, t5, t6, t7, t8]
      · intro i hi
        simp only [am_up_ap, Nat.reduceEqDiff, ↓reduceIte]
        exact t9 i hi
      · simp [am_up_ap, h39]
      · (repeat' first | with_reducible exact sc.rf _ | with_reducible refine sc.upt ?_ _ _ ?_ | decide)
  · have nt := eqF tie
    by_cases cA : p 0 + 1 < 4
    · have c1 := eqT cA
      have hon : tl_on 0 (p, g, s, ws, ga, ch) := by
        show p 0 + 1 < (if g 0 = 6 ∧ g 1 = 6 then 7 else 4) ∨ p 0 + 1 - p 1 < 2
        rw [if_neg tie]; exact Or.inl cA
      have e1 : tl_told L 0 (p, g, s, ws, ga, ch) = 0 := if_pos hon
      have e2 : tl_step 0 (p, g, s, ws, ga, ch) = (up1 p 0 (p 0 + 1), g, s, ws, ga, ch) := by
        unfold tl_step
        rw [if_pos hon]
        show (up1 p 0 (p 0 + 1), g, s, ws, ga, if (g 0 = 6 ∧ g 1 = 6) ∧ (p 0 + p 1 + 1) % 6 = 0 then ch + 1 else ch) = _
        rw [if_neg (fun z => tie z.1)]
      unfold Tk
      rw [e1, e2]
      generalize eo : fX7_take 0 h = o
      simp only [fX7_take, fX7_take_31, fX7_take_53, fX7_take_151, x_isTie, ↓am_b_some, ↓am_l_eq, am_up_ap, Nat.reduceEqDiff, ↓reduceIte, tn0, tn1, aw10, aw11, ic, id, z1, z0, t1, t2, t3, t4, t7, t8, A1, A2, A3, A4, A5, A6, A7, A8, A9, A10, M1, M2, nt, c1] at eo
      subst eo
      refine ⟨_, rfl, ⟨?_, ?_, ?_, ?_, ?_, ?_, ?_, ?_, ?_⟩, ?_, ?_⟩
      · simp [am_up_ap, up1, t1, t2, t3, t4, t5, t6, t7, t8]
      · simp [am_up_ap, up1, t1, t2, t3, t4, t5, t6, t7, t8]
      · simp [am_up_ap, up1, t1, t2, t3, t4, t5, t6, t7, t8]
      · simp [am_up_ap, up1, t1, t2, t3, t4, t5, t6, t7, t8]
      · simp [am_up_ap, up1, t1, t2, t3, t4, t5, t6, t7, t8]
      · simp [am_up_ap, up1, t1, t2, t3, t4, t5, t6, t7, t8]
      · simp [am_up_ap, up1, t1, t2, t3, t4, t5, t6, t7, t8]
      · simp [am_up_ap, up1, t1, t2, t3, t4, t5, t6, t7, t8]
      · intro i hi
        simp only [am_up_ap, Nat.reduceEqDiff, ↓reduceIte]
        exact t9 i hi
      · (repeat' first | with_reducible exact sc.rf _ | with_reducible refine sc.upt ?_ _ _ ?_ | decide)
      · simp [am_up_ap]
    by_cases cB : p 0 + 1 - p 1 < 2
    · have c1 := eqF cA
      have c2 := eqT cB
      have hon : tl_on 0 (p, g, s, ws, ga, ch) := by
        show p 0 + 1 < (if g 0 = 6 ∧ g 1 = 6 then 7 else 4) ∨ p 0 + 1 - p 1 < 2
        rw [if_neg tie]; exact Or.inr cB
      have e1 : tl_told L 0 (p, g, s, ws, ga, ch) = 0 := if_pos hon
      have e2 : tl_step 0 (p, g, s, ws, ga, ch) = (up1 p 0 (p 0 + 1), g, s, ws, ga, ch) := by
        unfold tl_step
        rw [if_pos hon]
        show (up1 p 0 (p 0 + 1), g, s, ws, ga, if (g 0 = 6 ∧ g 1 = 6) ∧ (p 0 + p 1 + 1) % 6 = 0 then ch + 1 else ch) = _
        rw [if_neg (fun z => tie z.1)]
      unfold Tk
      rw [e1, e2]
      generalize eo : fX7_take 0 h = o
      simp only [fX7_take, fX7_take_31, fX7_take_53, fX7_take_151, x_isTie, ↓am_b_some, ↓am_l_eq, am_up_ap, Nat.reduceEqDiff, ↓reduceIte, tn0, tn1, aw10, aw11, ic, id, z1, z0, t1, t2, t3, t4, t7, t8, A1, A2, A3, A4, A5, A6, A7, A8, A9, A10, M1, M2, nt, c1, c2] at eo
      subst eo
      refine ⟨_, rfl, ⟨?_, ?_, ?_, ?_, ?_, ?_, ?_, ?_, ?_⟩, ?_, ?_⟩
      · simp [am_up_ap, up1, t1, t2, t3, t4, t5, t6, t7, t8]
      · simp [am_up_ap, up1, t1, t2, t3, t4, t5, t6, t7, t8]
      · simp [am_up_ap, up1, t1, t2, t3, t4, t5, t6, t7, t8]
      · simp [am_up_ap, up1, t1, t2, t3, t4, t5, t6, t7, t8]
      · simp [am_up_ap, up1, t1, t2, t3, t4, t5, t6, t7, t8]
      · simp [am_up_ap, up1, t1, t2, t3, t4, t5, t6, t7, t8]
      · simp [am_up_ap, up1, t1, t2, t3, t4, t5, t6, t7, t8]
      · simp [am_up_ap, up1, t1, t2, t3, t4, t5, t6, t7, t8]
      · intro i hi
        simp only [am_up_ap, Nat.reduceEqDiff, ↓reduceIte]
        exact t9 i hi
      · (repeat' first | with_reducible exact sc.rf _ | with_reducible refine sc.upt ?_ _ _ ?_ | decide)
      · simp [am_up_ap]
    have c1 := eqF cA
    have c2 := eqF cB
    have hon : ¬ tl_on 0 (p, g, s, ws, ga, ch) := by
      show ¬ (p 0 + 1 < (if g 0 = 6 ∧ g 1 = 6 then 7 else 4) ∨ p 0 + 1 - p 1 < 2)
      rw [if_neg tie]; exact fun z => z.elim cA cB
    by_cases sA : g 0 + 1 < 6
    · have d1 := eqT sA
      have hson : tl_son 0 (p, g, s, ws, ga, ch) := ⟨tie, Or.inl sA⟩
      have e1 : tl_told L 0 (p, g, s, ws, ga, ch) = 1 := (if_neg hon).trans (if_pos hson)
      by_cases mm : (g 0 + g 1 + 1) % 2 = 1
      · have m1 := eqT mm
        have e2 : tl_step 0 (p, g, s, ws, ga, ch) = (fun _ => 0, up1 g 0 (g 0 + 1), s, ws, ga + 1, ch + 1) := by
          unfold tl_step
          rw [if_neg hon, if_pos hson]
          unfold tl_ch
          rw [if_pos mm]
        unfold Tk
        rw [e1, e2]
        generalize eo : fX7_take 0 h = o
        simp only [fX7_take, fX7_take_31, fX7_take_53, fX7_take_151, x_isTie, ↓am_b_some, ↓am_l_eq, am_up_ap, Nat.reduceEqDiff, ↓reduceIte, tn0, tn1, aw10, aw11, ic, id, z1, z0, t1, t2, t3, t4, t7, t8, A1, A2, A3, A4, A5, A6, A7, A8, A9, A10, M1, M2, nt, c1, c2, d1, m1] at eo
        subst eo
        refine ⟨_, rfl, ⟨?_, ?_, ?_, ?_, ?_, ?_, ?_, ?_, ?_⟩, ?_, ?_⟩
        · simp [am_up_ap, up1, t1, t2, t3, t4, t5, t6, t7, t8]
        · simp [am_up_ap, up1, t1, t2, t3, t4, t5, t6, t7, t8]
        · simp [am_up_ap, up1, t1, t2, t3, t4, t5, t6, t7, t8]
        · simp [am_up_ap, up1, t1, t2, t3, t4, t5, t6, t7, t8]
        · simp [am_up_ap, up1, t1, t2, t3, t4, t5, t6, t7, t8]
        · simp [am_up_ap, up1, t1, t2, t3, t4, t5, t6, t7, t8]
        · simp [am_up_ap, up1, t1, t2, t3, t4, t5, t6, t7, t8]
        · simp [am_up_ap, up1, t1, t2, t3, t4, t5, t6, t7, t8]
        · intro i hi
          simp only [am_up_ap, Nat.reduceEqDiff, ↓reduceIte]
          exact t9 i hi
        · (repeat' first | with_reducible exact sc.rf _ | with_reducible refine sc.upt ?_ _ _ ?_ | decide)
        · simp [am_up_ap]
      · have m1 := eqF mm
        have e2 : tl_step 0 (p, g, s, ws, ga, ch) = (fun _ => 0, up1 g 0 (g 0 + 1), s, ws, ga + 1, ch) := by
          unfold tl_step
          rw [if_neg hon, if_pos hson]
          unfold tl_ch
          rw [if_neg mm]
        unfold Tk
        rw [e1, e2]
        generalize eo : fX7_take 0 h = o
        simp only [fX7_take, fX7_take_31, fX7_take_53, fX7_take_151, x_isTie, ↓am_b_some, ↓am_l_eq, am_up_ap, Nat.reduceEqDiff, ↓reduceIte, tn0, tn1, aw10, aw11, ic, id, z1, z0, t1, t2, t3, t4, t7, t8, A1, A2, A3, A4, A5, A6, A7, A8, A9, A10, M1, M2, nt, c1, c2, d1, m1] at eo
        subst eo
        refine ⟨_, rfl, ⟨?_, ?_, ?_, ?_, ?_, ?_, ?_, ?_, ?_⟩, ?_, ?_⟩
        · simp [am_up_ap, up1, t1, t2, t3, t4, t5, t6, t7, t8]
        · simp [am_up_ap, up1, t1, t2, t3, t4, t5, t6, t7, t8]
        · simp [am_up_ap, up1, t1, t2, t3, t4, t5, t6, t7, t8]
        · simp [am_up_ap, up1, t1, t2, t3, t4, t5, t6, t7, t8]
        · simp [am_up_ap, up1, t1, t2, t3, t4, t5, t6, t7, t8]
        · simp [am_up_ap, up1, t1, t2, t3, t4, t5, t6, t7, t8]
        · simp [am_up_ap, up1, t1, t2, t3, t4, t5, t6, t7, t8]
        · simp [am_up_ap, up1, t1, t2, t3, t4, t5, t6, t7, t8]
        · intro i hi
          simp only [am_up_ap, Nat.reduceEqDiff, ↓reduceIte]
          exact t9 i hi
        · (repeat' first | with_reducible exact sc.rf _ | with_reducible refine sc.upt ?_ _ _ ?_ | decide)
        · simp [am_up_ap]
    by_cases sB : g 0 + 1 - g 1 < 2
    · have d1 := eqF sA
      have d2 := eqT sB
      have hson : tl_son 0 (p, g, s, ws, ga, ch) := ⟨tie, Or.inr sB⟩
      have e1 : tl_told L 0 (p, g, s, ws, ga, ch) = 1 := (if_neg hon).trans (if_pos hson)
      by_cases mm : (g 0 + g 1 + 1) % 2 = 1
      · have m1 := eqT mm
        have e2 : tl_step 0 (p, g, s, ws, ga, ch) = (fun _ => 0, up1 g 0 (g 0 + 1), s, ws, ga + 1, ch + 1) := by
          unfold tl_step
          rw [if_neg hon, if_pos hson]
          unfold tl_ch
          rw [if_pos mm]
        unfold Tk
        rw [e1, e2]
        generalize eo : fX7_take 0 h = o
        simp only [fX7_take, fX7_take_31, fX7_take_53, fX7_take_151, x_isTie, ↓am_b_some, ↓am_l_eq, am_up_ap, Nat.reduceEqDiff, ↓reduceIte, tn0, tn1, aw10, aw11, ic, id, z1, z0, t1, t2, t3, t4, t7, t8, A1, A2, A3, A4, A5, A6, A7, A8, A9, A10, M1, M2, nt, c1, c2, d1, d2, m1] at eo
        subst eo
        refine ⟨_, rfl, ⟨?_, ?_, ?_, ?_, ?_, ?_, ?_, ?_, ?_⟩, ?_, ?_⟩
        · simp [am_up_ap, up1, t1, t2, t3, t4, t5, t6, t7, t8]
        · simp [am_up_ap, up1, t1, t2, t3, t4, t5, t6, t7, t8]
        · simp [am_up_ap, up1, t1, t2, t3, t4, t5, t6, t7, t8]
        · simp [am_up_ap, up1, t1, t2, t3, t4, t5, t6, t7, t8]
        · simp [am_up_ap, up1, t1, t2, t3, t4, t5, t6, t7, t8]
        · simp [am_up_ap, up1, t1, t2, t3, t4, t5, t6, t7, t8]
        · simp [am_up_ap, up1, t1, t2, t3, t4, t5, t6, t7, t8]
        · simp [am_up_ap, up1, t1, t2, t3, t4, t5, t6, t7, t8]
        · intro i hi
          simp only [am_up_ap, Nat.reduceEqDiff, ↓reduceIte]
          exact t9 i hi
        · (repeat' first | with_reducible exact sc.rf _ | with_reducible refine sc.upt ?_ _ _ ?_ | decide)
        · simp [am_up_ap]
      · have m1 := eqF mm
        have e2 : tl_step 0 (p, g, s, ws, ga, ch) = (fun _ => 0, up1 g 0 (g 0 + 1), s, ws, ga + 1, ch) := by
          unfold tl_step
          rw [if_neg hon, if_pos hson]
          unfold tl_ch
          rw [if_neg mm]
        unfold Tk
        rw [e1, e2]
        generalize eo : fX7_take 0 h = o
        simp only [fX7_take, fX7_take_31, fX7_take_53, fX7_take_151, x_isTie, ↓am_b_some, ↓am_l_eq, am_up_ap, Nat.reduceEqDiff, ↓reduceIte, tn0, tn1, aw10, aw11, ic, id, z1, z0, t1, t2, t3, t4, t7, t8, A1, A2, A3, A4, A5, A6, A7, A8, A9, A10, M1, M2, nt, c1, c2, d1, d2, m1] at eo
        subst eo
        refine ⟨_, rfl, ⟨?_, ?_, ?_, ?_, ?_, ?_, ?_, ?_, ?_⟩, ?_, ?_⟩
        · simp [am_up_ap, up1, t1, t2, t3, t4, t5, t6, t7, t8]
        · simp [am_up_ap, up1, t1, t2, t3, t4, t5, t6, t7, t8]
        · simp [am_up_ap, up1, t1, t2, t3, t4, t5, t6, t7, t8]
        · simp [am_up_ap, up1, t1, t2, t3, t4, t5, t6, t7, t8]
        · simp [am_up_ap, up1, t1, t2, t3, t4, t5, t6, t7, t8]
        · simp [am_up_ap, up1, t1, t2, t3, t4, t5, t6, t7, t8]
        · simp [am_up_ap, up1, t1, t2, t3, t4, t5, t6, t7, t8]
        · simp [am_up_ap, up1, t1, t2, t3, t4, t5, t6, t7, t8]
        · intro i hi
          simp only [am_up_ap, Nat.reduceEqDiff, ↓reduceIte]
          exact t9 i hi
        · (repeat' first | with_reducible exact sc.rf _ | with_reducible refine sc.upt ?_ _ _ ?_ | decide)
        · simp [am_up_ap]
    have d1 := eqF sA
    have d2 := eqF sB
    have hson : ¬ tl_son 0 (p, g, s, ws, ga, ch) := fun z => z.2.elim sA sB
    have e1 : tl_told L 0 (p, g, s, ws, ga, ch) = (if s 0 + 1 = L then 3 else 2) := (if_neg hon).trans (if_neg hson)
    by_cases mm : (g 0 + g 1 + 1) % 2 = 1
    · have m1 := eqT mm
      have e2 : tl_step 0 (p, g, s, ws, ga, ch) = (fun _ => 0, fun _ => 0, up1 s 0 (s 0 + 1), up1 (up1 ws (2 * (s 0 + s 1)).toNat (up1 g 0 (g 0 + 1) 0)) (2 * (s 0 + s 1) + 1).toNat (up1 g 0 (g 0 + 1) 1), ga + 1, ch + 1) := by
        unfold tl_step
        rw [if_neg hon, if_neg hson]
        unfold tl_ch
        rw [if_pos mm]
      unfold Tk
      rw [e1, e2]
      generalize eo : fX7_take 0 h = o
      simp only [fX7_take, fX7_take_31, fX7_take_53, fX7_take_151, x_isTie, ↓am_b_some, ↓am_l_eq, am_up_ap, Nat.reduceEqDiff, ↓reduceIte, tn0, tn1, aw10, aw11, ic, id, z1, z0, t1, t2, t3, t4, t7, t8, A1, A2, A3, A4, A5, A6, A7, A8, A9, A10, M1, M2, nt, c1, c2, d1, d2, m1] at eo
      refine x_187_0 (s := s) (ws := ws) eo ?_ ?_ ?_ ?_ ?_ ?_ ?_ ?_ ?_ b5.1 b6.1 s0 s1 hL ?_ rfl ?_ h39
      · simp [am_up_ap, up1, t1, t2, t3, t4, t5, t6, t7, t8]
      · simp [am_up_ap, up1, t1, t2, t3, t4, t5, t6, t7, t8]
      · simp [am_up_ap, up1, t1, t2, t3, t4, t5, t6, t7, t8]
      · simp [am_up_ap, up1, t1, t2, t3, t4, t5, t6, t7, t8]
      · simp [am_up_ap, up1, t1, t2, t3, t4, t5, t6, t7, t8]
      · simp [am_up_ap, up1, t1, t2, t3, t4, t5, t6, t7, t8]
      · simp [am_up_ap, up1, t1, t2, t3, t4, t5, t6, t7, t8]
      · simp [am_up_ap, up1, t1, t2, t3, t4, t5, t6, t7, t8]
      · intro i hi
        simp only [am_up_ap, Nat.reduceEqDiff, ↓reduceIte]
        exact t9 i hi
      · simp [am_up_ap, h39]
      · (repeat' first | with_reducible exact sc.rf _ | with_reducible refine sc.upt ?_ _ _ ?_ | decide)
    · have m1 := eqF mm
      have e2 : tl_step 0 (p, g, s, ws, ga, ch) = (fun _ => 0, fun _ => 0, up1 s 0 (s 0 + 1), up1 (up1 ws (2 * (s 0 + s 1)).toNat (up1 g 0 (g 0 + 1) 0)) (2 * (s 0 + s 1) + 1).toNat (up1 g 0 (g 0 + 1) 1), ga + 1, ch) := by
        unfold tl_step
        rw [if_neg hon, if_neg hson]
        unfold tl_ch
        rw [if_neg mm]
      unfold Tk
      rw [e1, e2]
      generalize eo : fX7_take 0 h = o
      simp only [fX7_take, fX7_take_31, fX7_take_53, fX7_take_151, x_isTie, ↓am_b_some, ↓am_l_eq, am_up_ap, Nat.reduceEqDiff, ↓reduceIte, tn0, tn1, aw10, aw11, ic, id, z1, z0, t1, t2, t3, t4, t7, t8, A1, A2, A3, A4, A5, A6, A7, A8, A9, A10, M1, M2, nt, c1, c2, d1, d2, m1] at eo
      refine x_187_0 (s := s) (ws := ws) eo ?_ ?_ ?_ ?_ ?_ ?_ ?_ ?_ ?_ b5.1 b6.1 s0 s1 hL ?_ rfl ?_ h39
      · simp [am_up_ap, up1, t1, t2, t3, t4, t5, t6, t7, t8]
      · simp [am_up_ap, up1, t1, t2, t3, t4, t5, t6, t7, t8]
      · simp [am_up_ap, up1, t1, t2, t3, t4, t5, t6, t7, t8]
      · simp [am_up_ap, up1, t1, t2, t3, t4, t5, t6, t7, t8]
      · simp [am_up_ap, up1, t1, t2, t3, t4, t5, t6, t7, t8]
      · simp [am_up_ap, up1, t1, t2, t3, t4, t5, t6, t7, t8]
      · simp [am_up_ap, up1, t1, t2, t3, t4, t5, t6, t7, t8]
      · simp [am_up_ap, up1, t1, t2, t3, t4, t5, t6, t7, t8]
      · intro i hi
        simp only [am_up_ap, Nat.reduceEqDiff, ↓reduceIte]
        exact t9 i hi
      · simp [am_up_ap, h39]
      · (repeat' first | with_reducible exact sc.rf _ | with_reducible refine sc.upt ?_ _ _ ?_ | decide)
theorem m_play_0 (L k : Int) (t : tl_T) (h : am_M) (hT : TL h t) (hb : tb k t) (hk : k ≤ 300) (hL : L ≤ 3) (h39 : h 39 0 = t.2.2.1 0 + t.2.2.1 1) (s0 : t.2.2.1 0 < L) (s1 : t.2.2.1 1 < L) : Pk L 0 t h (fX9_play 0 L h) := by
  obtain ⟨p, g, s, ws, ga, ch⟩ := t
  obtain ⟨t1, t2, t3, t4, t5, t6, t7, t8, t9⟩ := hT
  unfold tb at hb
  obtain ⟨b1, b2, b3, b4, b5, b6, b7, b8⟩ := hb
  dsimp only at t1 t2 t3 t4 t5 t6 t7 t8 t9 b1 b2 b3 b4 b5 b6 b7 b8 s0 s1 h39
  obtain ⟨A1, A2, A3, A4⟩ := aw_p (p 0) (p 1) (le3 b1 hk) (le3 b2 hk)
  obtain ⟨A5, A6, A7, A8⟩ := aw_p (g 0) (g 1) (le3 b3 hk) (le3 b4 hk)
  have A9 := aw_q ga (le3 b7 hk)
  have A10 := aw_q ch (le3 b8 hk)
  have M1 := (im_p (p 0) (p 1) (le3 b1 hk) (le3 b2 hk)).1
  have M2 := (im_p (g 0) (g 1) (le3 b3 hk) (le3 b4 hk)).2
  have ic : ((0 : Int) ≤ 0 ∧ (0 : Int) < 2) = True := ic0
  have id : ((0 : Int) ≤ 1 ∧ (1 : Int) < 2) = True := ic1
  have z1 : ((1 : Int) = 0) = False := by decide
  have z0 : ((0 : Int) = 0) = True := by decide
  by_cases tie : g 0 = 6 ∧ g 1 = 6
  · have nt := eqT tie
    by_cases cA : p 0 + 1 < 7
    · have c1 := eqT cA
      have hon : tl_on 0 (p, g, s, ws, ga, ch) := by
        show p 0 + 1 < (if g 0 = 6 ∧ g 1 = 6 then 7 else 4) ∨ p 0 + 1 - p 1 < 2
        rw [if_pos tie]; exact Or.inl cA
      have e1 : tl_told L 0 (p, g, s, ws, ga, ch) = 0 := if_pos hon
      by_cases mm : (p 0 + p 1 + 1) % 6 = 0
      · have m1 := eqT mm
        have e2 : tl_step 0 (p, g, s, ws, ga, ch) = (up1 p 0 (p 0 + 1), g, s, ws, ga, ch + 1) := by
          unfold tl_step
          rw [if_pos hon]
          show (up1 p 0 (p 0 + 1), g, s, ws, ga, if (g 0 = 6 ∧ g 1 = 6) ∧ (p 0 + p 1 + 1) % 6 = 0 then ch + 1 else ch) = _
          rw [if_pos ⟨tie, mm⟩]
        unfold Pk
        rw [e1, e2]
        generalize eo : fX9_play 0 L h = o
        simp only [m_tie, fX9_play_27, fX9_play_59, fX9_play_85, fX9_play_86, fX9_play_195, ↓am_b_some, ↓am_l_eq, am_up_ap, Nat.reduceEqDiff, ↓reduceIte, tn0, tn1, aw10, aw11, ic, id, z1, z0, t1, t2, t3, t4, t7, t8, A1, A2, A3, A4, A5, A6, A7, A8, A9, A10, M1, M2, nt, c1, m1] at eo
        subst eo
        refine ⟨_, rfl, ⟨?_, ?_, ?_, ?_, ?_, ?_, ?_, ?_, ?_⟩, ?_, ?_, ?_⟩
        · simp [am_up_ap, up1, t1, t2, t3, t4, t5, t6, t7, t8]
        · simp [am_up_ap, up1, t1, t2, t3, t4, t5, t6, t7, t8]
        · simp [am_up_ap, up1, t1, t2, t3, t4, t5, t6, t7, t8]
        · simp [am_up_ap, up1, t1, t2, t3, t4, t5, t6, t7, t8]
        · simp [am_up_ap, up1, t1, t2, t3, t4, t5, t6, t7, t8]
        · simp [am_up_ap, up1, t1, t2, t3, t4, t5, t6, t7, t8]
        · simp [am_up_ap, up1, t1, t2, t3, t4, t5, t6, t7, t8]
        · simp [am_up_ap, up1, t1, t2, t3, t4, t5, t6, t7, t8]
        · intro i hi
          simp only [am_up_ap, Nat.reduceEqDiff, ↓reduceIte]
          exact t9 i hi
        · (repeat' first | with_reducible exact sc.rf _ | with_reducible refine sc.upt ?_ _ _ ?_ | decide)
        · simp [am_up_ap, t5, t6, h39]
        · simp [am_up_ap]
      · have m1 := eqF mm
        have e2 : tl_step 0 (p, g, s, ws, ga, ch) = (up1 p 0 (p 0 + 1), g, s, ws, ga, ch) := by
          unfold tl_step
          rw [if_pos hon]
          show (up1 p 0 (p 0 + 1), g, s, ws, ga, if (g 0 = 6 ∧ g 1 = 6) ∧ (p 0 + p 1 + 1) % 6 = 0 then ch + 1 else ch) = _
          rw [if_neg (fun z => mm z.2)]
        unfold Pk
        rw [e1, e2]
        generalize eo : fX9_play 0 L h = o
        simp only [m_tie, fX9_play_27, fX9_play_59, fX9_play_85, fX9_play_86, fX9_play_195, ↓am_b_some, ↓am_l_eq, am_up_ap, Nat.reduceEqDiff, ↓reduceIte, tn0, tn1, aw10, aw11, ic, id, z1, z0, t1, t2, t3, t4, t7, t8, A1, A2, A3, A4, A5, A6, A7, A8, A9, A10, M1, M2, nt, c1, m1] at eo
        subst eo
        refine ⟨_, rfl, ⟨?_, ?_, ?_, ?_, ?_, ?_, ?_, ?_, ?_⟩, ?_, ?_, ?_⟩
        · simp [am_up_ap, up1, t1, t2, t3, t4, t5, t6, t7, t8]
        · simp [am_up_ap, up1, t1, t2, t3, t4, t5, t6, t7, t8]
        · simp [am_up_ap, up1, t1, t2, t3, t4, t5, t6, t7, t8]
        · simp [am_up_ap, up1, t1, t2, t3, t4, t5, t6, t7, t8]
        · simp [am_up_ap, up1, t1, t2, t3, t4, t5, t6, t7, t8]
        · simp [am_up_ap, up1, t1, t2, t3, t4, t5, t6, t7, t8]
        · simp [am_up_ap, up1, t1, t2, t3, t4, t5, t6, t7, t8]
        · simp [am_up_ap, up1, t1, t2, t3, t4, t5, t6, t7, t8]
        · intro i hi
          simp only [am_up_ap, Nat.reduceEqDiff, ↓reduceIte]
          exact t9 i hi
        · (repeat' first | with_reducible exact sc.rf _ | with_reducible refine sc.upt ?_ _ _ ?_ | decide)
        · simp [am_up_ap, t5, t6, h39]
        · simp [am_up_ap]
    by_cases cB : p 0 + 1 - p 1 < 2
    · have c1 := eqF cA
      have c2 := eqT cB
      have hon : tl_on 0 (p, g, s, ws, ga, ch) := by
        show p 0 + 1 < (if g 0 = 6 ∧ g 1 = 6 then 7 else 4) ∨ p 0 + 1 - p 1 < 2
        rw [if_pos tie]; exact Or.inr cB
      have e1 : tl_told L 0 (p, g, s, ws, ga, ch) = 0 := if_pos hon
      by_cases mm : (p 0 + p 1 + 1) % 6 = 0
      · have m1 := eqT mm
        have e2 : tl_step 0 (p, g, s, ws, ga, ch) = (up1 p 0 (p 0 + 1), g, s, ws, ga, ch + 1) := by
          unfold tl_step
          rw [if_pos hon]
          show (up1 p 0 (p 0 + 1), g, s, ws, ga, if (g 0 = 6 ∧ g 1 = 6) ∧ (p 0 + p 1 + 1) % 6 = 0 then ch + 1 else ch) = _
          rw [if_pos ⟨tie, mm⟩]
        unfold Pk
        rw [e1, e2]
        generalize eo : fX9_play 0 L h = o
        simp only [m_tie, fX9_play_27, fX9_play_59, fX9_play_85, fX9_play_86, fX9_play_195, ↓am_b_some, ↓am_l_eq, am_up_ap, Nat.reduceEqDiff, ↓reduceIte, tn0, tn1, aw10, aw11, ic, id, z1, z0, t1, t2, t3, t4, t7, t8, A1, A2, A3, A4, A5, A6, A7, A8, A9, A10, M1, M2, nt, c1, c2, m1] at eo
        subst eo
        refine ⟨_, rfl, ⟨?_, ?_, ?_, ?_, ?_, ?_, ?_, ?_, ?_⟩, ?_, ?_, ?_⟩
        · simp [am_up_ap, up1, t1, t2, t3, t4, t5, t6, t7, t8]
        · simp [am_up_ap, up1, t1, t2, t3, t4, t5, t6, t7, t8]
        · simp [am_up_ap, up1, t1, t2, t3, t4, t5, t6, t7, t8]
        · simp [am_up_ap, up1, t1, t2, t3, t4, t5, t6, t7, t8]
        · simp [am_up_ap, up1, t1, t2, t3, t4, t5, t6, t7, t8]
        · simp [am_up_ap, up1, t1, t2, t3, t4, t5, t6, t7, t8]
        · simp [am_up_ap, up1, t1, t2, t3, t4, t5, t6, t7, t8]
        · simp [am_up_ap, up1, t1, t2, t3, t4, t5, t6, t7, t8]
        · intro i hi
          simp only [am_up_ap, Nat.reduceEqDiff, ↓reduceIte]
          exact t9 i hi
        · (repeat' first | with_reducible exact sc.rf _ | with_reducible refine sc.upt ?_ _ _ ?_ | decide)
        · simp [am_up_ap, t5, t6, h39]
        · simp [am_up_ap]
      · have m1 := eqF mm
        have e2 : tl_step 0 (p, g, s, ws, ga, ch) = (up1 p 0 (p 0 + 1), g, s, ws, ga, ch) := by
          unfold tl_step
          rw [if_pos hon]
          show (up1 p 0 (p 0 + 1), g, s, ws, ga, if (g 0 = 6 ∧ g 1 = 6) ∧ (p 0 + p 1 + 1) % 6 = 0 then ch + 1 else ch) = _
          rw [if_neg (fun z => mm z.2)]
        unfold Pk
        rw [e1, e2]
        generalize eo : fX9_play 0 L h = o
        simp only [m_tie, fX9_play_27, fX9_play_59, fX9_play_85, fX9_play_86, fX9_play_195, ↓am_b_some, ↓am_l_eq, am_up_ap, Nat.reduceEqDiff, ↓reduceIte, tn0, tn1, aw10, aw11, ic, id, z1, z0, t1, t2, t3, t4, t7, t8, A1, A2, A3, A4, A5, A6, A7, A8, A9, A10, M1, M2, nt, c1, c2, m1] at eo
        subst eo
        refine ⟨_, rfl, ⟨?_, ?_, ?_, ?_, ?_, ?_, ?_, ?_, ?_⟩, ?_, ?_, ?_⟩
        · simp [am_up_ap, up1, t1, t2, t3, t4, t5, t6, t7, t8]
        · simp [am_up_ap, up1, t1, t2, t3, t4, t5, t6, t7, t8]
        · simp [am_up_ap, up1, t1, t2, t3, t4, t5, t6, t7, t8]
        · simp [am_up_ap, up1, t1, t2, t3, t4, t5, t6, t7, t8]
        · simp [am_up_ap, up1, t1, t2, t3, t4, t5, t6, t7, t8]
        · simp [am_up_ap, up1, t1, t2, t3, t4, t5, t6, t7, t8]
        · simp [am_up_ap, up1, t1, t2, t3, t4, t5, t6, t7, t8]
        · simp [am_up_ap, up1, t1, t2, t3, t4, t5, t6, t7, t8]
        · intro i hi
          simp only [am_up_ap, Nat.reduceEqDiff, ↓reduceIte]
          exact t9 i hi
        · (repeat' first | with_reducible exact sc.rf _ | with_reducible refine sc.upt ?_ _ _ ?_ | decide)
        · simp [am_up_ap, t5, t6, h39]
        · simp [am_up_ap]
    have c1 := eqF cA
    have c2 := eqF cB
    have hon : ¬ tl_on 0 (p, g, s, ws, ga, ch) := by
      show ¬ (p 0 + 1 < (if g 0 = 6 ∧ g 1 = 6 then 7 else 4) ∨ p 0 + 1 - p 1 < 2)
      rw [if_pos tie]; exact fun z => z.elim cA cB
    have hson : ¬ tl_son 0 (p, g, s, ws, ga, ch) := fun z => z.1 tie
    have e1 : tl_told L 0 (p, g, s, ws, ga, ch) = (if s 0 + 1 = L then 3 else 2) := (if_neg hon).trans (if_neg hson)
    by_cases mm : (g 0 + g 1 + 1) % 2 = 1
    · have m1 := eqT mm
      have e2 : tl_step 0 (p, g, s, ws, ga, ch) = (fun _ => 0, fun _ => 0, up1 s 0 (s 0 + 1), up1 (up1 ws (2 * (s 0 + s 1)).toNat (up1 g 0 (g 0 + 1) 0)) (2 * (s 0 + s 1) + 1).toNat (up1 g 0 (g 0 + 1) 1), ga + 1, ch + 1) := by
        unfold tl_step
        rw [if_neg hon, if_neg hson]
        unfold tl_ch
        rw [if_pos mm]
      unfold Pk
      rw [e1, e2]
      generalize eo : fX9_play 0 L h = o
      simp only [m_tie, fX9_play_27, fX9_play_59, fX9_play_85, fX9_play_86, fX9_play_195, ↓am_b_some, ↓am_l_eq, am_up_ap, Nat.reduceEqDiff, ↓reduceIte, tn0, tn1, aw10, aw11, ic, id, z1, z0, t1, t2, t3, t4, t7, t8, A1, A2, A3, A4, A5, A6, A7, A8, A9, A10, M1, M2, nt, c1, c2, m1] at eo
      refine x_230_0 (s := s) (ws := ws) eo ?_ ?_ ?_ ?_ ?_ ?_ ?_ ?_ ?_ b5.1 b6.1 s0 s1 hL ?_ rfl ?_
      · simp [am_up_ap, up1, t1, t2, t3, t4, t5, t6, t7, t8]
      · simp [am_up_ap, up1, t1, t2, t3, t4, t5, t6, t7, t8]
      · simp [am_up_ap, up1, t1, t2, t3, t4, t5, t6, t7, t8]
      · simp [am_up_ap, up1, t1, t2, t3, t4, t5, t6, t7, t8]
      · simp [am_up_ap, up1, t1, t2, t3, t4, t5, t6, t7, t8]
      · simp [am_up_ap, up1, t1, t2, t3, t4, t5, t6, t7, t8]
      · simp [am_up_ap, up1, t1, t2, t3, t4, t5, t6, t7, t8]
      · simp [am_up_ap, up1, t1, t2, t3, t4, t5, t6, t7, t8]
      · intro i hi
        simp only [am_up_ap, Nat.reduceEqDiff, ↓reduceIte]
        exact t9 i hi
      · simp [am_up_ap, h39]
      · (repeat' first | with_reducible exact sc.rf _ | with_reducible refine sc.upt ?_ _ _ ?_ | decide)
    · have m1 := eqF mm
      have e2 : tl_step 0 (p, g, s, ws, ga, ch) = (fun _ => 0, fun _ => 0, up1 s 0 (s 0 + 1), up1 (up1 ws (2 * (s 0 + s 1)).toNat (up1 g 0 (g 0 + 1) 0)) (2 * (s 0 + s 1) + 1).toNat (up1 g 0 (g 0 + 1) 1), ga + 1, ch) := by
        unfold tl_step
        rw [if_neg hon, if_neg hson]
        unfold tl_ch
        rw [if_neg mm]
      unfold Pk
      rw [e1, e2]
      generalize eo : fX9_play 0 L h = o
      simp only [m_tie, fX9_play_27, fX9_play_59, fX9_play_85, fX9_play_86, fX9_play_195, ↓am_b_some, ↓am_l_eq, am_up_ap, Nat.reduceEqDiff, ↓reduceIte, tn0, tn1, aw10, aw11, ic, id, z1, z0, t1, t2, t3, t4, t7, t8, A1, A2, A3, A4, A5, A6, A7, A8, A9, A10, M1, M2, nt, c1, c2, m1] at eo
      refine x_230_0 (s := s) (ws := ws) eo ?_ ?_ ?_ ?_ ?_ ?_ ?_ ?_ ?_ b5.1 b6.1 s0 s1 hL ?_ rfl ?_
      · simp [am_up_ap, up1, t1, t2, t3, t4, t5, t6, t7, t8]
      · simp [am_up_ap, up1, t1, t2, t3, t4, t5, t6, t7, t8]
      · simp [am_up_ap, up1, t1, t2, t3, t4, t5, t6, t7, t8]
      · simp [am_up_ap, up1, t1, t2, t3, t4, t5, t6, t7, t8]
      · simp [am_up_ap, up1, t1, t2, t3, t4, t5, t6, t7, t8]
      · simp [am_up_ap, up1, t1, t2, t3, t4, t5, t6, t7, t8]
      · simp [am_up_ap, up1, t1, t2, t3, t4, t5, t6, t7, t8]
      · simp [am_up_ap, up1, t1, t2, t3, t4, t5, t6, t7, t8]
      · intro i hi
        simp only [am_up_ap, Nat.reduceEqDiff, ↓reduceIte]
        exact t9 i hi
      · simp [am_up_ap, h39]
      · (repeat' first | with_reducible exact sc.rf _ | with_reducible refine sc.upt ?_ _ _ ?_ | decide)
  · have nt := eqF tie
    by_cases cA : p 0 + 1 < 4
    · have c1 := eqT cA
      have hon : tl_on 0 (p, g, s, ws, ga, ch) := by
        show p 0 + 1 < (if g 0 = 6 ∧ g 1 = 6 then 7 else 4) ∨ p 0 + 1 - p 1 < 2
        rw [if_neg tie]; exact Or.inl cA
      have e1 : tl_told L 0 (p, g, s, ws, ga, ch) = 0 := if_pos hon
      have e2 : tl_step 0 (p, g, s, ws, ga, ch) = (up1 p 0 (p 0 + 1), g, s, ws, ga, ch) := by
        unfold tl_step
        rw [if_pos hon]
        show (up1 p 0 (p 0 + 1), g, s, ws, ga, if (g 0 = 6 ∧ g 1 = 6) ∧ (p 0 + p 1 + 1) % 6 = 0 then ch + 1 else ch) = _
        rw [if_neg (fun z => tie z.1)]
      unfold Pk
      rw [e1, e2]
      generalize eo : fX9_play 0 L h = o
      simp only [m_tie, fX9_play_27, fX9_play_59, fX9_play_85, fX9_play_86, fX9_play_195, ↓am_b_some, ↓am_l_eq, am_up_ap, Nat.reduceEqDiff, ↓reduceIte, tn0, tn1, aw10, aw11, ic, id, z1, z0, t1, t2, t3, t4, t7, t8, A1, A2, A3, A4, A5, A6, A7, A8, A9, A10, M1, M2, nt, c1] at eo
      subst eo
      refine ⟨_, rfl, ⟨?_, ?_, ?_, ?_, ?_, ?_, ?_, ?_, ?_⟩, ?_, ?_, ?_⟩
      · simp [am_up_ap, up1, t1, t2, t3, t4, t5, t6, t7, t8]
      · simp [am_up_ap, up1, t1, t2, t3, t4, t5, t6, t7, t8]
      · simp [am_up_ap, up1, t1, t2, t3, t4, t5, t6, t7, t8]
      · simp [am_up_ap, up1, t1, t2, t3, t4, t5, t6, t7, t8]
      · simp [am_up_ap, up1, t1, t2, t3, t4, t5, t6, t7, t8]
      · simp [am_up_ap, up1, t1, t2, t3, t4, t5, t6, t7, t8]
      · simp [am_up_ap, up1, t1, t2, t3, t4, t5, t6, t7, t8]
      · simp [am_up_ap, up1, t1, t2, t3, t4, t5, t6, t7, t8]
      · intro i hi
        simp only [am_up_ap, Nat.reduceEqDiff, ↓reduceIte]
        exact t9 i hi
      · (repeat' first | with_reducible exact sc.rf _ | with_reducible refine sc.upt ?_ _ _ ?_ | decide)
      · simp [am_up_ap, t5, t6, h39]
      · simp [am_up_ap]
    by_cases cB : p 0 + 1 - p 1 < 2
    · have c1 := eqF cA
      have c2 := eqT cB
      have hon : tl_on 0 (p, g, s, ws, ga, ch) := by
        show p 0 + 1 < (if g 0 = 6 ∧ g 1 = 6 then 7 else 4) ∨ p 0 + 1 - p 1 < 2
        rw [if_neg tie]; exact Or.inr cB
      have e1 : tl_told L 0 (p, g, s, ws, ga, ch) = 0 := if_pos hon
      have e2 : tl_step 0 (p, g, s, ws, ga, ch) = (up1 p 0 (p 0 + 1), g, s, ws, ga, ch) := by
        unfold tl_step
        rw [if_pos hon]
        show (up1 p 0 (p 0 + 1), g, s, ws, ga, if (g 0 = 6 ∧ g 1 = 6) ∧ (p 0 + p 1 + 1) % 6 = 0 then ch + 1 else ch) = _
        rw [if_neg (fun z => tie z.1)]
      unfold Pk
      rw [e1, e2]
      generalize eo : fX9_play 0 L h = o
      simp only [m_tie, fX9_play_27, fX9_play_59, fX9_play_85, fX9_play_86, fX9_play_195, ↓am_b_some, ↓am_l_eq, am_up_ap, Nat.reduceEqDiff, ↓reduceIte, tn0, tn1, aw10, aw11, ic, id, z1, z0, t1, t2, t3, t4, t7, t8, A1, A2, A3, A4, A5, A6, A7, A8, A9, A10, M1, M2, nt, c1, c2] at eo
      subst eo
      refine ⟨_, rfl, ⟨?_, ?_, ?_, ?_, ?_, ?_, ?_, ?_, ?_⟩, ?_, ?_, ?_⟩
      · simp [am_up_ap, up1, t1, t2, t3, t4, t5, t6, t7, t8]
      · simp [am_up_ap, up1, t1, t2, t3, t4, t5, t6, t7, t8]
      · simp [am_up_ap, up1, t1, t2, t3, t4, t5, t6, t7, t8]
      · simp [am_up_ap, up1, t1, t2, t3, t4, t5, t6, t7, t8]
      · simp [am_up_ap, up1, t1, t2, t3, t4, t5, t6, t7, t8]
      · simp [am_up_ap, up1, t1, t2, t3, t4, t5, t6, t7, t8]
      · simp [am_up_ap, up1, t1, t2, t3, t4, t5, t6, t7, t8]
      · simp [am_up_ap, up1, t1, t2, t3, t4, t5, t6, t7, t8]
      · intro i hi
        simp only [am_up_ap, Nat.reduceEqDiff, ↓reduceIte]
        exact t9 i hi
      · (repeat' first | with_reducible exact sc.rf _ | with_reducible refine sc.upt ?_ _ _ ?_ | decide)
      · simp [am_up_ap, t5, t6, h39]
      · simp [am_up_ap]
    have c1 := eqF cA
    have c2 := eqF cB
    have hon : ¬ tl_on 0 (p, g, s, ws, ga, ch) := by
      show ¬ (p 0 + 1 < (if g 0 = 6 ∧ g 1 = 6 then 7 else 4) ∨ p 0 + 1 - p 1 < 2)
      rw [if_neg tie]; exact fun z => z.elim cA cB
    by_cases sA : g 0 + 1 < 6
    · have d1 := eqT sA
      have hson : tl_son 0 (p, g, s, ws, ga, ch) := ⟨tie, Or.inl sA⟩
      have e1 : tl_told L 0 (p, g, s, ws, ga, ch) = 1 := (if_neg hon).trans (if_pos hson)
      by_cases mm : (g 0 + g 1 + 1) % 2 = 1
      · have m1 := eqT mm
        have e2 : tl_step 0 (p, g, s, ws, ga, ch) = (fun _ => 0, up1 g 0 (g 0 + 1), s, ws, ga + 1, ch + 1) := by
          unfold tl_step
          rw [if_neg hon, if_pos hson]
          unfold tl_ch
          rw [if_pos mm]
        unfold Pk
        rw [e1, e2]
        generalize eo : fX9_play 0 L h = o
        simp only [m_tie, fX9_play_27, fX9_play_59, fX9_play_85, fX9_play_86, fX9_play_195, ↓am_b_some, ↓am_l_eq, am_up_ap, Nat.reduceEqDiff, ↓reduceIte, tn0, tn1, aw10, aw11, ic, id, z1, z0, t1, t2, t3, t4, t7, t8, A1, A2, A3, A4, A5, A6, A7, A8, A9, A10, M1, M2, nt, c1, c2, d1, m1] at eo
        subst eo
        refine ⟨_, rfl, ⟨?_, ?_, ?_, ?_, ?_, ?_, ?_, ?_, ?_⟩, ?_, ?_, ?_⟩
        · simp [am_up_ap, up1, t1, t2, t3, t4, t5, t6, t7, t8]
        · simp [am_up_ap, up1, t1, t2, t3, t4, t5, t6, t7, t8]
        · simp [am_up_ap, up1, t1, t2, t3, t4, t5, t6, t7, t8]
        · simp [am_up_ap, up1, t1, t2, t3, t4, t5, t6, t7, t8]
        · simp [am_up_ap, up1, t1, t2, t3, t4, t5, t6, t7, t8]
        · simp [am_up_ap, up1, t1, t2, t3, t4, t5, t6, t7, t8]
        · simp [am_up_ap, up1, t1, t2, t3, t4, t5, t6, t7, t8]
        · simp [am_up_ap, up1, t1, t2, t3, t4, t5, t6, t7, t8]
        · intro i hi
          simp only [am_up_ap, Nat.reduceEqDiff, ↓reduceIte]
          exact t9 i hi
        · (repeat' first | with_reducible exact sc.rf _ | with_reducible refine sc.upt ?_ _ _ ?_ | decide)
        · simp [am_up_ap, t5, t6, h39]
        · simp [am_up_ap]
      · have m1 := eqF mm
        have e2 : tl_step 0 (p, g, s, ws, ga, ch) = (fun _ => 0, up1 g 0 (g 0 + 1), s, ws, ga + 1, ch) := by
          unfold tl_step
          rw [if_neg hon, if_pos hson]
          unfold tl_ch
          rw [if_neg mm]
        unfold Pk
        rw [e1, e2]
        generalize eo : fX9_play 0 L h = o
        simp only [m_tie, fX9_play_27, fX9_play_59, fX9_play_85, fX9_play_86, fX9_play_195, ↓am_b_some, ↓am_l_eq, am_up_ap, Nat.reduceEqDiff, ↓reduceIte, tn0, tn1, aw10, aw11, ic, id, z1, z0, t1, t2, t3, t4, t7, t8, A1, A2, A3, A4, A5, A6, A7, A8, A9, A10, M1, M2, nt, c1, c2, d1, m1] at eo
        subst eo
        refine ⟨_, rfl, ⟨?_, ?_, ?_, ?_, ?_, ?_, ?_, ?_, ?_⟩, ?_, ?_, ?_⟩
        · simp [am_up_ap, up1, t1, t2, t3, t4, t5, t6, t7, t8]
        · simp [am_up_ap, up1, t1, t2, t3, t4, t5, t6, t7, t8]
        · simp [am_up_ap, up1, t1, t2, t3, t4, t5, t6, t7, t8]
        · simp [am_up_ap, up1, t1, t2, t3, t4, t5, t6, t7, t8]
        · simp [am_up_ap, up1, t1, t2, t3, t4, t5, t6, t7, t8]
        · simp [am_up_ap, up1, t1, t2, t3, t4, t5, t6, t7, t8]
        · simp [am_up_ap, up1, t1, t2, t3, t4, t5, t6, t7, t8]
        · simp [am_up_ap, up1, t1, t2, t3, t4, t5, t6, t7, t8]
        · intro i hi
          simp only [am_up_ap, Nat.reduceEqDiff, ↓reduceIte]
          exact t9 i hi
        · (repeat' first | with_reducible exact sc.rf _ | with_reducible refine sc.upt ?_ _ _ ?_ | decide)
        · simp [am_up_ap, t5, t6, h39]
        · simp [am_up_ap]
    by_cases sB : g 0 + 1 - g 1 < 2
    · have d1 := eqF sA
      have d2 := eqT sB
      have hson : tl_son 0 (p, g, s, ws, ga, ch) := ⟨tie, Or.inr sB⟩
      have e1 : tl_told L 0 (p, g, s, ws, ga, ch) = 1 := (if_neg hon).trans (if_pos hson)
      by_cases mm : (g 0 + g 1 + 1) % 2 = 1
      · have m1 := eqT mm
        have e2 : tl_step 0 (p, g, s, ws, ga, ch) = (fun _ => 0, up1 g 0 (g 0 + 1), s, ws, ga + 1, ch + 1) := by
          unfold tl_step
          rw [if_neg hon, if_pos hson]
          unfold tl_ch
          rw [if_pos mm]
        unfold Pk
        rw [e1, e2]
        generalize eo : fX9_play 0 L h = o
        simp only [m_tie, fX9_play_27, fX9_play_59, fX9_play_85, fX9_play_86, fX9_play_195, ↓am_b_some, ↓am_l_eq, am_up_ap, Nat.reduceEqDiff, ↓reduceIte, tn0, tn1, aw10, aw11, ic, id, z1, z0, t1, t2, t3, t4, t7, t8, A1, A2, A3, A4, A5, A6, A7, A8, A9, A10, M1, M2, nt, c1, c2, d1, d2, m1] at eo
        subst eo
        refine ⟨_, rfl, ⟨?_, ?_, ?_, ?_, ?_, ?_, ?_, ?_, ?_⟩, ?_, ?_, ?_⟩
        · simp [am_up_ap, up1, t1, t2, t3, t4, t5, t6, t7, t8]
        · simp [am_up_ap, up1, t1, t2, t3, t4, t5, t6, t7, t8]
        · simp [am_up_ap, up1, t1, t2, t3, t4, t5, t6, t7, t8]
        · simp [am_up_ap, up1, t1, t2, t3, t4, t5, t6, t7, t8]
        · simp [am_up_ap, up1, t1, t2, t3, t4, t5, t6, t7, t8]
        · simp [am_up_ap, up1, t1, t2, t3, t4, t5, t6, t7, t8]
        · simp [am_up_ap, up1, t1, t2, t3, t4, t5, t6, t7, t8]
        · simp [am_up_ap, up1, t1, t2, t3, t4, t5, t6, t7, t8]
        · intro i hi
          simp only [am_up_ap, Nat.reduceEqDiff, ↓reduceIte]
          exact t9 i hi
        · (repeat' first | with_reducible exact sc.rf _ | with_reducible refine sc.upt ?_ _ _ ?_ | decide)
        · simp [am_up_ap, t5, t6, h39]
        · simp [am_up_ap]
      · have m1 := eqF mm
        have e2 : tl_step 0 (p, g, s, ws, ga, ch) = (fun _ => 0, up1 g 0 (g 0 + 1), s, ws, ga + 1, ch) := by
          unfold tl_step
          rw [if_neg hon, if_pos hson]
          unfold tl_ch
          rw [if_neg mm]
        unfold Pk
        rw [e1, e2]
        generalize eo : fX9_play 0 L h = o
        simp only [m_tie, fX9_play_27, fX9_play_59, fX9_play_85, fX9_play_86, fX9_play_195, ↓am_b_some, ↓am_l_eq, am_up_ap, Nat.reduceEqDiff, ↓reduceIte, tn0, tn1, aw10, aw11, ic, id, z1, z0, t1, t2, t3, t4, t7, t8, A1, A2, A3, A4, A5, A6, A7, A8, A9, A10, M1, M2, nt, c1, c2, d1, d2, m1] at eo
        subst eo
        refine ⟨_, rfl, ⟨?_, ?_, ?_, ?_, ?_, ?_, ?_, ?_, ?_⟩, ?_, ?_, ?_⟩
        · simp [am_up_ap, up1, t1, t2, t3, t4, t5, t6, t7, t8]
        · simp [am_up_ap, up1, t1, t2, t3, t4, t5, t6, t7, t8]
        · simp [am_up_ap, up1, t1, t2, t3, t4, t5, t6, t7, t8]
        · simp [am_up_ap, up1, t1, t2, t3, t4, t5, t6, t7, t8]
        · simp [am_up_ap, up1, t1, t2, t3, t4, t5, t6, t7, t8]
        · simp [am_up_ap, up1, t1, t2, t3, t4, t5, t6, t7, t8]
        · simp [am_up_ap, up1, t1, t2, t3, t4, t5, t6, t7, t8]
        · simp [am_up_ap, up1, t1, t2, t3, t4, t5, t6, t7, t8]
        · intro i hi
          simp only [am_up_ap, Nat.reduceEqDiff, ↓reduceIte]
          exact t9 i hi
        · (repeat' first | with_reducible exact sc.rf _ | with_reducible refine sc.upt ?_ _ _ ?_ | decide)
        · simp [am_up_ap, t5, t6, h39]
        · simp [am_up_ap]
    have d1 := eqF sA
    have d2 := eqF sB
    have hson : ¬ tl_son 0 (p, g, s, ws, ga, ch) := fun z => z.2.elim sA sB
    have e1 : tl_told L 0 (p, g, s, ws, ga, ch) = (if s 0 + 1 = L then 3 else 2) := (if_neg hon).trans (if_neg hson)
    by_cases mm : (g 0 + g 1 + 1) % 2 = 1
    · have m1 := eqT mm
      have e2 : tl_step 0 (p, g, s, ws, ga, ch) = (fun _ => 0, fun _ => 0, up1 s 0 (s 0 + 1), up1 (up1 ws (2 * (s 0 + s 1)).toNat (up1 g 0 (g 0 + 1) 0)) (2 * (s 0 + s 1) + 1).toNat (up1 g 0 (g 0 + 1) 1), ga + 1, ch + 1) := by
        unfold tl_step
        rw [if_neg hon, if_neg hson]
        unfold tl_ch
        rw [if_pos mm]
      unfold Pk
      rw [e1, e2]
      generalize eo : fX9_play 0 L h = o
      simp only [m_tie, fX9_play_27, fX9_play_59, fX9_play_85, fX9_play_86, fX9_play_195, ↓am_b_some, ↓am_l_eq, am_up_ap, Nat.reduceEqDiff, ↓reduceIte, tn0, tn1, aw10, aw11, ic, id, z1, z0, t1, t2, t3, t4, t7, t8, A1, A2, A3, A4, A5, A6, A7, A8, A9, A10, M1, M2, nt, c1, c2, d1, d2, m1] at eo
      refine x_230_0 (s := s) (ws := ws) eo ?_ ?_ ?_ ?_ ?_ ?_ ?_ ?_ ?_ b5.1 b6.1 s0 s1 hL ?_ rfl ?_
      · simp [am_up_ap, up1, t1, t2, t3, t4, t5, t6, t7, t8]
      · simp [am_up_ap, up1, t1, t2, t3, t4, t5, t6, t7, t8]
      · simp [am_up_ap, up1, t1, t2, t3, t4, t5, t6, t7, t8]
      · simp [am_up_ap, up1, t1, t2, t3, t4, t5, t6, t7, t8]
      · simp [am_up_ap, up1, t1, t2, t3, t4, t5, t6, t7, t8]
      · simp [am_up_ap, up1, t1, t2, t3, t4, t5, t6, t7, t8]
      · simp [am_up_ap, up1, t1, t2, t3, t4, t5, t6, t7, t8]
      · simp [am_up_ap, up1, t1, t2, t3, t4, t5, t6, t7, t8]
      · intro i hi
        simp only [am_up_ap, Nat.reduceEqDiff, ↓reduceIte]
        exact t9 i hi
      · simp [am_up_ap, h39]
      · (repeat' first | with_reducible exact sc.rf _ | with_reducible refine sc.upt ?_ _ _ ?_ | decide)
    · have m1 := eqF mm
      have e2 : tl_step 0 (p, g, s, ws, ga, ch) = (fun _ => 0, fun _ => 0, up1 s 0 (s 0 + 1), up1 (up1 ws (2 * (s 0 + s 1)).toNat (up1 g 0 (g 0 + 1) 0)) (2 * (s 0 + s 1) + 1).toNat (up1 g 0 (g 0 + 1) 1), ga + 1, ch) := by
        unfold tl_step
        rw [if_neg hon, if_neg hson]
        unfold tl_ch
        rw [if_neg mm]
      unfold Pk
      rw [e1, e2]
      generalize eo : fX9_play 0 L h = o
      simp only [m_tie, fX9_play_27, fX9_play_59, fX9_play_85, fX9_play_86, fX9_play_195, ↓am_b_some, ↓am_l_eq, am_up_ap, Nat.reduceEqDiff, ↓reduceIte, tn0, tn1, aw10, aw11, ic, id, z1, z0, t1, t2, t3, t4, t7, t8, A1, A2, A3, A4, A5, A6, A7, A8, A9, A10, M1, M2, nt, c1, c2, d1, d2, m1] at eo
      refine x_230_0 (s := s) (ws := ws) eo ?_ ?_ ?_ ?_ ?_ ?_ ?_ ?_ ?_ b5.1 b6.1 s0 s1 hL ?_ rfl ?_
      · simp [am_up_ap, up1, t1, t2, t3, t4, t5, t6, t7, t8]
      · simp [am_up_ap, up1, t1, t2, t3, t4, t5, t6, t7, t8]
      · simp [am_up_ap, up1, t1, t2, t3, t4, t5, t6, t7, t8]
      · simp [am_up_ap, up1, t1, t2, t3, t4, t5, t6, t7, t8]
      · simp [am_up_ap, up1, t1, t2, t3, t4, t5, t6, t7, t8]
      · simp [am_up_ap, up1, t1, t2, t3, t4, t5, t6, t7, t8]
      · simp [am_up_ap, up1, t1, t2, t3, t4, t5, t6, t7, t8]
      · simp [am_up_ap, up1, t1, t2, t3, t4, t5, t6, t7, t8]
      · intro i hi
        simp only [am_up_ap, Nat.reduceEqDiff, ↓reduceIte]
        exact t9 i hi
      · simp [am_up_ap, h39]
      · (repeat' first | with_reducible exact sc.rf _ | with_reducible refine sc.upt ?_ _ _ ?_ | decide)
theorem x_187_1 {L G0 G1 GA CH told : Int} {s ws : Nat → Int} {H h0 : am_M} {o : Option (Int × am_M)} (eo : fX7_take_187 1 H = o) (a1 : H 34 0 = 0) (a2 : H 34 1 = 0) (a3 : H 35 0 = G0) (a4 : H 35 1 = G1) (a5 : H 36 0 = s 0) (a6 : H 36 1 = s 1) (a7 : H 38 0 = GA) (a8 : H 40 0 = CH) (a9 : ∀ i : Nat, (i : Int) < 2 * (s 0 + s 1) → H 37 i = ws i) (b0 : 0 ≤ s 0) (b1 : 0 ≤ s 1) (c0 : s 0 < L) (c1 : s 1 < L) (hL : L ≤ 3) (h39 : H 39 0 = L) (et : told = if s 1 + 1 = L then 3 else 2) (hs : sc h0 H) (h39' : h0 39 0 = L) : ∃ h', o = some (told, h') ∧ TL h' (fun _ => 0, fun _ => 0, up1 s 1 (s 1 + 1), up1 (up1 ws (2 * (s 0 + s 1)).toNat G0) (2 * (s 0 + s 1) + 1).toNat G1, GA, CH) ∧ sc h0 h' ∧ h' 39 0 = h0 39 0 := by
  obtain ⟨k, hk⟩ : ∃ k : Nat, s 0 + s 1 = k := ⟨(s 0 + s 1).toNat, by omega⟩
  have e : am_w (H 36 0 + H 36 1) = k := by rw [a5, a6, hk, pw (by omega) (by omega)]
  have w1 : am_w (H 36 1 + 1) = s 1 + 1 := by rw [pw (by omega) (by omega)]; omega
  unfold fX7_take_187 at eo
  rw [x_keepSet H k (by omega) e, am_b_some, if_pos (by decide), if_pos (by decide), am_l_eq, if_pos (by decide)] at eo
  simp only [am_up_ap, Nat.reduceEqDiff, ↓reduceIte, tn1, w1, h39, a3, a4] at eo
  have fin : o = some (told, am_up (am_up (am_up (am_up (am_up H 37 (2 * k) G0) 37 (2 * k + 1) G1) 35 0 0) 35 1 0) 36 1 (s 1 + 1)) := by
    rw [← eo, et]
    (repeat' split) <;> first | rfl | omega
  refine ⟨_, fin, ⟨?_, ?_, ?_, ?_, ?_, ?_, ?_, ?_, ?_⟩, ?_, ?_⟩
  · simp [am_up_ap, a1]
  · simp [am_up_ap, a2]
  · simp [am_up_ap]
  · simp [am_up_ap]
  · simp [am_up_ap, up1, a5]
  · simp [am_up_ap, up1, a6]
  · simp [am_up_ap, a7]
  · simp [am_up_ap, a8]
  · intro i hi
    rw [hk]
    rw [hk] at a9
    refine ws_up a9 (fun j => by simp [am_up_ap]) i ?_
    simp [up1] at hi
    omega
  · exact (((((hs.upt _ _ (by decide)).upt _ _ (by decide)).upt _ _ (by decide)).upt _ _ (by decide)).upt _ _ (by decide))
  · simp [am_up_ap, h39, h39']
theorem x_230_1 {L G0 G1 GA CH told : Int} {s ws : Nat → Int} {H h0 : am_M} {o : Option (Unit × am_M)} (eo : fX9_play_230 1 L H = o) (a1 : H 34 0 = 0) (a2 : H 34 1 = 0) (a3 : H 35 0 = G0) (a4 : H 35 1 = G1) (a5 : H 36 0 = s 0) (a6 : H 36 1 = s 1) (a7 : H 38 0 = GA) (a8 : H 40 0 = CH) (a9 : ∀ i : Nat, (i : Int) < 2 * (s 0 + s 1) → H 37 i = ws i) (b0 : 0 ≤ s 0) (b1 : 0 ≤ s 1) (c0 : s 0 < L) (c1 : s 1 < L) (hL : L ≤ 3) (h39 : H 39 0 = s 0 + s 1) (et : told = if s 1 + 1 = L then 3 else 2) (hs : sc h0 H) : ∃ h', o = some ((), h') ∧ TL h' (fun _ => 0, fun _ => 0, up1 s 1 (s 1 + 1), up1 (up1 ws (2 * (s 0 + s 1)).toNat G0) (2 * (s 0 + s 1) + 1).toNat G1, GA, CH) ∧ sc h0 h' ∧ h' 39 0 = up1 s 1 (s 1 + 1) 0 + up1 s 1 (s 1 + 1) 1 ∧ h' 51 0 = told := by
  obtain ⟨k, hk⟩ : ∃ k : Nat, s 0 + s 1 = k := ⟨(s 0 + s 1).toNat, by omega⟩
  have hk5 : k < 5 := by clear et; omega
  have bw : s 1 < 1000 := by clear et; omega
  have w1 : am_w (H 36 1 + 1) = s 1 + 1 := by
    rw [a6]
    exact aw_s _ b1 bw
  have ef : k + 1 = (up1 s 1 (s 1 + 1) 0 + up1 s 1 (s 1 + 1) 1) := by simp [up1]; omega
  obtain ⟨w2, w3, w4, i1, i2⟩ := aw_k k hk5
  unfold fX9_play_230 at eo
  rw [hk] at h39
  simp only [↓am_l_eq, am_up_ap, Nat.reduceEqDiff, ↓reduceIte, h39, w2, w3, w4, i1, i2, ic0, ic1, tn1, w1, a3, a4, Int.toNat_natCast, ite_true] at eo
  by_cases cL : s 1 + 1 = L
  · rw [if_pos cL] at eo et
    subst eo
    refine ⟨_, rfl, ⟨?_, ?_, ?_, ?_, ?_, ?_, ?_, ?_, ?_⟩, ?_, ?_, ?_⟩
    · simp [am_up_ap, a1]
    · simp [am_up_ap, a2]
    · simp [am_up_ap]
    · simp [am_up_ap]
    · simp [am_up_ap, up1, a5]
    · simp [am_up_ap, up1, a6]
    · simp [am_up_ap, a7]
    · simp [am_up_ap, a8]
    · intro i hi
      rw [hk]
      rw [hk] at a9
      refine ws_up a9 (fun j => by simp [am_up_ap]) i ?_
      clear w1 w2 w3 w4 i1 i2 et
      simp [up1] at hi
      omega
    · (repeat' first | with_reducible exact hs | with_reducible refine sc.upt ?_ _ _ ?_ | decide)
    · rw [← ef]; simp [am_up_ap]
    · simp [am_up_ap, et]
  · rw [if_neg cL] at eo et
    subst eo
    refine ⟨_, rfl, ⟨?_, ?_, ?_, ?_, ?_, ?_, ?_, ?_, ?_⟩, ?_, ?_, ?_⟩
    · simp [am_up_ap, a1]
    · simp [am_up_ap, a2]
    · simp [am_up_ap]
    · simp [am_up_ap]
    · simp [am_up_ap, up1, a5]
    · simp [am_up_ap, up1, a6]
    · simp [am_up_ap, a7]
    · simp [am_up_ap, a8]
    · intro i hi
      rw [hk]
      rw [hk] at a9
      refine ws_up a9 (fun j => by simp [am_up_ap]) i ?_
      clear w1 w2 w3 w4 i1 i2 et
      simp [up1] at hi
      omega
    · (repeat' first | with_reducible exact hs | with_reducible refine sc.upt ?_ _ _ ?_ | decide)
    · rw [← ef]; simp [am_up_ap]
    · simp [am_up_ap, et]
theorem x_take_1 (L k : Int) (t : tl_T) (h : am_M) (hT : TL h t) (hb : tb k t) (hk : k ≤ 300) (hL : L ≤ 3) (h39 : h 39 0 = L) (s0 : t.2.2.1 0 < L) (s1 : t.2.2.1 1 < L) : Tk L 1 t h (fX7_take 1 h) := by
  obtain ⟨p, g, s, ws, ga, ch⟩ := t
  obtain ⟨t1, t2, t3, t4, t5, t6, t7, t8, t9⟩ := hT
  unfold tb at hb
  obtain ⟨b1, b2, b3, b4, b5, b6, b7, b8⟩ := hb
  dsimp only at t1 t2 t3 t4 t5 t6 t7 t8 t9 b1 b2 b3 b4 b5 b6 b7 b8 s0 s1 h39
  obtain ⟨A1, A2, A3, A4⟩ := aw_p (p 1) (p 0) (le3 b2 hk) (le3 b1 hk)
  obtain ⟨A5, A6, A7, A8⟩ := aw_p (g 1) (g 0) (le3 b4 hk) (le3 b3 hk)
  have A9 := aw_q ga (le3 b7 hk)
  have A10 := aw_q ch (le3 b8 hk)
  have M1 := (im_p (p 0) (p 1) (le3 b1 hk) (le3 b2 hk)).1
  have M2 := (im_p (g 0) (g 1) (le3 b3 hk) (le3 b4 hk)).2
  have ic : ((0 : Int) ≤ 1 ∧ (1 : Int) < 2) = True := ic1
  have id : ((0 : Int) ≤ 0 ∧ (0 : Int) < 2) = True := ic0
  have z1 : ((1 : Int) = 0) = False := by decide
  have z0 : ((0 : Int) = 0) = True := by decide
  by_cases tie : g 0 = 6 ∧ g 1 = 6
  · have nt := eqT tie
    by_cases cA : p 1 + 1 < 7
    · have c1 := eqT cA
      have hon : tl_on 1 (p, g, s, ws, ga, ch) := by
        show p 1 + 1 < (if g 0 = 6 ∧ g 1 = 6 then 7 else 4) ∨ p 1 + 1 - p 0 < 2
        rw [if_pos tie]; exact Or.inl cA
      have e1 : tl_told L 1 (p, g, s, ws, ga, ch) = 0 := if_pos hon
      by_cases mm : (p 0 + p 1 + 1) % 6 = 0
      · have m1 := eqT mm
        have e2 : tl_step 1 (p, g, s, ws, ga, ch) = (up1 p 1 (p 1 + 1), g, s, ws, ga, ch + 1) := by
          unfold tl_step
          rw [if_pos hon]
          show (up1 p 1 (p 1 + 1), g, s, ws, ga, if (g 0 = 6 ∧ g 1 = 6) ∧ (p 0 + p 1 + 1) % 6 = 0 then ch + 1 else ch) = _
          rw [if_pos ⟨tie, mm⟩]
        unfold Tk
        rw [e1, e2]
        generalize eo : fX7_take 1 h = o
        simp only [fX7_take, fX7_take_31, fX7_take_53, fX7_take_151, x_isTie, ↓am_b_some, ↓am_l_eq, am_up_ap, Nat.reduceEqDiff, ↓reduceIte, tn0, tn1, aw10, aw11, ic, id, z1, z0, t1, t2, t3, t4, t7, t8, A1, A2, A3, A4, A5, A6, A7, A8, A9, A10, M1, M2, nt, c1, m1] at eo
        subst eo
        refine ⟨_, rfl, ⟨?_, ?_, ?_, ?_, ?_, ?_, ?_, ?_, ?_⟩, ?_, ?_⟩
        · simp [am_up_ap, up1, t1, t2, t3, t4, t5, t6, t7, t8]
        · simp [am_up_ap, up1, t1, t2, t3, t4, t5, t6, t7, t8]
        · simp [am_up_ap, up1, t1, t2, t3, t4, t5, t6, t7, t8]
        · simp [am_up_ap, up1, t1, t2, t3, t4, t5, t6, t7, t8]
        · simp [am_up_ap, up1, t1, t2, t3, t4, t5, t6, t7, t8]
        · simp [am_up_ap, up1, t1, t2, t3, t4, t5, t6, t7, t8]
        · simp [am_up_ap, up1, t1, t2, t3, t4, t5, t6, t7, t8]
        · simp [am_up_ap, up1, t1, t2, t3, t4, t5, t6, t7, t8]
        · intro i hi
          simp only [am_up_ap, Nat.reduceEqDiff, ↓reduceIte]
          exact t9 i hi
        · (repeat' first | with_reducible exact sc.rf _ | with_reducible refine sc.upt ?_ _ _ ?_ | decide)
        · simp [am_up_ap]
      · have m1 := eqF mm
        have e2 : tl_step 1 (p, g, s, ws, ga, ch) = (up1 p 1 (p 1 + 1), g, s, ws, ga, ch) := by
          unfold tl_step
          rw [if_pos hon]
          show (up1 p 1 (p 1 + 1), g, s, ws, ga, if (g 0 = 6 ∧ g 1 = 6) ∧ (p 0 + p 1 + 1) % 6 = 0 then ch + 1 else ch) = _
          rw [if_neg (fun z => mm z.2)]
        unfold Tk
        rw [e1, e2]
        generalize eo : fX7_take 1 h = o
        simp only [fX7_take, fX7_take_31, fX7_take_53, fX7_take_151, x_isTie, ↓am_b_some, ↓am_l_eq, am_up_ap, Nat.reduceEqDiff, ↓reduceIte, tn0, tn1, aw10, aw11, ic, id, z1, z0, t1, t2, t3, t4, t7, t8, A1, A2, A3, A4, A5, A6, A7, A8, A9, A10, M1, M2, nt, c1, m1] at eo
        subst eo
        refine ⟨_, rfl, ⟨?_, ?_, ?_, ?_, ?_, ?_, ?_, ?_, ?_⟩, ?_, ?_⟩
        · simp [am_up_ap, up1, t1, t2, t3, t4, t5, t6, t7, t8]
        · simp [am_up_ap, up1, t1, t2, t3, t4, t5, t6, t7, t8]
        · simp [am_up_ap, up1, t1, t2, t3, t4, t5, t6, t7, t8]
        · simp [am_up_ap, up1, t1, t2, t3, t4, t5, t6, t7, t8]
        · simp [am_up_ap, up1, t1, t2, t3, t4, t5, t6, t7, t8]
        · simp [am_up_ap, up1, t1, t2, t3, t4, t5, t6, t7, t8]
        · simp [am_up_ap, up1, t1, t2, t3, t4, t5, t6, t7, t8]
        · simp [am_up_ap, up1, t1, t2, t3, t4, t5, t6, t7, t8]
        · intro i hi
          simp only [am_up_ap, Nat.reduceEqDiff, ↓reduceIte]
          exact t9 i hi
        · (repeat' first | with_reducible exact sc.rf _ | with_reducible refine sc.upt ?_ _ _ ?_ | decide)
        · simp [am_up_ap]
    by_cases cB : p 1 + 1 - p 0 < 2
    · have c1 := eqF cA
      have c2 := eqT cB
      have hon : tl_on 1 (p, g, s, ws, ga, ch) := by
        show p 1 + 1 < (if g 0 = 6 ∧ g 1 = 6 then 7 else 4) ∨ p 1 + 1 - p 0 < 2
        rw [if_pos tie]; exact Or.inr cB
      have e1 : tl_told L 1 (p, g, s, ws, ga, ch) = 0 := if_pos hon
      by_cases mm : (p 0 + p 1 + 1) % 6 = 0
      · have m1 := eqT mm
        have e2 : tl_step 1 (p, g, s, ws, ga, ch) = (up1 p 1 (p 1 + 1), g, s, ws, ga, ch + 1) := by
          unfold tl_step
          rw [if_pos hon]
          show (up1 p 1 (p 1 + 1), g, s, ws, ga, if (g 0 = 6 ∧ g 1 = 6) ∧ (p 0 + p 1 + 1) % 6 = 0 then ch + 1 else ch) = _
          rw [if_pos ⟨tie, mm⟩]
        unfold Tk
        rw [e1, e2]
        generalize eo : fX7_take 1 h = o
        simp only [fX7_take, fX7_take_31, fX7_take_53, fX7_take_151, x_isTie, ↓am_b_some, ↓am_l_eq, am_up_ap, Nat.reduceEqDiff, ↓reduceIte, tn0, tn1, aw10, aw11, ic, id, z1, z0, t1, t2, t3, t4, t7, t8, A1, A2, A3, A4, A5, A6, A7, A8, A9, A10, M1, M2, nt, c1, c2, m1] at eo
        subst eo
        refine ⟨_, rfl, ⟨?_, ?_, ?_, ?_, ?_, ?_, ?_, ?_, ?_⟩, ?_, ?_⟩
        · simp [am_up_ap, up1, t1, t2, t3, t4, t5, t6, t7, t8]
        · simp [am_up_ap, up1, t1, t2, t3, t4, t5, t6, t7, t8]
        · simp [am_up_ap, up1, t1, t2, t3, t4, t5, t6, t7, t8]
        · simp [am_up_ap, up1, t1, t2, t3, t4, t5, t6, t7, t8]
        · simp [am_up_ap, up1, t1, t2, t3, t4, t5, t6, t7, t8]
        · simp [am_up_ap, up1, t1, t2, t3, t4, t5, t6, t7, t8]
        · simp [am_up_ap, up1, t1, t2, t3, t4, t5, t6, t7, t8]
        · simp [am_up_ap, up1, t1, t2, t3, t4, t5, t6, t7, t8]
        · intro i hi
          simp only [am_up_ap, Nat.reduceEqDiff, ↓reduceIte]
          exact t9 i hi
        · (repeat' first | with_reducible exact sc.rf _ | with_reducible refine sc.upt ?_ _ _ ?_ | decide)
        · simp [am_up_ap]
      · have m1 := eqF mm
        have e2 : tl_step 1 (p, g, s, ws, ga, ch) = (up1 p 1 (p 1 + 1), g, s, ws, ga, ch) := by
          unfold tl_step
          rw [if_pos hon]
          show (up1 p 1 (p 1 + 1), g, s, ws, ga, if (g 0 = 6 ∧ g 1 = 6) ∧ (p 0 + p 1 + 1) % 6 = 0 then ch + 1 else ch) = _
          rw [if_neg (fun z => mm z.2)]
        unfold Tk
        rw [e1, e2]
        generalize eo : fX7_take 1 h = o
        simp only [fX7_take, fX7_take_31, fX7_take_53, fX7_take_151, x_isTie, ↓am_b_some, ↓am_l_eq, am_up_ap, Nat.reduceEqDiff, ↓reduceIte, tn0, tn1, aw10, aw11, ic, id, z1, z0, t1, t2, t3, t4, t7, t8, A1, A2, A3, A4, A5, A6, A7, A8, A9, A10, M1, M2, nt, c1, c2, m1] at eo
        subst eo
        refine ⟨_, rfl, ⟨?_, ?_, ?_, ?_, ?_, ?_, ?_, ?_, ?_⟩, ?_, ?_⟩
        · simp [am_up_ap, up1, t1, t2, t3, t4, t5, t6, t7, t8]
        · simp [am_up_ap, up1, t1, t2, t3, t4, t5, t6, t7, t8]
        · simp [am_up_ap, up1, t1, t2, t3, t4, t5, t6, t7, t8]
        · simp [am_up_ap, up1, t1, t2, t3, t4, t5, t6, t7, t8]
        · simp [am_up_ap, up1, t1, t2, t3, t4, t5, t6, t7, t8]
        · simp [am_up_ap, up1, t1, t2, t3, t4, t5, t6, t7, t8]
        · simp [am_up_ap, up1, t1, t2, t3, t4, t5, t6, t7, t8]
        · simp [am_up_ap, up1, t1, t2, t3, t4, t5, t6, t7, t8]
        · intro i hi
          simp only [am_up_ap, Nat.reduceEqDiff, ↓reduceIte]
          exact t9 i hi
        · (repeat' first | with_reducible exact sc.rf _ | with_reducible refine sc.upt ?_ _ _ ?_ | decide)
        · simp [am_up_ap]
    have c1 := eqF cA
    have c2 := eqF cB
    have hon : ¬ tl_on 1 (p, g, s, ws, ga, ch) := by
      show ¬ (p 1 + 1 < (if g 0 = 6 ∧ g 1 = 6 then 7 else 4) ∨ p 1 + 1 - p 0 < 2)
      rw [if_pos tie]; exact fun z => z.elim cA cB
    have hson : ¬ tl_son 1 (p, g, s, ws, ga, ch) := fun z => z.1 tie
    have e1 : tl_told L 1 (p, g, s, ws, ga, ch) = (if s 1 + 1 = L then 3 else 2) := (if_neg hon).trans (if_neg hson)
    by_cases mm : (g 0 + g 1 + 1) % 2 = 1
    · have m1 := eqT mm
      have e2 : tl_step 1 (p, g, s, ws, ga, ch) = (fun _ => 0, fun _ => 0, up1 s 1 (s 1 + 1), up1 (up1 ws (2 * (s 0 + s 1)).toNat (up1 g 1 (g 1 + 1) 0)) (2 * (s 0 + s 1) + 1).toNat (up1 g 1 (g 1 + 1) 1), ga + 1, ch + 1) := by
        unfold tl_step
        rw [if_neg hon, if_neg hson]
        unfold tl_ch
        rw [if_pos mm]
      unfold Tk
      rw [e1, e2]
      generalize eo : fX7_take 1 h = o
      simp only [fX7_take, fX7_take_31, fX7_take_53, fX7_take_151, x_isTie, ↓am_b_some, ↓am_l_eq, am_up_ap, Nat.reduceEqDiff, ↓reduceIte, tn0, tn1, aw10, aw11, ic, id, z1, z0, t1, t2, t3, t4, t7, t8, A1, A2, A3, A4, A5, A6, A7, A8, A9, A10, M1, M2, nt, c1, c2, m1] at eo
      refine x_187_1 (s := s) (ws := ws) eo ?_ ?_ ?_ ?_ ?_ ?_ ?_ ?_ ?_ b5.1 b6.1 s0 s1 hL ?_ rfl ?_ h39
      · simp [am_up_ap, up1, t1, t2, t3, t4, t5, t6, t7, t8]
      · simp [am_up_ap, up1, t1, t2, t3, t4, t5, t6, t7, t8]
      · simp [am_up_ap, up1, t1, t2, t3, t4, t5, t6, t7, t8]
      · simp [am_up_ap, up1, t1, t2, t3, t4, t5, t6, t7, t8]
      · simp [am_up_ap, up1, t1, t2, t3, t4, t5, t6, t7, t8]
      · simp [am_up_ap, up1, t1, t2, t3, t4, t5, t6, t7, t8]
      · simp [am_up_ap, up1, t1, t2, t3, t4, t5, t6, t7, t8]
      · simp [am_up_ap, up1, t1, t2, t3, t4, t5, t6, t7, t8]
      · intro i hi
        simp only [am_up_ap, Nat.reduceEqDiff, ↓reduceIte]
        exact t9 i hi
      · simp [am_up_ap, h39]
      · (repeat' first | with_reducible exact sc.rf _ | with_reducible refine sc.upt ?_ _ _ ?_ | decide)
    · have m1 := eqF mm
      have e2 : tl_step 1 (p, g, s, ws, ga, ch) = (fun _ => 0, fun _ => 0, up1 s 1 (s 1 + 1), up1 (up1 ws (2 * (s 0 + s 1)).toNat (up1 g 1 (g 1 + 1) 0)) (2 * (s 0 + s 1) + 1).toNat (up1 g 1 (g 1 + 1) 1), ga + 1, ch) := by
        unfold tl_step
        rw [if_neg hon, if_neg hson]
        unfold tl_ch
        rw [if_neg mm]
      unfold Tk
      rw [e1, e2]
      generalize eo : fX7_take 1 h = o
      simp only [fX7_take, fX7_take_31, fX7_take_53, fX7_take_151, x_isTie, ↓am_b_some, ↓am_l_eq, am_up_ap, Nat.reduceEqDiff, ↓reduceIte, tn0, tn1, aw10, aw11, ic, id, z1, z0, t1, t2, t3, t4, t7, t8, A1, A2, A3, A4, A5, A6, A7, A8, A9, A10, M1, M2, nt, c1, c2, m1] at eo
      refine x_187_1 (s := s) (ws := ws) eo ?_ ?_ ?_ ?_ ?_ ?_ ?_ ?_ ?_ b5.1 b6.1 s0 s1 hL ?_ rfl ?_ h39
      · simp [am_up_ap, up1, t1, t2, t3, t4, t5, t6, t7, t8]
      · simp [am_up_ap, up1, t1, t2, t3, t4, t5, t6, t7, t8]
      · simp [am_up_ap, up1, t1, t2, t3, t4, t5, t6, t7, t8]
      · simp [am_up_ap, up1, t1, t2, t3, t4, t5, t6, t7, t8]
      · simp [am_up_ap, up1, t1, t2, t3, t4, t5, t6, t7, t8]
      · simp [am_up_ap, up1, t1, t2, t3, t4, t5, t6, t7, t8]
      · simp [am_up_ap, up1, t1, t2, t3, t4, t5, t6, t7, t8]
      · simp [am_up_ap, up1, t1, t2, t3, t4, t5, t6, t7, t8]
      · intro i hi
        simp only [am_up_ap, Nat.reduceEqDiff, ↓reduceIte]
        exact t9 i hi
      · simp [am_up_ap, h39]
      · (repeat' first | with_reducible exact sc.rf _ | with_reducible refine sc.upt ?_ _ _ ?_ | decide)
  · have nt := eqF tie
    by_cases cA : p 1 + 1 < 4
    · have c1 := eqT cA
      have hon : tl_on 1 (p, g, s, ws, ga, ch) := by
        show p 1 + 1 < (if g 0 = 6 ∧ g 1 = 6 then 7 else 4) ∨ p 1 + 1 - p 0 < 2
        rw [if_neg tie]; exact Or.inl cA
      have e1 : tl_told L 1 (p, g, s, ws, ga, ch) = 0 := if_pos hon
      have e2 : tl_step 1 (p, g, s, ws, ga, ch) = (up1 p 1 (p 1 + 1), g, s, ws, ga, ch) := by
        unfold tl_step
        rw [if_pos hon]
        show (up1 p 1 (p 1 + 1), g, s, ws, ga, if (g 0 = 6 ∧ g 1 = 6) ∧ (p 0 + p 1 + 1) % 6 = 0 then ch + 1 else ch) = _
        rw [if_neg (fun z => tie z.1)]
      unfold Tk
      rw [e1, e2]
      generalize eo : fX7_take 1 h = o
      simp only [fX7_take, fX7_take_31, fX7_take_53, fX7_take_151, x_isTie, ↓am_b_some, ↓am_l_eq, am_up_ap, Nat.reduceEqDiff, ↓reduceIte, tn0, tn1, aw10, aw11, ic, id, z1, z0, t1, t2, t3, t4, t7, t8, A1, A2, A3, A4, A5, A6, A7, A8, A9, A10, M1, M2, nt, c1] at eo
      subst eo
      refine ⟨_, rfl, ⟨?_, ?_, ?_, ?_, ?_, ?_, ?_, ?_, ?_⟩, ?_, ?_⟩
      · simp [am_up_ap, up1, t1, t2, t3, t4, t5, t6, t7, t8]
      · simp [am_up_ap, up1, t1, t2, t3, t4, t5, t6, t7, t8]
      · simp [am_up_ap, up1, t1, t2, t3, t4, t5, t6, t7, t8]
      · simp [am_up_ap, up1, t1, t2, t3, t4, t5, t6, t7, t8]
      · simp [am_up_ap, up1, t1, t2, t3, t4, t5, t6, t7, t8]
      · simp [am_up_ap, up1, t1, t2, t3, t4, t5, t6, t7, t8]
      · simp [am_up_ap, up1, t1, t2, t3, t4, t5, t6, t7, t8]
      · simp [am_up_ap, up1, t1, t2, t3, t4, t5, t6, t7, t8]
      · intro i hi
        simp only [am_up_ap, Nat.reduceEqDiff, ↓reduceIte]
        exact t9 i hi
      · (repeat' first | with_reducible exact sc.rf _ | with_reducible refine sc.upt ?_ _ _ ?_ | decide)
      · simp [am_up_ap]
    by_cases cB : p 1 + 1 - p 0 < 2
    · have c1 := eqF cA
      have c2 := eqT cB
      have hon : tl_on 1 (p, g, s, ws, ga, ch) := by
        show p 1 + 1 < (if g 0 = 6 ∧ g 1 = 6 then 7 else 4) ∨ p 1 + 1 - p 0 < 2
        rw [if_neg tie]; exact Or.inr cB
      have e1 : tl_told L 1 (p, g, s, ws, ga, ch) = 0 := if_pos hon
      have e2 : tl_step 1 (p, g, s, ws, ga, ch) = (up1 p 1 (p 1 + 1), g, s, ws, ga, ch) := by
        unfold tl_step
        rw [if_pos hon]
        show (up1 p 1 (p 1 + 1), g, s, ws, ga, if (g 0 = 6 ∧ g 1 = 6) ∧ (p 0 + p 1 + 1) % 6 = 0 then ch + 1 else ch) = _
        rw [if_neg (fun z => tie z.1)]
      unfold Tk
      rw [e1, e2]
      generalize eo : fX7_take 1 h = o
      simp only [fX7_take, fX7_take_31, fX7_take_53, fX7_take_151, x_isTie, ↓am_b_some, ↓am_l_eq, am_up_ap, Nat.reduceEqDiff, ↓reduceIte, tn0, tn1, aw10, aw11, ic, id, z1, z0, t1, t2, t3, t4, t7, t8, A1, A2, A3, A4, A5, A6, A7, A8, A9, A10, M1, M2, nt, c1, c2] at eo
      subst eo
      refine ⟨_, rfl, ⟨?_, ?_, ?_, ?_, ?_, ?_, ?_, ?_, ?_⟩, ?_, ?_⟩
      · simp [am_up_ap, up1, t1, t2, t3, t4, t5, t6, t7, t8]
      · simp [am_up_ap, up1, t1, t2, t3, t4, t5, t6, t7, t8]
      · simp [am_up_ap, up1, t1, t2, t3, t4, t5, t6, t7, t8]
      · simp [am_up_ap, up1, t1, t2, t3, t4, t5, t6, t7, t8]
      · simp [am_up_ap, up1, t1, t2, t3, t4, t5, t6, t7, t8]
      · simp [am_up_ap, up1, t1, t2, t3, t4, t5, t6, t7, t8]
      · simp [am_up_ap, up1, t1, t2, t3, t4, t5, t6, t7, t8]
      · simp [am_up_ap, up1, t1, t2, t3, t4, t5, t6, t7, t8]
      · intro i hi
        simp only [am_up_ap, Nat.reduceEqDiff, ↓reduceIte]
        exact t9 i hi
      · (repeat' first | with_reducible exact sc.rf _ | with_reducible refine sc.upt ?_ _ _ ?_ | decide)
      · simp [am_up_ap]
    have c1 := eqF cA
    have c2 := eqF cB
    have hon : ¬ tl_on 1 (p, g, s, ws, ga, ch) := by
      show ¬ (p 1 + 1 < (if g 0 = 6 ∧ g 1 = 6 then 7 else 4) ∨ p 1 + 1 - p 0 < 2)
      rw [if_neg tie]; exact fun z => z.elim cA cB
    by_cases sA : g 1 + 1 < 6
    · have d1 := eqT sA
      have hson : tl_son 1 (p, g, s, ws, ga, ch) := ⟨tie, Or.inl sA⟩
      have e1 : tl_told L 1 (p, g, s, ws, ga, ch) = 1 := (if_neg hon).trans (if_pos hson)
      by_cases mm : (g 0 + g 1 + 1) % 2 = 1
      · have m1 := eqT mm
        have e2 : tl_step 1 (p, g, s, ws, ga, ch) = (fun _ => 0, up1 g 1 (g 1 + 1), s, ws, ga + 1, ch + 1) := by
          unfold tl_step
          rw [if_neg hon, if_pos hson]
          unfold tl_ch
          rw [if_pos mm]
        unfold Tk
        rw [e1, e2]
        generalize eo : fX7_take 1 h = o
        simp only [fX7_take, fX7_take_31, fX7_take_53, fX7_take_151, x_isTie, ↓am_b_some, ↓am_l_eq, am_up_ap, Nat.reduceEqDiff, ↓reduceIte, tn0, tn1, aw10, aw11, ic, id, z1, z0, t1, t2, t3, t4, t7, t8, A1, A2, A3, A4, A5, A6, A7, A8, A9, A10, M1, M2, nt, c1, c2, d1, m1] at eo
        subst eo
        refine ⟨_, rfl, ⟨?_, ?_, ?_, ?_, ?_, ?_, ?_, ?_, ?_⟩, ?_, ?_⟩
        · simp [am_up_ap, up1, t1, t2, t3, t4, t5, t6, t7, t8]
        · simp [am_up_ap, up1, t1, t2, t3, t4, t5, t6, t7, t8]
        · simp [am_up_ap, up1, t1, t2, t3, t4, t5, t6, t7, t8]
        · simp [am_up_ap, up1, t1, t2, t3, t4, t5, t6, t7, t8]
        · simp [am_up_ap, up1, t1, t2, t3, t4, t5, t6, t7, t8]
        · simp [am_up_ap, up1, t1, t2, t3, t4, t5, t6, t7, t8]
        · simp [am_up_ap, up1, t1, t2, t3, t4, t5, t6, t7, t8]
        · simp [am_up_ap, up1, t1, t2, t3, t4, t5, t6, t7, t8]
        · intro i hi
          simp only [am_up_ap, Nat.reduceEqDiff, ↓reduceIte]
          exact t9 i hi
        · (repeat' first | with_reducible exact sc.rf _ | with_reducible refine sc.upt ?_ _ _ ?_ | decide)
        · simp [am_up_ap]
      · have m1 := eqF mm
        have e2 : tl_step 1 (p, g, s, ws, ga, ch) = (fun _ => 0, up1 g 1 (g 1 + 1), s, ws, ga + 1, ch) := by
          unfold tl_step
          rw [if_neg hon, if_pos hson]
          unfold tl_ch
          rw [if_neg mm]
        unfold Tk
        rw [e1, e2]
        generalize eo : fX7_take 1 h = o
        simp only [fX7_take, fX7_take_31, fX7_take_53, fX7_take_151, x_isTie, ↓am_b_some, ↓am_l_eq, am_up_ap, Nat.reduceEqDiff, ↓reduceIte, tn0, tn1, aw10, aw11, ic, id, z1, z0, t1, t2, t3, t4, t7, t8, A1, A2, A3, A4, A5, A6, A7, A8, A9, A10, M1, M2, nt, c1, c2, d1, m1] at eo
        subst eo
        refine ⟨_, rfl, ⟨?_, ?_, ?_, ?_, ?_, ?_, ?_, ?_, ?_⟩, ?_, ?_⟩
        · simp [am_up_ap, up1, t1, t2, t3, t4, t5, t6, t7, t8]
        · simp [am_up_ap, up1, t1, t2, t3, t4, t5, t6, t7, t8]
        · simp [am_up_ap, up1, t1, t2, t3, t4, t5, t6, t7, t8]
        · simp [am_up_ap, up1, t1, t2, t3, t4, t5, t6, t7, t8]
        · simp [am_up_ap, up1, t1, t2, t3, t4, t5, t6, t7, t8]
        · simp [am_up_ap, up1, t1, t2, t3, t4, t5, t6, t7, t8]
        · simp [am_up_ap, up1, t1, t2, t3, t4, t5, t6, t7, t8]
        · simp [am_up_ap, up1, t1, t2, t3, t4, t5, t6, t7, t8]
        · intro i hi
          simp only [am_up_ap, Nat.reduceEqDiff, ↓reduceIte]
          exact t9 i hi
        · (repeat' first | with_reducible exact sc.rf _ | with_reducible refine sc.upt ?_ _ _ ?_ | decide)
        · simp [am_up_ap]
    by_cases sB : g 1 + 1 - g 0 < 2
    · have d1 := eqF sA
      have d2 := eqT sB
      have hson : tl_son 1 (p, g, s, ws, ga, ch) := ⟨tie, Or.inr sB⟩
      have e1 : tl_told L 1 (p, g, s, ws, ga, ch) = 1 := (if_neg hon).trans (if_pos hson)
      by_cases mm : (g 0 + g 1 + 1) % 2 = 1
      · have m1 := eqT mm
        have e2 : tl_step 1 (p, g, s, ws, ga, ch) = (fun _ => 0, up1 g 1 (g 1 + 1), s, ws, ga + 1, ch + 1) := by
          unfold tl_step
          rw [if_neg hon, if_pos hson]
          unfold tl_ch
          rw [if_pos mm]
        unfold Tk
        rw [e1, e2]
        generalize eo : fX7_take 1 h = o
        simp only [fX7_take, fX7_take_31, fX7_take_53, fX7_take_151, x_isTie, ↓am_b_some, ↓am_l_eq, am_up_ap, Nat.reduceEqDiff, ↓reduceIte, tn0, tn1, aw10, aw11, ic, id, z1, z0, t1, t2, t3, t4, t7, t8, A1, A2, A3, A4, A5, A6, A7, A8, A9, A10, M1, M2, nt, c1, c2, d1, d2, m1] at eo
        subst eo
        refine ⟨_, rfl, ⟨?_, ?_, ?_, ?_, ?_, ?_, ?_, ?_, ?_⟩, ?_, ?_⟩
        · simp [am_up_ap, up1, t1, t2, t3, t4, t5, t6, t7, t8]
        · simp [am_up_ap, up1, t1, t2, t3, t4, t5, t6, t7, t8]
        · simp [am_up_ap, up1, t1, t2, t3, t4, t5, t6, t7, t8]
        · simp [am_up_ap, up1, t1, t2, t3, t4, t5, t6, t7, t8]
        · simp [am_up_ap, up1, t1, t2, t3, t4, t5, t6, t7, t8]
        · simp [am_up_ap, up1, t1, t2, t3, t4, t5, t6, t7, t8]
        · simp [am_up_ap, up1, t1, t2, t3, t4, t5, t6, t7, t8]
        · simp [am_up_ap, up1, t1, t2, t3, t4, t5, t6, t7, t8]
        · intro i hi
          simp only [am_up_ap, Nat.reduceEqDiff, ↓reduceIte]
          exact t9 i hi
        · (repeat' first | with_reducible exact sc.rf _ | with_reducible refine sc.upt ?_ _ _ ?_ | decide)
        · simp [am_up_ap]
      · have m1 := eqF mm
        have e2 : tl_step 1 (p, g, s, ws, ga, ch) = (fun _ => 0, up1 g 1 (g 1 + 1), s, ws, ga + 1, ch) := by
          unfold tl_step
          rw [if_neg hon, if_pos hson]
          unfold tl_ch
          rw [if_neg mm]
        unfold Tk
        rw [e1, e2]
        generalize eo : fX7_take 1 h = o
        simp only [fX7_take, fX7_take_31, fX7_take_53, fX7_take_151, x_isTie, ↓am_b_some, ↓am_l_eq, am_up_ap, Nat.reduceEqDiff, ↓reduceIte, tn0, tn1, aw10, aw11, ic, id, z1, z0, t1, t2, t3, t4, t7, t8, A1, A2, A3, A4, A5, A6, A7, A8, A9, A10, M1, M2, nt, c1, c2, d1, d2, m1] at eo
        subst eo
        refine ⟨_, rfl, ⟨?_, ?_, ?_, ?_, ?_, ?_, ?_, ?_, ?_⟩, ?_, ?_⟩
        · simp [am_up_ap, up1, t1, t2, t3, t4, t5, t6, t7, t8]
        · simp [am_up_ap, up1, t1, t2, t3, t4, t5, t6, t7, t8]
        · simp [am_up_ap, up1, t1, t2, t3, t4, t5, t6, t7, t8]
        · simp [am_up_ap, up1, t1, t2, t3, t4, t5, t6, t7, t8]
        · simp [am_up_ap, up1, t1, t2, t3, t4, t5, t6, t7, t8]
        · simp [am_up_ap, up1, t1, t2, t3, t4, t5, t6, t7, t8]
        · simp [am_up_ap, up1, t1, t2, t3, t4, t5, t6, t7, t8]
        · simp [am_up_ap, up1, t1, t2, t3, t4, t5, t6, t7, t8]
        · intro i hi
          simp only [am_up_ap, Nat.reduceEqDiff, ↓reduceIte]
          exact t9 i hi
        · (repeat' first | with_reducible exact sc.rf _ | with_reducible refine sc.upt ?_ _ _ ?_ | decide)
        · simp [am_up_ap]
    have d1 := eqF sA
    have d2 := eqF sB
    have hson : ¬ tl_son 1 (p, g, s, ws, ga, ch) := fun z => z.2.elim sA sB
    have e1 : tl_told L 1 (p, g, s, ws, ga, ch) = (if s 1 + 1 = L then 3 else 2) := (if_neg hon).trans (if_neg hson)
    by_cases mm : (g 0 + g 1 + 1) % 2 = 1
    · have m1 := eqT mm
      have e2 : tl_step 1 (p, g, s, ws, ga, ch) = (fun _ => 0, fun _ => 0, up1 s 1 (s 1 + 1), up1 (up1 ws (2 * (s 0 + s 1)).toNat (up1 g 1 (g 1 + 1) 0)) (2 * (s 0 + s 1) + 1).toNat (up1 g 1 (g 1 + 1) 1), ga + 1, ch + 1) := by
        unfold tl_step
        rw [if_neg hon, if_neg hson]
        unfold tl_ch
        rw [if_pos mm]
      unfold Tk
      rw [e1, e2]
      generalize eo : fX7_take 1 h = o
      simp only [fX7_take, fX7_take_31, fX7_take_53, fX7_take_151, x_isTie, ↓am_b_some, ↓am_l_eq, am_up_ap, Nat.reduceEqDiff, ↓reduceIte, tn0, tn1, aw10, aw11, ic, id, z1, z0, t1, t2, t3, t4, t7, t8, A1, A2, A3, A4, A5, A6, A7, A8, A9, A10, M1, M2, nt, c1, c2, d1, d2, m1] at eo
      refine x_187_1 (s := s) (ws := ws) eo ?_ ?_ ?_ ?_ ?_ ?_ ?_ ?_ ?_ b5.1 b6.1 s0 s1 hL ?_ rfl ?_ h39
      · simp [am_up_ap, up1, t1, t2, t3, t4, t5, t6, t7, t8]
      · simp [am_up_ap, up1, t1, t2, t3, t4, t5, t6, t7, t8]
      · simp [am_up_ap, up1, t1, t2, t3, t4, t5, t6, t7, t8]
      · simp [am_up_ap, up1, t1, t2, t3, t4, t5, t6, t7, t8]
      · simp [am_up_ap, up1, t1, t2, t3, t4, t5, t6, t7, t8]
      · simp [am_up_ap, up1, t1, t2, t3, t4, t5, t6, t7, t8]
      · simp [am_up_ap, up1, t1, t2, t3, t4, t5, t6, t7, t8]
      · simp [am_up_ap, up1, t1, t2, t3, t4, t5, t6, t7, t8]
      · intro i hi
        simp only [am_up_ap, Nat.reduceEqDiff, ↓reduceIte]
        exact t9 i hi
      · simp [am_up_ap, h39]
      · (repeat' first | with_reducible exact sc.rf _ | with_reducible refine sc.upt ?_ _ _ ?_ | decide)
    · have m1 := eqF mm
      have e2 : tl_step 1 (p, g, s, ws, ga, ch) = (fun _ => 0, fun _ => 0, up1 s 1 (s 1 + 1), up1 (up1 ws (2 * (s 0 + s 1)).toNat (up1 g 1 (g 1 + 1) 0)) (2 * (s 0 + s 1) + 1).toNat (up1 g 1 (g 1 + 1) 1), ga + 1, ch) := by
        unfold tl_step
        rw [if_neg hon, if_neg hson]
        unfold tl_ch
        rw [if_neg mm]
      unfold Tk
      rw [e1, e2]
      generalize eo : fX7_take 1 h = o
      simp only [fX7_take, fX7_take_31, fX7_take_53, fX7_take_151, x_isTie, ↓am_b_some, ↓am_l_eq, am_up_ap, Nat.reduceEqDiff, ↓reduceIte, tn0, tn1, aw10, aw11, ic, id, z1, z0, t1, t2, t3, t4, t7, t8, A1, A2, A3, A4, A5, A6, A7, A8, A9, A10, M1, M2, nt, c1, c2, d1, d2, m1] at eo
      refine x_187_1 (s := s) (ws := ws) eo ?_ ?_ ?_ ?_ ?_ ?_ ?_ ?_ ?_ b5.1 b6.1 s0 s1 hL ?_ rfl ?_ h39
      · simp [am_up_ap, up1, t1, t2, t3, t4, t5, t6, t7, t8]
      · simp [am_up_ap, up1, t1, t2, t3, t4, t5, t6, t7, t8]
      · simp [am_up_ap, up1, t1, t2, t3, t4, t5, t6, t7, t8]
      · simp [am_up_ap, up1, t1, t2, t3, t4, t5, t6, t7, t8]
      · simp [am_up_ap, up1, t1, t2, t3, t4, t5, t6, t7, t8]
      · simp [am_up_ap, up1, t1, t2, t3, t4, t5, t6, t7, t8]
      · simp [am_up_ap, up1, t1, t2, t3, t4, t5, t6, t7, t8]
      · simp [am_up_ap, up1, t1, t2, t3, t4, t5, t6, t7, t8]
      · intro i hi
        simp only [am_up_ap, Nat.reduceEqDiff, ↓reduceIte]
        exact t9 i hi
      · simp [am_up_ap, h39]
      · (repeat' first | with_reducible exact sc.rf _ | with_reducible refine sc.upt ?_ _ _ ?_ | decide)
theorem m_play_1 (L k : Int) (t : tl_T) (h : am_M) (hT : TL h t) (hb : tb k t) (hk : k ≤ 300) (hL : L ≤ 3) (h39 : h 39 0 = t.2.2.1 0 + t.2.2.1 1) (s0 : t.2.2.1 0 < L) (s1 : t.2.2.1 1 < L) : Pk L 1 t h (fX9_play 1 L h) := by
  obtain ⟨p, g, s, ws, ga, ch⟩ := t
  obtain ⟨t1, t2, t3, t4, t5, t6, t7, t8, t9⟩ := hT
  unfold tb at hb
  obtain ⟨b1, b2, b3, b4, b5, b6, b7, b8⟩ := hb
  dsimp only at t1 t2 t3 t4 t5 t6 t7 t8 t9 b1 b2 b3 b4 b5 b6 b7 b8 s0 s1 h39
  obtain ⟨A1, A2, A3, A4⟩ := aw_p (p 1) (p 0) (le3 b2 hk) (le3 b1 hk)
  obtain ⟨A5, A6, A7, A8⟩ := aw_p (g 1) (g 0) (le3 b4 hk) (le3 b3 hk)
  have A9 := aw_q ga (le3 b7 hk)
  have A10 := aw_q ch (le3 b8 hk)
  have M1 := (im_p (p 0) (p 1) (le3 b1 hk) (le3 b2 hk)).1
  have M2 := (im_p (g 0) (g 1) (le3 b3 hk) (le3 b4 hk)).2
  have ic : ((0 : Int) ≤ 1 ∧ (1 : Int) < 2) = True := ic1
  have id : ((0 : Int) ≤ 0 ∧ (0 : Int) < 2) = True := ic0
  have z1 : ((1 : Int) = 0) = False := by decide
  have z0 : ((0 : Int) = 0) = True := by decide
  by_cases tie : g 0 = 6 ∧ g 1 = 6
  · have nt := eqT tie
    by_cases cA : p 1 + 1 < 7
    · have c1 := eqT cA
      have hon : tl_on 1 (p, g, s, ws, ga, ch) := by
        show p 1 + 1 < (if g 0 = 6 ∧ g 1 = 6 then 7 else 4) ∨ p 1 + 1 - p 0 < 2
        rw [if_pos tie]; exact Or.inl cA
      have e1 : tl_told L 1 (p, g, s, ws, ga, ch) = 0 := if_pos hon
      by_cases mm : (p 0 + p 1 + 1) % 6 = 0
      · have m1 := eqT mm
        have e2 : tl_step 1 (p, g, s, ws, ga, ch) = (up1 p 1 (p 1 + 1), g, s, ws, ga, ch + 1) := by
          unfold tl_step
          rw [if_pos hon]
          show (up1 p 1 (p 1 + 1), g, s, ws, ga, if (g 0 = 6 ∧ g 1 = 6) ∧ (p 0 + p 1 + 1) % 6 = 0 then ch + 1 else ch) = _
          rw [if_pos ⟨tie, mm⟩]
        unfold Pk
        rw [e1, e2]
        generalize eo : fX9_play 1 L h = o
        simp only [m_tie, fX9_play_27, fX9_play_59, fX9_play_85, fX9_play_86, fX9_play_195, ↓am_b_some, ↓am_l_eq, am_up_ap, Nat.reduceEqDiff, ↓reduceIte, tn0, tn1, aw10, aw11, ic, id, z1, z0, t1, t2, t3, t4, t7, t8, A1, A2, A3, A4, A5, A6, A7, A8, A9, A10, M1, M2, nt, c1, m1] at eo
        subst eo
        refine ⟨_, rfl, ⟨?_, ?_, ?_, ?_, ?_, ?_, ?_, ?_, ?_⟩, ?_, ?_, ?_⟩
        · simp [am_up_ap, up1, t1, t2, t3, t4, t5, t6, t7, t8]
        · simp [am_up_ap, up1, t1, t2, t3, t4, t5, t6, t7, t8]
        · simp [am_up_ap, up1, t1, t2, t3, t4, t5, t6, t7, t8]
        · simp [am_up_ap, up1, t1, t2, t3, t4, t5, t6, t7, t8]
        · simp [am_up_ap, up1, t1, t2, t3, t4, t5, t6, t7, t8]
        · simp [am_up_ap, up1, t1, t2, t3, t4, t5, t6, t7, t8]
        · simp [am_up_ap, up1, t1, t2, t3, t4, t5, t6, t7, t8]
        · simp [am_up_ap, up1, t1, t2, t3, t4, t5, t6, t7, t8]
        · intro i hi
          simp only [am_up_ap, Nat.reduceEqDiff, ↓reduceIte]
          exact t9 i hi
        · (repeat' first | with_reducible exact sc.rf _ | with_reducible refine sc.upt ?_ _ _ ?_ | decide)
        · simp [am_up_ap, t5, t6, h39]
        · simp [am_up_ap]
      · have m1 := eqF mm
        have e2 : tl_step 1 (p, g, s, ws, ga, ch) = (up1 p 1 (p 1 + 1), g, s, ws, ga, ch) := by
          unfold tl_step
          rw [if_pos hon]
          show (up1 p 1 (p 1 + 1), g, s, ws, ga, if (g 0 = 6 ∧ g 1 = 6) ∧ (p 0 + p 1 + 1) % 6 = 0 then ch + 1 else ch) = _
          rw [if_neg (fun z => mm z.2)]
        unfold Pk
        rw [e1, e2]
        generalize eo : fX9_play 1 L h = o
        simp only [m_tie, fX9_play_27, fX9_play_59, fX9_play_85, fX9_play_86, fX9_play_195, ↓am_b_some, ↓am_l_eq, am_up_ap, Nat.reduceEqDiff, ↓reduceIte, tn0, tn1, aw10, aw11, ic, id, z1, z0, t1, t2, t3, t4, t7, t8, A1, A2, A3, A4, A5, A6, A7, A8, A9, A10, M1, M2, nt, c1, m1] at eo
        subst eo
        refine ⟨_, rfl, ⟨?_, ?_, ?_, ?_, ?_, ?_, ?_, ?_, ?_⟩, ?_, ?_, ?_⟩
        · simp [am_up_ap, up1, t1, t2, t3, t4, t5, t6, t7, t8]
        · simp [am_up_ap, up1, t1, t2, t3, t4, t5, t6, t7, t8]
        · simp [am_up_ap, up1, t1, t2, t3, t4, t5, t6, t7, t8]
        · simp [am_up_ap, up1, t1, t2, t3, t4, t5, t6, t7, t8]
        · simp [am_up_ap, up1, t1, t2, t3, t4, t5, t6, t7, t8]
        · simp [am_up_ap, up1, t1, t2, t3, t4, t5, t6, t7, t8]
        · simp [am_up_ap, up1, t1, t2, t3, t4, t5, t6, t7, t8]
        · simp [am_up_ap, up1, t1, t2, t3, t4, t5, t6, t7, t8]
        · intro i hi
          simp only [am_up_ap, Nat.reduceEqDiff, ↓reduceIte]
          exact t9 i hi
        · (repeat' first | with_reducible exact sc.rf _ | with_reducible refine sc.upt ?_ _ _ ?_ | decide)
        · simp [am_up_ap, t5, t6, h39]
        · simp [am_up_ap]
    by_cases cB : p 1 + 1 - p 0 < 2
    · have c1 := eqF cA
      have c2 := eqT cB
      have hon : tl_on 1 (p, g, s, ws, ga, ch) := by
        show p 1 + 1 < (if g 0 = 6 ∧ g 1 = 6 then 7 else 4) ∨ p 1 + 1 - p 0 < 2
        rw [if_pos tie]; exact Or.inr cB
      have e1 : tl_told L 1 (p, g, s, ws, ga, ch) = 0 := if_pos hon
      by_cases mm : (p 0 + p 1 + 1) % 6 = 0
      · have m1 := eqT mm
        have e2 : tl_step 1 (p, g, s, ws, ga, ch) = (up1 p 1 (p 1 + 1), g, s, ws, ga, ch + 1) := by
          unfold tl_step
          rw [if_pos hon]
          show (up1 p 1 (p 1 + 1), g, s, ws, ga, if (g 0 = 6 ∧ g 1 = 6) ∧ (p 0 + p 1 + 1) % 6 = 0 then ch + 1 else ch) = _
          rw [if_pos ⟨tie, mm⟩]
        unfold Pk
        rw [e1, e2]
        generalize eo : fX9_play 1 L h = o
        simp only [m_tie, fX9_play_27, fX9_play_59, fX9_play_85, fX9_play_86, fX9_play_195, ↓am_b_some, ↓am_l_eq, am_up_ap, Nat.reduceEqDiff, ↓reduceIte, tn0, tn1, aw10, aw11, ic, id, z1, z0, t1, t2, t3, t4, t7, t8, A1, A2, A3, A4, A5, A6, A7, A8, A9, A10, M1, M2, nt, c1, c2, m1] at eo
        subst eo
        refine ⟨_, rfl, ⟨?_, ?_, ?_, ?_, ?_, ?_, ?_, ?_, ?_⟩, ?_, ?_, ?_⟩
        · simp [am_up_ap, up1, t1, t2, t3, t4, t5, t6, t7, t8]
        · simp [am_up_ap, up1, t1, t2, t3, t4, t5, t6, t7, t8]
        · simp [am_up_ap, up1, t1, t2, t3, t4, t5, t6, t7, t8]
        · simp [am_up_ap, up1, t1, t2, t3, t4, t5, t6, t7, t8]
        · simp [am_up_ap, up1, t1, t2, t3, t4, t5, t6, t7, t8]
        · simp [am_up_ap, up1, t1, t2, t3, t4, t5, t6, t7, t8]
        · simp [am_up_ap, up1, t1, t2, t3, t4, t5, t6, t7, t8]
        · simp [am_up_ap, up1, t1, t2, t3, t4, t5, t6, t7, t8]
        · intro i hi
          simp only [am_up_ap, Nat.reduceEqDiff, ↓reduceIte]
          exact t9 i hi
        · (repeat' first | with_reducible exact sc.rf _ | with_reducible refine sc.upt ?_ _ _ ?_ | decide)
        · simp [am_up_ap, t5, t6, h39]
        · simp [am_up_ap]
      · have m1 := eqF mm
        have e2 : tl_step 1 (p, g, s, ws, ga, ch) = (up1 p 1 (p 1 + 1), g, s, ws, ga, ch) := by
          unfold tl_step
          rw [if_pos hon]
          show (up1 p 1 (p 1 + 1), g, s, ws, ga, if (g 0 = 6 ∧ g 1 = 6) ∧ (p 0 + p 1 + 1) % 6 = 0 then ch + 1 else ch) = _
          rw [if_neg (fun z => mm z.2)]
        unfold Pk
        rw [e1, e2]
        generalize eo : fX9_play 1 L h = o
        simp only [m_tie, fX9_play_27, fX9_play_59, fX9_play_85, fX9_play_86, fX9_play_195, ↓am_b_some, ↓am_l_eq, am_up_ap, Nat.reduceEqDiff, ↓reduceIte, tn0, tn1, aw10, aw11, ic, id, z1, z0, t1, t2, t3, t4, t7, t8, A1, A2, A3, A4, A5, A6, A7, A8, A9, A10, M1, M2, nt, c1, c2, m1] at eo
        subst eo
        refine ⟨_, rfl, ⟨?_, ?_, ?_, ?_, ?_, ?_, ?_, ?_, ?_⟩, ?_, ?_, ?_⟩
        · simp [am_up_ap, up1, t1, t2, t3, t4, t5, t6, t7, t8]
        · simp [am_up_ap, up1, t1, t2, t3, t4, t5, t6, t7, t8]
        · simp [am_up_ap, up1, t1, t2, t3, t4, t5, t6, t7, t8]
        · simp [am_up_ap, up1, t1, t2, t3, t4, t5, t6, t7, t8]
        · simp [am_up_ap, up1, t1, t2, t3, t4, t5, t6, t7, t8]
        · simp [am_up_ap, up1, t1, t2, t3, t4, t5, t6, t7, t8]
        · simp [am_up_ap, up1, t1, t2, t3, t4, t5, t6, t7, t8]
        · simp [am_up_ap, up1, t1, t2, t3, t4, t5, t6, t7, t8]
        · intro i hi
          simp only [am_up_ap, Nat.reduceEqDiff, ↓reduceIte]
          exact t9 i hi
        · (repeat' first | with_reducible exact sc.rf _ | with_reducible refine sc.upt ?_ _ _ ?_ | decide)
        · simp [am_up_ap, t5, t6, h39]
        · simp [am_up_ap]
    have c1 := eqF cA
    have c2 := eqF cB
    have hon : ¬ tl_on 1 (p, g, s, ws, ga, ch) := by
      show ¬ (p 1 + 1 < (if g 0 = 6 ∧ g 1 = 6 then 7 else 4) ∨ p 1 + 1 - p 0 < 2)
      rw [if_pos tie]; exact fun z => z.elim cA cB
    have hson : ¬ tl_son 1 (p, g, s, ws, ga, ch) := fun z => z.1 tie
    have e1 : tl_told L 1 (p, g, s, ws, ga, ch) = (if s 1 + 1 = L then 3 else 2) := (if_neg hon).trans (if_neg hson)
    by_cases mm : (g 0 + g 1 + 1) % 2 = 1
    · have m1 := eqT mm
      have e2 : tl_step 1 (p, g, s, ws, ga, ch) = (fun _ => 0, fun _ => 0, up1 s 1 (s 1 + 1), up1 (up1 ws (2 * (s 0 + s 1)).toNat (up1 g 1 (g 1 + 1) 0)) (2 * (s 0 + s 1) + 1).toNat (up1 g 1 (g 1 + 1) 1), ga + 1, ch + 1) := by
        unfold tl_step
        rw [if_neg hon, if_neg hson]
        unfold tl_ch
        rw [if_pos mm]
      unfold Pk
      rw [e1, e2]
      generalize eo : fX9_play 1 L h = o
      simp only [m_tie, fX9_play_27, fX9_play_59, fX9_play_85, fX9_play_86, fX9_play_195, ↓am_b_some, ↓am_l_eq, am_up_ap, Nat.reduceEqDiff, ↓reduceIte, tn0, tn1, aw10, aw11, ic, id, z1, z0, t1, t2, t3, t4, t7, t8, A1, A2, A3, A4, A5, A6, A7, A8, A9, A10, M1, M2, nt, c1, c2, m1] at eo
      refine x_230_1 (s := s) (ws := ws) eo ?_ ?_ ?_ ?_ ?_ ?_ ?_ ?_ ?_ b5.1 b6.1 s0 s1 hL ?_ rfl ?_
      · simp [am_up_ap, up1, t1, t2, t3, t4, t5, t6, t7, t8]
      · simp [am_up_ap, up1, t1, t2, t3, t4, t5, t6, t7, t8]
      · simp [am_up_ap, up1, t1, t2, t3, t4, t5, t6, t7, t8]
      · simp [am_up_ap, up1, t1, t2, t3, t4, t5, t6, t7, t8]
      · simp [am_up_ap, up1, t1, t2, t3, t4, t5, t6, t7, t8]
      · simp [am_up_ap, up1, t1, t2, t3, t4, t5, t6, t7, t8]
      · simp [am_up_ap, up1, t1, t2, t3, t4, t5, t6, t7, t8]
      · simp [am_up_ap, up1, t1, t2, t3, t4, t5, t6, t7, t8]
      · intro i hi
        simp only [am_up_ap, Nat.reduceEqDiff, ↓reduceIte]
        exact t9 i hi
      · simp [am_up_ap, h39]
      · (repeat' first | with_reducible exact sc.rf _ | with_reducible refine sc.upt ?_ _ _ ?_ | decide)
    · have m1 := eqF mm
      have e2 : tl_step 1 (p, g, s, ws, ga, ch) = (fun _ => 0, fun _ => 0, up1 s 1 (s 1 + 1), up1 (up1 ws (2 * (s 0 + s 1)).toNat (up1 g 1 (g 1 + 1) 0)) (2 * (s 0 + s 1) + 1).toNat (up1 g 1 (g 1 + 1) 1), ga + 1, ch) := by
        unfold tl_step
        rw [if_neg hon, if_neg hson]
        unfold tl_ch
        rw [if_neg mm]
      unfold Pk
      rw [e1, e2]
      generalize eo : fX9_play 1 L h = o
      simp only [m_tie, fX9_play_27, fX9_play_59, fX9_play_85, fX9_play_86, fX9_play_195, ↓am_b_some, ↓am_l_eq, am_up_ap, Nat.reduceEqDiff, ↓reduceIte, tn0, tn1, aw10, aw11, ic, id, z1, z0, t1, t2, t3, t4, t7, t8, A1, A2, A3, A4, A5, A6, A7, A8, A9, A10, M1, M2, nt, c1, c2, m1] at eo
      refine x_230_1 (s := s) (ws := ws) eo ?_ ?_ ?_ ?_ ?_ ?_ ?_ ?_ ?_ b5.1 b6.1 s0 s1 hL ?_ rfl ?_
      · simp [am_up_ap, up1, t1, t2, t3, t4, t5, t6, t7, t8]
      · simp [am_up_ap, up1, t1, t2, t3, t4, t5, t6, t7, t8]
      · simp [am_up_ap, up1, t1, t2, t3, t4, t5, t6, t7, t8]
      · simp [am_up_ap, up1, t1, t2, t3, t4, t5, t6, t7, t8]
      · simp [am_up_ap, up1, t1, t2, t3, t4, t5, t6, t7, t8]
      · simp [am_up_ap, up1, t1, t2, t3, t4, t5, t6, t7, t8]
      · simp [am_up_ap, up1, t1, t2, t3, t4, t5, t6, t7, t8]
      · simp [am_up_ap, up1, t1, t2, t3, t4, t5, t6, t7, t8]
      · intro i hi
        simp only [am_up_ap, Nat.reduceEqDiff, ↓reduceIte]
        exact t9 i hi
      · simp [am_up_ap, h39]
      · (repeat' first | with_reducible exact sc.rf _ | with_reducible refine sc.upt ?_ _ _ ?_ | decide)
  · have nt := eqF tie
    by_cases cA : p 1 + 1 < 4
    · have c1 := eqT cA
      have hon : tl_on 1 (p, g, s, ws, ga, ch) := by
        show p 1 + 1 < (if g 0 = 6 ∧ g 1 = 6 then 7 else 4) ∨ p 1 + 1 - p 0 < 2
        rw [if_neg tie]; exact Or.inl cA
      have e1 : tl_told L 1 (p, g, s, ws, ga, ch) = 0 := if_pos hon
      have e2 : tl_step 1 (p, g, s, ws, ga, ch) = (up1 p 1 (p 1 + 1), g, s, ws, ga, ch) := by
        unfold tl_step
        rw [if_pos hon]
        show (up1 p 1 (p 1 + 1), g, s, ws, ga, if (g 0 = 6 ∧ g 1 = 6) ∧ (p 0 + p 1 + 1) % 6 = 0 then ch + 1 else ch) = _
        rw [if_neg (fun z => tie z.1)]
      unfold Pk
      rw [e1, e2]
      generalize eo : fX9_play 1 L h = o
      simp only [m_tie, fX9_play_27, fX9_play_59, fX9_play_85, fX9_play_86, fX9_play_195, ↓am_b_some, ↓am_l_eq, am_up_ap, Nat.reduceEqDiff, ↓reduceIte, tn0, tn1, aw10, aw11, ic, id, z1, z0, t1, t2, t3, t4, t7, t8, A1, A2, A3, A4, A5, A6, A7, A8, A9, A10, M1, M2, nt, c1] at eo
      subst eo
      refine ⟨_, rfl, ⟨?_, ?_, ?_, ?_, ?_, ?_, ?_, ?_, ?_⟩, ?_, ?_, ?_⟩
      · simp [am_up_ap, up1, t1, t2, t3, t4, t5, t6, t7, t8]
      · simp [am_up_ap, up1, t1, t2, t3, t4, t5, t6, t7, t8]
      · simp [am_up_ap, up1, t1, t2, t3, t4, t5, t6, t7, t8]
      · simp [am_up_ap, up1, t1, t2, t3, t4, t5, t6, t7, t8]
      · simp [am_up_ap, up1, t1, t2, t3, t4, t5, t6, t7, t8]
      · simp [am_up_ap, up1, t1, t2, t3, t4, t5, t6, t7, t8]
      · simp [am_up_ap, up1, t1, t2, t3, t4, t5, t6, t7, t8]
      · simp [am_up_ap, up1, t1, t2, t3, t4, t5, t6, t7, t8]
      · intro i hi
        simp only [am_up_ap, Nat.reduceEqDiff, ↓reduceIte]
        exact t9 i hi
      · (repeat' first | with_reducible exact sc.rf _ | with_reducible refine sc.upt ?_ _ _ ?_ | decide)
      · simp [am_up_ap, t5, t6, h39]
      · simp [am_up_ap]
    by_cases cB : p 1 + 1 - p 0 < 2
    · have c1 := eqF cA
      have c2 := eqT cB
      have hon : tl_on 1 (p, g, s, ws, ga, ch) := by
        show p 1 + 1 < (if g 0 = 6 ∧ g 1 = 6 then 7 else 4) ∨ p 1 + 1 - p 0 < 2
        rw [if_neg tie]; exact Or.inr cB
      have e1 : tl_told L 1 (p, g, s, ws, ga, ch) = 0 := if_pos hon
      have e2 : tl_step 1 (p, g, s, ws, ga, ch) = (up1 p 1 (p 1 + 1), g, s, ws, ga, ch) := by
        unfold tl_step
        rw [if_pos hon]
        show (up1 p 1 (p 1 + 1), g, s, ws, ga, if (g 0 = 6 ∧ g 1 = 6) ∧ (p 0 + p 1 + 1) % 6 = 0 then ch + 1 else ch) = _
        rw [if_neg (fun z => tie z.1)]
      unfold Pk
      rw [e1, e2]
      generalize eo : fX9_play 1 L h = o
      simp only [m_tie, fX9_play_27, fX9_play_59, fX9_play_85, fX9_play_86, fX9_play_195, ↓am_b_some, ↓am_l_eq, am_up_ap, Nat.reduceEqDiff, ↓reduceIte, tn0, tn1, aw10, aw11, ic, id, z1, z0, t1, t2, t3, t4, t7, t8, A1, A2, A3, A4, A5, A6, A7, A8, A9, A10, M1, M2, nt, c1, c2] at eo
      subst eo
      refine ⟨_, rfl, ⟨?_, ?_, ?_, ?_, ?_, ?_, ?_, ?_, ?_⟩, ?_, ?_, ?_⟩
      · simp [am_up_ap, up1, t1, t2, t3, t4, t5, t6, t7, t8]
      · simp [am_up_ap, up1, t1, t2, t3, t4, t5, t6, t7, t8]
      · simp [am_up_ap, up1, t1, t2, t3, t4, t5, t6, t7, t8]
      · simp [am_up_ap, up1, t1, t2, t3, t4, t5, t6, t7, t8]
      · simp [am_up_ap, up1, t1, t2, t3, t4, t5, t6, t7, t8]
      · simp [am_up_ap, up1, t1, t2, t3, t4, t5, t6, t7, t8]
      · simp [am_up_ap, up1, t1, t2, t3, t4, t5, t6, t7, t8]
      · simp [am_up_ap, up1, t1, t2, t3, t4, t5, t6, t7, t8]
      · intro i hi
        simp only [am_up_ap, Nat.reduceEqDiff, ↓reduceIte]
        exact t9 i hi
      · (repeat' first | with_reducible exact sc.rf _ | with_reducible refine sc.upt ?_ _ _ ?_ | decide)
      · simp [am_up_ap, t5, t6, h39]
      · simp [am_up_ap]
    have c1 := eqF cA
    have c2 := eqF cB
    have hon : ¬ tl_on 1 (p, g, s, ws, ga, ch) := by
      show ¬ (p 1 + 1 < (if g 0 = 6 ∧ g 1 = 6 then 7 else 4) ∨ p 1 + 1 - p 0 < 2)
      rw [if_neg tie]; exact fun z => z.elim cA cB
    by_cases sA : g 1 + 1 < 6
    · have d1 := eqT sA
      have hson : tl_son 1 (p, g, s, ws, ga, ch) := ⟨tie, Or.inl sA⟩
      have e1 : tl_told L 1 (p, g, s, ws, ga, ch) = 1 := (if_neg hon).trans (if_pos hson)
      by_cases mm : (g 0 + g 1 + 1) % 2 = 1
      · have m1 := eqT mm
        have e2 : tl_step 1 (p, g, s, ws, ga, ch) = (fun _ => 0, up1 g 1 (g 1 + 1), s, ws, ga + 1, ch + 1) := by
          unfold tl_step
          rw [if_neg hon, if_pos hson]
          unfold tl_ch
          rw [if_pos mm]
        unfold Pk
        rw [e1, e2]
        generalize eo : fX9_play 1 L h = o
        simp only [m_tie, fX9_play_27, fX9_play_59, fX9_play_85, fX9_play_86, fX9_play_195, ↓am_b_some, ↓am_l_eq, am_up_ap, Nat.reduceEqDiff, ↓reduceIte, tn0, tn1, aw10, aw11, ic, id, z1, z0, t1, t2, t3, t4, t7, t8, A1, A2, A3, A4, A5, A6, A7, A8, A9, A10, M1, M2, nt, c1, c2, d1, m1] at eo
        subst eo
        refine ⟨_, rfl, ⟨?_, ?_, ?_, ?_, ?_, ?_, ?_, ?_, ?_⟩, ?_, ?_, ?_⟩
        · simp [am_up_ap, up1, t1, t2, t3, t4, t5, t6, t7, t8]
        · simp [am_up_ap, up1, t1, t2, t3, t4, t5, t6, t7, t8]
        · simp [am_up_ap, up1, t1, t2, t3, t4, t5, t6, t7, t8]
        · simp [am_up_ap, up1, t1, t2, t3, t4, t5, t6, t7, t8]
        · simp [am_up_ap, up1, t1, t2, t3, t4, t5, t6, t7, t8]
        · simp [am_up_ap, up1, t1, t2, t3, t4, t5, t6, t7, t8]
        · simp [am_up_ap, up1, t1, t2, t3, t4, t5, t6, t7, t8]
        · simp [am_up_ap, up1, t1, t2, t3, t4, t5, t6, t7, t8]
        · intro i hi
          simp only [am_up_ap, Nat.reduceEqDiff, ↓reduceIte]
          exact t9 i hi
        · (repeat' first | with_reducible exact sc.rf _ | with_reducible refine sc.upt ?_ _ _ ?_ | decide)
        · simp [am_up_ap, t5, t6, h39]
        · simp [am_up_ap]
      · have m1 := eqF mm
        have e2 : tl_step 1 (p, g, s, ws, ga, ch) = (fun _ => 0, up1 g 1 (g 1 + 1), s, ws, ga + 1, ch) := by
          unfold tl_step
          rw [if_neg hon, if_pos hson]
          unfold tl_ch
          rw [if_neg mm]
        unfold Pk
        rw [e1, e2]
        generalize eo : fX9_play 1 L h = o
        simp only [m_tie, fX9_play_27, fX9_play_59, fX9_play_85, fX9_play_86, fX9_play_195, ↓am_b_some, ↓am_l_eq, am_up_ap, Nat.reduceEqDiff, ↓reduceIte, tn0, tn1, aw10, aw11, ic, id, z1, z0, t1, t2, t3, t4, t7, t8, A1, A2, A3, A4, A5, A6, A7, A8, A9, A10, M1, M2, nt, c1, c2, d1, m1] at eo
        subst eo
        refine ⟨_, rfl, ⟨?_, ?_, ?_, ?_, ?_, ?_, ?_, ?_, ?_⟩, ?_, ?_, ?_⟩
        · simp [am_up_ap, up1, t1, t2, t3, t4, t5, t6, t7, t8]
        · simp [am_up_ap, up1, t1, t2, t3, t4, t5, t6, t7, t8]
        · simp [am_up_ap, up1, t1, t2, t3, t4, t5, t6, t7, t8]
        · simp [am_up_ap, up1, t1, t2, t3, t4, t5, t6, t7, t8]
        · simp [am_up_ap, up1, t1, t2, t3, t4, t5, t6, t7, t8]
        · simp [am_up_ap, up1, t1, t2, t3, t4, t5, t6, t7, t8]
        · simp [am_up_ap, up1, t1, t2, t3, t4, t5, t6, t7, t8]
        · simp [am_up_ap, up1, t1, t2, t3, t4, t5, t6, t7, t8]
        · intro i hi
          simp only [am_up_ap, Nat.reduceEqDiff, ↓reduceIte]
          exact t9 i hi
        · (repeat' first | with_reducible exact sc.rf _ | with_reducible refine sc.upt ?_ _ _ ?_ | decide)
        · simp [am_up_ap, t5, t6, h39]
        · simp [am_up_ap]
    by_cases sB : g 1 + 1 - g 0 < 2
    · have d1 := eqF sA
      have d2 := eqT sB
      have hson : tl_son 1 (p, g, s, ws, ga, ch) := ⟨tie, Or.inr sB⟩
      have e1 : tl_told L 1 (p, g, s, ws, ga, ch) = 1 := (if_neg hon).trans (if_pos hson)
      by_cases mm : (g 0 + g 1 + 1) % 2 = 1
      · have m1 := eqT mm
        have e2 : tl_step 1 (p, g, s, ws, ga, ch) = (fun _ => 0, up1 g 1 (g 1 + 1), s, ws, ga + 1, ch + 1) := by
          unfold tl_step
          rw [if_neg hon, if_pos hson]
          unfold tl_ch
          rw [if_pos mm]
        unfold Pk
        rw [e1, e2]
        generalize eo : fX9_play 1 L h = o
        simp only [m_tie, fX9_play_27, fX9_play_59, fX9_play_85, fX9_play_86, fX9_play_195, ↓am_b_some, ↓am_l_eq, am_up_ap, Nat.reduceEqDiff, ↓reduceIte, tn0, tn1, aw10, aw11, ic, id, z1, z0, t1, t2, t3, t4, t7, t8, A1, A2, A3, A4, A5, A6, A7, A8, A9, A10, M1, M2, nt, c1, c2, d1, d2, m1] at eo
        subst eo
        refine ⟨_, rfl, ⟨?_, ?_, ?_, ?_, ?_, ?_, ?_, ?_, ?_⟩, ?_, ?_, ?_⟩
        · simp [am_up_ap, up1, t1, t2, t3, t4, t5, t6, t7, t8]
        · simp [am_up_ap, up1, t1, t2, t3, t4, t5, t6, t7, t8]
        · simp [am_up_ap, up1, t1, t2, t3, t4, t5, t6, t7, t8]
        · simp [am_up_ap, up1, t1, t2, t3, t4, t5, t6, t7, t8]
        · simp [am_up_ap, up1, t1, t2, t3, t4, t5, t6, t7, t8]
        · simp [am_up_ap, up1, t1, t2, t3, t4, t5, t6, t7, t8]
        · simp [am_up_ap, up1, t1, t2, t3, t4, t5, t6, t7, t8]
        · simp [am_up_ap, up1, t1, t2, t3, t4, t5, t6, t7, t8]
        · intro i hi
          simp only [am_up_ap, Nat.reduceEqDiff, ↓reduceIte]
          exact t9 i hi
        · (repeat' first | with_reducible exact sc.rf _ | with_reducible refine sc.upt ?_ _ _ ?_ | decide)
        · simp [am_up_ap, t5, t6, h39]
        · simp [am_up_ap]
      · have m1 := eqF mm
        have e2 : tl_step 1 (p, g, s, ws, ga, ch) = (fun _ => 0, up1 g 1 (g 1 + 1), s, ws, ga + 1, ch) := by
          unfold tl_step
          rw [if_neg hon, if_pos hson]
          unfold tl_ch
          rw [if_neg mm]
        unfold Pk
        rw [e1, e2]
        generalize eo : fX9_play 1 L h = o
        simp only [m_tie, fX9_play_27, fX9_play_59, fX9_play_85, fX9_play_86, fX9_play_195, ↓am_b_some, ↓am_l_eq, am_up_ap, Nat.reduceEqDiff, ↓reduceIte, tn0, tn1, aw10, aw11, ic, id, z1, z0, t1, t2, t3, t4, t7, t8, A1, A2, A3, A4, A5, A6, A7, A8, A9, A10, M1, M2, nt, c1, c2, d1, d2, m1] at eo
        subst eo
        refine ⟨_, rfl, ⟨?_, ?_, ?_, ?_, ?_, ?_, ?_, ?_, ?_⟩, ?_, ?_, ?_⟩
        · simp [am_up_ap, up1, t1, t2, t3, t4, t5, t6, t7, t8]
        · simp [am_up_ap, up1, t1, t2, t3, t4, t5, t6, t7, t8]
        · simp [am_up_ap, up1, t1, t2, t3, t4, t5, t6, t7, t8]
        · simp [am_up_ap, up1, t1, t2, t3, t4, t5, t6, t7, t8]
        · simp [am_up_ap, up1, t1, t2, t3, t4, t5, t6, t7, t8]
        · simp [am_up_ap, up1, t1, t2, t3, t4, t5, t6, t7, t8]
        · simp [am_up_ap, up1, t1, t2, t3, t4, t5, t6, t7, t8]
        · simp [am_up_ap, up1, t1, t2, t3, t4, t5, t6, t7, t8]
        · intro i hi
          simp only [am_up_ap, Nat.reduceEqDiff, ↓reduceIte]
          exact t9 i hi
        · (repeat' first | with_reducible exact sc.rf _ | with_reducible refine sc.upt ?_ _ _ ?_ | decide)
        · simp [am_up_ap, t5, t6, h39]
        · simp [am_up_ap]
    have d1 := eqF sA
    have d2 := eqF sB
    have hson : ¬ tl_son 1 (p, g, s, ws, ga, ch) := fun z => z.2.elim sA sB
    have e1 : tl_told L 1 (p, g, s, ws, ga, ch) = (if s 1 + 1 = L then 3 else 2) := (if_neg hon).trans (if_neg hson)
    by_cases mm : (g 0 + g 1 + 1) % 2 = 1
    · have m1 := eqT mm
      have e2 : tl_step 1 (p, g, s, ws, ga, ch) = (fun _ => 0, fun _ => 0, up1 s 1 (s 1 + 1), up1 (up1 ws (2 * (s 0 + s 1)).toNat (up1 g 1 (g 1 + 1) 0)) (2 * (s 0 + s 1) + 1).toNat (up1 g 1 (g 1 + 1) 1), ga + 1, ch + 1) := by
        unfold tl_step
        rw [if_neg hon, if_neg hson]
        unfold tl_ch
        rw [if_pos mm]
      unfold Pk
      rw [e1, e2]
      generalize eo : fX9_play 1 L h = o
      simp only [m_tie, fX9_play_27, fX9_play_59, fX9_play_85, fX9_play_86, fX9_play_195, ↓am_b_some, ↓am_l_eq, am_up_ap, Nat.reduceEqDiff, ↓reduceIte, tn0, tn1, aw10, aw11, ic, id, z1, z0, t1, t2, t3, t4, t7, t8, A1, A2, A3, A4, A5, A6, A7, A8, A9, A10, M1, M2, nt, c1, c2, d1, d2, m1] at eo
      refine x_230_1 (s := s) (ws := ws) eo ?_ ?_ ?_ ?_ ?_ ?_ ?_ ?_ ?_ b5.1 b6.1 s0 s1 hL ?_ rfl ?_
      · simp [am_up_ap, up1, t1, t2, t3, t4, t5, t6, t7, t8]
      · simp [am_up_ap, up1, t1, t2, t3, t4, t5, t6, t7, t8]
      · simp [am_up_ap, up1, t1, t2, t3, t4, t5, t6, t7, t8]
      · simp [am_up_ap, up1, t1, t2, t3, t4, t5, t6, t7, t8]
      · simp [am_up_ap, up1, t1, t2, t3, t4, t5, t6, t7, t8]
      · simp [am_up_ap, up1, t1, t2, t3, t4, t5, t6, t7, t8]
      · simp [am_up_ap, up1, t1, t2, t3, t4, t5, t6, t7, t8]
      · simp [am_up_ap, up1, t1, t2, t3, t4, t5, t6, t7, t8]
      · intro i hi
        simp only [am_up_ap, Nat.reduceEqDiff, ↓reduceIte]
        exact t9 i hi
      · simp [am_up_ap, h39]
      · (repeat' first | with_reducible exact sc.rf _ | with_reducible refine sc.upt ?_ _ _ ?_ | decide)
    · have m1 := eqF mm
      have e2 : tl_step 1 (p, g, s, ws, ga, ch) = (fun _ => 0, fun _ => 0, up1 s 1 (s 1 + 1), up1 (up1 ws (2 * (s 0 + s 1)).toNat (up1 g 1 (g 1 + 1) 0)) (2 * (s 0 + s 1) + 1).toNat (up1 g 1 (g 1 + 1) 1), ga + 1, ch) := by
        unfold tl_step
        rw [if_neg hon, if_neg hson]
        unfold tl_ch
        rw [if_neg mm]
      unfold Pk
      rw [e1, e2]
      generalize eo : fX9_play 1 L h = o
      simp only [m_tie, fX9_play_27, fX9_play_59, fX9_play_85, fX9_play_86, fX9_play_195, ↓am_b_some, ↓am_l_eq, am_up_ap, Nat.reduceEqDiff, ↓reduceIte, tn0, tn1, aw10, aw11, ic, id, z1, z0, t1, t2, t3, t4, t7, t8, A1, A2, A3, A4, A5, A6, A7, A8, A9, A10, M1, M2, nt, c1, c2, d1, d2, m1] at eo
      refine x_230_1 (s := s) (ws := ws) eo ?_ ?_ ?_ ?_ ?_ ?_ ?_ ?_ ?_ b5.1 b6.1 s0 s1 hL ?_ rfl ?_
      · simp [am_up_ap, up1, t1, t2, t3, t4, t5, t6, t7, t8]
      · simp [am_up_ap, up1, t1, t2, t3, t4, t5, t6, t7, t8]
      · simp [am_up_ap, up1, t1, t2, t3, t4, t5, t6, t7, t8]
      · simp [am_up_ap, up1, t1, t2, t3, t4, t5, t6, t7, t8]
      · simp [am_up_ap, up1, t1, t2, t3, t4, t5, t6, t7, t8]
      · simp [am_up_ap, up1, t1, t2, t3, t4, t5, t6, t7, t8]
      · simp [am_up_ap, up1, t1, t2, t3, t4, t5, t6, t7, t8]
      · simp [am_up_ap, up1, t1, t2, t3, t4, t5, t6, t7, t8]
      · intro i hi
        simp only [am_up_ap, Nat.reduceEqDiff, ↓reduceIte]
        exact t9 i hi
      · simp [am_up_ap, h39]
      · (repeat' first | with_reducible exact sc.rf _ | with_reducible refine sc.upt ?_ _ _ ?_ | decide)
