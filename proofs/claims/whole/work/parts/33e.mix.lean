/-! ===== lay: the others, mixed ===== -/
theorem LI.kp {hx hm : am_M} {d n t K : Nat} {h b h' b' : am_M} {L : List Nat} (I : LI hx hm d n t K h b L) (ex : ∀ k, k < 30 ∨ k = 31 ∨ k = 32 → h' k = h k) (em : ∀ k, k < 30 → b' k = b k) (e33 : h' 33 0 = b' 33 0) : LI hx hm d n t K h' b' L := by
  obtain ⟨I1, I2, I3, I4, I5, I6, I7⟩ := I
  have p7 : ∀ i, pc h' d i = pc h d i := fun i => by unfold pc; rw [ex 7 (by omega)]
  have q7 : ∀ i, pc b' d i = pc b d i := fun i => by unfold pc; rw [em 7 (by omega)]
  refine ⟨⟨fun k hk h7 => by rw [ex k (by omega)]; exact I1.1 k hk h7, fun x hx1 => by rw [ex 7 (by omega)]; exact I1.2 x hx1⟩, ⟨fun k hk h7 => by rw [em k hk]; exact I2.1 k hk h7, fun x hx1 => by rw [em 7 (by omega)]; exact I2.2 x hx1⟩, e33, fun j hj => by rw [ex 31 (by omega)]; exact I4 j hj, I5, fun i hi => by rw [p7, q7]; exact I6 i hi, fun i hi => by rw [p7, ex 32 (by omega)]; exact I7 i hi⟩
/-- the others, alike on both sides, all of them unseeded entrants -/
def OT (hx : am_M) (d Sd N c : Nat) (h b : am_M) : Prop := ∀ i, i < c → h 30 i = b 30 i ∧ ∃ j, Sd ≤ j ∧ j < N ∧ h 30 i = hx 6 (16 * d + j)
theorem OT.sw {hx : am_M} {d Sd N c i v : Nat} {h b h1 b1 : am_M} (O : OT hx d Sd N c h b) (hi : i < c) (hv : v < c) (ex : h1 30 = h 30) (eb : b1 30 = b 30) : OT hx d Sd N c (am_up (am_up h1 30 i (h1 30 v)) 30 v (h1 30 i)) (am_up (am_up b1 30 i (b1 30 v)) 30 v (b1 30 i)) := by
  intro j hj
  by_cases e : j = v
  · rw [e, am_up_s, am_up_s, ex, eb]
    exact O i hi
  · rw [am_up_i _ _ _ e, am_up_i _ _ _ e]
    by_cases e2 : j = i
    · rw [e2, am_up_s, am_up_s, ex, eb]
      exact O v hv
    · rw [am_up_i _ _ _ e2, am_up_i _ _ _ e2, ex, eb]
      exact O j hj
theorem pwa (a b : Nat) (h : a + b < 1000) : am_w ((a : Int) + (b : Int)) = ((a + b : Nat) : Int) := by
  rw [pw (by omega) (by omega)]; omega
theorem f64 {a : Nat} (h : a < 64) : (0 ≤ (a : Int) ∧ (a : Int) < 64) = True := eq_true (by omega)
theorem e_m1 {hx hm : am_M} {d n t Sd N c : Nat} {L : List Nat} (r0 : Rel hx hm) (hd : d < 4) (e4 : hx 4 d = Sd) (hc : Sd + c = N) (hN : N ≤ 16) : ∀ (r i f f' : Nat) (h b : am_M), i + r = c → r < f → r < f' → LI hx hm d n t Sd h b L → OT hx d Sd N i h b → ∃ h' b', am_it (fun _ _ _ _ => none) fX4_seatOthers_12b f d (c : Int) (i : Int) h = fX4_seatOthers_40 d (c : Int) h' ∧ am_it (fun _ _ _ _ => none) fX9_mix_16b f' (d : Int) (c : Int) (i : Int) b = fX9_mix_51 (c : Int) b' ∧ LI hx hm d n t Sd h' b' L ∧ OT hx d Sd N c h' b' := by
  intro r
  induction r with
  | zero =>
    intro i f f' h b hi hf hf' I O
    obtain ⟨f, rfl⟩ : ∃ q, f = q + 1 := ⟨f - 1, by omega⟩
    obtain ⟨f', rfl⟩ : ∃ q, f' = q + 1 := ⟨f' - 1, by omega⟩
    obtain rfl : i = c := by omega
    have i1 : ((i : Int) < (i : Int)) = False := eq_false (by omega)
    refine ⟨h, b, ?_, ?_, I, O⟩
    · rw [am_it_s]
      unfold fX4_seatOthers_12b
      simp only [i1, ↓reduceIte]
    · rw [am_it_s]
      unfold fX9_mix_16b
      simp only [i1, ↓reduceIte]
  | succ r ih =>
    intro i f f' h b hi hf hf' I O
    obtain ⟨f, rfl⟩ : ∃ q, f = q + 1 := ⟨f - 1, by omega⟩
    obtain ⟨f', rfl⟩ : ∃ q, f' = q + 1 := ⟨f' - 1, by omega⟩
    have l1 : i + 1 + r = c := by omega
    have l2 : r < f := by omega
    have l3 : r < f' := by omega
    have i1 : ((i : Int) < (c : Int)) = True := eq_true (by omega)
    have i16 : i < 16 := by omega
    have s16 : Sd + i < 16 := by omega
    have sN : Sd + i < N := by omega
    have d64 : 16 * d + Sd + i < 64 := by omega
    have S16 : Sd < 16 := by omega
    have h4 : h 4 d = Sd := by rw [I.1.1 4 (by decide) (by decide)]; exact e4
    have b4 : b 4 d = Sd := by rw [I.2.1.1 4 (by decide) (by decide), ← r0.kk (k := 4) (by decide) (by decide)]; exact e4
    have h6 : h 6 (16 * d + (Sd + i)) = hx 6 (16 * d + (Sd + i)) := by rw [I.1.1 6 (by decide) (by decide)]
    have b6 : b 6 (16 * d + Sd + i) = hx 6 (16 * d + (Sd + i)) := by rw [I.2.1.1 6 (by decide) (by decide), ← r0.kk (k := 6) (by decide) (by decide), Nat.add_assoc]
    have nx := fun (h b : am_M) => ih (i + 1) f f' h b l1 l2 l3
    have c1 := pw1 i (by omega)
    have c2 := pwa Sd i (by clear c1; omega)
    have c3 := c_w d Sd hd S16
    have c4 := pwa (16 * d + Sd) i (by clear c1 c2 c3; omega)
    rw [am_it_s, am_it_s]
    clear ih
    generalize am_it (fun _ _ _ _ => none) fX4_seatOthers_12b f = K at nx ⊢
    generalize am_it (fun _ _ _ _ => none) fX9_mix_16b f' = K' at nx ⊢
    unfold fX4_seatOthers_12b fX9_mix_16b
    simp only [i1, ↓reduceIte, h4, b4, c2, c3, c4, fj s16, fj i16, fd hd, f64 d64, Int.toNat_natCast, ↓am_l_t, h6, b6, c1]
    clear c1 c2 c3 c4
    refine nx _ _ (I.kp (fun k hk => am_up_ne _ _ _ (by omega)) (fun k hk => am_up_ne _ _ _ (by omega)) ?_) (fun j hj => ?_)
    · rw [am_up_ne _ _ _ (by decide), am_up_ne _ _ _ (by decide)]; exact I.2.2.1
    · by_cases e : j = i
      · rw [e, am_up_s, am_up_s]
        exact ⟨rfl, Sd + i, Nat.le_add_right _ _, sN, rfl⟩
      · rw [am_up_i _ _ _ e, am_up_i _ _ _ e]
        exact O j (by omega)
theorem aw_mi (i : Nat) (h : i < 1000) : am_w (((i + 1 : Nat) : Int) + -1) = (i : Int) := by
  rw [pw (by omega) (by omega)]; omega
theorem e_m2 {hx hm : am_M} {d n t Sd N c : Nat} {L : List Nat} (hc : c ≤ 16) : ∀ (i f f' : Nat) (h b : am_M), i < c → i < f → i < f' → LI hx hm d n t Sd h b L → OT hx d Sd N c h b → ∃ h' b', am_it (fun _ _ _ _ => none) fX4_seatOthers_44b f d (c : Int) (i : Int) h = fX4_seatOthers_94 d (c : Int) h' ∧ am_it (fun _ _ => none) fX9_mix_55b f' (i : Int) b = some ((), b') ∧ LI hx hm d n t Sd h' b' L ∧ OT hx d Sd N c h' b' := by
  intro i
  induction i with
  | zero =>
    intro f f' h b hi hf hf' I O
    obtain ⟨f, rfl⟩ : ∃ q, f = q + 1 := ⟨f - 1, by omega⟩
    obtain ⟨f', rfl⟩ : ∃ q, f' = q + 1 := ⟨f' - 1, by omega⟩
    have i1 : (((0 : Nat) : Int) < 1) = True := by decide
    refine ⟨h, b, ?_, ?_, I, O⟩
    · rw [am_it_s]
      unfold fX4_seatOthers_44b
      simp only [i1, ↓reduceIte]
    · rw [am_it_s]
      unfold fX9_mix_55b
      simp only [i1, ↓reduceIte]
  | succ i ih =>
    intro f f' h b hi hf hf' I O
    obtain ⟨f, rfl⟩ : ∃ q, f = q + 1 := ⟨f - 1, by omega⟩
    obtain ⟨f', rfl⟩ : ∃ q, f' = q + 1 := ⟨f' - 1, by omega⟩
    have l1 : i < c := by omega
    have l2 : i < f := by omega
    have l3 : i < f' := by omega
    have i16 : i + 1 < 16 := by omega
    have i100 : i + 1 < 100000 := by omega
    have i1000 : i < 1000 := by omega
    have i1 : (((i + 1 : Nat) : Int) < 1) = False := eq_false (by omega)
    obtain ⟨v, ev, hv⟩ := num_b (lcg (h 33 0)) (i + 1 + 1) (by omega)
    have vc : v < c := by clear ev; omega
    have v16 : v < 16 := by clear ev; omega
    have c1 := pw1 (i + 1) i100
    have c2 := aw_mi i i1000
    have n1 := x_num h (i + 1 + 1) (Nat.succ_pos _)
    have n2 := m_num b (i + 1 + 1) (Nat.succ_pos _)
    rw [← I.2.2.1] at n2
    rw [ev] at n1 n2
    have nx := fun (h b : am_M) => ih f f' h b l1 l2 l3
    rw [am_it_s, am_it_s]
    clear ih
    generalize am_it (fun _ _ _ _ => none) fX4_seatOthers_44b f = K at nx ⊢
    generalize am_it (fun _ _ => none) fX9_mix_55b f' = K' at nx ⊢
    unfold fX4_seatOthers_44b fX9_mix_55b
    simp only [i1, ↓reduceIte, c1, c2, n1, n2, ↓am_b_t, ↓am_l_t, fj i16, fj v16, Int.toNat_natCast]
    clear c1 c2 n1 n2 ev
    refine nx _ _ (I.kp (fun k hk => ?_) (fun k hk => ?_) ?_) (O.sw hi vc (am_up_ne _ _ _ (by decide)) (am_up_ne _ _ _ (by decide)))
    · rw [am_up_ne _ _ _ (by omega), am_up_ne _ _ _ (by omega), am_up_ne _ _ _ (by omega)]
    · rw [am_up_ne _ _ _ (by omega), am_up_ne _ _ _ (by omega), am_up_ne _ _ _ (by omega)]
    · simp only [am_up_k _ _ _ _ (show (33 : Nat) ≠ 30 by decide), am_up_s]
theorem e_mix {hx hm : am_M} {d n t Sd N c : Nat} {L : List Nat} (r0 : Rel hx hm) (hd : d < 4) (e3 : hx 3 d = N) (e4 : hx 4 d = Sd) (hc : Sd + c = N) (hN : N ≤ 16) {h b : am_M} (I : LI hx hm d n t Sd h b L) : ∃ h' b', fX4_seatOthers d h = fX4_seatOthers_94 d (c : Int) h' ∧ fX9_mix (d : Int) b = some ((), b') ∧ LI hx hm d n t Sd h' b' L ∧ OT hx d Sd N c h' b' := by
  have h3 : h 3 d = N := by rw [I.1.1 3 (by decide) (by decide)]; exact e3
  have b3 : b 3 d = N := by rw [I.2.1.1 3 (by decide) (by decide), ← r0.kk (k := 3) (by decide) (by decide)]; exact e3
  have h4 : h 4 d = Sd := by rw [I.1.1 4 (by decide) (by decide)]; exact e4
  have b4 : b 4 d = Sd := by rw [I.2.1.1 4 (by decide) (by decide), ← r0.kk (k := 4) (by decide) (by decide)]; exact e4
  have c16 : c ≤ 16 := by omega
  have c400 : c < 400 := by omega
  have w1 : am_w ((N : Int) - (Sd : Int)) = (c : Int) := by rw [pw (by omega) (by omega)]; omega
  obtain ⟨h1, b1, x1, x2, I1, O1⟩ := e_m1 (n := n) (t := t) (L := L) r0 hd e4 hc hN c 0 400 400 h b (Nat.zero_add _) c400 c400 I (fun i hi => absurd hi (Nat.not_lt_zero _))
  rw [show ((0 : Nat) : Int) = 0 from rfl] at x1 x2
  unfold fX4_seatOthers fX9_mix fX4_seatOthers_12 fX9_mix_16
  simp only [h3, b3, h4, b4, w1, fd hd, ↓reduceIte, ↓am_l_t, Int.toNat_natCast, x1, x2]
  clear x1 x2 w1
  unfold fX4_seatOthers_40 fX9_mix_51 fX4_seatOthers_44 fX9_mix_55
  rw [am_l_eq, am_l_eq]
  by_cases z : c = 0
  · subst z
    rw [show am_w (((0 : Nat) : Int) - 1) = -1 by decide]
    refine ⟨h1, b1, ?_, ?_, I1, O1⟩
    · rw [show (400 : Nat) = 399 + 1 from rfl, am_it_s]
      unfold fX4_seatOthers_44b
      rw [if_pos (by decide)]
    · rw [show (400 : Nat) = 399 + 1 from rfl, am_it_s]
      unfold fX9_mix_55b
      rw [if_pos (by decide)]
  · have w2 : am_w ((c : Int) - 1) = ((c - 1 : Nat) : Int) := by rw [pw (by omega) (by omega)]; omega
    rw [w2]
    clear w2
    exact e_m2 c16 (c - 1) 400 400 h1 b1 (by omega) (by omega) (by omega) I1 O1
