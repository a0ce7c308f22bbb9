/-! ===== lay: byes in free pairs ===== -/
def st4 (s : List Nat × Nat) : Nat → List Nat × Nat
  | 0 => s
  | q + 1 => if (st4 s q).2 = 0 then st4 s q else if (st4 s q).1.getD (2 * q) 9 = 0 ∧ (st4 s q).1.getD (2 * q + 1) 9 = 0 then ((st4 s q).1.set (2 * q + 1) 2, (st4 s q).2 - 1) else st4 s q
theorem st4_z {s : List Nat × Nat} {k : Nat} (h : (st4 s k).2 = 0) : ∀ r, st4 s (k + r) = st4 s k := by
  intro r
  induction r with
  | zero => rfl
  | succ r ih =>
    rw [← Nat.add_assoc]
    simp only [st4]
    rw [ih, if_pos h]
theorem aw_2 (q : Nat) (h : q < 100) : am_w ((2 * q : Nat) : Int) = ((2 * q : Nat) : Int) ∧ am_w (((2 * q : Nat) : Int) + 1) = ((2 * q + 1 : Nat) : Int) ∧ am_w (((2 * q : Nat) : Int) + 2) = ((2 * (q + 1) : Nat) : Int) ∧ am_w (2 * (q : Int)) = ((2 * q : Nat) : Int) := by
  refine ⟨?_, ?_, ?_, ?_⟩
  · exact pw_n _ (by omega)
  · rw [pw (by omega) (by omega)]; omega
  · rw [pw (by omega) (by omega)]; omega
  · rw [pw (by omega) (by omega)]; omega
theorem e_l4 {hx hm : am_M} {d n t Sd : Nat} (r0 : Rel hx hm) (hd : d < 4) (hn : szn n) (e1d : hx 1 d = n) (hE : ∀ k, k < Sd → 0 ≤ hx 6 (16 * d + k)) (s : List Nat × Nat) (B : Int) : ∀ (r q f f' : Nat) (h b : am_M), q + r = n / 2 → r < f → r < f' → (st4 s q).2 ≤ 16 → LI hx hm d n t Sd h b (st4 s q).1 → ∃ h' b', am_it (fun _ _ _ _ => none) fX4_giveByes_70b f d ((st4 s q).2 : Int) ((2 * q : Nat) : Int) h = some ((), h') ∧ am_it (fun _ _ _ _ _ _ => none) fX9_lay_230b f' (d : Int) (n : Int) B ((st4 s q).2 : Int) (q : Int) b = fX9_lay_297 (d : Int) (n : Int) B b' ∧ LI hx hm d n t Sd h' b' (st4 s (n / 2)).1 := by
  have hb := hn.b
  have hw : am_w (Int.tdiv (n : Int) 2) = ((n / 2 : Nat) : Int) := by rw [show (2 : Int) = ((2 : Nat) : Int) from rfl, p_tdiv, pw_n]; omega
  intro r
  induction r with
  | zero =>
    intro q f f' h b hq hf hf' hle I
    have hq' : q = n / 2 := by clear hw; omega
    have i1 : (((2 * q + 1 : Nat) : Int) < (n : Int)) = False := eq_false (by clear hw; omega)
    have i2 : ((q : Int) < ((n / 2 : Nat) : Int)) = False := eq_false (by clear hw; omega)
    have q100 : q < 100 := by clear hw; omega
    obtain ⟨f, rfl⟩ : ∃ z, f = z + 1 := ⟨f - 1, by clear hw; omega⟩
    obtain ⟨f', rfl⟩ : ∃ z, f' = z + 1 := ⟨f' - 1, by clear hw; omega⟩
    have h1 : h 1 d = n := by rw [I.1.1 1 (by decide) (by decide)]; exact e1d
    have aw := aw_2 q q100
    rw [← hq']
    refine ⟨h, b, ?_, ?_, I⟩
    · rw [am_it_s]
      unfold fX4_giveByes_70b
      simp only [h1, aw.2.1, i1, ↓reduceIte]
    · rw [am_it_s]
      unfold fX9_lay_230b
      simp only [hw, i2, ↓reduceIte]
  | succ r ih =>
    intro q f f' h b hq hf hf' hle I
    have l1 : q + 1 + r = n / 2 := by clear hw; omega
    have i1 : (((2 * q + 1 : Nat) : Int) < (n : Int)) = True := eq_true (by clear hw; omega)
    have i2 : ((q : Int) < ((n / 2 : Nat) : Int)) = True := eq_true (by clear hw; omega)
    have q100 : q < 100 := by clear hw; omega
    have p0 : 2 * q < n := by clear hw; omega
    have p1 : 2 * q + 1 < n := by clear hw; omega
    have p016 : 2 * q < 16 := by clear hw; omega
    have p116 : 2 * q + 1 < 16 := by clear hw; omega
    have hqn : q + (n / 2 - q) = n / 2 := by clear hw; omega
    obtain ⟨f, rfl⟩ : ∃ z, f = z + 1 := ⟨f - 1, by clear hw; omega⟩
    obtain ⟨f', rfl⟩ : ∃ z, f' = z + 1 := ⟨f' - 1, by clear hw; omega⟩
    have l2 : r < f := by clear hw; omega
    have l3 : r < f' := by clear hw; omega
    have h1 : h 1 d = n := by rw [I.1.1 1 (by decide) (by decide)]; exact e1d
    have nx := fun (h b : am_M) => ih (q + 1) f f' h b l1 l2 l3
    have at0 : fX9_at (d : Int) ((2 * q : Nat) : Int) b = some (pc b d (2 * q), b) := q_at d _ hd p016 b
    have at1 : fX9_at (d : Int) ((2 * q + 1 : Nat) : Int) b = some (pc b d (2 * q + 1), b) := q_at d _ hd p116 b
    have e0 := I.2.2.2.2.2.1 (2 * q) p0
    have e1 := I.2.2.2.2.2.1 (2 * q + 1) p1
    have aw := aw_2 q q100
    have c1 := pw1 q (Nat.lt_trans q100 (by decide))
    rw [am_it_s, am_it_s]
    clear ih
    generalize am_it (fun _ _ _ _ => none) fX4_giveByes_70b f = K at nx ⊢
    generalize am_it (fun _ _ _ _ _ _ => none) fX9_lay_230b f' = K' at nx ⊢
    by_cases cl : (st4 s q).2 = 0
    · have ez : st4 s (n / 2) = st4 s q := by
        have := st4_z cl (n / 2 - q)
        rw [hqn] at this
        exact this
      rw [ez]
      refine ⟨h, b, ?_, ?_, I⟩
      · unfold fX4_giveByes_70b
        rw [cl]
        simp only [h1, aw.2.1, i1, ↓reduceIte, show (((0 : Nat) : Int) ≤ 0) = True by decide]
      · unfold fX9_lay_230b
        rw [cl]
        simp only [hw, i2, ↓reduceIte, show (((0 : Nat) : Int) ≤ 0) = True by decide]
    · have i3 : (((st4 s q).2 : Int) ≤ 0) = False := eq_false (nz_i cl)
      have wm := aw_m1 (st4 s q).2 (Nat.lt_of_le_of_lt hle (by decide)) cl
      unfold fX4_giveByes_70b fX4_giveByes_120 fX9_lay_230b fX9_lay_291
      simp only [h1, aw.2.1, aw.2.2.1, aw.2.2.2, i1, i2, i3, ↓reduceIte, Int.toNat_natCast, fj p016, fj p116, ↓am_l_t, hw, at0, at1, ↓am_b_t, q_put d _ _ hd p116, c1, wm]
      clear c1 wm aw hw
      by_cases cf : pc h d (2 * q) = -2
      · have cf1 : h 7 (16 * d + 2 * q) = -2 := cf
        have cf2 : pc b d (2 * q) = -2 := by rw [← e0.1]; exact cf
        by_cases cg : pc h d (2 * q + 1) = -2
        · have cg1 : h 7 (16 * d + (2 * q + 1)) = -2 := cg
          have cg2 : pc b d (2 * q + 1) = -2 := by rw [← e1.1]; exact cg
          have es : st4 s (q + 1) = ((st4 s q).1.set (2 * q + 1) 2, (st4 s q).2 - 1) := by
            simp only [st4]
            rw [if_neg cl, if_pos ⟨(cls0 e0.2).mp cf, (cls0 e1.2).mp cg⟩]
          simp only [eqT cf1, eqT cf2, eqT cg1, eqT cg2, ↓reduceIte]
          have := nx (am_up h 7 (16 * d + (2 * q + 1)) (-1)) (am_up b 7 (16 * d + (2 * q + 1)) (-1)) (by rw [es]; exact Nat.le_trans (Nat.sub_le _ _) hle) (by rw [es]; exact I.bye hE p116 p1 cg)
          rw [es] at this
          exact this
        · have cg1 : ¬ h 7 (16 * d + (2 * q + 1)) = -2 := cg
          have cg2 : ¬ pc b d (2 * q + 1) = -2 := by rw [← e1.1]; exact cg
          have es : st4 s (q + 1) = st4 s q := by
            simp only [st4]
            rw [if_neg cl, if_neg (fun z => cg ((cls0 e1.2).mpr z.2))]
          simp only [eqT cf1, eqT cf2, eqF cg1, eqF cg2, ↓reduceIte]
          have := nx h b (by rw [es]; exact hle) (by rw [es]; exact I)
          rw [es] at this
          exact this
      · have cf1 : ¬ h 7 (16 * d + 2 * q) = -2 := cf
        have cf2 : ¬ pc b d (2 * q) = -2 := by rw [← e0.1]; exact cf
        have es : st4 s (q + 1) = st4 s q := by
          simp only [st4]
          rw [if_neg cl, if_neg (fun z => cf ((cls0 e0.2).mpr z.1))]
        simp only [eqF cf1, eqF cf2, ↓reduceIte]
        have := nx h b (by rw [es]; exact hle) (by rw [es]; exact I)
        rw [es] at this
        exact this
/-- the pattern when all byes are given -/
def pat (n t Sd N : Nat) : List Nat × Nat := st4 (st3 n t (sd2 n t Sd, n - N) Sd) (n / 2)
def zl (L : List Nat) : Nat := (L.filter (fun x => x == 0)).length
def pok4 (n t Sd N : Nat) : Bool := (pat n t Sd N).2 == 0 && (zl (pat n t Sd N).1 == N - Sd) && (List.range (n / 2)).all (fun q => !((pat n t Sd N).1.getD (2 * q) 9 == 2 && (pat n t Sd N).1.getD (2 * q + 1) 9 == 2))
theorem pat4 : ∀ t, t < 2 → ∀ Sd, Sd < 5 → ∀ N, N < 5 → 3 ≤ N → Sd ≤ N → pok4 4 t Sd N = true := by decide +kernel
theorem pat8 : ∀ t, t < 2 → ∀ Sd, Sd < 5 → ∀ N, N < 9 → 5 ≤ N → Sd ≤ N → pok4 8 t Sd N = true := by decide +kernel
theorem pat16 : ∀ t, t < 2 → ∀ Sd, Sd < 5 → ∀ N, N < 17 → 9 ≤ N → Sd ≤ N → pok4 16 t Sd N = true := by decide +kernel
theorem pat_ok {n t Sd N : Nat} (hn : szn n) (ht : t < 2) (hS : Sd ≤ 4) (hN : N ≤ n) (h2 : n / 2 + 1 ≤ N) (h3 : Sd ≤ N) : zl (pat n t Sd N).1 = N - Sd ∧ ∀ q, q < n / 2 → ¬ ((pat n t Sd N).1.getD (2 * q) 9 = 2 ∧ (pat n t Sd N).1.getD (2 * q + 1) 9 = 2) := by
  have k : pok4 n t Sd N = true := by
    rcases hn with q | q | q
    · subst q; exact pat4 t ht Sd (by omega) N (by omega) (by omega) h3
    · subst q; exact pat8 t ht Sd (by omega) N (by omega) (by omega) h3
    · subst q; exact pat16 t ht Sd (by omega) N (by omega) (by omega) h3
  unfold pok4 at k
  rw [Bool.and_eq_true, Bool.and_eq_true] at k
  refine ⟨by simpa using k.1.2, fun q hq z => ?_⟩
  have := List.all_eq_true.mp k.2 q (List.mem_range.mpr hq)
  rw [z.1, z.2] at this
  exact absurd this (by decide)
