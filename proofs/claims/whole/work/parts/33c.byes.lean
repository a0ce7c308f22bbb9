/-! ===== lay: byes ===== -/
def xr (x : Nat) : Nat := if x % 2 = 0 then x + 1 else x - 1
theorem xr_x : ∀ x : Nat, x < 16 → am_xor (x : Int) 1 = ((xr x : Nat) : Int) := by decide +kernel
theorem xr_lt {n x : Nat} (hn : szn n) (hx : x < n) : xr x < n := by
  have := hn.b
  unfold xr
  split <;> omega
/-- byes beside the seeds -/
def st3 (n t : Nat) (s : List Nat × Nat) : Nat → List Nat × Nat
  | 0 => s
  | k + 1 => if (st3 n t s k).2 = 0 then st3 n t s k else if (st3 n t s k).1.getD (xr (sp n t k)) 9 = 0 then ((st3 n t s k).1.set (xr (sp n t k)) 2, (st3 n t s k).2 - 1) else st3 n t s k
theorem st3_z {n t : Nat} {s : List Nat × Nat} {k : Nat} (h : (st3 n t s k).2 = 0) : ∀ r, st3 n t s (k + r) = st3 n t s k := by
  intro r
  induction r with
  | zero => rfl
  | succ r ih =>
    rw [← Nat.add_assoc]
    simp only [st3]
    rw [ih, if_pos h]
theorem aw_m1 (x : Nat) (h : x < 1000) (h0 : x ≠ 0) : am_w ((x : Int) + -1) = ((x - 1 : Nat) : Int) := by
  rw [pw (by omega) (by omega)]; omega
theorem nz_i {x : Nat} (h : ¬ x = 0) : ¬ ((x : Int) ≤ 0) := by omega
theorem e_l3 {hx hm : am_M} {d n t Sd : Nat} (r0 : Rel hx hm) (hd : d < 4) (hn : szn n) (ht : t < 2) (e4 : hx 4 d = Sd) (hS : Sd ≤ 4) (hE : ∀ k, k < Sd → 0 ≤ hx 6 (16 * d + k)) (s : List Nat × Nat) (hs2 : s.2 ≤ 16) (B : Int) : ∀ (r k f f' : Nat) (h b : am_M), k + r = Sd → r < f → r < f' → (st3 n t s k).2 ≤ 16 → LI hx hm d n t Sd h b (st3 n t s k).1 → ∃ h' b', am_it (fun _ _ _ _ => none) fX4_giveByes_12b f d ((st3 n t s k).2 : Int) (k : Int) h = fX4_giveByes_68 d ((st3 n t s Sd).2 : Int) h' ∧ am_it (fun _ _ _ _ _ _ _ => none) fX9_lay_167b f' (d : Int) (n : Int) (t : Int) B ((st3 n t s k).2 : Int) (k : Int) b = fX9_lay_227 (d : Int) (n : Int) B ((st3 n t s Sd).2 : Int) b' ∧ (st3 n t s Sd).2 ≤ 16 ∧ LI hx hm d n t Sd h' b' (st3 n t s Sd).1 := by
  have hb := hn.b
  intro r
  induction r with
  | zero =>
    intro k f f' h b hk hf hf' hle I
    obtain ⟨f, rfl⟩ : ∃ q, f = q + 1 := ⟨f - 1, by omega⟩
    obtain ⟨f', rfl⟩ : ∃ q, f' = q + 1 := ⟨f' - 1, by omega⟩
    obtain rfl : k = Sd := by omega
    have i1 : ((k : Int) < (k : Int)) = False := eq_false (by omega)
    have h4 : h 4 d = k := by rw [I.1.1 4 (by decide) (by decide)]; exact e4
    have b4 : b 4 d = k := by rw [I.2.1.1 4 (by decide) (by decide), ← r0.kk (k := 4) (by decide) (by decide)]; exact e4
    refine ⟨h, b, ?_, ?_, hle, I⟩
    · rw [am_it_s]
      unfold fX4_giveByes_12b
      simp only [h4, i1, ↓reduceIte]
    · rw [am_it_s]
      unfold fX9_lay_167b
      simp only [fd hd, ↓reduceIte, Int.toNat_natCast, b4, i1]
  | succ r ih =>
    intro k f f' h b hk hf hf' hle I
    obtain ⟨f, rfl⟩ : ∃ q, f = q + 1 := ⟨f - 1, by omega⟩
    obtain ⟨f', rfl⟩ : ∃ q, f' = q + 1 := ⟨f' - 1, by omega⟩
    have l1 : k + 1 + r = Sd := by omega
    have l2 : r < f := by omega
    have l3 : r < f' := by omega
    have k100 : k < 100000 := by omega
    have hkS : k < Sd := by omega
    have hk4 : k < 4 := by omega
    have i1 : ((k : Int) < (Sd : Int)) = True := eq_true (by omega)
    have i2 : ((k : Int) < 4) = True := eq_true (by omega)
    have i0 : ((0 : Int) ≤ (k : Int)) = True := eq_true (by omega)
    have hsp := sp_lt (k := k) hn ht
    have hs16 : sp n t k < 16 := Nat.lt_of_lt_of_le hsp hb.2.1
    have hxn := xr_lt hn hsp
    have hx16 : xr (sp n t k) < 16 := Nat.lt_of_lt_of_le hxn hb.2.1
    have h4 : h 4 d = Sd := by rw [I.1.1 4 (by decide) (by decide)]; exact e4
    have b4 : b 4 d = Sd := by rw [I.2.1.1 4 (by decide) (by decide), ← r0.kk (k := 4) (by decide) (by decide)]; exact e4
    have h31 := I.2.2.2.1 k hk4
    have nx := fun (h b : am_M) => ih (k + 1) f f' h b l1 l2 l3
    have c1 := pw1 k k100
    have hat : fX9_at (d : Int) ((xr (sp n t k) : Nat) : Int) b = some (pc b d (xr (sp n t k)), b) := q_at d _ hd hx16 b
    have eI := I.2.2.2.2.2.1 (xr (sp n t k)) hxn
    rw [am_it_s, am_it_s]
    clear ih
    generalize am_it (fun _ _ _ _ => none) fX4_giveByes_12b f = K at nx ⊢
    generalize am_it (fun _ _ _ _ _ _ _ => none) fX9_lay_167b f' = K' at nx ⊢
    by_cases cl : (st3 n t s k).2 = 0
    · have ez : st3 n t s Sd = st3 n t s k := by
        have := st3_z cl (Sd - k)
        rw [Nat.add_sub_cancel' (Nat.le_of_lt hkS)] at this
        exact this
      rw [ez]
      refine ⟨h, b, ?_, ?_, hle, I⟩
      · unfold fX4_giveByes_12b
        rw [cl]
        simp only [h4, i1, i2, ↓reduceIte, show (((0 : Nat) : Int) ≤ 0) = True by decide]
      · unfold fX9_lay_167b
        rw [cl]
        simp only [fd hd, ↓reduceIte, Int.toNat_natCast, b4, i1, show (((0 : Nat) : Int) ≤ 0) = True by decide]
    · have i3 : (((st3 n t s k).2 : Int) ≤ 0) = False := eq_false (nz_i cl)
      have wm := aw_m1 (st3 n t s k).2 (Nat.lt_of_le_of_lt hle (by decide)) cl
      unfold fX4_giveByes_12b fX4_giveByes_62 fX9_lay_167b fX9_lay_221
      simp only [h4, i1, i2, i0, i3, and_self, ↓reduceIte, Int.toNat_natCast, h31, xr_x _ hs16, fj hx16, ↓am_l_t, fd hd, b4, m_sp hn ht hk4, ↓am_b_t, hat, q_put d _ _ hd hx16, c1, wm]
      clear c1 wm
      by_cases cf : pc h d (xr (sp n t k)) = -2
      · have cf1 : h 7 (16 * d + xr (sp n t k)) = -2 := cf
        have cf2 : pc b d (xr (sp n t k)) = -2 := by rw [← eI.1]; exact cf
        have e1 : st3 n t s (k + 1) = ((st3 n t s k).1.set (xr (sp n t k)) 2, (st3 n t s k).2 - 1) := by
          simp only [st3]
          rw [if_neg cl, if_pos ((cls0 eI.2).mp cf)]
        simp only [eqT cf1, eqT cf2, ↓reduceIte]
        have := nx (am_up h 7 (16 * d + xr (sp n t k)) (-1)) (am_up b 7 (16 * d + xr (sp n t k)) (-1)) (by rw [e1]; exact Nat.le_trans (Nat.sub_le _ _) hle) (by rw [e1]; exact I.bye hE hx16 hxn cf)
        rw [e1] at this
        exact this
      · have cf1 : ¬ h 7 (16 * d + xr (sp n t k)) = -2 := cf
        have cf2 : ¬ pc b d (xr (sp n t k)) = -2 := by rw [← eI.1]; exact cf
        have e1 : st3 n t s (k + 1) = st3 n t s k := by
          simp only [st3]
          rw [if_neg cl, if_neg (fun z => cf ((cls0 eI.2).mpr z))]
        simp only [eqF cf1, eqF cf2, ↓reduceIte]
        have := nx h b (by rw [e1]; exact hle) (by rw [e1]; exact I)
        rw [e1] at this
        exact this
