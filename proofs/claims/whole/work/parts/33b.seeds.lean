/-! ===== lay: seeds, byes ===== -/
/-- what a place holds: 0 nobody, 1 a player, 2 a bye -/
def cls (v : Int) (c : Nat) : Prop := (c = 0 ∧ v = -2) ∨ (c = 1 ∧ 0 ≤ v ∧ v < 40) ∨ (c = 2 ∧ v = -1)
theorem cls0 {v : Int} {c : Nat} (h : cls v c) : v = -2 ↔ c = 0 := by
  rcases h with z | z | z <;> omega
/-- both memories in the midst of laying draw d of n places, t = turned; L = the pattern of places; seeds 0 .. K - 1 are seated -/
def LI (hx hm : am_M) (d n t K : Nat) (h b : am_M) (L : List Nat) : Prop := fr7 d hx h ∧ fr7 d hm b ∧ h 33 0 = b 33 0 ∧ (∀ j, j < 4 → h 31 j = ((sp n t j : Nat) : Int)) ∧ L.length = n ∧ (∀ i, i < n → pc h d i = pc b d i ∧ cls (pc h d i) (L.getD i 9)) ∧ (∀ i, i < n → (∃ k, k < K ∧ sp n t k = i ∧ pc h d i = hx 6 (16 * d + k) ∧ h 32 i = 1) ∨ ((∀ k, k < K → sp n t k ≠ i) ∧ (pc h d i = -2 ∨ pc h d i = -1) ∧ h 32 i = 0))
theorem getD_set (L : List Nat) (x v i : Nat) (hx : x < L.length) : (L.set x v).getD i 9 = if i = x then v else L.getD i 9 := by
  by_cases e : i = x
  · subst e
    rw [if_pos rfl]
    simp [List.getD, hx]
  · rw [if_neg e]
    simp [List.getD, List.getElem?_set_ne (Ne.symm e)]
/-- the pattern behind the seeds -/
def sd2 (n t : Nat) : Nat → List Nat
  | 0 => List.replicate n 0
  | k + 1 => (sd2 n t k).set (sp n t k) 1
theorem e_l2 {hx hm : am_M} {d n t Sd : Nat} (r0 : Rel hx hm) (hd : d < 4) (hn : szn n) (ht : t < 2) (e4 : hx 4 d = Sd) (hS : Sd ≤ 4) (hE : ∀ k, k < Sd → 0 ≤ hx 6 (16 * d + k) ∧ hx 6 (16 * d + k) < 40) : ∀ (r k f f' : Nat) (h b : am_M), k + r = Sd → r < f → r < f' → LI hx hm d n t k h b (sd2 n t k) → ∃ h' b', am_it (fun _ _ _ => none) fX4_seatSeeds_55b f d (k : Int) h = some ((), h') ∧ am_it (fun _ _ _ _ _ => none) fX9_lay_108b f' (d : Int) (n : Int) (t : Int) (k : Int) b = fX9_lay_150 (d : Int) (n : Int) (t : Int) b' ∧ LI hx hm d n t Sd h' b' (sd2 n t Sd) := by
  have hb := hn.b
  intro r
  induction r with
  | zero =>
    intro k f f' h b hk hf hf' I
    obtain ⟨f, rfl⟩ : ∃ q, f = q + 1 := ⟨f - 1, by omega⟩
    obtain ⟨f', rfl⟩ : ∃ q, f' = q + 1 := ⟨f' - 1, by omega⟩
    obtain rfl : k = Sd := by omega
    have i1 : ((k : Int) < (k : Int)) = False := eq_false (by omega)
    have h4 : h 4 d = k := by rw [I.1.1 4 (by decide) (by decide)]; exact e4
    have b4 : b 4 d = k := by rw [I.2.1.1 4 (by decide) (by decide), ← r0.kk (k := 4) (by decide) (by decide)]; exact e4
    refine ⟨h, b, ?_, ?_, I⟩
    · rw [am_it_s]
      unfold fX4_seatSeeds_55b
      simp only [h4, i1, ↓reduceIte]
    · rw [am_it_s]
      unfold fX9_lay_108b
      simp only [fd hd, ↓reduceIte, Int.toNat_natCast, b4, i1]
  | succ r ih =>
    intro k f f' h b hk hf hf' I
    obtain ⟨f, rfl⟩ : ∃ q, f = q + 1 := ⟨f - 1, by omega⟩
    obtain ⟨f', rfl⟩ : ∃ q, f' = q + 1 := ⟨f' - 1, by omega⟩
    have hkS : k < Sd := by omega
    have hk4 : k < 4 := by omega
    have hk16 : k < 16 := by omega
    have i1 : ((k : Int) < (Sd : Int)) = True := eq_true (by omega)
    have i2 : ((k : Int) < 4) = True := eq_true (by omega)
    have i0 : ((0 : Int) ≤ (k : Int)) = True := eq_true (by omega)
    have i3 : ((k : Int) < 16) = True := eq_true (by omega)
    have hsp := sp_lt (k := k) hn ht
    have hs16 : sp n t k < 16 := by omega
    have h4 : h 4 d = Sd := by rw [I.1.1 4 (by decide) (by decide)]; exact e4
    have b4 : b 4 d = Sd := by rw [I.2.1.1 4 (by decide) (by decide), ← r0.kk (k := 4) (by decide) (by decide)]; exact e4
    have h6 : h 6 (16 * d + k) = hx 6 (16 * d + k) := by rw [I.1.1 6 (by decide) (by decide)]
    have b6 : b 6 (16 * d + k) = hx 6 (16 * d + k) := by rw [I.2.1.1 6 (by decide) (by decide), ← r0.kk (k := 6) (by decide) (by decide)]
    have h31 := I.2.2.2.1 k hk4
    have l1 : k + 1 + r = Sd := by omega
    have l2 : r < f := by omega
    have l3 : r < f' := by omega
    have nx := fun (h b : am_M) => ih (k + 1) f f' h b l1 l2 l3
    have cw := c_w d k hd hk16
    have c1 := pw1 k (Nat.lt_trans hk16 (by decide))
    rw [am_it_s, am_it_s]
    clear ih
    generalize am_it (fun _ _ _ => none) fX4_seatSeeds_55b f = K at nx ⊢
    generalize am_it (fun _ _ _ _ _ => none) fX9_lay_108b f' = K' at nx ⊢
    unfold fX4_seatSeeds_55b fX9_lay_108b
    simp only [h4, i1, i2, i3, i0, and_self, ↓reduceIte, Int.toNat_natCast, h31, fj hs16, ↓am_l_t, am_up_k _ _ _ _ (show (31 : Nat) ≠ 7 by decide), h6, c1, fd hd, b4, m_sp hn ht hk4, ↓am_b_t, cw, fc hd hk16, b6, q_put d (sp n t k) _ hd hs16]
    clear c1 cw
    obtain ⟨I1, I2, I3, I4, I5, I6, I7⟩ := I
    have e7 : ∀ i, i < n → i ≠ sp n t k → pc (am_up (am_up h 7 (16 * d + sp n t k) (hx 6 (16 * d + k))) 32 (sp n t k) 1) d i = pc h d i := fun i hi hne => by rw [pc_s _ _ _ _ (by decide), pc_up, if_neg hne]
    have e8 : pc (am_up (am_up h 7 (16 * d + sp n t k) (hx 6 (16 * d + k))) 32 (sp n t k) 1) d (sp n t k) = hx 6 (16 * d + k) := by rw [pc_s _ _ _ _ (by decide), pc_up, if_pos rfl]
    refine nx _ _ ⟨(I1.p hs16 _).s _ _ (by decide), I2.p hs16 _, ?_, fun j hj => ?_, ?_, fun i hi => ?_, fun i hi => ?_⟩
    · rw [am_up_ne _ _ _ (by decide), am_up_ne _ _ _ (by decide), am_up_ne _ _ _ (by decide)]; exact I3
    · rw [am_up_ne _ _ _ (by decide), am_up_ne _ _ _ (by decide)]; exact I4 j hj
    · simp only [sd2, List.length_set]; exact I5
    · simp only [sd2]
      rw [getD_set _ _ _ _ (by rw [I5]; exact hsp)]
      by_cases e : i = sp n t k
      · rw [e, e8, if_pos rfl, pc_up, if_pos rfl]
        exact ⟨rfl, Or.inr (Or.inl ⟨rfl, hE k hkS⟩)⟩
      · rw [e7 i hi e, if_neg e, pc_up, if_neg e]
        exact I6 i hi
    · by_cases e : i = sp n t k
      · left
        refine ⟨k, Nat.lt_succ_self _, e.symm, ?_, ?_⟩
        · rw [e]; exact e8
        · rw [e, am_up_s]
      · rw [e7 i hi e, am_up_i _ _ _ e, am_up_ne _ _ _ (by decide)]
        rcases I7 i hi with ⟨q, q1, q2, q3, q4⟩ | ⟨q1, q2, q3⟩
        · exact Or.inl ⟨q, by omega, q2, q3, q4⟩
        · refine Or.inr ⟨fun q hq z => ?_, q2, q3⟩
          by_cases eq : q = k
          · rw [eq] at z; exact e z.symm
          · exact q1 q (by omega) z
/-- a bye is given at a free place x -/
theorem LI.bye {hx hm : am_M} {d n t K x : Nat} {h b : am_M} {L : List Nat} (I : LI hx hm d n t K h b L) (hE : ∀ k, k < K → 0 ≤ hx 6 (16 * d + k)) (hx16 : x < 16) (hxn : x < n) (h0 : pc h d x = -2) : LI hx hm d n t K (am_up h 7 (16 * d + x) (-1)) (am_up b 7 (16 * d + x) (-1)) (L.set x 2) := by
  obtain ⟨I1, I2, I3, I4, I5, I6, I7⟩ := I
  refine ⟨I1.p hx16 _, I2.p hx16 _, ?_, fun j hj => ?_, ?_, fun i hi => ?_, fun i hi => ?_⟩
  · rw [am_up_ne _ _ _ (by decide), am_up_ne _ _ _ (by decide)]; exact I3
  · rw [am_up_ne _ _ _ (by decide)]; exact I4 j hj
  · simp only [List.length_set]; exact I5
  · rw [getD_set _ _ _ _ (by rw [I5]; exact hxn), pc_up, pc_up]
    by_cases e : i = x
    · rw [if_pos e, if_pos e, if_pos e]
      exact ⟨rfl, Or.inr (Or.inr ⟨rfl, rfl⟩)⟩
    · rw [if_neg e, if_neg e, if_neg e]
      exact I6 i hi
  · rw [pc_up, am_up_ne _ _ _ (by decide)]
    by_cases e : i = x
    · rw [if_pos e]
      rcases I7 i hi with ⟨q, q1, q2, q3, q4⟩ | ⟨q1, q2, q3⟩
      · exfalso
        rw [← e, q3] at h0
        have := hE q q1
        rw [h0] at this
        exact absurd this (by decide)
      · exact Or.inr ⟨q1, Or.inr rfl, q3⟩
    · rw [if_neg e]
      exact I7 i hi
