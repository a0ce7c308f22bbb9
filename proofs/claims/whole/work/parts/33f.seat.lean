/-! ===== lay: the others seated ===== -/
/-- a place's player and whether it is a seed's -/
def okp (hx : am_M) (d Sd N : Nat) (v s : Int) : Prop := (∃ k, k < Sd ∧ v = hx 6 (16 * d + k) ∧ s = 1) ∨ (s = 0 ∧ v = -1) ∨ (s = 0 ∧ ∃ j, Sd ≤ j ∧ j < N ∧ v = hx 6 (16 * d + j))
def zq (L : List Nat) : Nat → Nat
  | 0 => 0
  | i + 1 => if L.getD i 9 = 0 then zq L i + 1 else zq L i
theorem zq_le (L : List Nat) (i : Nat) : ∀ r, zq L i ≤ zq L (i + r) := by
  intro r
  induction r with
  | zero => exact Nat.le_refl _
  | succ r ih =>
    rw [← Nat.add_assoc]
    simp only [zq]
    split <;> omega
def pok5 (n t Sd N : Nat) : Bool := zq (pat n t Sd N).1 n == N - Sd
theorem pz4 : ∀ t, t < 2 → ∀ Sd, Sd < 5 → ∀ N, N < 5 → 3 ≤ N → Sd ≤ N → pok5 4 t Sd N = true := by decide +kernel
theorem pz8 : ∀ t, t < 2 → ∀ Sd, Sd < 5 → ∀ N, N < 9 → 5 ≤ N → Sd ≤ N → pok5 8 t Sd N = true := by decide +kernel
theorem pz16 : ∀ t, t < 2 → ∀ Sd, Sd < 5 → ∀ N, N < 17 → 9 ≤ N → Sd ≤ N → pok5 16 t Sd N = true := by decide +kernel
theorem pz_ok {n t Sd N : Nat} (hn : szn n) (ht : t < 2) (hS : Sd ≤ 4) (hN : N ≤ n) (h2 : n / 2 + 1 ≤ N) (h3 : Sd ≤ N) : zq (pat n t Sd N).1 n = N - Sd := by
  have k : pok5 n t Sd N = true := by
    rcases hn with q | q | q
    · subst q; exact pz4 t ht Sd (by omega) N (by omega) (by omega) h3
    · subst q; exact pz8 t ht Sd (by omega) N (by omega) (by omega) h3
    · subst q; exact pz16 t ht Sd (by omega) N (by omega) (by omega) h3
  unfold pok5 at k
  simpa using k
/-- seating: places below i are filled -/
def SI (hx hm : am_M) (d n Sd N i : Nat) (L : List Nat) (h b : am_M) : Prop := fr7 d hx h ∧ fr7 d hm b ∧ ∀ z, z < n → pc h d z = pc b d z ∧ (pc h d z = -1 ↔ L.getD z 9 = 2) ∧ ((i ≤ z ∧ L.getD z 9 = 0 ∧ pc h d z = -2 ∧ h 32 z = 0) ∨ ((i ≤ z → L.getD z 9 ≠ 0) ∧ pc h d z ≠ -2 ∧ okp hx d Sd N (pc h d z) (h 32 z)))
theorem cls2 {v : Int} {c : Nat} (h : cls v c) : v = -1 ↔ c = 2 := by
  rcases h with z | z | z <;> omega
theorem LI.si {hx hm : am_M} {d n t Sd N : Nat} {h b : am_M} {L : List Nat} (I : LI hx hm d n t Sd h b L) (hE : ∀ k, k < Sd → 0 ≤ hx 6 (16 * d + k)) : SI hx hm d n Sd N 0 L h b := by
  obtain ⟨I1, I2, I3, I4, I5, I6, I7⟩ := I
  refine ⟨I1, I2, fun z hz => ⟨(I6 z hz).1, cls2 (I6 z hz).2, ?_⟩⟩
  rcases I7 z hz with ⟨k, k1, k2, k3, k4⟩ | ⟨k1, k2 | k2, k3⟩
  · have n2 : pc h d z ≠ -2 := fun e => by
      have := hE k k1
      rw [← k3, e] at this
      exact absurd this (by decide)
    exact Or.inr ⟨fun _ e => n2 ((cls0 (I6 z hz).2).mpr e), n2, Or.inl ⟨k, k1, k3, k4⟩⟩
  · exact Or.inl ⟨Nat.zero_le _, (cls0 (I6 z hz).2).mp k2, k2, k3⟩
  · have n2 : pc h d z ≠ -2 := fun e => by rw [k2] at e; exact absurd e (by decide)
    exact Or.inr ⟨fun _ e => n2 ((cls0 (I6 z hz).2).mpr e), n2, Or.inr (Or.inl ⟨k3, k2⟩)⟩
theorem SI.up {hx hm : am_M} {d n Sd N i : Nat} {h b : am_M} {L : List Nat} (I : SI hx hm d n Sd N i L h b) (hf : pc h d i ≠ -2) : SI hx hm d n Sd N (i + 1) L h b := by
  refine ⟨I.1, I.2.1, fun z hz => ⟨(I.2.2 z hz).1, (I.2.2 z hz).2.1, ?_⟩⟩
  rcases (I.2.2 z hz).2.2 with ⟨k1, k2, k3, k4⟩ | ⟨k1, k2⟩
  · refine Or.inl ⟨?_, k2, k3, k4⟩
    by_cases e : z = i
    · rw [e] at k3; exact absurd k3 hf
    · omega
  · exact Or.inr ⟨fun q => k1 (by omega), k2⟩
theorem SI.put {hx hm : am_M} {d n Sd N i j : Nat} {h b : am_M} {L : List Nat} (I : SI hx hm d n Sd N i L h b) (hi16 : i < 16) (hin : i < n) (hj : Sd ≤ j ∧ j < N) (hE : 0 ≤ hx 6 (16 * d + j)) (hf : pc h d i = -2) : SI hx hm d n Sd N (i + 1) L (am_up h 7 (16 * d + i) (hx 6 (16 * d + j))) (am_up b 7 (16 * d + i) (hx 6 (16 * d + j))) := by
  refine ⟨I.1.p hi16 _, I.2.1.p hi16 _, fun z hz => ?_⟩
  rw [pc_up, pc_up, am_up_ne _ _ _ (show (32 : Nat) ≠ 7 by decide)]
  by_cases e : z = i
  · rw [if_pos e, if_pos e]
    rcases (I.2.2 z hz).2.2 with ⟨k1, k2, k3, k4⟩ | ⟨k1, k2, k3⟩
    · refine ⟨rfl, ⟨fun q => ?_, fun q => ?_⟩, Or.inr ⟨fun q => ?_, fun q => ?_, Or.inr (Or.inr ⟨k4, j, hj.1, hj.2, rfl⟩)⟩⟩
      · rw [q] at hE; exact absurd hE (by decide)
      · rw [k2] at q; exact absurd q (by decide)
      · omega
      · rw [q] at hE; exact absurd hE (by decide)
    · rw [e] at k2; exact absurd hf k2
  · rw [if_neg e, if_neg e]
    refine ⟨(I.2.2 z hz).1, (I.2.2 z hz).2.1, ?_⟩
    rcases (I.2.2 z hz).2.2 with ⟨k1, k2⟩ | ⟨k1, k2⟩
    · exact Or.inl ⟨by omega, k2⟩
    · exact Or.inr ⟨fun q => k1 (by omega), k2⟩
theorem x_stop (d c f : Nat) (i : Int) (h : am_M) : am_it (fun _ _ _ _ _ => none) fX4_seatOthers_99b (f + 1) d (c : Int) (c : Int) i h = some ((), h) := by
  have i1 : ((c : Int) < (c : Int)) = False := eq_false (by omega)
  rw [am_it_s]
  unfold fX4_seatOthers_99b
  simp only [i1, ↓reduceIte]
  split <;> rfl
theorem e_seat {hx hm : am_M} {d n Sd N c : Nat} {L : List Nat} (hd : d < 4) (hn : szn n) (e1 : hx 1 d = n) (hE : ∀ k, k < N → 0 ≤ hx 6 (16 * d + k)) (hz : zq L n = c) (hc : c ≤ 16) (B : Int) : ∀ (r i f f' : Nat) (h b : am_M), i + r = n → r < f → r < f' → SI hx hm d n Sd N i L h b → OT hx d Sd N c h b → ∃ h' b', am_it (fun _ _ _ _ _ => none) fX4_seatOthers_99b f d (c : Int) (zq L i : Int) (i : Int) h = some ((), h') ∧ am_it (fun _ _ _ _ _ _ => none) fX9_lay_308b f' (d : Int) (n : Int) B (zq L i : Int) (i : Int) b = fX9_lay_352 (d : Int) (n : Int) B b' ∧ SI hx hm d n Sd N n L h' b' := by
  have hb := hn.b
  intro r
  induction r with
  | zero =>
    intro i f f' h b hi hf hf' I O
    obtain ⟨f, rfl⟩ : ∃ q, f = q + 1 := ⟨f - 1, by omega⟩
    obtain ⟨f', rfl⟩ : ∃ q, f' = q + 1 := ⟨f' - 1, by omega⟩
    obtain rfl : i = n := by omega
    have i1 : ((i : Int) < (i : Int)) = False := eq_false (by omega)
    have h1 : h 1 d = i := by rw [I.1.1 1 (by decide) (by decide)]; exact e1
    refine ⟨h, b, ?_, ?_, I⟩
    · rw [am_it_s]
      unfold fX4_seatOthers_99b
      simp only [h1, i1, ↓reduceIte]
    · rw [am_it_s]
      unfold fX9_lay_308b
      simp only [i1, ↓reduceIte]
  | succ r ih =>
    intro i f f' h b hi hf hf' I O
    have l1 : i + 1 + r = n := by omega
    have hin : i < n := by omega
    have hi16 : i < 16 := by omega
    have i1 : ((i : Int) < (n : Int)) = True := eq_true (by omega)
    obtain ⟨f, rfl⟩ : ∃ q, f = q + 1 := ⟨f - 1, by omega⟩
    obtain ⟨f', rfl⟩ : ∃ q, f' = q + 1 := ⟨f' - 1, by omega⟩
    have l2 : r < f := by omega
    have l3 : r < f' := by omega
    have h1 : h 1 d = n := by rw [I.1.1 1 (by decide) (by decide)]; exact e1
    have hat : fX9_at (d : Int) (i : Int) b = some (pc b d i, b) := q_at d i hd hi16 b
    have ep := (I.2.2 i hin).1
    have zle : zq L (i + 1) ≤ c := by
      have := zq_le L (i + 1) r
      rw [l1, hz] at this
      exact this
    have nx := fun (h b : am_M) => ih (i + 1) f f' h b l1 l2 l3
    have c1 := pw1 i (Nat.lt_trans hi16 (by decide))
    by_cases cf : pc h d i = -2
    · have cb : pc b d i = -2 := by rw [← ep]; exact cf
      have cf1 : h 7 (16 * d + i) = -2 := cf
      have gz : L.getD i 9 = 0 := by
        rcases (I.2.2 i hin).2.2 with ⟨_, q, _⟩ | ⟨_, q, _⟩
        · exact q
        · exact absurd cf q
      have ez : zq L (i + 1) = zq L i + 1 := by simp only [zq]; rw [if_pos gz]
      have sc1 : zq L i < c := by omega
      have s16 : zq L i < 16 := by omega
      have i2 : ((zq L i : Int) < (c : Int)) = True := eq_true (by clear c1; omega)
      obtain ⟨o1, j, j1, j2, j3⟩ := O (zq L i) sc1
      have o2 : b 30 (zq L i) = hx 6 (16 * d + j) := by rw [← o1]; exact j3
      have c2 := pw1 (zq L i) (Nat.lt_trans s16 (by decide))
      rw [ez] at nx
      rw [am_it_s, am_it_s]
      clear ih
      generalize am_it (fun _ _ _ _ _ => none) fX4_seatOthers_99b f = K at nx ⊢
      generalize am_it (fun _ _ _ _ _ _ => none) fX9_lay_308b f' = K' at nx ⊢
      unfold fX4_seatOthers_99b fX4_seatOthers_141 fX9_lay_308b fX9_lay_346
      simp only [h1, i1, i2, ↓reduceIte, fj hi16, fj s16, Int.toNat_natCast, eqT cf1, j3, ↓am_l_t, hat, ↓am_b_t, eqT cb, o2, q_put d i _ hd hi16, c1, c2]
      clear c1 c2
      refine nx _ _ (I.put hi16 hin ⟨j1, j2⟩ (hE j j2) cf) (fun z hz1 => ?_)
      rw [am_up_ne _ _ _ (show (30 : Nat) ≠ 7 by decide), am_up_ne _ _ _ (show (30 : Nat) ≠ 7 by decide)]
      exact O z hz1
    · have cb : ¬ pc b d i = -2 := by rw [← ep]; exact cf
      have cf1 : ¬ h 7 (16 * d + i) = -2 := cf
      have gz : ¬ L.getD i 9 = 0 := by
        rcases (I.2.2 i hin).2.2 with ⟨_, _, q, _⟩ | ⟨q, _⟩
        · exact absurd q cf
        · exact q (Nat.le_refl _)
      have ez : zq L (i + 1) = zq L i := by simp only [zq]; rw [if_neg gz]
      rw [ez] at nx
      obtain ⟨h', b', y1, y2, y3⟩ := nx h b (I.up cf) O
      refine ⟨h', b', ?_, ?_, y3⟩
      · by_cases cs : zq L i = c
        · rw [cs] at y1 ⊢
          obtain ⟨f, rfl⟩ : ∃ q, f = q + 1 := ⟨f - 1, by clear c1; omega⟩
          rw [x_stop] at y1
          rw [x_stop]
          exact y1
        · have i2 : ((zq L i : Int) < (c : Int)) = True := eq_true (by clear c1; omega)
          rw [am_it_s]
          clear ih nx
          generalize am_it (fun _ _ _ _ _ => none) fX4_seatOthers_99b f = K at y1 ⊢
          unfold fX4_seatOthers_99b fX4_seatOthers_141
          simp only [h1, i1, i2, ↓reduceIte, fj hi16, Int.toNat_natCast, eqF cf1, c1]
          exact y1
      · rw [am_it_s]
        clear ih nx
        generalize am_it (fun _ _ _ _ _ _ => none) fX9_lay_308b f' = K' at y2 ⊢
        unfold fX9_lay_308b fX9_lay_346
        simp only [i1, ↓reduceIte, hat, ↓am_b_t, eqF cb, c1]
        exact y2
