/-! ===== lay: the draw opens ===== -/
/-- first matches below i are opened -/
def OPN (d i : Nat) (h h' : am_M) : Prop := (∀ k, k ≠ 20 → k ≠ 21 → h' k = h k) ∧ (∀ x, (∀ j, j < 16 → x ≠ 16 * d + j) → h' 20 x = h 20 x ∧ h' 21 x = h 21 x) ∧ ∀ j, j < 16 → h' 20 (16 * d + j) = (if j < i ∧ (pc h d (2 * j) = -1 ∨ pc h d (2 * j + 1) = -1) then 6 else 0) ∧ h' 21 (16 * d + j) = if j < i ∧ pc h d (2 * j) = -1 then 1 else 0
theorem OPN.n {d i : Nat} {h h' : am_M} (O : OPN d i h h') (n0 : ¬ pc h d (2 * i) = -1) (n1 : ¬ pc h d (2 * i + 1) = -1) : OPN d (i + 1) h h' := by
  refine ⟨O.1, O.2.1, fun j hj => ?_⟩
  have o := O.2.2 j hj
  by_cases e : j = i
  · subst e
    rw [if_neg (fun z => absurd z.1 (Nat.lt_irrefl _)), if_neg (fun z => absurd z.1 (Nat.lt_irrefl _))] at o
    rw [if_neg (fun z => z.2.elim n0 n1), if_neg (fun z => n0 z.2)]
    exact o
  · have ee : (j < i + 1) = (j < i) := propext ⟨fun z => by omega, fun z => by omega⟩
    simp only [ee]
    exact o
theorem OPN.w {d i : Nat} {h h' : am_M} (O : OPN d i h h') (hi : i < 16) {w : Int} (c : pc h d (2 * i) = -1 ∨ pc h d (2 * i + 1) = -1) (hw : w = if pc h d (2 * i) = -1 then 1 else 0) : OPN d (i + 1) h (am_up (am_up h' 20 (16 * d + i) 6) 21 (16 * d + i) w) := by
  refine ⟨fun k h0 h1 => by rw [am_up_ne _ _ _ h1, am_up_ne _ _ _ h0]; exact O.1 k h0 h1, fun x hx => ?_, fun j hj => ?_⟩
  · rw [am_up_i _ _ _ (hx i hi), am_up_k _ _ _ _ (show (20 : Nat) ≠ 21 by decide), am_up_k _ _ _ _ (show (21 : Nat) ≠ 20 by decide), am_up_i _ _ _ (hx i hi)]
    exact O.2.1 x hx
  · have o := O.2.2 j hj
    rw [am_up_k _ _ _ _ (show (20 : Nat) ≠ 21 by decide)]
    by_cases e : j = i
    · subst e
      rw [am_up_s, am_up_s, if_pos ⟨Nat.lt_succ_self _, c⟩]
      refine ⟨rfl, ?_⟩
      rw [hw]
      by_cases q : pc h d (2 * j) = -1
      · rw [if_pos q, if_pos ⟨Nat.lt_succ_self _, q⟩]
      · rw [if_neg q, if_neg (fun z => q z.2)]
    · have ee : (j < i + 1) = (j < i) := propext ⟨fun z => by omega, fun z => by omega⟩
      have ne : 16 * d + j ≠ 16 * d + i := fun z => e (by omega)
      simp only [ee]
      rw [am_up_i _ _ _ ne, am_up_i _ _ _ ne, am_up_k _ _ _ _ (show (21 : Nat) ≠ 20 by decide)]
      exact o
theorem x_open {d n : Nat} (hn : szn n) (h : am_M) (e1 : h 1 d = n) : ∀ (r i f : Nat) (h' : am_M), i + r = n / 2 → r < f → OPN d i h h' → ∃ h'', am_it (fun _ _ _ => none) fX2_open_7b f d (i : Int) h' = some ((), h'') ∧ OPN d (n / 2) h h'' := by
  have hb := hn.b
  have hw : am_w (Int.tdiv (n : Int) 2) = ((n / 2 : Nat) : Int) := by rw [show (2 : Int) = ((2 : Nat) : Int) from rfl, p_tdiv, pw_n]; omega
  intro r
  induction r with
  | zero =>
    intro i f h' hi hf O
    obtain ⟨f, rfl⟩ : ∃ q, f = q + 1 := ⟨f - 1, by clear hw; omega⟩
    have i1 : ((i : Int) < ((n / 2 : Nat) : Int)) = False := eq_false (by clear hw; omega)
    have ei : i = n / 2 := by clear hw; omega
    have h1 : h' 1 d = n := by rw [O.1 1 (by decide) (by decide)]; exact e1
    rw [am_it_s]
    unfold fX2_open_7b
    simp only [h1, hw, i1, ↓reduceIte]
    exact ⟨h', rfl, ei ▸ O⟩
  | succ r ih =>
    intro i f h' hi hf O
    obtain ⟨f, rfl⟩ : ∃ q, f = q + 1 := ⟨f - 1, by clear hw; omega⟩
    have i1 : ((i : Int) < ((n / 2 : Nat) : Int)) = True := eq_true (by clear hw; omega)
    have i100 : i < 100 := by clear hw; omega
    have i16 : i < 16 := by clear hw; omega
    have p016 : 2 * i < 16 := by clear hw; omega
    have p116 : 2 * i + 1 < 16 := by clear hw; omega
    have nx := fun (h' : am_M) => ih (i + 1) f h' (by clear hw; omega) (by clear hw; omega)
    have h1 : h' 1 d = n := by rw [O.1 1 (by decide) (by decide)]; exact e1
    have p0 : h' 7 (16 * d + 2 * i) = pc h d (2 * i) := by rw [O.1 7 (by decide) (by decide)]; rfl
    have p1 : h' 7 (16 * d + (2 * i + 1)) = pc h d (2 * i + 1) := by rw [O.1 7 (by decide) (by decide)]; rfl
    have aw := aw_2 i i100
    have c1 := pw1 i (Nat.lt_trans i100 (by decide))
    rw [am_it_s]
    clear ih
    generalize am_it (fun _ _ _ => none) fX2_open_7b f = K at nx ⊢
    unfold fX2_open_7b fX2_open_62 fX2_finish
    simp only [h1, hw, i1, aw.2.1, aw.2.2.2, fj p016, fj p116, fj i16, ↓reduceIte, Int.toNat_natCast, p0, p1, ↓am_l_t, ↓am_b_t, c1]
    clear c1 aw hw
    by_cases q0 : pc h d (2 * i) = -1
    · rw [if_pos q0]
      exact nx _ (O.w i16 (Or.inl q0) (by rw [if_pos q0]))
    · rw [if_neg q0]
      by_cases q1 : pc h d (2 * i + 1) = -1
      · rw [if_pos q1]
        exact nx _ (O.w i16 (Or.inr q1) (by rw [if_neg q0]))
      · rw [if_neg q1]
        exact nx _ (O.n q0 q1)
theorem fr7_lc {d d' : Nat} {hx h : am_M} (F : fr7 d hx h) (n : d' ≠ d) : lc h 7 d' 16 = lc hx 7 d' 16 := by
  funext i
  unfold lc
  by_cases c : i < 16
  · rw [if_pos c, if_pos c]
    exact F.2 _ (fun j hj => by omega)
  · rw [if_neg c, if_neg c]
theorem lcx {h h' : am_M} {k d : Nat} (e : ∀ i, i < 16 → h' k (16 * d + i) = h k (16 * d + i)) : lc h' k d 16 = lc h k d 16 := by
  funext i
  unfold lc
  by_cases c : i < 16
  · rw [if_pos c, if_pos c]
    exact e i c
  · rw [if_neg c, if_neg c]
theorem w0L {L : Int} {p : Nat → Int} {q : Int} (hL : L = 2 ∨ L = 3) (hq : q = 0) : ¬ tl_won L (tl_at p q.toNat) := by
  subst hq
  intro z
  rcases z with z | z
  · have e : (0 : Int) = L := z
    omega
  · have e : (0 : Int) = L := z
    omega
theorem RM0 {n : Nat} {L : Int} {P H W R Q B mQ mE mW : Nat → Int} {j : Nat} (hL : L = 2 ∨ L = 3) (hH : (H j = 6 ∧ (j < n / 2 ∧ (P (2 * j) = -1 ∨ P (2 * j + 1) = -1)) ∧ W j = (if P (2 * j) = -1 then 1 else 0)) ∨ (H j = 0 ∧ ¬ (j < n / 2 ∧ (P (2 * j) = -1 ∨ P (2 * j + 1) = -1)) ∧ W j = 0)) (hR : R j = -1) (hQ : Q j = 0) (hM : mE j = 0) : RM n L P H W R Q B mQ mE mW j := by
  have h6 : H j = 6 ∨ H j = 0 := by
    rcases hH with q | q
    · exact Or.inl q.1
    · exact Or.inr q.1
  have w01 : W j = 0 ∨ W j = 1 := by
    rcases hH with q | q
    · rw [q.2.2]
      split
      · exact Or.inr rfl
      · exact Or.inl rfl
    · exact Or.inl q.2.2
  have n345 : ¬ (H j = 3) ∧ ¬ (H j = 4) ∧ ¬ (H j = 5) := by omega
  refine ⟨w01, ?_, ?_, ?_, ?_, fun _ => hR, ?_, ?_, ?_, ?_, ?_, fun _ => w0L hL hQ⟩
  · rcases h6 with q | q
    · exact Or.inr (Or.inr (Or.inr (Or.inr q)))
    · exact Or.inl q
  · rcases hH with q | q
    · exact ⟨fun _ => q.2.1, fun _ => q.1⟩
    · exact ⟨fun z => by rw [q.1] at z; exact absurd z (by decide), fun z => absurd z q.2.1⟩
  · intro z
    rcases hH with q | q
    · exact ⟨q.2.2, hQ⟩
    · rw [q.1] at z; exact absurd z (by decide)
  · intro z
    rcases z with z | z | z | z
    · exact absurd z n345.1
    · exact absurd z n345.2.1
    · exact absurd z n345.2.2
    · rw [hQ] at z; exact absurd z (by decide)
  · rw [if_neg (fun z => z.elim n345.2.1 n345.2.2)]; exact hM
  · intro z
    exact absurd z (fun z => z.elim n345.2.1 n345.2.2)
  · intro i hi
    rw [hQ] at hi
    omega
  · intro k hk
    rw [hQ] at hk
    omega
  · intro z
    exact absurd z n345.1
theorem lay_rel {hx hm : am_M} {d n Sd N : Nat} {L : List Nat} (U : UD hx hm d n Sd N) (h5 : hx 5 d = 0) {h b h' : am_M} (I : FN hx hm d n Sd N L h b) (pp : ∀ q, q < n / 2 → ¬ (L.getD (2 * q) 9 = 2 ∧ L.getD (2 * q + 1) 9 = 2)) (O : OPN d (n / 2) (am_up h 5 d 1) h') : Rel h' (am_up b 5 d 1) := by
  have hb := U.2.2.1.b
  have hd := U.2.1
  have kx : ∀ k, k < 30 → k ≠ 5 → k ≠ 7 → k ≠ 20 → k ≠ 21 → h' k = hx k := fun k k0 k1 k2 k3 k4 => by
    rw [O.1 k k3 k4, am_up_ne _ _ _ k1]; exact I.1.1 k k0 k2
  have km : ∀ k, k < 30 → k ≠ 5 → k ≠ 7 → am_up b 5 d 1 k = hm k := fun k k0 k1 k2 => by
    rw [am_up_ne _ _ _ k1]; exact I.2.1.1 k k0 k2
  have p7 : h' 7 = h 7 := by rw [O.1 7 (by decide) (by decide), am_up_ne _ _ _ (by decide)]
  have m7 : am_up b 5 d 1 7 = b 7 := am_up_ne _ _ _ (by decide)
  refine ⟨fun k hk h7 => ?_, ?_, fun d' hd' => ?_⟩
  · rw [O.1 k (by omega) (by omega)]
    by_cases e : k = 5
    · subst e
      rw [am_up_at, am_up_at, I.1.1 5 (by decide) (by decide), I.2.1.1 5 (by decide) (by decide), U.1.1 5 (by decide) (by decide)]
    · rw [am_up_ne _ _ _ e, am_up_ne _ _ _ e, I.1.1 k (by omega) h7, I.2.1.1 k (by omega) h7]
      exact U.1.1 k hk h7
  · rw [kx 12 (by decide) (by decide) (by decide) (by decide) (by decide), kx 13 (by decide) (by decide) (by decide) (by decide) (by decide), kx 15 (by decide) (by decide) (by decide) (by decide) (by decide), kx 16 (by decide) (by decide) (by decide) (by decide) (by decide), kx 17 (by decide) (by decide) (by decide) (by decide) (by decide), kx 18 (by decide) (by decide) (by decide) (by decide) (by decide), kx 19 (by decide) (by decide) (by decide) (by decide) (by decide)]
    exact U.1.2.1
  · by_cases ed : d' = d
    · subst ed
      have pcx : ∀ i, i < 16 → lc h' 7 d' 16 i = pc h d' i := fun i hi => by rw [lc_at _ _ _ hi, p7]; rfl
      have pcm : ∀ i, i < 16 → lc (am_up b 5 d' 1) 7 d' 16 i = pc b d' i := fun i hi => by rw [lc_at _ _ _ hi, m7]; rfl
      have e5 : h' 5 d' = 1 := by rw [O.1 5 (by decide) (by decide), am_up_s]
      obtain ⟨z1, z2, z3, z4, z5, z6, z7, z8, z9, z10, z11⟩ := U.1.2.2 d' hd'
      have nz : hx 1 d' ≠ 0 := by rw [U.2.2.2.1]; omega
      have hL := z2 nz
      have z10' := z10 h5 nz
      unfold RDx
      rw [e5, kx 1 (by decide) (by decide) (by decide) (by decide) (by decide), kx 2 (by decide) (by decide) (by decide) (by decide) (by decide), kx 3 (by decide) (by decide) (by decide) (by decide) (by decide), kx 4 (by decide) (by decide) (by decide) (by decide) (by decide), lc_eq d' 16 (kx 6 (by decide) (by decide) (by decide) (by decide) (by decide)), lc_eq d' 40 (kx 8 (by decide) (by decide) (by decide) (by decide) (by decide)), lc_eq d' 16 (kx 9 (by decide) (by decide) (by decide) (by decide) (by decide)), lc_eq d' 16 (kx 10 (by decide) (by decide) (by decide) (by decide) (by decide)), lc_eq d' 160 (kx 22 (by decide) (by decide) (by decide) (by decide) (by decide)), lc_eq d' 4800 (km 23 (by decide) (by decide) (by decide)), lc_eq d' 16 (km 24 (by decide) (by decide) (by decide)), lc_eq d' 16 (km 25 (by decide) (by decide) (by decide))]
      refine ⟨z1, z2, z3, z4, Or.inr rfl, z6, z7, z8, z9, fun e => absurd e (by decide), fun _ => ⟨nz, ?_⟩⟩
      rw [U.2.2.2.1, Int.toNat_natCast]
      clear z1 z2 z3 z4 z5 z6 z7 z8 z9 z10 z11
      refine ⟨fun i hi => ?_, fun q hq z => ?_, fun j hj => ?_⟩
      · have i16 : i < 16 := Nat.lt_of_lt_of_le hi hb.2.1
        have o := I.2.2 i hi
        rw [pcx i i16, pcm i i16, ← o.1]
        exact ⟨(okp.b U o.2.2).1, (okp.b U o.2.2).2, rfl⟩
      · have q0 : 2 * q < n := by omega
        have q1 : 2 * q + 1 < n := by omega
        rw [pcx _ (by omega), pcx _ (by omega)] at z
        exact pp q hq ⟨(I.2.2 _ q0).2.1.mp z.1, (I.2.2 _ q1).2.1.mp z.2⟩
      · have j16 : j < 16 := by omega
        have o := O.2.2 j j16
        rw [pc_s _ _ _ _ (by decide), pc_s _ _ _ _ (by decide)] at o
        have zj := z10' j j16
        refine RM0 hL ?_ zj.2.2.1 zj.2.2.2.1 zj.2.2.2.2
        rw [lc_at _ _ _ j16, lc_at _ _ _ j16]
        by_cases c : j < n / 2
        · rw [pcx (2 * j) (by omega), pcx (2 * j + 1) (by omega)]
          by_cases c2 : pc h d' (2 * j) = -1 ∨ pc h d' (2 * j + 1) = -1
          · left
            refine ⟨?_, ⟨c, c2⟩, ?_⟩
            · rw [o.1, if_pos ⟨c, c2⟩]
            · rw [o.2]
              by_cases c3 : pc h d' (2 * j) = -1
              · rw [if_pos ⟨c, c3⟩, if_pos c3]
              · rw [if_neg (fun z => c3 z.2), if_neg c3]
          · right
            refine ⟨?_, fun z => c2 z.2, ?_⟩
            · rw [o.1, if_neg (fun z => c2 z.2)]
            · rw [o.2, if_neg (fun z => c2 (Or.inl z.2))]
        · right
          refine ⟨?_, fun z => c z.1, ?_⟩
          · rw [o.1, if_neg (fun z => c z.1)]
          · rw [o.2, if_neg (fun z => c z.1)]
    · refine (U.1.2.2 d' hd').ofl (fun k k0 k6 => ?_) (fun k hk => ?_) ?_ ?_ (fun k hk => ?_) ?_
      · by_cases e : k = 5
        · subst e
          rw [O.1 5 (by decide) (by decide), am_up_i _ _ _ ed, I.1.1 5 (by decide) (by decide)]
        · rw [kx k (by omega) e (by omega) (by omega) (by omega)]
      · by_cases e7 : k = 7
        · subst e7
          rw [lc_eq d' 16 p7]
          exact fr7_lc I.1 ed
        · by_cases e20 : k = 20
          · subst e20
            refine lcx (fun i hi => ?_)
            rw [(O.2.1 (16 * d' + i) (fun j hj => by omega)).1, am_up_ne _ _ _ (by decide), I.1.1 20 (by decide) (by decide)]
          · by_cases e21 : k = 21
            · subst e21
              refine lcx (fun i hi => ?_)
              rw [(O.2.1 (16 * d' + i) (fun j hj => by omega)).2, am_up_ne _ _ _ (by decide), I.1.1 21 (by decide) (by decide)]
            · exact lc_eq d' 16 (kx k (by omega) (by omega) e7 e20 e21)
      · exact lc_eq d' 40 (kx 8 (by decide) (by decide) (by decide) (by decide) (by decide))
      · exact lc_eq d' 160 (kx 22 (by decide) (by decide) (by decide) (by decide) (by decide))
      · by_cases e7 : k = 7
        · subst e7
          rw [lc_eq d' 16 m7]
          exact fr7_lc I.2.1 ed
        · exact lc_eq d' 16 (km k (by omega) (by omega) e7)
      · exact lc_eq d' 4800 (km 23 (by decide) (by decide) (by decide))
