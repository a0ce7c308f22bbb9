/-! ===== lay: all ===== -/
theorem s_w {n t : Nat} (hn : szn n) (ht : t < 2) : am_w (Int.tdiv (n : Int) 2) = ((n / 2 : Nat) : Int) ∧ am_w ((n : Int) - 1) = ((sp n t 1 : Nat) : Int) ∧ am_w (((n / 2 : Nat) : Int) - (t : Int)) = ((sp n t 2 : Nat) : Int) ∧ am_w (am_w (((n / 2 : Nat) : Int) - 1) + (t : Int)) = ((sp n t 3 : Nat) : Int) := by
  have hb := hn.b
  have w2 : am_w (Int.tdiv (n : Int) 2) = ((n / 2 : Nat) : Int) := by rw [show (2 : Int) = ((2 : Nat) : Int) from rfl, p_tdiv, pw_n]; omega
  have w3 : am_w (((n / 2 : Nat) : Int) - 1) = ((n / 2 - 1 : Nat) : Int) := by clear w2; rw [pw (by omega) (by omega)]; omega
  refine ⟨w2, n1_w hn, ?_, ?_⟩
  · clear w2 w3
    show _ = ((n / 2 - t : Nat) : Int)
    rw [pw (by omega) (by omega)]; omega
  · rw [w3]
    clear w2 w3
    show _ = ((n / 2 - 1 + t : Nat) : Int)
    rw [pw (by omega) (by omega)]; omega
theorem e_sd {hx hm : am_M} {d n Sd N : Nat} (U : UD hx hm d n Sd N) {h1 b1 : am_M} (F : fr7 d hx h1) (G : fr7 d hm b1) (e33 : h1 33 0 = b1 33 0) (P : ∀ j, j < 16 → pc h1 d j = -2 ∧ h1 32 j = 0) (Q : ∀ j, j < n → pc b1 d j = -2) : ∃ (h b : am_M) (t : Nat), t < 2 ∧ fX4_seatSeeds d h1 = some ((), h) ∧ fX9_lay_90 (d : Int) (n : Int) b1 = fX9_lay_150 (d : Int) (n : Int) (t : Int) b ∧ LI hx hm d n t Sd h b (sd2 n t Sd) := by
  obtain ⟨r0, hd, hn, u1, u3, u4, uS, uSN, uNn, uE, uI⟩ := U
  have hb := hn.b
  obtain ⟨t, et, ht⟩ := num_b (lcg (h1 33 0)) 2 (by decide)
  have nb := x_num h1 2 (by decide)
  have nm := m_num b1 2 (by decide)
  rw [← e33] at nm
  rw [et] at nb nm
  rw [show ((2 : Nat) : Int) = 2 from rfl] at nb nm
  clear et
  have sw := s_w hn ht
  have x1 : h1 1 d = n := by rw [F.1 1 (by decide) (by decide)]; exact u1
  have I0 : LI hx hm d n t 0 (am_up (am_up (am_up (am_up (am_up h1 33 0 (lcg (h1 33 0))) 31 0 0) 31 1 ((sp n t 1 : Nat) : Int)) 31 2 ((sp n t 2 : Nat) : Int)) 31 3 ((sp n t 3 : Nat) : Int)) (am_up b1 33 0 (lcg (h1 33 0))) (sd2 n t 0) := by
    clear sw nb nm
    refine ⟨((((F.s _ _ (by decide)).s _ _ (by decide)).s _ _ (by decide)).s _ _ (by decide)).s _ _ (by decide), G.s _ _ (by decide), ?_, fun j hj => ?_, ?_, fun i hi => ?_, fun i hi => ?_⟩
    · rw [am_up_s, am_up_ne _ _ _ (by decide), am_up_ne _ _ _ (by decide), am_up_ne _ _ _ (by decide), am_up_ne _ _ _ (by decide), am_up_s]
    · have j4 : j = 0 ∨ j = 1 ∨ j = 2 ∨ j = 3 := by omega
      rcases j4 with rfl | rfl | rfl | rfl
      · rw [am_up_i _ _ _ (by decide), am_up_i _ _ _ (by decide), am_up_i _ _ _ (by decide), am_up_s]; rfl
      · rw [am_up_i _ _ _ (by decide), am_up_i _ _ _ (by decide), am_up_s]
      · rw [am_up_i _ _ _ (by decide), am_up_s]
      · rw [am_up_s]
    · simp only [sd2, List.length_replicate]
    · rw [pc_s _ _ _ _ (by decide), pc_s _ _ _ _ (by decide), pc_s _ _ _ _ (by decide), pc_s _ _ _ _ (by decide), pc_s _ _ _ _ (by decide), pc_s _ _ _ _ (by decide), (P i (by omega)).1, Q i hi]
      refine ⟨rfl, Or.inl ⟨?_, rfl⟩⟩
      simp [sd2, List.getD, hi]
    · rw [pc_s _ _ _ _ (by decide), pc_s _ _ _ _ (by decide), pc_s _ _ _ _ (by decide), pc_s _ _ _ _ (by decide), pc_s _ _ _ _ (by decide), am_up_ne _ _ _ (by decide), am_up_ne _ _ _ (by decide), am_up_ne _ _ _ (by decide), am_up_ne _ _ _ (by decide), am_up_ne _ _ _ (by decide), (P i (by omega)).1, (P i (by omega)).2]
      exact Or.inr ⟨fun k hk => absurd hk (Nat.not_lt_zero _), Or.inl rfl, rfl⟩
  obtain ⟨h, b, y1, y2, I⟩ := e_l2 r0 hd hn ht u4 uS (fun k hk => uE k (Nat.lt_of_lt_of_le hk uSN)) Sd 0 400 400 _ _ (Nat.zero_add _) (by omega) (by omega) I0
  rw [show ((0 : Nat) : Int) = 0 from rfl] at y1 y2
  refine ⟨h, b, t, ht, ?_, ?_, I⟩
  · unfold fX4_seatSeeds fX4_seatSeeds_55
    simp only [↓am_l_t, nb, ↓am_b_t, am_up_k _ _ _ _ (show (1 : Nat) ≠ 31 by decide), am_up_k _ _ _ _ (show (1 : Nat) ≠ 33 by decide), x1, sw.1, sw.2.1, sw.2.2.1, sw.2.2.2]
    exact y1
  · unfold fX9_lay_90 fX9_lay_103 fX9_lay_108
    simp only [nm, ↓am_b_t]
    have t01 : t = 0 ∨ t = 1 := by clear sw; omega
    rcases t01 with rfl | rfl
    · rw [if_pos (by decide)]; exact y2
    · rw [if_neg (by decide)]; exact y2
theorem e_arr {hx hm : am_M} {d n Sd N : Nat} (U : UD hx hm d n Sd N) (h2 : n / 2 + 1 ≤ N) (a : Int) : ∃ (h b : am_M) (t : Nat), t < 2 ∧ fX4_arrange d a hx = some ((), h) ∧ fX9_lay_69 (d : Int) (n : Int) 0 (am_up hm 33 0 a) = fX9_lay_376 (d : Int) ((n - N : Nat) : Int) b ∧ FN hx hm d n Sd N (pat n t Sd N).1 h b := by
  have U0 := U
  obtain ⟨r0, hd, hn, u1, u3, u4, uS, uSN, uNn, uE, uI⟩ := U0
  have hb := hn.b
  have uE0 : ∀ k, k < Sd → 0 ≤ hx 6 (16 * d + k) := fun k hk => (uE k (Nat.lt_of_lt_of_le hk uSN)).1
  have wn : am_w ((n : Int) - (N : Int)) = ((n - N : Nat) : Int) := by rw [pw (by omega) (by omega)]; omega
  obtain ⟨h1, y1, F1, k1, P1⟩ := x_l1 d hd (am_up hx 33 0 a) 16 0 400 (am_up hx 33 0 a) (by decide) (by decide) (fr7.rf _ _) rfl (fun j hj => absurd hj (Nat.not_lt_zero _))
  obtain ⟨b1, m1, G1, l1, Q1⟩ := m_l1 d n hd hb.2.1 (am_up hm 33 0 a) n 0 400 (am_up hm 33 0 a) (Nat.zero_add _) (by clear wn; omega) (fr7.rf _ _) rfl (fun j hj => absurd hj (Nat.not_lt_zero _))
  rw [show ((0 : Nat) : Int) = 0 from rfl] at y1 m1
  have F1' : fr7 d hx h1 := ((fr7.rf d hx).s 0 a (by decide)).tr F1
  have G1' : fr7 d hm b1 := ((fr7.rf d hm).s 0 a (by decide)).tr G1
  have e33 : h1 33 0 = b1 33 0 := by rw [k1, l1, am_up_s, am_up_s]
  obtain ⟨h2', b2, t, ht, y2, m2, I2⟩ := e_sd U F1' G1' e33 P1 Q1
  have x1 : h2' 1 d = n := by rw [I2.1.1 1 (by decide) (by decide)]; exact u1
  have x3 : h2' 3 d = N := by rw [I2.1.1 3 (by decide) (by decide)]; exact u3
  have z3 : b2 3 d = N := by rw [I2.2.1.1 3 (by decide) (by decide), ← r0.kk (k := 3) (by decide) (by decide)]; exact u3
  obtain ⟨h3, b3, y3, m3, le3, I3⟩ := e_l3 r0 hd hn ht u4 uS uE0 (sd2 n t Sd, n - N) (show n - N ≤ 16 by clear wn; omega) ((n - N : Nat) : Int) Sd 0 400 400 h2' b2 (Nat.zero_add _) (by clear wn; omega) (by clear wn; omega) (show n - N ≤ 16 by clear wn; omega) I2
  rw [show ((0 : Nat) : Int) = 0 from rfl, show (st3 n t (sd2 n t Sd, n - N) 0).2 = n - N from rfl] at y3 m3
  obtain ⟨h4, b4, y4, m4, I4⟩ := e_l4 r0 hd hn u1 uE0 (st3 n t (sd2 n t Sd, n - N) Sd) ((n - N : Nat) : Int) (n / 2) 0 400 400 h3 b3 (Nat.zero_add _) (by clear wn; omega) (by clear wn; omega) le3 I3
  rw [show ((2 * 0 : Nat) : Int) = 0 from rfl, show (st4 (st3 n t (sd2 n t Sd, n - N) Sd) 0) = st3 n t (sd2 n t Sd, n - N) Sd from rfl] at y4 m4
  have I4' : LI hx hm d n t Sd h4 b4 (pat n t Sd N).1 := I4
  clear I4
  have hc : Sd + (N - Sd) = N := by clear wn; omega
  have N16 : N ≤ 16 := by clear wn; omega
  have c16 : N - Sd ≤ 16 := by clear wn; omega
  obtain ⟨h5, b5, y5, m5, I5, O5⟩ := e_mix r0 hd u3 u4 hc N16 I4'
  have zz := pz_ok hn ht uS uNn h2 uSN
  obtain ⟨h6, b6, y6, m6, I6⟩ := e_seat (N := N) hd hn u1 (fun k hk => (uE k hk).1) zz c16 ((n - N : Nat) : Int) n 0 400 400 h5 b5 (Nat.zero_add _) (by clear wn; omega) (by clear wn; omega) (I5.si uE0) O5
  rw [show ((0 : Nat) : Int) = 0 from rfl, show zq (pat n t Sd N).1 0 = 0 from rfl, show ((0 : Nat) : Int) = 0 from rfl] at y6 m6
  obtain ⟨h7, b7, y7, m7, I7⟩ := e_pl U ((n - N : Nat) : Int) (n / 2) 0 400 400 h6 b6 (Nat.zero_add _) (by clear wn; omega) (by clear wn; omega) I6.f
  rw [show ((2 * 0 : Nat) : Int) = 0 from rfl] at y7 m7
  refine ⟨h7, b7, t, ht, ?_, ?_, I7⟩
  · unfold fX4_arrange fX4_arrange_8
    rw [am_l_eq, y1]
    unfold fX4_arrange_38
    rw [y2, am_b_some]
    unfold fX4_giveByes fX4_giveByes_12
    rw [am_l_eq, x1, x3, wn, y3]
    unfold fX4_giveByes_68 fX4_giveByes_70
    rw [y4, am_b_some, y5]
    unfold fX4_seatOthers_94 fX4_seatOthers_99
    rw [y6, am_b_some]
    unfold fX4_partLands fX4_partLands_2
    rw [y7, am_b_some]
  · unfold fX9_lay_69
    rw [m1, m2]
    unfold fX9_lay_150
    rw [if_pos ⟨by clear wn; omega, by clear wn; omega⟩, am_l_eq, Int.toNat_natCast, z3, wn]
    unfold fX9_lay_167
    rw [m3]
    unfold fX9_lay_227 fX9_lay_230
    rw [m4]
    unfold fX9_lay_297
    rw [m5, am_b_some]
    unfold fX9_lay_308
    rw [m6]
    unfold fX9_lay_352 fX9_lay_355
    rw [m7]
theorem e_lay {hx hm : am_M} (r : Rel hx hm) (a b : Int) : Same (fX8_lay a b hx) (fX9_lay a b hm) := by
  unfold fX8_lay fX9_lay
  rcases dt r a with ⟨d, n, rfl, D⟩ | ⟨e1, e2⟩
  · have hb := D.2.2.1.b
    have hd := D.2.1
    have hR := r.2.2 d hd
    obtain ⟨N, hN⟩ := p_nat hR.2.2.1.1
    obtain ⟨Sd, hS⟩ := p_nat hR.2.2.2.1.1
    have s4 : Sd ≤ 4 := by have := hR.2.2.2.1.2; omega
    have x1 := D.2.2.2
    have Nn : N ≤ n := by have := hR.2.2.1.2; omega
    have m1 : hm 1 d = n := by rw [← r.kk (k := 1) (by decide) (by decide)]; exact x1
    have m3 : hm 3 d = N := by rw [← r.kk (k := 3) (by decide) (by decide)]; exact hN
    have m4 : hm 4 d = Sd := by rw [← r.kk (k := 4) (by decide) (by decide)]; exact hS
    have m5 : hm 5 d = hx 5 d := (r.kk (k := 5) (by decide) (by decide) d).symm
    have w1 : am_w (Int.tdiv (n : Int) 2) = ((n / 2 : Nat) : Int) := by rw [show (2 : Int) = ((2 : Nat) : Int) from rfl, p_tdiv, pw_n]; omega
    have w2 := pw1 (n / 2) (by clear w1; omega)
    simp only [D.fnd hx (sc.rf _), ↓am_b_t, am_on_some D.2.1, D.isd hm (sc.rf _), z10, fd D.2.1, ↓reduceIte, Int.toNat_natCast, ↓am_l_t, x1, m1, hN, m3, hS, m4, m5, w1, w2]
    clear w2
    by_cases c5 : hx 5 d = 0
    · rw [if_pos c5, if_pos c5]
      by_cases c1 : (N : Int) < ((n / 2 + 1 : Nat) : Int)
      · rw [if_pos c1, if_pos c1]
        exact Same.mk rfl r
      · rw [if_neg c1, if_neg c1]
        by_cases c2 : (N : Int) < (Sd : Int)
        · rw [if_pos c2, if_pos c2]
          exact Same.mk rfl r
        · rw [if_neg c2, if_neg c2]
          have h2 : n / 2 + 1 ≤ N := by clear w1; omega
          have U : UD hx hm d n Sd N := by
            refine ⟨r, hd, D.2.2.1, x1, hN, hS, s4, by clear w1; omega, Nn, fun k hk => ?_, fun i j hi hj e => ?_⟩
            · have := hR.2.2.2.2.2.1 k (by rw [hN]; clear w1; omega)
              rw [lc_at _ _ _ (by clear w1; omega)] at this
              exact ⟨this.1, this.2.1⟩
            · refine hR.2.2.2.2.2.2.1 i j (by rw [hN]; clear w1; omega) (by rw [hN]; clear w1; omega) ?_
              rw [lc_at _ _ _ (by clear w1; omega), lc_at _ _ _ (by clear w1; omega)]
              exact e
          obtain ⟨h, b', t, ht, y1, y2, I⟩ := e_arr U h2 b
          have un := hR.2.2.2.2.2.2.2.2.2.1 c5 (by rw [x1]; clear w1; omega)
          have O0 : OPN d 0 (am_up h 5 d 1) (am_up h 5 d 1) := by
            refine ⟨fun _ _ _ => rfl, fun _ _ => ⟨rfl, rfl⟩, fun j hj => ?_⟩
            have uj := un j hj
            rw [lc_at _ _ _ hj, lc_at _ _ _ hj] at uj
            rw [if_neg (fun z => absurd z.1 (Nat.not_lt_zero _)), if_neg (fun z => absurd z.1 (Nat.not_lt_zero _)), am_up_ne _ _ _ (by decide), am_up_ne _ _ _ (by decide), I.1.1 20 (by decide) (by decide), I.1.1 21 (by decide) (by decide)]
            exact ⟨uj.1, uj.2.1⟩
          have h1d : am_up h 5 d 1 1 d = n := by rw [am_up_ne _ _ _ (by decide), I.1.1 1 (by decide) (by decide)]; exact x1
          obtain ⟨h', y3, O⟩ := x_open D.2.2.1 (am_up h 5 d 1) h1d (n / 2) 0 400 (am_up h 5 d 1) (Nat.zero_add _) (by clear w1; omega) O0
          rw [show ((0 : Nat) : Int) = 0 from rfl] at y3
          have k1 : h' 1 d = n := by rw [O.1 1 (by decide) (by decide)]; exact h1d
          have k3 : h' 3 d = N := by rw [O.1 3 (by decide) (by decide), am_up_ne _ _ _ (by decide), I.1.1 3 (by decide) (by decide)]; exact hN
          have wn : am_w ((n : Int) - (N : Int)) = ((n - N : Nat) : Int) := by clear w1; rw [pw (by omega) (by omega)]; omega
          rw [y1, am_b_some]
          unfold fX2_open fX2_open_7
          rw [am_l_eq, y3, am_b_some, k1, k3, wn, y2]
          unfold fX9_lay_376
          rw [if_pos ⟨by clear w1 wn; omega, by clear w1 wn; omega⟩, am_l_eq, Int.toNat_natCast]
          exact Same.mk rfl (lay_rel U c5 I (pat_ok D.2.2.1 ht s4 Nn h2 (by clear w1 wn; omega)).2 O)
    · rw [if_neg c5, if_neg c5]
      exact Same.mk rfl r
  · rw [e1 _ (sc.rf _), am_b_some, am_on_none, e2 _ (sc.rf _), am_b_some, if_pos rfl]
    exact Same.mk rfl r
