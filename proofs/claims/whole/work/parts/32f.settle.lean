/-! ===== both settle a slot alike ===== -/
theorem TI.keep {hx hm h b h' : am_M} {T : Nat} (I : TI hx hm h b T) (s' : sc0 hx h') (e41 : h' 41 = h 41) (e : ∀ s, s < T → h' 42 s = h 42 s ∧ h' 43 s = h 43 s ∧ h' 44 s = h 44 s ∧ h' 45 s = h 45 s ∧ h' 46 s = h 46 s) (e47 : h' 47 = h 47) : TI hx hm h' b T := by
  obtain ⟨i1, i2, i3, i4, i5, i6⟩ := I
  refine ⟨s', i2, fun p hp => by rw [e41]; exact i3 p hp, i4, fun s h1 h2 => ?_, fun c hc => by rw [e47]; exact i6 c hc⟩
  have := i5 s h1 h2
  obtain ⟨a1, a2, a3, a4, a5⟩ := e s h2
  unfold SL at *
  rw [a1, a2, a3, a4, a5]
  exact this
theorem x_early {hx hm h b : am_M} {d n j c k : Nat} (Q : Dr hx hm d n) (hj : j < n - 1) (hc : c < 6) (hk : k < 6) (I : TI hx hm h b (6 * k + c)) : ∃ v, fX5_earliest d ((16 * d + j : Nat) : Int) ((6 * k + c : Nat) : Int) (hx 18 0) h = some (v, am_up (am_up h 45 (6 * k + c) (sd hx d n j 0)) 46 (6 * k + c) (sd hx d n j 1)) ∧ IsMx (max (max (h 47 c) (rdv hx (sd hx d n j 0))) (rdv hx (sd hx d n j 1))) (Px hx h d n j (6 * k + c)) v := by
  have h36 : 6 * k + c < 36 := by omega
  have dd := d6 (6 * k + c) h36
  have e6 : (6 * k + c) % 6 = c := by omega
  have i6 : (0 ≤ (c : Int) ∧ (c : Int) < 6) = True := eq_true (by omega)
  have s1 : sc0 hx (am_up h 45 (6 * k + c) (sd hx d n j 0)) := I.1.up _ _ (by decide)
  have s2 : sc0 hx (am_up (am_up h 45 (6 * k + c) (sd hx d n j 0)) 46 (6 * k + c) (sd hx d n j 1)) := s1.up _ _ (by decide)
  have st0 := p_stz Q hj (show 0 < 2 by decide) h I.1
  have st1 := p_stz Q hj (show 1 < 2 by decide) _ s1
  rw [show ((0 : Nat) : Int) = 0 from rfl] at st0
  rw [show ((1 : Nat) : Int) = 1 from rfl] at st1
  have p41 : ∀ p, p < 40 → (am_up (am_up h 45 (6 * k + c) (sd hx d n j 0)) 46 (6 * k + c) (sd hx d n j 1)) 41 (40 * 1 + p) = ls hx p 64 := by
    intro p hp
    rw [am_up_ne _ _ _ (by decide), am_up_ne _ _ _ (by decide)]
    exact I.2.2.1 p hp
  have r0 := p_ready Q.1 (sd hx d n j 0) p41
  have r1 := p_ready Q.1 (sd hx d n j 1) p41
  have g45 : (am_up (am_up h 45 (6 * k + c) (sd hx d n j 0)) 46 (6 * k + c) (sd hx d n j 1)) 45 (6 * k + c) = sd hx d n j 0 := by rw [am_up_k _ _ _ _ (by decide), am_up_s]
  have g46 : (am_up (am_up h 45 (6 * k + c) (sd hx d n j 0)) 46 (6 * k + c) (sd hx d n j 1)) 46 (6 * k + c) = sd hx d n j 1 := by rw [am_up_s]
  have g47 : (am_up (am_up h 45 (6 * k + c) (sd hx d n j 0)) 46 (6 * k + c) (sd hx d n j 1)) 47 c = h 47 c := by rw [am_up_k _ _ _ _ (by decide), am_up_k _ _ _ _ (by decide)]
  have g44 : (am_up (am_up h 45 (6 * k + c) (sd hx d n j 0)) 46 (6 * k + c) (sd hx d n j 1)) 44 = h 44 := by rw [am_up_ne _ _ _ (by decide), am_up_ne _ _ _ (by decide)]
  have g43 : (am_up (am_up h 45 (6 * k + c) (sd hx d n j 0)) 46 (6 * k + c) (sd hx d n j 1)) 43 = h 43 := by rw [am_up_ne _ _ _ (by decide), am_up_ne _ _ _ (by decide)]
  have hP : ∀ s x, Px hx (am_up (am_up h 45 (6 * k + c) (sd hx d n j 0)) 46 (6 * k + c) (sd hx d n j 1)) d n j s x ↔ Px hx h d n j s x := by
    intro s x
    unfold Px
    rw [g44, g43]
  have I8 : TI hx hm (am_up (am_up h 45 (6 * k + c) (sd hx d n j 0)) 46 (6 * k + c) (sd hx d n j 1)) b (6 * k + c) := by
    refine I.keep s2 ?_ (fun s hs => ⟨?_, ?_, ?_, ?_, ?_⟩) ?_
    · rw [am_up_ne _ _ _ (by decide), am_up_ne _ _ _ (by decide)]
    · rw [am_up_ne _ _ _ (by decide), am_up_ne _ _ _ (by decide)]
    · rw [g43]
    · rw [g44]
    · rw [am_up_k _ _ _ _ (by decide), am_up_i _ _ _ (by omega)]
    · rw [am_up_i _ _ _ (by omega), am_up_k _ _ _ _ (by decide)]
    · rw [am_up_ne _ _ _ (by decide), am_up_ne _ _ _ (by decide)]
  obtain ⟨v, e, M⟩ := x_el Q hj h36 s2 I8.2.2.2.2.1 g45 g46 (max (max (h 47 c) (rdv hx (sd hx d n j 0))) (rdv hx (sd hx d n j 1))) (6 * k + c) 0 400 _ (by omega) (by omega) (IsMx.z (fun x z => by obtain ⟨i, hi, _⟩ := z; exact absurd hi (Nat.not_lt_zero _)))
  rw [show ((0 : Nat) : Int) = 0 from rfl] at e
  refine ⟨v, ?_, M.cg (fun x => (hP _ x).symm)⟩
  unfold fX5_earliest
  simp only [Q.no hj, ↓am_b_t, st0, fa h36, ↓reduceIte, ↓am_l_t, Int.toNat_natCast, st1, dd.2, e6, i6, g45, g46, g47, r0, r1]
  unfold fX5_earliest_90
  exact e
/-- how long a match is foretold to take -/
def ft (hx : am_M) (d : Nat) : Int := if hx 2 d = 2 then hx 18 1 else hx 18 2
theorem e_settle {hx hm h b : am_M} (r : Rel hx hm) {c k : Nat} (hc : c < 6) (hk : k < 6) (I : TI hx hm h b (6 * k + c)) : ∃ h', fX5_settle ((6 * k + c : Nat) : Int) h = some ((), h') ∧ (∀ s, s ≠ 6 * k + c → h' 42 s = h 42 s ∧ h' 43 s = h 43 s) ∧ ((k : Int) < hx 16 c → ∃ b', fX9_laySlot (c : Int) (k : Int) b = some ((), b') ∧ TI hx hm h' b' (6 * k + c + 1)) ∧ (¬ (k : Int) < hx 16 c → TI hx hm h' b (6 * k + c + 1)) := by
  have h36 : 6 * k + c < 36 := by omega
  have a36 : 6 * c + k < 36 := by omega
  have dd := d6 (6 * k + c) h36
  have e6 : (6 * k + c) % 6 = c := by omega
  have e7 : (6 * k + c) / 6 = k := by omega
  have i6 : (0 ≤ (c : Int) ∧ (c : Int) < 6) = True := eq_true (by omega)
  have ik : (0 ≤ (k : Int) ∧ (k : Int) < 6) = True := eq_true (by omega)
  have ik0 : ((k : Int) < 0) = False := eq_false (by omega)
  rw [e6, e7] at dd
  -- the class's first writes
  generalize eh3 : am_up (am_up (am_up h 42 (6 * k + c) (-1)) 43 (6 * k + c) (-1)) 44 (6 * k + c) (-1) = h3
  have s3 : sc0 hx h3 := by rw [← eh3]; exact ((I.1.up _ _ (by decide)).up _ _ (by decide)).up _ _ (by decide)
  have k41 : h3 41 = h 41 := by rw [← eh3, am_up_ne _ _ _ (by decide), am_up_ne _ _ _ (by decide), am_up_ne _ _ _ (by decide)]
  have k45 : h3 45 = h 45 := by rw [← eh3, am_up_ne _ _ _ (by decide), am_up_ne _ _ _ (by decide), am_up_ne _ _ _ (by decide)]
  have k46 : h3 46 = h 46 := by rw [← eh3, am_up_ne _ _ _ (by decide), am_up_ne _ _ _ (by decide), am_up_ne _ _ _ (by decide)]
  have k47 : h3 47 = h 47 := by rw [← eh3, am_up_ne _ _ _ (by decide), am_up_ne _ _ _ (by decide), am_up_ne _ _ _ (by decide)]
  have k42 : ∀ s, s ≠ 6 * k + c → h3 42 s = h 42 s := fun s hs => by rw [← eh3, am_up_k _ _ _ _ (by decide), am_up_k _ _ _ _ (by decide), am_up_i _ _ _ hs]
  have k43 : ∀ s, s ≠ 6 * k + c → h3 43 s = h 43 s := fun s hs => by rw [← eh3, am_up_k _ _ _ _ (by decide), am_up_i _ _ _ hs, am_up_k _ _ _ _ (by decide)]
  have k44 : ∀ s, s ≠ 6 * k + c → h3 44 s = h 44 s := fun s hs => by rw [← eh3, am_up_i _ _ _ hs, am_up_k _ _ _ _ (by decide), am_up_k _ _ _ _ (by decide)]
  have t42 : h3 42 (6 * k + c) = -1 := by rw [← eh3, am_up_k _ _ _ _ (by decide), am_up_k _ _ _ _ (by decide), am_up_s]
  have t43 : h3 43 (6 * k + c) = -1 := by rw [← eh3, am_up_k _ _ _ _ (by decide), am_up_s]
  have t44 : h3 44 (6 * k + c) = -1 := by rw [← eh3, am_up_s]
  have kk : ∀ s, s ≠ 6 * k + c → h3 42 s = h 42 s ∧ h3 43 s = h 43 s := fun s hs => ⟨k42 s hs, k43 s hs⟩
  have notI : ∀ b1, sc b b1 → TI hx hm h3 b1 (6 * k + c + 1) := fun b1 sb => (I.sc sb).not h36 s3 k41 k42 k43 k44 (fun s _ => by rw [k45]) (fun s _ => by rw [k46]) k47 t42 t43 t44
  have I3 : TI hx hm h3 b (6 * k + c) := I.keep s3 k41 (fun s hs => ⟨k42 s (by omega), k43 s (by omega), k44 s (by omega), by rw [k45], by rw [k46]⟩) k47
  have ce := (I.2.2.2.2.2 c hc)
  have cek : h 47 c = cE b c k := by rw [ce.1]; exact cE_6 (by omega) (I.zk hc)
  have dyc := r.2.1.1 c hc
  have dy17 := r.2.1.2.1 (6 * c + k) a36
  have b17 : b 17 (6 * c + k) = hx 17 (6 * c + k) := by rw [I.2.1 17 (by decide), r.1 17 (by decide) (by decide)]
  have b15 : b 15 c = cE b c 0 := rfl
  have b19 : b 19 0 = hx 19 0 := by rw [I.2.1 19 (by decide), r.1 19 (by decide) (by decide)]
  have b12 : b 12 c = hx 12 c := by rw [I.2.1 12 (by decide), r.1 12 (by decide) (by decide)]
  -- the reference comes to its word on the slot
  have m67 : fX9_laySlot (c : Int) (k : Int) b = fX9_laySlot_67 (c : Int) (k : Int) ((6 * c + k : Nat) : Int) (hx 17 (6 * c + k)) (h 47 c) b := by
    have w1 : am_w (am_w ((6 : Int) * (c : Int)) + (k : Int)) = ((6 * c + k : Nat) : Int) := ix_w 6 c k (by omega)
    have e := m_cl26 I hc hk ((6 * c + k : Nat) : Int) (hx 17 (6 * c + k)) k 0 400 (by omega) (by clear w1; omega)
    rw [show ((0 : Nat) : Int) = 0 from rfl] at e
    unfold fX9_laySlot
    simp only [w1, ↓am_l_t, fa a36, ↓reduceIte, Int.toNat_natCast, b17, i6]
    unfold fX9_laySlot_26
    rw [b15, e, cek]
  -- the class comes to it
  have xs : fX5_settle ((6 * k + c : Nat) : Int) h = (if (k : Int) < hx 16 c then (am_b (fX0_isRainedOff c h3) (fun v9 h10 => if v9 = 0 then (am_l (h10 17 (6 * c + k)) (fun x11 => if x11 < 0 then (am_l (h10 47 c) (fun x22 => am_b (fX5_fix ((6 * k + c : Nat) : Int) (-1) x22 (am_w (x22 - x11)) h10) (fun _ h23 => some ((), h23)))) else am_b (fX0_laidWith x11 h10) (fun v12 h13 => am_on v12 10 4 (some ((), h13)) (fun d14 => am_b (fX5_canStand d14 x11 ((6 * k + c : Nat) : Int) h13) (fun v15 h16 => if v15 = 0 then some ((), h16) else am_b (fX5_earliest d14 x11 ((6 * k + c : Nat) : Int) (h16 18 0) h16) (fun v17 h18 => am_b (fX0_foretold d14 h18) (fun v19 h20 => am_b (fX5_fix ((6 * k + c : Nat) : Int) x11 v17 (am_w (v17 + v19)) h20) (fun _ h21 => some ((), h21))))))))) else some ((), h10))) else some ((), h3)) := by
    unfold fX5_settle fX1_hasSlot
    simp only [fa h36, ↓reduceIte, Int.toNat_natCast, ↓am_l_t, dd.1, dd.2, i6, ik, ik0, eh3, s3 16 (by decide)]
    by_cases cm : (k : Int) < hx 16 c
    · simp only [eqT cm, ↓reduceIte, ↓am_b_t, z10]
    · simp only [eqF cm, ↓reduceIte, ↓am_b_t]
  rw [xs, m67]
  clear xs m67 dd
  by_cases cm : (k : Int) < hx 16 c
  · rw [if_pos cm]
    have er : fX0_isRainedOff c h3 = some (rf0 hx c, h3) := by
      unfold fX0_isRainedOff rf0
      rw [s3 19 (by decide), s3 12 (by decide)]
      (repeat' split) <;> rfl
    rw [er, am_b_some]
    rcases rf0_b hx c with q | q
    · -- no rain
      have m67' : fX9_laySlot_67 (c : Int) (k : Int) ((6 * c + k : Nat) : Int) (hx 17 (6 * c + k)) (h 47 c) b = fX9_laySlot_88 (c : Int) (k : Int) ((6 * c + k : Nat) : Int) (hx 17 (6 * c + k)) (h 47 c) 1 b := by
        unfold fX9_laySlot_67 fX9_laySlot_83
        unfold rf0 at q
        simp only [b19, b12, i6, ↓reduceIte, Int.toNat_natCast]
        by_cases c1 : hx 19 0 = 0
        · simp only [eqT c1, ↓reduceIte]
        · by_cases c2 : hx 12 c = 0
          · rw [if_neg c1, if_pos c2] at q; exact absurd q (by decide)
          · simp only [eqF c1, eqF c2, ↓reduceIte]
      rw [q, if_pos rfl, am_l_eq, s3 17 (by decide), m67']
      clear m67'
      by_cases cw : hx 17 (6 * c + k) < 0
      · -- a gap
        have w1 : am_w (h3 47 c - hx 17 (6 * c + k)) = h 47 c + -hx 17 (6 * c + k) := by
          rw [k47]
          rw [pw (by omega) (by omega)]
          omega
        have w2 : am_w (-hx 17 (6 * c + k)) = -hx 17 (6 * c + k) := by clear w1; exact pw (by omega) (by omega)
        have w3 : am_w (h 47 c + -hx 17 (6 * c + k)) = h 47 c + -hx 17 (6 * c + k) := by clear w1 w2; exact pw (by omega) (by omega)
        have hen : 0 ≤ h 47 c + -hx 17 (6 * c + k) ∧ h 47 c + -hx 17 (6 * c + k) ≤ 102000 + 4000 * ((6 * k + c + 1 : Nat) : Int) := by clear w1 w2 w3; omega
        have fx := x_fix (h := h3) s3 hc hk (-1) (h 47 c) (h 47 c + -hx 17 (6 * c + k))
        have fm := m_163 (b := b) r I.2.1 hc a36 (h 47 c) (-hx 17 (6 * c + k)) w3
        rw [if_pos cw, am_l_eq, w1]
        unfold fX9_laySlot_88
        simp only [↓am_l_t, eqT cw, ↓reduceIte, w2]
        rw [k47]
        clear w1 w2 w3
        by_cases ct : td hx c (h 47 c + -hx 17 (6 * c + k))
        · rw [fx.1 ct, am_b_some, fm.1 ct]
          exact ⟨h3, rfl, kk, fun _ => ⟨b, rfl, notI b (sc.rf b)⟩, fun z => absurd cm z⟩
        · rw [fx.2 ct, am_b_some, fm.2 ct]
          refine ⟨_, rfl, fun s hs => ⟨?_, ?_⟩, fun _ => ⟨_, rfl, ?_⟩, fun z => absurd cm z⟩
          · rw [am_up_k _ _ _ _ (by decide), am_up_k _ _ _ _ (by decide), am_up_k _ _ _ _ (by decide), am_up_i _ _ _ hs]; exact k42 s hs
          · rw [am_up_k _ _ _ _ (by decide), am_up_k _ _ _ _ (by decide), am_up_i _ _ _ hs, am_up_k _ _ _ _ (by decide)]; exact k43 s hs
          · refine I.can hc hk ((((s3.up _ _ (by decide)).up _ _ (by decide)).up _ _ (by decide)).up _ _ (by decide)) (((I.2.1.up _ _ (by decide)).up _ _ (by decide)).up _ _ (by decide)) ?_ (fun s hs => ?_) (fun s hs => ?_) (fun s hs => ?_) (fun s hs => ?_) (fun s hs => ?_) (fun x hx6 => ?_) (h 47 c) (h 47 c + -hx 17 (6 * c + k)) ?_ ?_ ?_ ?_ ?_ ?_ hen (Or.inl ⟨cw, ?_⟩)
            · rw [am_up_ne _ _ _ (by decide), am_up_ne _ _ _ (by decide), am_up_ne _ _ _ (by decide), am_up_ne _ _ _ (by decide)]; exact k41
            · rw [am_up_k _ _ _ _ (by decide), am_up_k _ _ _ _ (by decide), am_up_k _ _ _ _ (by decide), am_up_i _ _ _ hs]; exact k42 s hs
            · rw [am_up_k _ _ _ _ (by decide), am_up_k _ _ _ _ (by decide), am_up_i _ _ _ hs, am_up_k _ _ _ _ (by decide)]; exact k43 s hs
            · rw [am_up_k _ _ _ _ (by decide), am_up_i _ _ _ hs, am_up_k _ _ _ _ (by decide), am_up_k _ _ _ _ (by decide)]; exact k44 s hs
            · rw [am_up_k _ _ _ _ (by decide), am_up_k _ _ _ _ (by decide), am_up_k _ _ _ _ (by decide), am_up_k _ _ _ _ (by decide), k45]
            · rw [am_up_k _ _ _ _ (by decide), am_up_k _ _ _ _ (by decide), am_up_k _ _ _ _ (by decide), am_up_k _ _ _ _ (by decide), k46]
            · rw [am_up_i _ _ _ hx6, am_up_k _ _ _ _ (by decide), am_up_k _ _ _ _ (by decide), am_up_k _ _ _ _ (by decide), k47]
            · rw [am_up_s]
            · rw [am_up_k _ _ _ _ (by decide), am_up_k _ _ _ _ (by decide), am_up_k _ _ _ _ (by decide), am_up_s]
            · rw [am_up_k _ _ _ _ (by decide), am_up_k _ _ _ _ (by decide), am_up_s]
            · rw [am_up_ne _ _ _ (by decide), am_up_ne _ _ _ (by decide), am_up_at]
            · rw [am_up_ne _ _ _ (by decide), am_up_at, am_up_ne _ _ _ (by decide)]
            · rw [am_up_at, am_up_ne _ _ _ (by decide), am_up_ne _ _ _ (by decide)]
            · rw [am_up_k _ _ _ _ (by decide), am_up_s]
      · -- a match
        obtain ⟨m, hm17⟩ := p_nat (show 0 ≤ hx 17 (6 * c + k) by omega)
        have hm64 : m < 64 := by omega
        have cw' : ¬ ((m : Int) < 0) := by omega
        rw [hm17]
        unfold fX9_laySlot_88 fX9_laySlot_120
        simp only [↓am_l_t, eqF cw', ↓reduceIte, z10]
        rcases mtn (r.sc0 s3 I.2.1) m hm64 with ⟨d, n, j, e, Qc, hj⟩ | ⟨nm, e1, e2⟩
        · subst e
          have Q : Dr hx hm d n := by
            refine ⟨r, Qc.2.1, Qc.2.2.1, ?_, ?_⟩
            · have := Qc.2.2.2.1
              rw [s3 1 (by decide)] at this
              exact this
            · have := Qc.2.2.2.2
              rw [s3 5 (by decide)] at this
              exact this
          obtain ⟨v, b1, x1, y1, sb1, v01, vH⟩ := e_cs Q hj hc hk I3
          rw [lw_z Q hj h3 s3, am_b_some, am_on_some Q.2.1, x1, am_b_some, y1, am_b_some]
          rcases v01 with v0 | v1
          · unfold fX9_laySlot_121
            simp only [eqT v0, ↓reduceIte]
            exact ⟨h3, rfl, kk, fun _ => ⟨b1, rfl, notI b1 sb1⟩, fun z => absurd cm z⟩
          · have vn : ¬ v = 0 := by rw [v1]; decide
            have I31 := I3.sc sb1
            have I1 := I.sc sb1
            obtain ⟨w, x2, M1⟩ := x_early Q hj hc hk I31
            obtain ⟨u, b2, y2, sb2, M2⟩ := m_early Q hj hc hk I31
            have sb12 := sb1.tr sb2
            -- equal beginnings
            have ev : w = max (h 47 c) u := by
              have M3 := M2.mx (c := h 47 c)
              have eb : max (max (h3 47 c) (rdv hx (sd hx d n j 0))) (rdv hx (sd hx d n j 1)) = max (h 47 c) (max (max 0 (rdv hx (sd hx d n j 0))) (rdv hx (sd hx d n j 1))) := by
                rw [k47]
                have := ce.2.1
                omega
              rw [eb] at M1
              exact M1.u M3 (fun x => Iff.rfl)
            have hru := rul r
            have hr1 := r.2.1.2.2.1 1 (by decide)
            have hr2 := r.2.1.2.2.1 2 (by decide)
            have q0 := rdv_b r (sd hx d n j 0)
            have q1 := rdv_b r (sd hx d n j 1)
            have wb : 0 ≤ w ∧ w ≤ 102000 + 4000 * ((6 * k + c : Nat) : Int) + 2000 := by
              have M1' := M1
              rw [k47] at M1'
              have h1 := M1'.1
              refine ⟨by omega, ?_⟩
              rcases M1'.2.2 with z | ⟨i, hi, m', _, _, z⟩
              · omega
              · have hi36 : i < 36 := by omega
                rcases I3.2.2.2.2.1 i hi36 hi with y | y
                · rw [y.2.2.1] at z; omega
                · have := y.2.2.2.1.2; omega
            have hft : 0 ≤ ft hx d ∧ ft hx d ≤ 2000 := by
              unfold ft
              split
              · exact hr1
              · exact hr2
            have hen : 0 ≤ w + ft hx d ∧ w + ft hx d ≤ 102000 + 4000 * ((6 * k + c + 1 : Nat) : Int) := by clear q0 q1 M1 M2 ev; omega
            have wf : am_w (w + ft hx d) = w + ft hx d := aw_b w (ft hx d) (by clear q0 q1 M1 M2 ev; omega) (by clear q0 q1 M1 M2 ev; omega)
            have s8 : sc0 hx (am_up (am_up h3 45 (6 * k + c) (sd hx d n j 0)) 46 (6 * k + c) (sd hx d n j 1)) := (s3.up _ _ (by decide)).up _ _ (by decide)
            have xf : fX0_foretold d (am_up (am_up h3 45 (6 * k + c) (sd hx d n j 0)) 46 (6 * k + c) (sd hx d n j 1)) = some (ft hx d, am_up (am_up h3 45 (6 * k + c) (sd hx d n j 0)) 46 (6 * k + c) (sd hx d n j 1)) := by
              unfold fX0_foretold ft
              rw [s8 2 (by decide), s8 18 (by decide)]
              split <;> rfl
            have hb2 : sc0 hm b2 := I.2.1.tr sb12.z
            have mL : b2 2 d = hx 2 d := by rw [hb2 2 (by decide), r.1 2 (by decide) (by decide)]
            have m18 : b2 18 = hx 18 := by rw [hb2 18 (by decide), r.1 18 (by decide) (by decide)]
            have fx := x_fix (c := c) (k := k) s8 hc hk ((16 * d + j : Nat) : Int) w (w + ft hx d)
            have fm := m_163 (b := b2) r hb2 hc a36 w (ft hx d) wf
            have m121 : fX9_laySlot_121 fX9_laySlot_163 (c : Int) (k : Int) ((6 * c + k : Nat) : Int) ((16 * d + j : Nat) : Int) (h 47 c) 1 b1 = fX9_laySlot_163 (c : Int) ((6 * c + k : Nat) : Int) w 1 (ft hx d) b2 := by
              unfold fX9_laySlot_121
              have hL := Q.L
              simp only [z10, ↓reduceIte, y2, ↓am_b_t, ↓am_l_t, cd_div d j (Q.j16 hj) Q.2.1, fd Q.2.1, Int.toNat_natCast, mL, m18, ← ev]
              unfold ft
              rcases hL with hL | hL
              · simp only [hL, show am_w (2 - 1) = 1 by unfold am_w; omega, ↓reduceIte]
                rfl
              · simp only [hL, show am_w (3 - 1) = 2 by unfold am_w; omega, show ((3 : Int) = 2) = False by decide, ↓reduceIte]
                rfl
            simp only [eqF vn, ↓reduceIte, s3 18 (by decide), x2, ↓am_b_t, xf, wf]
            rw [m121]
            clear wf m121 xf
            by_cases ct : td hx c (w + ft hx d)
            · rw [fx.1 ct, am_b_some, fm.1 ct]
              refine ⟨_, rfl, fun s hs => ⟨?_, ?_⟩, fun _ => ⟨b2, rfl, ?_⟩, fun z => absurd cm z⟩
              · rw [am_up_k _ _ _ _ (by decide), am_up_k _ _ _ _ (by decide)]; exact k42 s hs
              · rw [am_up_k _ _ _ _ (by decide), am_up_k _ _ _ _ (by decide)]; exact k43 s hs
              · refine (I.sc sb12).not h36 s8 ?_ (fun s hs => ?_) (fun s hs => ?_) (fun s hs => ?_) (fun s hs => ?_) (fun s hs => ?_) ?_ ?_ ?_ ?_
                · rw [am_up_ne _ _ _ (by decide), am_up_ne _ _ _ (by decide)]; exact k41
                · rw [am_up_k _ _ _ _ (by decide), am_up_k _ _ _ _ (by decide)]; exact k42 s hs
                · rw [am_up_k _ _ _ _ (by decide), am_up_k _ _ _ _ (by decide)]; exact k43 s hs
                · rw [am_up_k _ _ _ _ (by decide), am_up_k _ _ _ _ (by decide)]; exact k44 s hs
                · rw [am_up_k _ _ _ _ (by decide), am_up_i _ _ _ hs, k45]
                · rw [am_up_i _ _ _ hs, am_up_k _ _ _ _ (by decide), k46]
                · rw [am_up_ne _ _ _ (by decide), am_up_ne _ _ _ (by decide)]; exact k47
                · rw [am_up_k _ _ _ _ (by decide), am_up_k _ _ _ _ (by decide)]; exact t42
                · rw [am_up_k _ _ _ _ (by decide), am_up_k _ _ _ _ (by decide)]; exact t43
                · rw [am_up_k _ _ _ _ (by decide), am_up_k _ _ _ _ (by decide)]; exact t44
            · rw [fx.2 ct, am_b_some, fm.2 ct]
              refine ⟨_, rfl, fun s hs => ⟨?_, ?_⟩, fun _ => ⟨_, rfl, ?_⟩, fun z => absurd cm z⟩
              · rw [am_up_k _ _ _ _ (by decide), am_up_k _ _ _ _ (by decide), am_up_k _ _ _ _ (by decide), am_up_i _ _ _ hs, am_up_k _ _ _ _ (by decide), am_up_k _ _ _ _ (by decide)]; exact k42 s hs
              · rw [am_up_k _ _ _ _ (by decide), am_up_k _ _ _ _ (by decide), am_up_i _ _ _ hs, am_up_k _ _ _ _ (by decide), am_up_k _ _ _ _ (by decide), am_up_k _ _ _ _ (by decide)]; exact k43 s hs
              · refine (I.sc sb12).can hc hk ((((s8.up _ _ (by decide)).up _ _ (by decide)).up _ _ (by decide)).up _ _ (by decide)) (((hb2.up _ _ (by decide)).up _ _ (by decide)).up _ _ (by decide)) ?_ (fun s hs => ?_) (fun s hs => ?_) (fun s hs => ?_) (fun s hs => ?_) (fun s hs => ?_) (fun x hx6 => ?_) w (w + ft hx d) ?_ ?_ ?_ ?_ ?_ ?_ hen (Or.inr ⟨16 * d + j, hm17, ?_, hm64, Q.ism hj, ?_, ?_⟩)
                · rw [am_up_ne _ _ _ (by decide), am_up_ne _ _ _ (by decide), am_up_ne _ _ _ (by decide), am_up_ne _ _ _ (by decide), am_up_ne _ _ _ (by decide), am_up_ne _ _ _ (by decide)]; exact k41
                · rw [am_up_k _ _ _ _ (by decide), am_up_k _ _ _ _ (by decide), am_up_k _ _ _ _ (by decide), am_up_i _ _ _ hs, am_up_k _ _ _ _ (by decide), am_up_k _ _ _ _ (by decide)]; exact k42 s hs
                · rw [am_up_k _ _ _ _ (by decide), am_up_k _ _ _ _ (by decide), am_up_i _ _ _ hs, am_up_k _ _ _ _ (by decide), am_up_k _ _ _ _ (by decide), am_up_k _ _ _ _ (by decide)]; exact k43 s hs
                · rw [am_up_k _ _ _ _ (by decide), am_up_i _ _ _ hs, am_up_k _ _ _ _ (by decide), am_up_k _ _ _ _ (by decide), am_up_k _ _ _ _ (by decide), am_up_k _ _ _ _ (by decide)]; exact k44 s hs
                · rw [am_up_k _ _ _ _ (by decide), am_up_k _ _ _ _ (by decide), am_up_k _ _ _ _ (by decide), am_up_k _ _ _ _ (by decide), am_up_k _ _ _ _ (by decide), am_up_i _ _ _ hs, k45]
                · rw [am_up_k _ _ _ _ (by decide), am_up_k _ _ _ _ (by decide), am_up_k _ _ _ _ (by decide), am_up_k _ _ _ _ (by decide), am_up_i _ _ _ hs, am_up_k _ _ _ _ (by decide), k46]
                · rw [am_up_i _ _ _ hx6, am_up_k _ _ _ _ (by decide), am_up_k _ _ _ _ (by decide), am_up_k _ _ _ _ (by decide), am_up_k _ _ _ _ (by decide), am_up_k _ _ _ _ (by decide), k47]
                · rw [am_up_s]
                · rw [am_up_k _ _ _ _ (by decide), am_up_k _ _ _ _ (by decide), am_up_k _ _ _ _ (by decide), am_up_s]
                · rw [am_up_k _ _ _ _ (by decide), am_up_k _ _ _ _ (by decide), am_up_s]
                · rw [am_up_ne _ _ _ (by decide), am_up_ne _ _ _ (by decide), am_up_at, sb12 52 (by decide)]
                · rw [am_up_ne _ _ _ (by decide), am_up_at, am_up_ne _ _ _ (by decide), sb12 42 (by decide)]
                · rw [am_up_at, am_up_ne _ _ _ (by decide), am_up_ne _ _ _ (by decide), sb12 43 (by decide)]
                · rw [am_up_k _ _ _ _ (by decide), am_up_s]
                · rw [plr_e Q hj, am_up_k _ _ _ _ (by decide), am_up_k _ _ _ _ (by decide), am_up_k _ _ _ _ (by decide), am_up_k _ _ _ _ (by decide), am_up_k _ _ _ _ (by decide), am_up_s]
                · rw [plr_e Q hj, am_up_k _ _ _ _ (by decide), am_up_k _ _ _ _ (by decide), am_up_k _ _ _ _ (by decide), am_up_k _ _ _ _ (by decide), am_up_s]
        · have em : fX9_mayStand (m : Int) (c : Int) (k : Int) b = some (0, b) := by
            unfold fX9_mayStand
            rw [e2 b (sc.rf b), am_b_some, if_pos rfl]
          rw [e1 h3 (sc.rf h3), am_b_some, am_on_none, em, am_b_some, if_pos rfl]
          unfold fX9_laySlot_121
          simp only [↓reduceIte]
          exact ⟨h3, rfl, kk, fun _ => ⟨b, rfl, notI b (sc.rf b)⟩, fun z => absurd cm z⟩
    · -- rain
      have m67' : fX9_laySlot_67 (c : Int) (k : Int) ((6 * c + k : Nat) : Int) (hx 17 (6 * c + k)) (h 47 c) b = some ((), b) := by
        unfold fX9_laySlot_67 fX9_laySlot_83 fX9_laySlot_88 fX9_laySlot_163 fX9_laySlot_120 fX9_laySlot_121
        unfold rf0 at q
        simp only [b19, b12, i6, ↓reduceIte, Int.toNat_natCast, ↓am_l_t]
        by_cases c1 : hx 19 0 = 0
        · rw [if_pos c1] at q; exact absurd q (by decide)
        · by_cases c2 : hx 12 c = 0
          · simp only [eqF c1, eqT c2, ↓reduceIte]
            split <;> rfl
          · rw [if_neg c1, if_neg c2] at q; exact absurd q (by decide)
      rw [q, if_neg (by decide), m67']
      exact ⟨h3, rfl, kk, fun _ => ⟨b, rfl, notI b (sc.rf b)⟩, fun z => absurd cm z⟩
  · rw [if_neg cm]
    exact ⟨h3, rfl, kk, fun z => absurd z cm, fun _ => notI b (sc.rf b)⟩
