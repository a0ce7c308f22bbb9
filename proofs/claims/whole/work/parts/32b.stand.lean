/-! ===== may a match stand in a slot ===== -/
theorem TI.sc {hx hm h b b' : am_M} {T : Nat} (I : TI hx hm h b T) (s : sc b b') : TI hx hm h b' T := by
  obtain ⟨i1, i2, i3, i4, i5, i6⟩ := I
  have e52 := s 52 (by decide)
  have e42 := s 42 (by decide)
  have e43 := s 43 (by decide)
  have e15 := s 15 (by decide)
  refine ⟨i1, i2.tr s.z, i3, fun x hx1 hx2 => by rw [e52]; exact i4 x hx1 hx2, fun x hx1 hx2 => ?_, fun c hc => ?_⟩
  · have := i5 x hx1 hx2
    unfold SL at *
    rw [e52, e42, e43]
    exact this
  · have : ∀ k, cE b' c k = cE b c k := by
      intro k
      induction k with
      | zero => simp only [cE, e15]
      | succ k ih => simp only [cE, e52, e43, ih]
    rw [this]
    exact i6 c hc
/-- a side isn't known, and its match doesn't stand ahead -/
def cnd (hx h : am_M) (d n j T t : Nat) : Prop := sd hx d n j t = -2 ∧ ∀ i, i < T → h 44 i ≠ ((16 * d + (2 * (j - n / 2) + t) : Nat) : Int)
theorem aw_sub (d j : Nat) (hd : d < 4) (hj : j < 16) : am_w (((16 * d + j : Nat) : Int) - (j : Int)) = ((16 * d : Nat) : Int) := by
  rw [pw (by omega) (by omega)]; omega
theorem aw_fe (d x : Nat) (hd : d < 4) (hx : x < 16) : am_w (((16 * d : Nat) : Int) + ((x : Nat) : Int)) = ((16 * d + x : Nat) : Int) := by
  rw [pw (by omega) (by omega)]; omega
theorem un_r {hx hm : am_M} {d n j t : Nat} (Q : Dr hx hm d n) (hj : j < n - 1) (ht : t < 2) (h : sd hx d n j t = -2) : n / 2 ≤ j := by
  rcases sd_r Q (rd n j) j t rfl hj ht with z | z | z
  · exact z.2.1
  · omega
  · rw [h] at z; exact absurd z.1 (by decide)
theorem x_cs1 {hx hm h : am_M} {d n j t T : Nat} (Q : Dr hx hm d n) (hj : j < n - 1) (hs : sc0 hx h) (hT : T ≤ 36) (ht : t < 2) (K : Nat → Int → Int → Int → Int → am_M → Option (Int × am_M)) : (cnd hx h d n j T t → fX5_canStand_30b K d ((16 * d + j : Nat) : Int) (T : Int) (j : Int) (t : Int) h = some (0, h)) ∧ (¬ cnd hx h d n j T t → fX5_canStand_30b K d ((16 * d + j : Nat) : Int) (T : Int) (j : Int) (t : Int) h = K d ((16 * d + j : Nat) : Int) (T : Int) (j : Int) ((t + 1 : Nat) : Int) h) := by
  have hj16 := Q.j16 hj
  have i1 : ((t : Int) < 2) = True := eq_true (by omega)
  have t1 := pw1 t (by omega)
  have pf := p_feeder d n j t h Q.2.2.1 ((Q.z hs (sc0.rf hm)).2.2.2.1) hj16 ht
  unfold fX5_canStand_30b fX5_canStand_76
  simp only [i1, ↓reduceIte, pf, ↓am_b_t, ↓am_l_t, p_stz Q hj ht h hs, t1]
  clear t1 pf
  by_cases c : sd hx d n j t = -2
  · have hj2 := un_r Q hj ht c
    have i2 : (j < n / 2) = False := eq_false (by omega)
    have hl := Q.j16 (fr_lt Q.2.2.1 hj hj2 ht)
    simp only [eqT c, ↓reduceIte, i2, aw_sub d j Q.2.1 hj16, aw_fe d (2 * (j - n / 2) + t) Q.2.1 hl]
    obtain ⟨v, e, k⟩ := p_sa h T hT ((16 * d + (2 * (j - n / 2) + t) : Nat) : Int)
    simp only [e, ↓am_b_t]
    rcases k with ⟨k1, i, a2, a3⟩ | ⟨k1, k2⟩
    · simp only [k1, z10, ↓reduceIte]
      exact ⟨fun z => absurd a3 (z.2 i a2), fun _ => trivial⟩
    · simp only [k1, ↓reduceIte]
      exact ⟨fun _ => trivial, fun z => absurd ⟨c, k2⟩ z⟩
  · simp only [eqF c, ↓reduceIte]
    exact ⟨fun z => absurd z.1 c, fun _ => trivial⟩
theorem x_cst {hx hm h : am_M} {d n j T : Nat} (Q : Dr hx hm d n) (hj : j < n - 1) (hs : sc0 hx h) (hT : T ≤ 36) (f : Nat) : ∃ v, am_it (fun _ _ _ _ _ _ => none) fX5_canStand_30b (f + 3) d ((16 * d + j : Nat) : Int) (T : Int) (j : Int) ((0 : Nat) : Int) h = some (v, h) ∧ ((v = 1 ∧ ¬ cnd hx h d n j T 0 ∧ ¬ cnd hx h d n j T 1) ∨ (v = 0 ∧ (cnd hx h d n j T 0 ∨ cnd hx h d n j T 1))) := by
  rw [am_it_s]
  by_cases c0 : cnd hx h d n j T 0
  · rw [(x_cs1 Q hj hs hT (by decide) _).1 c0]
    exact ⟨0, rfl, Or.inr ⟨rfl, Or.inl c0⟩⟩
  · rw [(x_cs1 Q hj hs hT (by decide) _).2 c0, am_it_s]
    by_cases c1 : cnd hx h d n j T 1
    · rw [(x_cs1 Q hj hs hT (by decide) _).1 c1]
      exact ⟨0, rfl, Or.inr ⟨rfl, Or.inr c1⟩⟩
    · rw [(x_cs1 Q hj hs hT (by decide) _).2 c1, am_it_s]
      unfold fX5_canStand_30b
      rw [if_neg (by decide)]
      exact ⟨1, rfl, Or.inl ⟨rfl, c0, c1⟩⟩
theorem m_ms0 {hx hm h b : am_M} {d n j t c k : Nat} (Q : Dr hx hm d n) (hj : j < n - 1) (I : TI hx hm h b (6 * k + c)) (h0 : hx 20 (16 * d + j) = 0) (ht : t < 2) (K : Int → Int → Int → Int → Int → am_M → Option (Int × am_M)) : ∃ b', sc b b' ∧ fX9_mayStand_34b K ((16 * d + j : Nat) : Int) (c : Int) (k : Int) 0 (t : Int) b = K ((16 * d + j : Nat) : Int) (c : Int) (k : Int) 0 ((t + 1 : Nat) : Int) b' := by
  have i1 : ((t : Int) < 2) = True := eq_true (by omega)
  obtain ⟨b1, e1, s1⟩ := m_sidez Q hj ht b I.2.1
  refine ⟨b1, s1, ?_⟩
  have t1 := pw1 t (by omega)
  unfold fX9_mayStand_34b fX9_mayStand_93 fX9_mayStand_94 fX9_mayStand_96
  simp only [i1, ↓reduceIte, e1, ↓am_b_t, t1]
  split <;> rfl
theorem m_ms1 {hx hm h b : am_M} {d n j t c k : Nat} (Q : Dr hx hm d n) (hj : j < n - 1) (hc : c < 6) (hk : k < 6) (I : TI hx hm h b (6 * k + c)) (h0 : hx 20 (16 * d + j) = 0) (ht : t < 2) (K : Int → Int → Int → Int → Int → am_M → Option (Int × am_M)) : ∃ b', sc b b' ∧ ((cnd hx h d n j (6 * k + c) t ∧ fX9_mayStand_34b K ((16 * d + j : Nat) : Int) (c : Int) (k : Int) 1 (t : Int) b = K ((16 * d + j : Nat) : Int) (c : Int) (k : Int) 0 ((t + 1 : Nat) : Int) b') ∨ (¬ cnd hx h d n j (6 * k + c) t ∧ fX9_mayStand_34b K ((16 * d + j : Nat) : Int) (c : Int) (k : Int) 1 (t : Int) b = K ((16 * d + j : Nat) : Int) (c : Int) (k : Int) 1 ((t + 1 : Nat) : Int) b')) := by
  have hj16 := Q.j16 hj
  have i1 : ((t : Int) < 2) = True := eq_true (by omega)
  obtain ⟨b1, e1, s1⟩ := m_sidez Q hj ht b I.2.1
  have I1 := I.sc s1
  have Qb := Q.z (sc0.rf hx) I1.2.1
  refine ⟨b1, s1, ?_⟩
  have t1 := pw1 t (by omega)
  unfold fX9_mayStand_34b fX9_mayStand_93 fX9_mayStand_94 fX9_mayStand_96
  simp only [i1, ↓reduceIte, e1, ↓am_b_t, t1, z10]
  clear t1
  by_cases cu : sd hx d n j t = -2
  · have hj2 := un_r Q hj ht cu
    have i2 : (sd hx d n j t < 0) = True := eq_true (by rw [cu]; decide)
    have i3 : (((rd n j : Nat) : Int) ≤ 0) = False := by
      apply eq_false
      have : rd n j ≠ 0 := fun z => absurd (rd_z z) (by omega)
      omega
    have e4 : fX9_feeds ((16 * d + j : Nat) : Int) (t : Int) b1 = some (((16 * d + (2 * (j - n / 2) + t) : Nat) : Int), b1) := q_feeds d n j t b1 Q.2.1 Q.2.2.1 (Qb.d.m1 (sc.rf b1)) hj hj2 ht
    obtain ⟨v, e5, kk⟩ := m_ah Q.1 hc hk I1 (16 * d + (2 * (j - n / 2) + t))
    simp only [i2, ↓reduceIte, cd_div d j hj16 Q.2.1, cd_mod d j hj16, m_rd Qb hj b1 (sc.rf b1), ↓am_b_t, i3, e4, e5]
    rcases kk with ⟨k1, i, a2, a3⟩ | ⟨k1, k2⟩
    · simp only [k1, z10, ↓reduceIte]
      exact Or.inr ⟨fun z => absurd a3 (z.2 i a2), trivial⟩
    · simp only [k1, ↓reduceIte]
      exact Or.inl ⟨⟨cu, k2⟩, trivial⟩
  · have i2 : (sd hx d n j t < 0) = False := by
      apply eq_false
      rcases sd_r Q (rd n j) j t rfl hj ht with z | z | z
      · exact absurd z.1 cu
      · omega
      · rw [h0] at z; exact absurd z.2.2.1 (by decide)
    simp only [i2, ↓reduceIte]
    exact Or.inr ⟨fun z => cu z.1, trivial⟩
theorem e_cs {hx hm h b : am_M} {d n j c k : Nat} (Q : Dr hx hm d n) (hj : j < n - 1) (hc : c < 6) (hk : k < 6) (I : TI hx hm h b (6 * k + c)) : ∃ v b', fX5_canStand d ((16 * d + j : Nat) : Int) ((6 * k + c : Nat) : Int) h = some (v, h) ∧ fX9_mayStand ((16 * d + j : Nat) : Int) (c : Int) (k : Int) b = some (v, b') ∧ sc b b' ∧ (v = 0 ∨ v = 1) ∧ (v = 1 → hx 20 (16 * d + j) = 0) := by
  have hj16 := Q.j16 hj
  have hT : 6 * k + c ≤ 36 := by omega
  have Qb := Q.z (sc0.rf hx) I.2.1
  obtain ⟨b1, e1, s1⟩ := m_isEnded Qb hj b (sc.rf b)
  have I1 := I.sc s1
  unfold fX5_canStand fX9_mayStand
  simp only [Q.no hj, ↓am_b_t, fj hj16, ↓reduceIte, Int.toNat_natCast, I.1 20 (by decide), Qb.im hj b (sc.rf b), z10, e1]
  by_cases c0 : hx 20 (16 * d + j) = 0
  · simp only [eqT c0, ↓reduceIte]
    obtain ⟨v, e2, k2⟩ := p_sa h (6 * k + c) hT ((16 * d + j : Nat) : Int)
    obtain ⟨w, e3, k3⟩ := m_ah Q.1 hc hk I1 (16 * d + j)
    have evw : v = w := by
      rcases k2 with ⟨a1, i, a2, a3⟩ | ⟨a1, a2⟩
      · rcases k3 with ⟨y1, _⟩ | ⟨_, y2⟩
        · rw [a1, y1]
        · exact absurd a3 (y2 i a2)
      · rcases k3 with ⟨_, i, y2, y3⟩ | ⟨y1, _⟩
        · exact absurd y3 (a2 i y2)
        · rw [a1, y1]
    rw [← evw] at e3
    simp only [e2, e3, ↓am_b_t]
    by_cases cv : v = 0
    · simp only [eqT cv, ↓reduceIte]
      obtain ⟨v2, e4, k4⟩ := x_cst Q hj I.1 hT 397
      rw [show ((0 : Nat) : Int) = 0 from rfl] at e4
      have ex : fX5_canStand_30 d ((16 * d + j : Nat) : Int) ((6 * k + c : Nat) : Int) (j : Int) 0 h = some (v2, h) := by
        unfold fX5_canStand_30
        exact e4
      rw [ex]
      have em : ∃ b', sc b1 b' ∧ fX9_mayStand_34 ((16 * d + j : Nat) : Int) (c : Int) (k : Int) 1 0 b1 = some (v2, b') := by
        have key : ∀ f, ∃ b', sc b1 b' ∧ am_it (fun _ _ _ _ _ _ => none) fX9_mayStand_34b (f + 3) ((16 * d + j : Nat) : Int) (c : Int) (k : Int) 1 ((0 : Nat) : Int) b1 = some (v2, b') := by
          intro f
          rw [am_it_s]
          have fin : ∀ (o : Int) (b2 : am_M), (o = 0 ∨ o = 1) → fX9_mayStand_34b (am_it (fun _ _ _ _ _ _ => none) fX9_mayStand_34b f) ((16 * d + j : Nat) : Int) (c : Int) (k : Int) o ((2 : Nat) : Int) b2 = some (o, b2) := by
            intro o b2 ho
            generalize am_it (fun _ _ _ _ _ _ => none) fX9_mayStand_34b f = K
            unfold fX9_mayStand_34b
            rw [if_neg (by decide), if_pos ho]
          obtain ⟨b2, s2, q2⟩ := m_ms1 (t := 0) Q hj hc hk I1 c0 (by decide) (am_it (fun _ _ _ _ _ _ => none) fX9_mayStand_34b (f + 2))
          have I2 := I1.sc s2
          rcases q2 with ⟨y1, y2⟩ | ⟨y1, y2⟩
          · rw [y2, am_it_s]
            obtain ⟨b3, s3, q3⟩ := m_ms0 (t := 1) Q hj I2 c0 (by decide) (am_it (fun _ _ _ _ _ _ => none) fX9_mayStand_34b (f + 1))
            refine ⟨b3, s2.tr s3, ?_⟩
            have ev : v2 = 0 := by
              rcases k4 with z | z
              · exact absurd y1 z.2.1
              · exact z.1
            rw [show ((0 + 1 : Nat) : Int) = ((1 : Nat) : Int) from rfl, q3, am_it_s, show ((1 + 1 : Nat) : Int) = ((2 : Nat) : Int) from rfl, fin 0 b3 (Or.inl rfl), ev]
          · rw [y2, am_it_s]
            obtain ⟨b3, s3, q3⟩ := m_ms1 (t := 1) Q hj hc hk I2 c0 (by decide) (am_it (fun _ _ _ _ _ _ => none) fX9_mayStand_34b (f + 1))
            refine ⟨b3, s2.tr s3, ?_⟩
            rw [show ((0 + 1 : Nat) : Int) = ((1 : Nat) : Int) from rfl]
            rcases q3 with ⟨x1, x2⟩ | ⟨x1, x2⟩
            · have ev : v2 = 0 := by
                rcases k4 with z | z
                · exact absurd x1 z.2.2
                · exact z.1
              rw [x2, am_it_s, show ((1 + 1 : Nat) : Int) = ((2 : Nat) : Int) from rfl, fin 0 b3 (Or.inl rfl), ev]
            · have ev : v2 = 1 := by
                rcases k4 with z | z
                · exact z.1
                · exact absurd z.2 (fun y => y.elim y1 x1)
              rw [x2, am_it_s, show ((1 + 1 : Nat) : Int) = ((2 : Nat) : Int) from rfl, fin 1 b3 (Or.inr rfl), ev]
        obtain ⟨b', s', e'⟩ := key 397
        rw [show ((0 : Nat) : Int) = 0 from rfl] at e'
        refine ⟨b', s', ?_⟩
        unfold fX9_mayStand_34
        exact e'
      obtain ⟨b', s', e'⟩ := em
      rw [e']
      refine ⟨v2, b', rfl, rfl, s1.tr s', ?_, fun _ => trivial⟩
      rcases k4 with z | z
      · exact Or.inr z.1
      · exact Or.inl z.1
    · simp only [eqF cv, ↓reduceIte]
      exact ⟨0, b1, rfl, rfl, s1, Or.inl rfl, fun z => absurd z (by decide)⟩
  · simp only [eqF c0, ↓reduceIte, z10]
    exact ⟨0, b1, rfl, rfl, s1, Or.inl rfl, fun z => absurd z (by decide)⟩
