/-! ===== places, meeting ===== -/
def plc (hx : am_M) (d : Nat) (a : Int) : Nat → Nat → Int
  | 0, _ => -1
  | r + 1, p => if hx 7 (16 * d + p) = a then (p : Int) else plc hx d a r (p + 1)
theorem plc_s (hx : am_M) (d : Nat) (a : Int) : ∀ r p, plc hx d a r p = -1 ∨ ∃ q : Nat, p ≤ q ∧ q < p + r ∧ plc hx d a r p = q ∧ hx 7 (16 * d + q) = a := by
  intro r
  induction r with
  | zero => intro p; exact Or.inl rfl
  | succ r ih =>
    intro p
    simp only [plc]
    by_cases c : hx 7 (16 * d + p) = a
    · simp only [eqT c, ↓reduceIte]
      exact Or.inr ⟨p, Nat.le_refl _, by omega, rfl, c⟩
    · simp only [eqF c, ↓reduceIte]
      rcases ih (p + 1) with q | ⟨q, h1, h2, h3, h4⟩
      · exact Or.inl q
      · exact Or.inr ⟨q, by omega, by omega, h3, h4⟩
theorem x_pl {hx hm : am_M} {d n : Nat} (D : Dr hx hm d n) (a : Int) (h : am_M) (hs : sc hx h) : ∀ (r p m : Nat), p + r = n → r < m → am_it (fun _ _ _ _ => none) fX2_placeOf_11b m d a (p : Int) h = some (plc hx d a r p, h) := by
  have hb := D.2.2.1.b
  intro r
  induction r with
  | zero =>
    intro p m hp hf
    obtain ⟨m, rfl⟩ : ∃ q, m = q + 1 := ⟨m - 1, by omega⟩
    have i1 : ((p : Int) < (n : Int)) = False := eq_false (by omega)
    rw [am_it_s]
    unfold fX2_placeOf_11b
    simp only [D.d.x1 hs, i1, ↓reduceIte, plc]
  | succ r ih =>
    intro p m hp hf
    obtain ⟨m, rfl⟩ : ∃ q, m = q + 1 := ⟨m - 1, by omega⟩
    have i1 : ((p : Int) < (n : Int)) = True := eq_true (by omega)
    have hp16 : p < 16 := by omega
    have nxt := ih (p + 1) m (by omega) (by omega)
    rw [am_it_s]
    generalize am_it (fun _ _ _ _ => none) fX2_placeOf_11b m = K at nxt ⊢
    unfold fX2_placeOf_11b
    simp only [D.d.x1 hs, i1, ↓reduceIte, plc, fj hp16, Int.toNat_natCast, hs 7 (by decide), pw1 p (Nat.lt_trans hp16 (by decide)), nxt]
    by_cases c : hx 7 (16 * d + p) = a
    · simp only [eqT c, ↓reduceIte]
    · simp only [eqF c, ↓reduceIte]
theorem m_pl {hx hm : am_M} {d n : Nat} (D : Dr hx hm d n) (a : Int) (h : am_M) (hs : sc hm h) : ∀ (r p m : Nat), p + r = n → r < m → am_it (fun _ _ _ _ => none) fX9_placeOf_2b m (d : Int) a (p : Int) h = some (plc hx d a r p, h) := by
  have hb := D.2.2.1.b
  intro r
  induction r with
  | zero =>
    intro p m hp hf
    obtain ⟨m, rfl⟩ : ∃ q, m = q + 1 := ⟨m - 1, by omega⟩
    have i1 : ((p : Int) < (n : Int)) = False := eq_false (by omega)
    rw [am_it_s]
    unfold fX9_placeOf_2b
    simp only [fd D.2.1, Int.toNat_natCast, D.d.m1 hs, i1, ↓reduceIte, plc]
  | succ r ih =>
    intro p m hp hf
    obtain ⟨m, rfl⟩ : ∃ q, m = q + 1 := ⟨m - 1, by omega⟩
    have i1 : ((p : Int) < (n : Int)) = True := eq_true (by omega)
    have hp16 : p < 16 := by omega
    have hpn : p < n := by omega
    have nxt := ih (p + 1) m (by omega) (by omega)
    rw [am_it_s]
    generalize am_it (fun _ _ _ _ => none) fX9_placeOf_2b m = K at nxt ⊢
    unfold fX9_placeOf_2b
    simp only [fd D.2.1, Int.toNat_natCast, D.d.m1 hs, i1, ↓reduceIte, plc, m_at D hpn h hs, ↓am_b_t, pw1 p (Nat.lt_trans hp16 (by decide)), nxt]
    by_cases c : hx 7 (16 * d + p) = a
    · simp only [eqT c, ↓reduceIte]
    · simp only [eqF c, ↓reduceIte]
theorem p_placeOf {hx hm : am_M} {d n : Nat} (D : Dr hx hm d n) (a : Int) (h : am_M) (hs : sc hx h) : fX2_placeOf d a h = some (plc hx d a n 0, h) := by
  have hb := D.2.2.1.b
  have e := x_pl D a h hs n 0 400 (by omega) (by omega)
  rw [show ((0 : Nat) : Int) = 0 from rfl] at e
  have e5 : ¬ h 5 d = 0 := by rw [hs 5 (by decide), D.2.2.2.2]; decide
  unfold fX2_placeOf fX2_placeOf_11
  rw [if_neg e5, e]
theorem m_placeOf {hx hm : am_M} {d n : Nat} (D : Dr hx hm d n) (a : Int) (h : am_M) (hs : sc hm h) : fX9_placeOf (d : Int) a h = some (plc hx d a n 0, h) := by
  have hb := D.2.2.1.b
  have e := m_pl D a h hs n 0 400 (by omega) (by omega)
  rw [show ((0 : Nat) : Int) = 0 from rfl] at e
  unfold fX9_placeOf fX9_placeOf_2
  rw [e]
/-- the round in which two places come together -/
def cr (p q : Nat) : Nat := if p / 2 = q / 2 then 0 else if p / 4 = q / 4 then 1 else if p / 8 = q / 8 then 2 else 3
theorem sh_e {p q : Nat} (hp : p < 16) (hq : q < 16) (r : Nat) (hr : r < 5) : (am_shr (p : Int) ((r + 1 : Nat) : Int) = am_shr (q : Int) ((r + 1 : Nat) : Int)) = (p / 2 ^ (r + 1) = q / 2 ^ (r + 1)) := by
  rw [p_shr p (by omega) (r + 1) (by omega), p_shr q (by omega) (r + 1) (by omega)]
  apply propext
  constructor
  · intro z; exact Int.ofNat_inj.mp z
  · intro z; rw [z]
theorem cr_1 (K : Int → Int → Int → am_M → Option (Int × am_M)) {p q : Nat} (hp : p < 16) (hq : q < 16) (r : Nat) (hr : r < 4) (h : am_M) : fX2_commonRound_2b K (p : Int) (q : Int) (r : Int) h = if p / 2 ^ (r + 1) = q / 2 ^ (r + 1) then some ((r : Int), h) else K (p : Int) (q : Int) ((r + 1 : Nat) : Int) h := by
  unfold fX2_commonRound_2b
  have i1 : ((r : Int) < 4) = True := eq_true (by omega)
  simp only [i1, ↓reduceIte, sh_e hp hq r (by omega), pw1 r (by omega)]
theorem crm_1 (K : Int → Int → Int → Int → Int → Int → am_M → Option (Int × am_M)) {p q : Nat} (hp : p < 16) (hq : q < 16) (d a b : Int) (r : Nat) (hr : r < 4) (h : am_M) : fX9_meeting_69b K d a b (p : Int) (q : Int) (r : Int) h = if p / 2 ^ (r + 1) = q / 2 ^ (r + 1) then fX9_meeting_92 d a b (r : Int) h else K d a b (p : Int) (q : Int) ((r + 1 : Nat) : Int) h := by
  unfold fX9_meeting_69b
  simp only [sh_e hp hq r (by omega), pw1 r (by omega)]
theorem x_cr {p q : Nat} (hp : p < 16) (hq : q < 16) (m : Nat) (h : am_M) : am_it (fun _ _ _ _ => none) fX2_commonRound_2b (m + 4) (p : Int) (q : Int) ((0 : Nat) : Int) h = some (((cr p q : Nat) : Int), h) := by
  rw [am_it_s, cr_1 _ hp hq 0 (by decide)]
  unfold cr
  by_cases c0 : p / 2 = q / 2
  · rw [if_pos (by exact c0), if_pos c0]
  · rw [if_neg (by exact c0), if_neg c0, am_it_s, cr_1 _ hp hq _ (by decide)]
    by_cases c1 : p / 4 = q / 4
    · rw [if_pos (by exact c1), if_pos c1]
    · rw [if_neg (by exact c1), if_neg c1, am_it_s, cr_1 _ hp hq _ (by decide)]
      by_cases c2 : p / 8 = q / 8
      · rw [if_pos (by exact c2), if_pos c2]
      · rw [if_neg (by exact c2), if_neg c2, am_it_s, cr_1 _ hp hq _ (by decide)]
        have c3 : p / 16 = q / 16 := by omega
        rw [if_pos (by exact c3)]
theorem m_cr {p q : Nat} (hp : p < 16) (hq : q < 16) (d a b : Int) (m : Nat) (h : am_M) : am_it (fun _ _ _ _ _ _ _ => none) fX9_meeting_69b (m + 4) d a b (p : Int) (q : Int) ((0 : Nat) : Int) h = fX9_meeting_92 d a b ((cr p q : Nat) : Int) h := by
  rw [am_it_s, crm_1 _ hp hq _ _ _ 0 (by decide)]
  unfold cr
  by_cases c0 : p / 2 = q / 2
  · rw [if_pos (by exact c0), if_pos c0]
  · rw [if_neg (by exact c0), if_neg c0, am_it_s, crm_1 _ hp hq _ _ _ _ (by decide)]
    by_cases c1 : p / 4 = q / 4
    · rw [if_pos (by exact c1), if_pos c1]
    · rw [if_neg (by exact c1), if_neg c1, am_it_s, crm_1 _ hp hq _ _ _ _ (by decide)]
      by_cases c2 : p / 8 = q / 8
      · rw [if_pos (by exact c2), if_pos c2]
      · rw [if_neg (by exact c2), if_neg c2, am_it_s, crm_1 _ hp hq _ _ _ _ (by decide)]
        have c3 : p / 16 = q / 16 := by omega
        rw [if_pos (by exact c3)]
theorem cr_rn {n p q : Nat} (hn : szn n) (hp : p < n) (hq : q < n) : cr p q < rn n := by
  unfold cr
  rcases hn with z | z | z <;> subst z
  · have : p / 4 = q / 4 := by omega
    rw [if_pos this, show rn 4 = 2 from rfl]
    split <;> omega
  · have : p / 8 = q / 8 := by omega
    rw [if_pos this, show rn 8 = 3 from rfl]
    (repeat' split) <;> omega
  · rw [show rn 16 = 4 from rfl]
    (repeat' split) <;> omega
theorem rfo4 : ∀ r, r < 2 → ∀ j, j < 3 → (rd 4 j < r ↔ j < fo 4 r) := by decide +kernel
theorem rfo8 : ∀ r, r < 3 → ∀ j, j < 7 → (rd 8 j < r ↔ j < fo 8 r) := by decide +kernel
theorem rfo16 : ∀ r, r < 4 → ∀ j, j < 15 → (rd 16 j < r ↔ j < fo 16 r) := by decide +kernel
theorem rfo {n r j : Nat} (hn : szn n) (hr : r < rn n) (hj : j < n - 1) : rd n j < r ↔ j < fo n r := by
  rcases hn with q | q | q
  · subst q; exact rfo4 r hr j hj
  · subst q; exact rfo8 r hr j hj
  · subst q; exact rfo16 r hr j hj
/-- the side that lost -/
def ow (hx : am_M) (d j : Nat) : Nat := if hx 21 (16 * d + j) = 0 then 1 else 0
theorem ow_w {hx hm : am_M} {d n j : Nat} (D : Dr hx hm d n) (hj : j < n - 1) : am_w (1 - hx 21 (16 * d + j)) = ((ow hx d j : Nat) : Int) ∧ ow hx d j < 2 := by
  unfold ow
  rcases D.W hj with q | q
  · rw [q, if_pos rfl]
    exact ⟨aw10, by decide⟩
  · rw [q, if_neg (by decide)]
    exact ⟨aw11, by decide⟩
theorem x_out {hx hm : am_M} {d n rr : Nat} (D : Dr hx hm d n) (hr : rr < rn n) (a : Int) (h : am_M) (hs : sc hx h) : ∀ (r j m : Nat), j + r = fo n rr → r < m → ∃ v, am_it (fun _ _ _ _ _ => none) fX2_isOutAhead_2b m d a (rr : Int) (j : Int) h = some (v, h) ∧ ((v = 1 ∧ ∃ i, j ≤ i ∧ i < fo n rr ∧ hx 20 (16 * d + i) ≠ 0 ∧ sd hx d n i (ow hx d i) = a) ∨ (v = 0 ∧ ∀ i, j ≤ i → i < fo n rr → hx 20 (16 * d + i) ≠ 0 → sd hx d n i (ow hx d i) ≠ a)) := by
  have hb := D.2.2.1.b
  have hr6 : rr < 6 := by have := (rf_e D.2.2.1).2; omega
  have hf := rf D.2.2.1 hr
  have pf := p_firstOf d n rr h D.2.2.1 (D.d.x1 hs) hr6
  intro r
  induction r with
  | zero =>
    intro j m hj hf1
    obtain ⟨m, rfl⟩ : ∃ q, m = q + 1 := ⟨m - 1, by omega⟩
    have i1 : ((j : Int) < ((fo n rr : Nat) : Int)) = False := eq_false (by omega)
    rw [am_it_s]
    unfold fX2_isOutAhead_2b
    simp only [pf, ↓am_b_t, i1, ↓reduceIte]
    exact ⟨0, rfl, Or.inr ⟨rfl, fun i h1 h2 => by omega⟩⟩
  | succ r ih =>
    intro j m hjr hf1
    obtain ⟨m, rfl⟩ : ∃ q, m = q + 1 := ⟨m - 1, by omega⟩
    have hj : j < n - 1 := by omega
    have hj16 := D.j16 hj
    have i1 : ((j : Int) < ((fo n rr : Nat) : Int)) = True := eq_true (by omega)
    have hjf : j < fo n rr := by omega
    obtain ⟨v, e, k⟩ := ih (j + 1) m (by omega) (by omega)
    rw [am_it_s]
    generalize am_it (fun _ _ _ _ _ => none) fX2_isOutAhead_2b m = K at e ⊢
    have ow1 := ow_w D hj
    unfold fX2_isOutAhead_2b fX2_isOutAhead_39
    simp only [pf, ↓am_b_t, i1, ↓reduceIte, fj hj16, Int.toNat_natCast, hs 20 (by decide), hs 21 (by decide), ow1.1, p_st D hj ow1.2 h hs, pw1 j (Nat.lt_trans hj16 (by decide)), e]
    clear ow1 pf
    by_cases c0 : hx 20 (16 * d + j) = 0
    · simp only [eqT c0, ↓reduceIte]
      refine ⟨v, rfl, ?_⟩
      rcases k with ⟨k1, i, a1, a2, a3, a4⟩ | ⟨k1, k2⟩
      · exact Or.inl ⟨k1, i, by omega, a2, a3, a4⟩
      · refine Or.inr ⟨k1, fun i a1 a2 a3 => ?_⟩
        by_cases ci : i = j
        · rw [ci] at a3; exact absurd c0 a3
        · exact k2 i (by omega) a2 a3
    · simp only [eqF c0, ↓reduceIte]
      by_cases c1 : sd hx d n j (ow hx d j) = a
      · simp only [eqT c1, ↓reduceIte]
        exact ⟨1, rfl, Or.inl ⟨rfl, j, Nat.le_refl _, hjf, c0, c1⟩⟩
      · simp only [eqF c1, ↓reduceIte]
        refine ⟨v, rfl, ?_⟩
        rcases k with ⟨k1, i, a1, a2, a3, a4⟩ | ⟨k1, k2⟩
        · exact Or.inl ⟨k1, i, by omega, a2, a3, a4⟩
        · refine Or.inr ⟨k1, fun i a1 a2 a3 => ?_⟩
          by_cases ci : i = j
          · rw [ci]; exact c1
          · exact k2 i (by omega) a2 a3
theorem m_out {hx hm : am_M} {d n rr : Nat} (D : Dr hx hm d n) (a : Int) : ∀ (r j m : Nat) (o : Int) (h : am_M), j + r = n - 1 → r < m → (o = 0 ∨ o = 1) → sc hm h → ∃ v h', am_it (fun _ _ _ _ _ _ => none) fX9_isOut_9b m (d : Int) a (rr : Int) o ((16 * d + j : Nat) : Int) h = some (v, h') ∧ sc hm h' ∧ ((v = 1 ∧ (o = 1 ∨ ∃ i, j ≤ i ∧ i < n - 1 ∧ rd n i < rr ∧ hx 20 (16 * d + i) ≠ 0 ∧ sd hx d n i (ow hx d i) = a)) ∨ (v = 0 ∧ o = 0 ∧ ∀ i, j ≤ i → i < n - 1 → rd n i < rr → hx 20 (16 * d + i) ≠ 0 → sd hx d n i (ow hx d i) ≠ a)) := by
  have hb := D.2.2.1.b
  have hd := D.2.1
  intro r
  induction r with
  | zero =>
    intro j m o h hjr hf ho hs
    obtain ⟨m, rfl⟩ : ∃ q, m = q + 1 := ⟨m - 1, by omega⟩
    have i2 : (((16 * d + j : Nat) : Int) < ((16 * d + (n - 1) : Nat) : Int)) = False := eq_false (by omega)
    rw [am_it_s]
    unfold fX9_isOut_9b
    simp only [fd D.2.1, ↓reduceIte, Int.toNat_natCast, D.d.m1 hs, ce_w d n D.2.1 D.2.2.1, i2, eqT ho]
    refine ⟨o, h, rfl, hs, ?_⟩
    rcases ho with q | q
    · exact Or.inr ⟨q, q, fun i h1 h2 => by omega⟩
    · exact Or.inl ⟨q, Or.inl q⟩
  | succ r ih =>
    intro j m o h hjr hf ho hs
    obtain ⟨m, rfl⟩ : ∃ q, m = q + 1 := ⟨m - 1, by omega⟩
    have hj : j < n - 1 := by omega
    have hj16 := D.j16 hj
    have i2 : (((16 * d + j : Nat) : Int) < ((16 * d + (n - 1) : Nat) : Int)) = True := eq_true (by omega)
    have c64 : 16 * d + j < 100000 := by omega
    have l1 : j + 1 + r = n - 1 := by omega
    have l2 : r < m := by omega
    have nx0 := fun (h1 : am_M) (q : sc hm h1) => ih (j + 1) m 0 h1 l1 l2 (Or.inl rfl) q
    have nx1 := fun (h1 : am_M) (q : sc hm h1) => ih (j + 1) m 1 h1 l1 l2 (Or.inr rfl) q
    have nxo := fun (h1 : am_M) (q : sc hm h1) => ih (j + 1) m o h1 l1 l2 ho q
    have irr : (((rd n j : Nat) : Int) < (rr : Int)) = (rd n j < rr) := by apply propext; omega
    have c1w : am_w (((16 * d + j : Nat) : Int) + 1) = ((16 * d + (j + 1) : Nat) : Int) := pw1 (16 * d + j) c64
    obtain ⟨g1, e1, s1⟩ := m_isEnded D hj h hs
    rw [am_it_s]
    clear ih
    generalize am_it (fun _ _ _ _ _ _ => none) fX9_isOut_9b m = K at nx0 nx1 nxo ⊢
    unfold fX9_isOut_9b fX9_isOut_76 fX9_isOut_81 fX9_isOut_83
    simp only [fd D.2.1, ↓reduceIte, Int.toNat_natCast, D.d.m1 hs, ce_w d n D.2.1 D.2.2.1, i2, cd_mod d j hj16, m_rd D hj h hs, ↓am_b_t, irr, e1, c1w]
    clear i2 c1w irr
    by_cases cr1 : rd n j < rr
    · simp only [eqT cr1, ↓reduceIte]
      by_cases c0 : hx 20 (16 * d + j) = 0
      · simp only [eqT c0, ↓reduceIte]
        obtain ⟨v, h', e, s', k⟩ := nxo g1 s1
        refine ⟨v, h', e, s', ?_⟩
        rcases k with ⟨k1, k2 | ⟨i, a1, a2, a3, a4⟩⟩ | ⟨k1, k2, k3⟩
        · exact Or.inl ⟨k1, Or.inl k2⟩
        · exact Or.inl ⟨k1, Or.inr ⟨i, by omega, a2, a3, a4⟩⟩
        · refine Or.inr ⟨k1, k2, fun i a1 a2 a3 a4 => ?_⟩
          by_cases ci : i = j
          · rw [ci] at a4; exact absurd c0 a4
          · exact k3 i (by omega) a2 a3 a4
      · simp only [eqF c0, ↓reduceIte, z10]
        rcases ho with q | q
        · obtain ⟨g2, e2, s2⟩ := m_winner D hj g1 s1
          have ew : wn hx d j = hx 21 (16 * d + j) := if_neg c0
          have ow1 := ow_w D hj
          obtain ⟨g3, e3, s3⟩ := m_side D hj ow1.2 g2 s2
          simp only [eqT q, ↓reduceIte, e2, ↓am_b_t, ew, ow1.1, e3]
          clear ow1
          by_cases c1 : sd hx d n j (ow hx d j) = a
          · simp only [eqT c1, ↓reduceIte]
            obtain ⟨v, h', e, s', k⟩ := nx1 g3 s3
            refine ⟨v, h', e, s', Or.inl ⟨?_, Or.inr ⟨j, Nat.le_refl _, hj, cr1, c0, c1⟩⟩⟩
            rcases k with k | k
            · exact k.1
            · exact absurd k.2.1 (by decide)
          · simp only [eqF c1, ↓reduceIte]
            obtain ⟨v, h', e, s', k⟩ := nx0 g3 s3
            refine ⟨v, h', e, s', ?_⟩
            rcases k with ⟨k1, k2 | ⟨i, a1, a2, a3, a4⟩⟩ | ⟨k1, k2, k3⟩
            · exact absurd k2 (by decide)
            · exact Or.inl ⟨k1, Or.inr ⟨i, by omega, a2, a3, a4⟩⟩
            · refine Or.inr ⟨k1, trivial, fun i a1 a2 a3 a4 => ?_⟩
              by_cases ci : i = j
              · rw [ci]; exact c1
              · exact k3 i (by omega) a2 a3 a4
        · simp only [q, z10, ↓reduceIte]
          obtain ⟨v, h', e, s', k⟩ := nx1 g1 s1
          refine ⟨v, h', e, s', Or.inl ⟨?_, Or.inl trivial⟩⟩
          rcases k with k | k
          · exact k.1
          · exact absurd k.2.1 (by decide)
    · simp only [eqF cr1, ↓reduceIte]
      obtain ⟨v, h', e, s', k⟩ := nxo h hs
      refine ⟨v, h', e, s', ?_⟩
      rcases k with ⟨k1, k2 | ⟨i, a1, a2, a3, a4⟩⟩ | ⟨k1, k2, k3⟩
      · exact Or.inl ⟨k1, Or.inl k2⟩
      · exact Or.inl ⟨k1, Or.inr ⟨i, by omega, a2, a3, a4⟩⟩
      · refine Or.inr ⟨k1, k2, fun i a1 a2 a3 a4 => ?_⟩
        by_cases ci : i = j
        · rw [ci] at a3; exact absurd a3 cr1
        · exact k3 i (by omega) a2 a3 a4
theorem e_out {hx hm : am_M} {d n rr : Nat} (D : Dr hx hm d n) (hr : rr < rn n) (a : Int) (h h' : am_M) (hs : sc hx h) (hs' : sc hm h') : ∃ v h'', (v = 0 ∨ v = 1) ∧ fX2_isOutAhead d a (rr : Int) h = some (v, h) ∧ fX9_isOut (d : Int) a (rr : Int) h' = some (v, h'') ∧ sc hm h'' := by
  have hb := D.2.2.1.b
  have hf := rf D.2.2.1 hr
  obtain ⟨v, e, k⟩ := x_out D hr a h hs (fo n rr) 0 400 (by omega) (by omega)
  obtain ⟨v', h'', e', s', k'⟩ := m_out (rr := rr) D a (n - 1) 0 400 0 h' (by omega) (by omega) (Or.inl rfl) hs'
  have c0w : am_w ((16 : Int) * (d : Int)) = ((16 * d + 0 : Nat) : Int) := by have := D.2.1; rw [pw (by omega) (by omega)]; omega
  rw [show ((0 : Nat) : Int) = 0 from rfl] at e
  have ev : v = v' := by
    clear c0w e e'
    rcases k with ⟨k1, i, _, a2, a3, a4⟩ | ⟨k1, k2⟩
    · rcases k' with ⟨q1, _⟩ | ⟨_, _, q3⟩
      · rw [k1, q1]
      · exact absurd a4 (q3 i (Nat.zero_le _) (by omega) ((rfo D.2.2.1 hr (by omega)).mpr a2) a3)
    · rcases k' with ⟨_, q2 | ⟨i, _, a2, a3, a4, a5⟩⟩ | ⟨q1, _⟩
      · exact absurd q2 (by decide)
      · exact absurd a5 (k2 i (Nat.zero_le _) ((rfo D.2.2.1 hr a2).mp a3) a4)
      · rw [k1, q1]
  refine ⟨v, h'', ?_, ?_, ?_, s'⟩
  · rcases k with k | k
    · exact Or.inr k.1
    · exact Or.inl k.1
  · unfold fX2_isOutAhead fX2_isOutAhead_2
    exact e
  · unfold fX9_isOut fX9_isOut_9
    rw [am_l_eq, c0w, ev]
    exact e'
theorem e_meeting {hx hm : am_M} (r : Rel hx hm) (a b c : Int) : Same (fX8_meeting a b c hx) (fX9_meeting a b c hm) := by
  unfold fX8_meeting fX9_meeting
  rcases dt r a with ⟨d, n, rfl, D⟩ | ⟨e1, e2⟩
  · have hb := D.2.2.1.b
    have k5 := r.kk (k := 5) (by decide) (by decide) d
    simp only [D.fnd hx (sc.rf _), ↓am_b_t, am_on_some D.2.1, D.isd hm (sc.rf _), z10, fd D.2.1, ↓reduceIte, Int.toNat_natCast, p_isPlayer, q_isPlayer, ← k5]
    by_cases cp : 0 ≤ b ∧ b < 40
    · by_cases cq : 0 ≤ c ∧ c < 40
      · by_cases cb : b = c
        · simp only [eqT cp, eqT cq, eqT cb, ↓reduceIte, z10]
          split <;> exact Same.mk rfl r
        · simp only [eqT cp, eqT cq, eqF cb, ↓reduceIte, z10]
          rcases D.cs with q | q
          · simp only [q.2.2.2.2, z10, ↓reduceIte, p_placeOf q b hx (sc.rf _), p_placeOf q c hx (sc.rf _), m_placeOf q b hm (sc.rf _), m_placeOf q c hm (sc.rf _), ↓am_b_t]
            rcases plc_s hx d b n 0 with z | ⟨p1, _, l1, z1, _⟩
            · simp only [z, show ((-1 : Int) < 0) = True by decide, ↓reduceIte]
              exact Same.mk rfl r
            · have i1 : ((p1 : Int) < 0) = False := eq_false (by omega)
              rcases plc_s hx d c n 0 with z | ⟨p2, _, l2, z2, _⟩
              · simp only [z1, z, i1, show ((-1 : Int) < 0) = True by decide, ↓reduceIte]
                exact Same.mk rfl r
              · have i2 : ((p2 : Int) < 0) = False := eq_false (by omega)
                have h1 : p1 < n := by omega
                have h2 : p2 < n := by omega
                have hr := cr_rn D.2.2.1 h1 h2
                have ex := x_cr (show p1 < 16 by omega) (show p2 < 16 by omega) 396 hx
                have em := m_cr (show p1 < 16 by omega) (show p2 < 16 by omega) (d : Int) b c 396 hm
                rw [show ((0 : Nat) : Int) = 0 from rfl] at ex em
                unfold fX2_commonRound fX2_commonRound_2 fX9_meeting_69
                rw [z1, z2]
                simp only [i1, i2, ↓reduceIte]
                rw [show (396 + 4 : Nat) = 400 from rfl] at ex em
                rw [ex, am_b_some, em]
                unfold fX9_meeting_92
                obtain ⟨v, g1, hv, f1, f2, t1⟩ := e_out q hr b hx hm (sc.rf _) (sc.rf _)
                obtain ⟨w, g2, hw, f3, f4, t2⟩ := e_out q hr c hx g1 (sc.rf _) t1
                rw [f1, f2, am_b_some, am_b_some, f3, f4, am_b_some, am_b_some]
                rcases hv with hv | hv
                · rw [if_pos hv, if_pos hv]
                  rcases hw with hw | hw
                  · rw [if_pos hw, if_pos hw]
                    exact Same.mk rfl (r.sc (sc.rf _) t2)
                  · rw [if_neg (by rw [hw]; decide), if_neg (by rw [hw]; decide)]
                    exact Same.mk rfl (r.sc (sc.rf _) t2)
                · rw [if_neg (by rw [hv]; decide), if_neg (by rw [hv]; decide)]
                  exact Same.mk rfl (r.sc (sc.rf _) t1)
          · unfold fX2_placeOf
            simp only [q, ↓reduceIte, ↓am_b_t, show ((-1 : Int) < 0) = True by decide]
            exact Same.mk rfl r
      · simp only [eqT cp, eqF cq, ↓reduceIte, z10]
        split <;> exact Same.mk rfl r
    · simp only [eqF cp, ↓reduceIte]
      split <;> exact Same.mk rfl r
  · rw [e1 _ (sc.rf _), am_b_some, am_on_none, e2 _ (sc.rf _), am_b_some, if_pos rfl]
    exact Same.mk rfl r
