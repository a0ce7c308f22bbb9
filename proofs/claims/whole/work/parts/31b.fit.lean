/-! ===== the worthiest matches to the worthiest courts ===== -/
theorem sc0.rf (h : am_M) : sc0 h h := fun _ _ => rfl
theorem sc0.tr {h h1 h2 : am_M} (a : sc0 h h1) (b : sc0 h1 h2) : sc0 h h2 := fun k hk => (b k hk).trans (a k hk)
theorem sc0.up {h h1 : am_M} (a : sc0 h h1) {k : Nat} (i : Nat) (v : Int) (hk : 30 ≤ k) : sc0 h (am_up h1 k i v) := fun q hq => by rw [am_up_ne _ _ _ (by omega)]; exact a q hq
theorem Dr.z {hx hm hx' hm' : am_M} {d n : Nat} (D : Dr hx hm d n) (sx : sc0 hx hx') (sm : sc0 hm hm') : Dr hx' hm' d n := by
  refine ⟨D.1.sc0 sx sm, D.2.1, D.2.2.1, ?_, ?_⟩
  · rw [sx 1 (by decide)]; exact D.2.2.2.1
  · rw [sx 5 (by decide)]; exact D.2.2.2.2
theorem st_z {hx h : am_M} (s : sc0 hx h) (d n : Nat) : ∀ f j t, st h d n f j t = st hx d n f j t := by
  intro f
  induction f with
  | zero => intro j t; simp only [st, s 7 (by decide)]
  | succ f ih =>
    intro j t
    simp only [st, s 7 (by decide), s 20 (by decide), s 21 (by decide), ih]
theorem sd_z {hx h : am_M} (s : sc0 hx h) (d n j t : Nat) : sd h d n j t = sd hx d n j t := st_z s d n 4 j t
theorem p_stz {hx hm : am_M} {d n j t : Nat} (D : Dr hx hm d n) (hj : j < n - 1) (ht : t < 2) (h : am_M) (hs : sc0 hx h) : fX2_standing d (j : Int) (t : Int) h = some (sd hx d n j t, h) := by
  have := p_st (D.z hs (sc0.rf hm)) hj ht h (sc.rf h)
  rw [sd_z hs] at this
  exact this
theorem lw_z {hx hm : am_M} {d n j : Nat} (D : Dr hx hm d n) (hj : j < n - 1) (h : am_M) (hs : sc0 hx h) : fX0_laidWith ((16 * d + j : Nat) : Int) h = some (some (10 + d), h) := (D.z hs (sc0.rf hm)).lw hj h (sc.rf h)
theorem m_sidez {hx hm : am_M} {d n j t : Nat} (D : Dr hx hm d n) (hj : j < n - 1) (ht : t < 2) (b : am_M) (hs : sc0 hm b) : Sc b (fX9_sideOf 8 ((16 * d + j : Nat) : Int) (t : Int) b) (sd hx d n j t) := m_side (D.z (sc0.rf hx) hs) hj ht b (sc.rf b)
def plr (hx : am_M) (c t : Nat) : Int := sd hx (c / 16) (hx 1 (c / 16)).toNat (c % 16) t
theorem plr_e {hx hm : am_M} {d n j : Nat} (D : Dr hx hm d n) (hj : j < n - 1) (t : Nat) : plr hx (16 * d + j) t = sd hx d n j t := by
  have hj16 := D.j16 hj
  unfold plr
  rw [show (16 * d + j) / 16 = d by omega, show (16 * d + j) % 16 = j by omega, D.2.2.2.1, Int.toNat_natCast]
/-- a match with two players -/
def gd (hx hm : am_M) (c : Nat) : Prop := ∃ d n j, c = 16 * d + j ∧ Dr hx hm d n ∧ j < n - 1 ∧ (0 ≤ plr hx c 0 ∧ plr hx c 0 < 40) ∧ (0 ≤ plr hx c 1 ∧ plr hx c 1 < 40)
theorem gd.p {hx hm : am_M} {c t : Nat} (g : gd hx hm c) (ht : t < 2) : 0 ≤ plr hx c t ∧ plr hx c t < 40 := by
  obtain ⟨d, n, j, _, _, _, a, b⟩ := g
  rcases (show t = 0 ∨ t = 1 by omega) with rfl | rfl
  · exact a
  · exact b
theorem x_plO {hx hm : am_M} {c t : Nat} (g : gd hx hm c) (ht : t < 2) (h : am_M) (hs : sc0 hx h) : fX3_playerOf (c : Int) (t : Int) h = some (plr hx c t, h) := by
  obtain ⟨d, n, j, rfl, D, hj, _⟩ := g
  unfold fX3_playerOf
  simp only [lw_z D hj h hs, ↓am_b_t, am_on_some D.2.1, D.no hj, p_stz D hj ht h hs, plr_e D hj]
theorem m_plO {hx hm : am_M} {c t : Nat} (g : gd hx hm c) (ht : t < 2) (b : am_M) (hs : sc0 hm b) : Sc b (fX9_sideOf 8 (c : Int) (t : Int) b) (plr hx c t) := by
  obtain ⟨d, n, j, rfl, D, hj, _⟩ := g
  rw [plr_e D hj]
  exact m_sidez D hj ht b hs
theorem x_busy {hx hm : am_M} {c t : Nat} (g : gd hx hm c) (ht : t < 2) (h : am_M) (hs : sc0 hx h) : fX3_isBusy (c : Int) (t : Int) h = some (if h 49 (plr hx c t).toNat = 0 then 0 else 1, h) := by
  unfold fX3_isBusy
  simp only [x_plO g ht h hs, ↓am_b_t, p_isPlayer, eqT (g.p ht), ↓reduceIte, z10]
  by_cases q : h 49 (plr hx c t).toNat = 0
  · simp only [eqT q, ↓reduceIte]
  · simp only [eqF q, ↓reduceIte]
def bz (hx h : am_M) (c : Nat) : Prop := h 49 (plr hx c 0).toNat ≠ 0 ∨ h 49 (plr hx c 1).toNat ≠ 0
def okx (hx h : am_M) (c : Nat) : Prop := h 48 c ≠ 0 ∧ ¬ bz hx h c
theorem x_wml {hx hm : am_M} (h : am_M) (hs : sc0 hx h) (hg : ∀ c, c < 64 → h 48 c ≠ 0 → gd hx hm c) : ∀ (r c m : Nat), c + r = 64 → r < m → am_it (fun _ _ _ => none) fX3_worthiestMatch_4b m (bs (okx hx h) (h 11) c) (c : Int) h = some (bs (okx hx h) (h 11) 64, h) := by
  intro r
  induction r with
  | zero =>
    intro c m hc hf
    obtain ⟨m, rfl⟩ : ∃ q, m = q + 1 := ⟨m - 1, by omega⟩
    obtain rfl : c = 64 := by omega
    rw [am_it_s]
    unfold fX3_worthiestMatch_4b
    rw [if_neg (by decide)]
  | succ r ih =>
    intro c m hcr hf
    obtain ⟨m, rfl⟩ : ∃ q, m = q + 1 := ⟨m - 1, by omega⟩
    have i1 : ((c : Int) < 64) = True := eq_true (by omega)
    have i2 : (0 ≤ (c : Int) ∧ (c : Int) < 64) = True := eq_true (by omega)
    have cb := bs_c (okx hx h) (h 11) c
    have hcN : c < 64 := by omega
    have c1 := pw1 c (by omega)
    have nx := ih (c + 1) m (by clear c1; omega) (by clear c1; omega)
    rw [am_it_s]
    clear ih
    generalize am_it (fun _ _ _ => none) fX3_worthiestMatch_4b m = K at nx ⊢
    have skip : ¬ okx hx h c → K (bs (okx hx h) (h 11) c) ((c + 1 : Nat) : Int) h = some (bs (okx hx h) (h 11) 64, h) := by
      intro no
      rw [bs_q (fun z => no z.1)] at nx
      exact nx
    have take : okx hx h c → fX3_worthiestMatch_44 K (bs (okx hx h) (h 11) c) (c : Int) 1 h = some (bs (okx hx h) (h 11) 64, h) := by
      intro yes
      unfold fX3_worthiestMatch_44 fX3_worthiestMatch_72 fX3_worthiestMatch_70
      simp only [z10, ↓reduceIte, i2, Int.toNat_natCast, c1]
      clear c1
      rcases cb with ⟨e, _⟩ | ⟨q, hq, e, _⟩
      · rw [e]
        simp only [show ((-1 : Int) < 0) = True by decide, ↓reduceIte]
        rw [bs_p ⟨yes, Or.inl (by rw [e]; decide)⟩] at nx
        exact nx
      · have i3 : ((q : Int) < 0) = False := eq_false (by omega)
        have i4 : (0 ≤ (q : Int) ∧ (q : Int) < 64) = True := eq_true (by omega)
        by_cases cw : h 11 c ≤ h 11 q
        · have hb : bs (okx hx h) (h 11) (c + 1) = q := by
            rw [bs_q, e]
            rintro ⟨_, z⟩
            rw [e, Int.toNat_natCast] at z
            omega
          rw [hb] at nx
          rw [e]
          simp only [i3, i4, ↓reduceIte, Int.toNat_natCast, eqT cw]
          exact nx
        · have hb : bs (okx hx h) (h 11) (c + 1) = c := bs_p ⟨yes, Or.inr (by rw [e, Int.toNat_natCast]; omega)⟩
          rw [hb] at nx
          rw [e]
          simp only [i3, i4, ↓reduceIte, Int.toNat_natCast, eqF cw]
          exact nx
    unfold fX3_worthiestMatch_4b fX3_worthiestMatch_43
    simp only [i1, i2, ↓reduceIte, Int.toNat_natCast]
    have no0 : fX3_worthiestMatch_44 K (bs (okx hx h) (h 11) c) (c : Int) 0 h = K (bs (okx hx h) (h 11) c) ((c + 1 : Nat) : Int) h := by
      unfold fX3_worthiestMatch_44 fX3_worthiestMatch_72
      simp only [↓reduceIte, c1]
    clear c1
    by_cases c0 : h 48 c = 0
    · simp only [eqT c0, ↓reduceIte]
      rw [no0]
      exact skip (fun z => z.1 c0)
    · have g := hg c hcN c0
      have b0 := x_busy g (show 0 < 2 by decide) h hs
      have b1 := x_busy g (show 1 < 2 by decide) h hs
      rw [show ((0 : Nat) : Int) = 0 from rfl] at b0
      rw [show ((1 : Nat) : Int) = 1 from rfl] at b1
      simp only [eqF c0, ↓reduceIte, b0, b1, ↓am_b_t]
      by_cases q0 : h 49 (plr hx c 0).toNat = 0
      · by_cases q1 : h 49 (plr hx c 1).toNat = 0
        · simp only [eqT q0, eqT q1, ↓reduceIte]
          exact take ⟨c0, fun z => z.elim (fun y => y q0) (fun y => y q1)⟩
        · simp only [eqT q0, eqF q1, ↓reduceIte, z10]
          rw [no0]
          exact skip (fun z => z.2 (Or.inr q1))
      · simp only [eqF q0, ↓reduceIte, z10]
        rw [no0]
        exact skip (fun z => z.2 (Or.inl q0))
theorem x_wm {hx hm : am_M} (h : am_M) (hs : sc0 hx h) (hg : ∀ c, c < 64 → h 48 c ≠ 0 → gd hx hm c) : fX3_worthiestMatch h = some (bs (okx hx h) (h 11) 64, h) := by
  have := x_wml h hs hg 64 0 400 (by decide) (by decide)
  rw [show ((0 : Nat) : Int) = 0 from rfl] at this
  unfold fX3_worthiestMatch fX3_worthiestMatch_4
  exact this
theorem x_oc1 {hx hm : am_M} {c : Nat} (g : gd hx hm c) (K : Int → Int → am_M → Option (Unit × am_M)) (t : Nat) (ht : t < 2) (h : am_M) (hs : sc0 hx h) : fX3_occupy_2b K (c : Int) (t : Int) h = K (c : Int) ((t + 1 : Nat) : Int) (am_up h 49 (plr hx c t).toNat 1) := by
  have i1 : ((t : Int) < 2) = True := eq_true (by omega)
  unfold fX3_occupy_2b fX3_occupy_31
  simp only [i1, ↓reduceIte, x_plO g ht h hs, ↓am_b_t, p_isPlayer, eqT (g.p ht), z10, ↓am_l_t, pw1 t (by omega)]
theorem x_occ {hx hm : am_M} {c : Nat} (g : gd hx hm c) (h : am_M) (hs : sc0 hx h) : fX3_occupy (c : Int) h = some ((), am_up (am_up h 49 (plr hx c 0).toNat 1) 49 (plr hx c 1).toNat 1) := by
  have e : ∀ m, am_it (fun _ _ _ => none) fX3_occupy_2b (m + 3) (c : Int) ((0 : Nat) : Int) h = some ((), am_up (am_up h 49 (plr hx c 0).toNat 1) 49 (plr hx c 1).toNat 1) := by
    intro m
    rw [am_it_s, x_oc1 g _ 0 (by decide) h hs, am_it_s, x_oc1 g _ 1 (by decide) _ (hs.up _ _ (by decide)), am_it_s]
    unfold fX3_occupy_2b
    rw [if_neg (by decide)]
  have := e 397
  rw [show ((0 : Nat) : Int) = 0 from rfl] at this
  unfold fX3_occupy fX3_occupy_2
  exact this
/-- the two memories in the midst of the fitting -/
def FI (hx hm h b : am_M) : Prop := sc0 hx h ∧ sc0 hm b ∧ (∀ c, c < 64 → h 48 c ≠ 0 → gd hx hm c) ∧ (∀ c, c < 64 → b 48 c = 0 → h 48 c ≠ 0) ∧ (∀ c, c < 64 → h 48 c ≠ 0 → b 48 c ≠ 0 → bz hx h c) ∧ (∀ p, p < 40 → h 49 p = b 49 p) ∧ (∀ k, k < 6 → h 50 k = b 50 k)
def Sm0 (hx hm : am_M) (o o' : Option (Int × am_M)) : Prop := ∃ v h' b', o = some (v, h') ∧ o' = some (v, b') ∧ sc0 hx h' ∧ sc0 hm b'
theorem Sm0.mk {hx hm h b : am_M} {v w : Int} (e : v = w) (a : sc0 hx h) (c : sc0 hm b) : Sm0 hx hm (some (v, h)) (some (w, b)) := ⟨v, h, b, rfl, by rw [e], a, c⟩
theorem bs_cg {ok ok' : Nat → Prop} {w w' : Nat → Int} : ∀ {K : Nat}, (∀ i, i < K → (ok' i ↔ ok i)) → (∀ i, i < K → w' i = w i) → bs ok' w' K = bs ok w K := by
  intro K h1 h2
  rcases bs_c ok w K with ⟨e, n⟩ | ⟨q, hq, e, o, m⟩
  · rw [e]
    exact bs_n (fun i hi z => n i hi ((h1 i hi).mp z))
  · rw [e]
    refine bs_u hq ((h1 q hq).mpr o) (fun i hi z => ?_)
    rw [h2 i hi, h2 q hq]
    exact m i hi ((h1 i hi).mp z)
theorem e_fl {hx hm : am_M} (r : Rel hx hm) (a : Int) : ∀ (N t m m' : Nat) (h b : am_M), FI hx hm h b → zc (b 48) 64 ≤ N → N < m' → zc (h 50) 6 + t ≤ 6 → 6 < t + m → Sm0 hx hm (am_it (fun _ _ _ => none) fX3_matchFor_9b m a (t : Int) h) (am_b (fX9_nextMatch b) (fun v h1 => am_it (fun _ _ _ => none) fX9_fitted_110b m' a v h1)) := by
  intro N
  induction N with
  | zero =>
    intro t m m' h b F hN hm' ht hm2
    obtain ⟨m', rfl⟩ : ∃ q, m' = q + 1 := ⟨m' - 1, by omega⟩
    obtain ⟨m, rfl⟩ : ∃ q, m = q + 1 := ⟨m - 1, by omega⟩
    have nz := zc_z (Nat.le_zero.mp hN)
    have e1 : bs (fun i => b 48 i = 0) (b 11) 64 = -1 := bs_n nz
    have e2 : bs (okx hx h) (h 11) 64 = -1 := bs_n (fun i hi o => o.2 (F.2.2.2.2.1 i hi o.1 (nz i hi)))
    rw [m_nm, am_b_some, e1, am_it_s, am_it_s]
    unfold fX9_fitted_110b fX3_matchFor_9b
    rw [if_pos (show (-1 : Int) < 0 by decide), x_wm h F.1 F.2.2.1, am_b_some, x_wc, am_b_some, e2, if_pos (show (-1 : Int) < 0 by decide)]
    split <;> exact Sm0.mk rfl F.1 F.2.1
  | succ N ih =>
    intro t m m' h b F hN hm' ht hm2
    obtain ⟨m', rfl⟩ : ∃ q, m' = q + 1 := ⟨m' - 1, by omega⟩
    obtain ⟨m, rfl⟩ : ∃ q, m = q + 1 := ⟨m - 1, by omega⟩
    obtain ⟨f1, f2, f3, f4, f5, f6, f7⟩ := F
    have w11 : b 11 = h 11 := by rw [f2 11 (by decide), f1 11 (by decide), r.1 11 (by decide) (by decide)]
    rw [m_nm, am_b_some]
    rcases bs_c (fun i => b 48 i = 0) (b 11) 64 with ⟨e1, nz⟩ | ⟨q, hq, e1, b0, hb⟩
    · have e2 : bs (okx hx h) (h 11) 64 = -1 := bs_n (fun i hi o => o.2 (f5 i hi o.1 (nz i hi)))
      rw [e1, am_it_s, am_it_s]
      unfold fX9_fitted_110b fX3_matchFor_9b
      rw [if_pos (show (-1 : Int) < 0 by decide), x_wm h f1 f3, am_b_some, x_wc, am_b_some, e2, if_pos (show (-1 : Int) < 0 by decide)]
      split <;> exact Sm0.mk rfl f1 f2
    · have hq0 := f4 q hq b0
      have g := f3 q hq hq0
      have p0 := g.p (show 0 < 2 by decide)
      have p1 := g.p (show 1 < 2 by decide)
      have i1 : ((q : Int) < 0) = False := eq_false (by omega)
      have i2 : (0 ≤ (q : Int) ∧ (q : Int) < 64) = True := eq_true (by omega)
      -- the reference marks it
      have s1 : sc0 hm (am_up b 48 q 1) := f2.up _ _ (by decide)
      obtain ⟨b2, e2, s2⟩ := m_plO g (show 0 < 2 by decide) (am_up b 48 q 1) s1
      have s2' : sc0 hm b2 := s1.tr s2.z
      obtain ⟨b3, e3, s3⟩ := m_plO g (show 1 < 2 by decide) b2 s2'
      have s3' : sc0 hm b3 := s2'.tr s3.z
      rw [show ((0 : Nat) : Int) = 0 from rfl] at e2
      rw [show ((1 : Nat) : Int) = 1 from rfl] at e3
      have k48_2 : b2 48 = up1 (b 48) q 1 := by rw [s2 48 (by decide), am_up_at]
      have k48_3 : b3 48 = up1 (b 48) q 1 := by rw [s3 48 (by decide), k48_2]
      have k49_2 : ∀ p, p < 40 → b2 49 p = h 49 p := fun p hp => by rw [s2 49 (by decide), am_up_ne _ _ _ (by decide), f6 p hp]
      have k49_3 : ∀ p, p < 40 → b3 49 p = h 49 p := fun p hp => by rw [s3 49 (by decide), k49_2 p hp]
      have k50_2 : ∀ k, k < 6 → b2 50 k = h 50 k := fun k hk => by rw [s2 50 (by decide), am_up_ne _ _ _ (by decide), f7 k hk]
      have k50_3 : ∀ k, k < 6 → b3 50 k = h 50 k := fun k hk => by rw [s3 50 (by decide), k50_2 k hk]
      have l0 : (plr hx q 0).toNat < 40 := by omega
      have l1 : (plr hx q 1).toNat < 40 := by omega
      have zN : zc (up1 (b 48) q 1) 64 ≤ N := by
        have := zc_u (v := 1) (by decide) b0 hq
        omega
      have hm3 : N < m' := by omega
      have skipF : ∀ b', sc0 hm b' → b' 48 = up1 (b 48) q 1 → (∀ p, p < 40 → b' 49 p = h 49 p) → (∀ k, k < 6 → b' 50 k = h 50 k) → bz hx h q → Sm0 hx hm (am_it (fun _ _ _ => none) fX3_matchFor_9b (m + 1) a (t : Int) h) (am_b (fX9_nextMatch b') (fun v h1 => am_it (fun _ _ _ => none) fX9_fitted_110b m' a v h1)) := by
        intro b' t1 t2 t3 t4 t5
        refine ih t (m + 1) m' h b' ⟨f1, t1, f3, fun c hc z => ?_, fun c hc z1 z2 => ?_, fun p hp => (t3 p hp).symm, fun k hk => (t4 k hk).symm⟩ (by rw [t2]; exact zN) hm3 ht hm2
        · rw [t2] at z
          by_cases e : c = q
          · rw [e]; exact hq0
          · rw [up1_n _ _ e] at z; exact f4 c hc z
        · by_cases e : c = q
          · rw [e]; exact t5
          · rw [t2, up1_n _ _ e] at z2; exact f5 c hc z1 z2
      rw [e1, am_it_s (fun _ _ _ => none) fX9_fitted_110b m']
      have hK := am_it_s (fun _ _ _ => none) fX3_matchFor_9b m
      generalize hKm : am_it (fun _ _ _ => none) fX9_fitted_110b m' = K' at skipF ⊢
      unfold fX9_fitted_110b fX9_fitted_205
      simp only [i1, i2, ↓reduceIte, Int.toNat_natCast, ↓am_l_t, e2, ↓am_b_t, eqT p0, k49_2 _ l0]
      by_cases q0 : h 49 (plr hx q 0).toNat = 0
      · simp only [eqT q0, ↓reduceIte, e3, ↓am_b_t, eqT p1, k49_3 _ l1]
        by_cases q1 : h 49 (plr hx q 1).toNat = 0
        · simp only [eqT q1, ↓reduceIte]
          have okq : okx hx h q := ⟨hq0, fun z => z.elim (fun y => y q0) (fun y => y q1)⟩
          have ebs : bs (okx hx h) (h 11) 64 = q := by
            refine bs_u hq okq (fun i hi o => ?_)
            have bi : b 48 i = 0 := by
              by_cases z : b 48 i = 0
              · exact z
              · exact absurd (f5 i hi o.1 z) o.2
            have := hb i hi bi
            rw [w11] at this
            exact this
          have w14 : b3 14 = h 14 := by rw [s3' 14 (by decide), f1 14 (by decide), r.1 14 (by decide) (by decide)]
          have ebc : bs (fun i => b3 50 i = 0) (b3 14) 6 = bs (fun i => h 50 i = 0) (h 14) 6 := bs_cg (fun i hi => by rw [k50_3 i hi]) (fun i _ => by rw [w14])
          simp only [m_nc, ↓am_b_t, ebc]
          rw [hK]
          generalize hKc : am_it (fun _ _ _ => none) fX3_matchFor_9b m = Kc
          unfold fX3_matchFor_9b
          rw [x_wm h f1 f3, am_b_some, x_wc, am_b_some, ebs]
          rcases bs_c (fun i => h 50 i = 0) (h 14) 6 with ⟨ec, nc⟩ | ⟨k, hk, ec, k0, _⟩
          · simp only [ec, i1, show ((-1 : Int) < 0) = True by decide, ↓reduceIte]
            split <;> exact Sm0.mk rfl f1 s3'
          · have i3 : ((k : Int) < 0) = False := eq_false (by omega)
            have i4 : (0 ≤ (k : Int) ∧ (k : Int) < 6) = True := eq_true (by omega)
            have zk := zc_u (v := 1) (by decide) k0 hk
            have it : ((t : Int) < 6) = True := eq_true (by omega)
            have t1 := pw1 t (by omega)
            have s4 : sc0 hm (am_up b3 50 k 1) := s3'.up _ _ (by decide)
            obtain ⟨b5, e5, s5⟩ := m_plO g (show 0 < 2 by decide) (am_up b3 50 k 1) s4
            have s5' : sc0 hm (am_up b5 49 (plr hx q 0).toNat 1) := (s4.tr s5.z).up _ _ (by decide)
            obtain ⟨b6, e6, s6⟩ := m_plO g (show 1 < 2 by decide) (am_up b5 49 (plr hx q 0).toNat 1) s5'
            have s6' : sc0 hm (am_up b6 49 (plr hx q 1).toNat 1) := (s5'.tr s6.z).up _ _ (by decide)
            rw [show ((0 : Nat) : Int) = 0 from rfl] at e5
            rw [show ((1 : Nat) : Int) = 1 from rfl] at e6
            have sh1 : sc0 hx (am_up h 50 k 1) := f1.up _ _ (by decide)
            have sh2 : sc0 hx (am_up (am_up (am_up h 50 k 1) 49 (plr hx q 0).toNat 1) 49 (plr hx q 1).toNat 1) := (sh1.up _ _ (by decide)).up _ _ (by decide)
            simp only [ec, i1, i3, i4, it, ↓reduceIte, Int.toNat_natCast, ↓am_l_t, e5, e6, ↓am_b_t, eqT p0, eqT p1, x_occ g (am_up h 50 k 1) sh1, t1]
            by_cases ca : (k : Int) = a
            · simp only [eqT ca, ↓reduceIte]
              exact Sm0.mk rfl f1 s6'
            · simp only [eqF ca, ↓reduceIte]
              rw [← hKm]
              have B48 : (am_up b6 49 (plr hx q 1).toNat 1) 48 = up1 (b 48) q 1 := by rw [am_up_ne _ _ _ (by decide), s6 48 (by decide), am_up_ne _ _ _ (by decide), s5 48 (by decide), am_up_ne _ _ _ (by decide), k48_3]
              have B49 : ∀ p, p < 40 → (am_up b6 49 (plr hx q 1).toNat 1) 49 p = up1 (up1 (h 49) (plr hx q 0).toNat 1) (plr hx q 1).toNat 1 p := by
                intro p hp
                rw [am_up_at, s6 49 (by decide), am_up_at, s5 49 (by decide), am_up_ne _ _ _ (by decide)]
                unfold up1
                rw [k49_3 p hp]
              have B50 : ∀ x, x < 6 → (am_up b6 49 (plr hx q 1).toNat 1) 50 x = up1 (h 50) k 1 x := by
                intro x hx6
                rw [am_up_ne _ _ _ (by decide), s6 50 (by decide), am_up_ne _ _ _ (by decide), s5 50 (by decide), am_up_at]
                unfold up1
                rw [k50_3 x hx6]
              have H48 : (am_up (am_up (am_up h 50 k 1) 49 (plr hx q 0).toNat 1) 49 (plr hx q 1).toNat 1) 48 = h 48 := by rw [am_up_ne _ _ _ (by decide), am_up_ne _ _ _ (by decide), am_up_ne _ _ _ (by decide)]
              have H49 : (am_up (am_up (am_up h 50 k 1) 49 (plr hx q 0).toNat 1) 49 (plr hx q 1).toNat 1) 49 = up1 (up1 (h 49) (plr hx q 0).toNat 1) (plr hx q 1).toNat 1 := by rw [am_up_at, am_up_at, am_up_ne _ _ _ (by decide)]
              have H50 : (am_up (am_up (am_up h 50 k 1) 49 (plr hx q 0).toNat 1) 49 (plr hx q 1).toNat 1) 50 = up1 (h 50) k 1 := by rw [am_up_ne _ _ _ (by decide), am_up_ne _ _ _ (by decide), am_up_at]
              have mon : ∀ x, h 49 x ≠ 0 → up1 (up1 (h 49) (plr hx q 0).toNat 1) (plr hx q 1).toNat 1 x ≠ 0 := by
                intro x hx0
                unfold up1
                (repeat' split) <;> first | exact hx0 | decide
              rw [← hKc]
              refine ih (t + 1) m m' _ _ ⟨sh2, s6', fun c hc z => ?_, fun c hc z => ?_, fun c hc z1 z2 => ?_, ?_, ?_⟩ (by rw [B48]; exact zN) hm3 (by rw [H50]; clear t1; omega) (by clear t1; omega)
              · rw [H48] at z; exact f3 c hc z
              · rw [H48]
                rw [B48] at z
                by_cases e : c = q
                · rw [e]; exact hq0
                · rw [up1_n _ _ e] at z; exact f4 c hc z
              · rw [H48] at z1
                rw [B48] at z2
                unfold bz
                rw [H49]
                by_cases e : c = q
                · rw [e]
                  right
                  rw [up1_s]; decide
                · rw [up1_n _ _ e] at z2
                  rcases f5 c hc z1 z2 with y | y
                  · exact Or.inl (mon _ y)
                  · exact Or.inr (mon _ y)
              · intro p hp
                rw [H49, B49 p hp]
              · intro x hx6
                rw [H50, B50 x hx6]
        · simp only [eqF q1, ↓reduceIte]
          exact skipF b3 s3' k48_3 k49_3 k50_3 (Or.inr q1)
      · simp only [eqF q0, ↓reduceIte]
        exact skipF b2 s2' k48_2 k49_2 k50_2 (Or.inl q0)
