/-! ===== all points of a match ===== -/
theorem x_take (w L k : Int) (t : tl_T) (h : am_M) (hw : w = 0 ∨ w = 1) (hT : TL h t) (hb : tb k t) (hk : k ≤ 300) (hL : L ≤ 3) (h39 : h 39 0 = L) (s0 : t.2.2.1 0 < L) (s1 : t.2.2.1 1 < L) : Tk L w.toNat t h (fX7_take w h) := by
  rcases hw with rfl | rfl
  · exact x_take_0 L k t h hT hb hk hL h39 s0 s1
  · exact x_take_1 L k t h hT hb hk hL h39 s0 s1
theorem m_play (w L k : Int) (t : tl_T) (h : am_M) (hw : w = 0 ∨ w = 1) (hT : TL h t) (hb : tb k t) (hk : k ≤ 300) (hL : L ≤ 3) (h39 : h 39 0 = t.2.2.1 0 + t.2.2.1 1) (s0 : t.2.2.1 0 < L) (s1 : t.2.2.1 1 < L) : Pk L w.toNat t h (fX9_play w L h) := by
  rcases hw with rfl | rfl
  · exact m_play_0 L k t h hT hb hk hL h39 s0 s1
  · exact m_play_1 L k t h hT hb hk hL h39 s0 s1
/-- points of a match that may be replayed: Q of them, nobody had won ahead of the last -/
def pok (L : Int) (p : Nat → Int) (Q : Nat) : Prop := (L = 2 ∨ L = 3) ∧ Q ≤ 301 ∧ (∀ i, i < Q → p i = 0 ∨ p i = 1) ∧ ∀ k, k < Q → ¬ tl_won L (tl_at p k)
theorem pok.lt {L : Int} {p : Nat → Int} {Q : Nat} (h : pok L p Q) {k : Nat} (hk : k < Q) : (tl_at p k).2.2.1 0 < L ∧ (tl_at p k).2.2.1 1 < L :=
  tl_lt L (by have := h.1; omega) p Q h.2.2.1 k (by omega) (fun i hi => h.2.2.2 i (by omega))
theorem pok.tb {L : Int} {p : Nat → Int} {Q : Nat} (h : pok L p Q) {k : Nat} (hk : k ≤ Q) : tb k (tl_at p k) := tb_at p Q h.2.2.1 k hk
theorem x_rp (d j Q : Nat) (L : Int) (p : Nat → Int) (h0 : am_M) (hj : j < 16) (hQ : h0 9 (16 * d + j) = Q) (hp : pok L p Q) (hb : ∀ i, i < Q → ∀ h, sc h0 h → fX2_pointOf d (j : Int) (i : Int) h = some (p i, h)) :
    ∀ r i m h, i + r = Q → r < m → sc h0 h → TL h (tl_at p i) → h 39 0 = L → ∃ h', am_it (fun _ _ _ _ => none) fX7_replay_54b m d (j : Int) (i : Int) h = some ((), h') ∧ sc h0 h' ∧ TL h' (tl_at p Q) ∧ h' 39 0 = L := by
  intro r
  induction r with
  | zero =>
    intro i m h hi hm hs hT h39
    obtain ⟨m, rfl⟩ : ∃ m', m = m' + 1 := ⟨m - 1, by omega⟩
    obtain rfl : i = Q := by omega
    rw [am_it_s]
    unfold fX7_replay_54b
    rw [if_pos (by omega), Int.toNat_natCast, hs 9 (by omega), hQ, if_neg (by omega)]
    exact ⟨h, rfl, hs, hT, h39⟩
  | succ r ih =>
    intro i m h hi hm hs hT h39
    obtain ⟨m, rfl⟩ : ∃ m', m = m' + 1 := ⟨m - 1, by omega⟩
    rw [am_it_s]
    unfold fX7_replay_54b
    have hiQ : i < Q := by omega
    rw [if_pos (by omega), Int.toNat_natCast, hs 9 (by omega), hQ, if_pos (by omega), hb i hiQ h hs, am_b_some]
    have hl := hp.lt hiQ
    obtain ⟨h1, e1, T1, s1, f1⟩ := x_take (p i) L i (tl_at p i) h (hp.2.2.1 i hiQ) hT (hp.tb (by omega)) (by have := hp.2.1; omega) (by have := hp.1; omega) h39 hl.1 hl.2
    rw [e1, am_b_some, pw1 i (by have := hp.2.1; omega)]
    exact ih (i + 1) m h1 (by omega) (by omega) (hs.tr s1) T1 (f1.trans h39)
theorem x_cl (K : Nat → Int → Int → am_M → Option (Unit × am_M)) (d : Nat) (j : Int) (h : am_M) : fX7_replay_2b K d j 0 h = K d j 1 (am_up (am_up (am_up h 34 0 0) 35 0 0) 36 0 0) := by
  unfold fX7_replay_2b
  rw [if_pos (by decide), if_pos (by decide), am_l_eq, if_pos (by decide), am_l_eq, if_pos (by decide), am_l_eq]
  rfl
theorem x_cl1 (K : Nat → Int → Int → am_M → Option (Unit × am_M)) (d : Nat) (j : Int) (h : am_M) : fX7_replay_2b K d j 1 h = K d j 2 (am_up (am_up (am_up h 34 1 0) 35 1 0) 36 1 0) := by
  unfold fX7_replay_2b
  rw [if_pos (by decide), if_pos (by decide), am_l_eq, if_pos (by decide), am_l_eq, if_pos (by decide), am_l_eq]
  rfl
theorem x_cl2 (K : Nat → Int → Int → am_M → Option (Unit × am_M)) (d : Nat) (j : Int) (h : am_M) : fX7_replay_2b K d j 2 h = fX7_replay_34 d j h := by
  unfold fX7_replay_2b
  rw [if_neg (by decide)]
/-- scores wiped -/
def clr (h : am_M) : am_M := am_up (am_up (am_up (am_up (am_up (am_up h 34 0 0) 35 0 0) 36 0 0) 34 1 0) 35 1 0) 36 1 0
theorem clr_sc (h : am_M) : sc h (clr h) := ((((((sc.rf h).upt _ _ (by decide)).upt _ _ (by decide)).upt _ _ (by decide)).upt _ _ (by decide)).upt _ _ (by decide)).upt _ _ (by decide)
theorem x_cla (m d : Nat) (j : Int) (h : am_M) : am_it (fun _ _ _ _ => none) fX7_replay_2b (m + 3) d j 0 h = fX7_replay_34 d j (clr h) := by
  rw [am_it_s, x_cl, am_it_s, x_cl1, am_it_s, x_cl2]
  rfl
theorem x_replay (d j Q : Nat) (L : Int) (p : Nat → Int) (h0 : am_M) (hj : j < 16) (hQ : h0 9 (16 * d + j) = Q) (hL : h0 2 d = L) (hp : pok L p Q) (hb : ∀ i, i < Q → ∀ h, sc h0 h → fX2_pointOf d (j : Int) (i : Int) h = some (p i, h)) (h : am_M) (hs : sc h0 h) : ∃ h', fX7_replay d (j : Int) h = some ((), h') ∧ sc h0 h' ∧ TL h' (tl_at p Q) ∧ h' 39 0 = L := by
  unfold fX7_replay fX7_replay_2
  rw [x_cla 397 d j h]
  unfold fX7_replay_34 fX7_replay_54
  rw [am_l_eq, am_l_eq, am_l_eq]
  have e2 : am_up (am_up (clr h) 38 0 0) 40 0 0 2 d = L := by
    rw [am_up_k _ _ _ _ (by decide), am_up_k _ _ _ _ (by decide), clr_sc h 2 (by omega), hs 2 (by omega), hL]
  rw [e2]
  refine x_rp d j Q L p h0 hj hQ hp hb Q 0 400 _ (by omega) (by have := hp.2.1; omega) ((((hs.tr (clr_sc h)).upt _ _ (by decide)).upt _ _ (by decide)).upt _ _ (by decide)) ⟨?_, ?_, ?_, ?_, ?_, ?_, ?_, ?_, ?_⟩ ?_
  all_goals first | (simp [tl_at, tl_0, clr, am_up_ap]; done) | (intro i hi; exfalso; simp [tl_at, tl_0] at hi; omega)
def tl_last (L : Int) (p : Nat → Int) : Nat → Int
  | 0 => 0
  | k + 1 => tl_told L (p k).toNat (tl_at p k)
theorem m_ix (c i : Nat) (hc : c < 64) (hi : i < 300) : am_w (am_w ((300 : Int) * (c : Int)) + (i : Int)) = ((300 * c + i : Nat) : Int) := by
  rw [pw (x := (300 : Int) * (c : Int)) (by omega) (by omega), pw (by omega) (by omega)]; omega
theorem m_rp (d j N : Nat) (L : Int) (p : Nat → Int) (h0 : am_M) (hd : d < 4) (hj : j < 16) (hL : h0 2 d = L) (hN : N ≤ 300) (hp : pok L p N) (hb : ∀ i, i < N → h0 23 (300 * (16 * d + j) + i) = p i) :
    ∀ r i m h, i + r = N → r < m → sc h0 h → TL h (tl_at p i) → h 39 0 = (tl_at p i).2.2.1 0 + (tl_at p i).2.2.1 1 → h 51 0 = tl_last L p i → ∃ h', am_it (fun _ _ _ _ => none) fX9_replay_56b m ((16 * d + j : Nat) : Int) (N : Int) (i : Int) h = some ((), h') ∧ sc h0 h' ∧ TL h' (tl_at p N) ∧ h' 39 0 = (tl_at p N).2.2.1 0 + (tl_at p N).2.2.1 1 ∧ h' 51 0 = tl_last L p N := by
  intro r
  induction r with
  | zero =>
    intro i m h hi hm hs hT h39 h51
    obtain ⟨m, rfl⟩ : ∃ m', m = m' + 1 := ⟨m - 1, by omega⟩
    obtain rfl : i = N := by omega
    rw [am_it_s]
    unfold fX9_replay_56b
    rw [if_neg (by omega)]
    exact ⟨h, rfl, hs, hT, h39, h51⟩
  | succ r ih =>
    intro i m h hi hm hs hT h39 h51
    obtain ⟨m, rfl⟩ : ∃ m', m = m' + 1 := ⟨m - 1, by omega⟩
    rw [am_it_s]
    unfold fX9_replay_56b
    have hiQ : i < N := by omega
    have hl := hp.lt hiQ
    rw [if_pos (by omega), m_ix _ _ (by omega) (by omega), if_pos (by omega), cd_div d j hj hd, if_pos (by omega), Int.toNat_natCast, Int.toNat_natCast, hs 23 (by omega), hs 2 (by omega), hL, hb i hiQ]
    obtain ⟨h1, e1, T1, s1, f1, g1⟩ := m_play (p i) L i (tl_at p i) h (hp.2.2.1 i hiQ) hT (hp.tb (by omega)) (by omega) (by have := hp.1; omega) h39 hl.1 hl.2
    rw [e1, am_b_some, pw1 i (by omega)]
    exact ih (i + 1) m h1 (by omega) (by omega) (hs.tr s1) T1 f1 g1
theorem m_cl (K : Int → Int → Int → am_M → Option (Unit × am_M)) (c q : Int) (h : am_M) : fX9_replay_2b K c q 0 h = K c q 1 (am_up (am_up (am_up h 34 0 0) 35 0 0) 36 0 0) := by
  unfold fX9_replay_2b
  rw [if_pos (by decide), if_pos (by decide), am_l_eq, if_pos (by decide), am_l_eq, if_pos (by decide), am_l_eq]
  rfl
theorem m_cl1 (K : Int → Int → Int → am_M → Option (Unit × am_M)) (c q : Int) (h : am_M) : fX9_replay_2b K c q 1 h = K c q 2 (am_up (am_up (am_up h 34 1 0) 35 1 0) 36 1 0) := by
  unfold fX9_replay_2b
  rw [if_pos (by decide), if_pos (by decide), am_l_eq, if_pos (by decide), am_l_eq, if_pos (by decide), am_l_eq]
  rfl
theorem m_cl2 (K : Int → Int → Int → am_M → Option (Unit × am_M)) (c q : Int) (h : am_M) : fX9_replay_2b K c q 2 h = fX9_replay_34 c q h := by
  unfold fX9_replay_2b
  rw [if_neg (by decide)]
theorem m_cla (m : Nat) (c q : Int) (h : am_M) : am_it (fun _ _ _ _ => none) fX9_replay_2b (m + 3) c q 0 h = fX9_replay_34 c q (clr h) := by
  rw [am_it_s, m_cl, am_it_s, m_cl1, am_it_s, m_cl2]
  rfl
theorem m_replay (d j N : Nat) (L : Int) (p : Nat → Int) (h0 : am_M) (hd : d < 4) (hj : j < 16) (hL : h0 2 d = L) (hN : N ≤ 300) (hp : pok L p N) (hb : ∀ i, i < N → h0 23 (300 * (16 * d + j) + i) = p i) (h : am_M) (hs : sc h0 h) : ∃ h', fX9_replay ((16 * d + j : Nat) : Int) (N : Int) h = some ((), h') ∧ sc h0 h' ∧ TL h' (tl_at p N) ∧ h' 39 0 = (tl_at p N).2.2.1 0 + (tl_at p N).2.2.1 1 ∧ h' 51 0 = tl_last L p N := by
  unfold fX9_replay fX9_replay_2
  rw [m_cla 397 _ _ h]
  unfold fX9_replay_34 fX9_replay_56
  rw [am_l_eq, am_l_eq, am_l_eq, am_l_eq]
  refine m_rp d j N L p h0 hd hj hL hN hp hb N 0 400 _ (by omega) (by omega) (((((hs.tr (clr_sc h)).upt _ _ (by decide)).upt _ _ (by decide)).upt _ _ (by decide)).upt _ _ (by decide)) ⟨?_, ?_, ?_, ?_, ?_, ?_, ?_, ?_, ?_⟩ ?_ ?_
  all_goals first | (simp [tl_at, tl_0, tl_last, clr, am_up_ap]; done) | (intro i hi; exfalso; simp [tl_at, tl_0] at hi; omega)
