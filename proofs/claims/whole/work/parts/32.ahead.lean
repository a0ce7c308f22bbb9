/-! ===== the day's slots: both orders, what stands ahead ===== -/
/-- the reference's place of the s-th slot, and back -/
def ix (s : Nat) : Nat := 6 * (s % 6) + s / 6
def so (a : Nat) : Nat := 6 * (a % 6) + a / 6
theorem ix_so : ∀ a, a < 36 → ix (so a) = a ∧ so a < 36 := by decide +kernel
theorem so_ix : ∀ s, s < 36 → so (ix s) = s ∧ ix s < 36 := by decide +kernel
/-- the s-th slot, once settled -/
def SL (hx h b : am_M) (T s : Nat) : Prop := (b 52 (ix s) = 0 ∧ h 42 s = -1 ∧ h 43 s = -1 ∧ h 44 s = -1) ∨ (b 52 (ix s) = 1 ∧ h 42 s = b 42 (ix s) ∧ h 43 s = b 43 (ix s) ∧ (0 ≤ h 43 s ∧ h 43 s ≤ 102000 + 4000 * T) ∧ ((hx 17 (ix s) < 0 ∧ h 44 s = -1) ∨ ∃ m : Nat, hx 17 (ix s) = m ∧ h 44 s = m ∧ m < 64 ∧ isM hx m ∧ h 45 s = plr hx m 0 ∧ h 46 s = plr hx m 1))
/-- when a court is free again -/
def cE (b : am_M) (c : Nat) : Nat → Int
  | 0 => b 15 c
  | i + 1 => if b 52 (6 * c + i) = 0 then cE b c i else b 43 (6 * c + i)
def TI (hx hm h b : am_M) (T : Nat) : Prop := sc0 hx h ∧ sc0 hm b ∧ (∀ p, p < 40 → h 41 (40 * 1 + p) = ls hx p 64) ∧ (∀ s, s < 36 → T ≤ s → b 52 (ix s) = 0) ∧ (∀ s, s < 36 → s < T → SL hx h b T s) ∧ (∀ c, c < 6 → h 47 c = cE b c 6 ∧ 0 ≤ h 47 c ∧ h 47 c ≤ 102000 + 4000 * T)
theorem fa {s : Nat} (h : s < 36) : (0 ≤ (s : Int) ∧ (s : Int) < 36) = True := eq_true (by omega)
/-- class: match m stands ahead of slot T -/
theorem x_sa (h : am_M) (T : Nat) (hT : T ≤ 36) (m : Int) : ∀ (r s f : Nat), s + r = T → r < f → ∃ v, am_it (fun _ _ _ _ => none) fX5_standsAhead_2b f m (T : Int) (s : Int) h = some (v, h) ∧ ((v = 1 ∧ ∃ i, s ≤ i ∧ i < T ∧ h 44 i = m) ∨ (v = 0 ∧ ∀ i, s ≤ i → i < T → h 44 i ≠ m)) := by
  intro r
  induction r with
  | zero =>
    intro s f hs hf
    obtain ⟨f, rfl⟩ : ∃ q, f = q + 1 := ⟨f - 1, by omega⟩
    have i1 : ((s : Int) < (T : Int)) = False := eq_false (by omega)
    rw [am_it_s]
    unfold fX5_standsAhead_2b
    simp only [i1, ↓reduceIte]
    exact ⟨0, rfl, Or.inr ⟨rfl, fun i h1 h2 => by omega⟩⟩
  | succ r ih =>
    intro s f hs hf
    obtain ⟨f, rfl⟩ : ∃ q, f = q + 1 := ⟨f - 1, by omega⟩
    have i1 : ((s : Int) < (T : Int)) = True := eq_true (by omega)
    have hs36 : s < 36 := by omega
    obtain ⟨v, e, k⟩ := ih (s + 1) f (by omega) (by omega)
    rw [am_it_s]
    generalize am_it (fun _ _ _ _ => none) fX5_standsAhead_2b f = K at e ⊢
    unfold fX5_standsAhead_2b
    simp only [i1, fa hs36, ↓reduceIte, Int.toNat_natCast, pw1 s (by omega), e]
    by_cases c : h 44 s = m
    · simp only [eqT c, ↓reduceIte]
      exact ⟨1, rfl, Or.inl ⟨rfl, s, Nat.le_refl _, by omega, c⟩⟩
    · simp only [eqF c, ↓reduceIte]
      refine ⟨v, rfl, ?_⟩
      rcases k with ⟨k1, i, a1, a2, a3⟩ | ⟨k1, k2⟩
      · exact Or.inl ⟨k1, i, by omega, a2, a3⟩
      · refine Or.inr ⟨k1, fun i a1 a2 => ?_⟩
        by_cases ci : i = s
        · rw [ci]; exact c
        · exact k2 i (by omega) a2
theorem p_sa (h : am_M) (T : Nat) (hT : T ≤ 36) (m : Int) : ∃ v, fX5_standsAhead m (T : Int) h = some (v, h) ∧ ((v = 1 ∧ ∃ i, i < T ∧ h 44 i = m) ∨ (v = 0 ∧ ∀ i, i < T → h 44 i ≠ m)) := by
  obtain ⟨v, e, k⟩ := x_sa h T hT m T 0 400 (by omega) (by omega)
  rw [show ((0 : Nat) : Int) = 0 from rfl] at e
  refine ⟨v, ?_, ?_⟩
  · unfold fX5_standsAhead fX5_standsAhead_2
    exact e
  · rcases k with ⟨k1, i, _, a2, a3⟩ | ⟨k1, k2⟩
    · exact Or.inl ⟨k1, i, a2, a3⟩
    · exact Or.inr ⟨k1, fun i hi => k2 i (Nat.zero_le _) hi⟩
theorem d6 (a : Nat) (h : a < 36) : am_w (Int.tdiv (a : Int) 6) = ((a / 6 : Nat) : Int) ∧ Int.tmod (a : Int) 6 = ((a % 6 : Nat) : Int) := by
  constructor
  · rw [show (6 : Int) = ((6 : Nat) : Int) from rfl, p_tdiv, pw_n]; omega
  · rw [show (6 : Int) = ((6 : Nat) : Int) from rfl, p_tmod]
theorem m_isAhead (a c k : Nat) (ha : a < 36) (hc : c < 6) (b : am_M) : fX9_isAhead ((a / 6 : Nat) : Int) ((a % 6 : Nat) : Int) (c : Int) (k : Int) b = some (if so a < 6 * k + c then 1 else 0, b) := by
  unfold fX9_isAhead so
  by_cases c1 : a % 6 < k
  · rw [if_pos (by omega), if_pos (by omega)]
  · by_cases c2 : a % 6 = k
    · by_cases c3 : a / 6 < c
      · rw [if_neg (by omega), if_pos (by omega), if_pos (by omega), if_pos (by omega)]
      · rw [if_neg (by omega), if_pos (by omega), if_neg (by omega), if_neg (by omega)]
    · rw [if_neg (by omega), if_neg (by omega), if_neg (by omega)]
theorem m_aw (b : am_M) (c k : Nat) (hc : c < 6) (m : Int) : ∀ (r a f : Nat) (o : Int), a + r = 36 → r < f → (o = 0 ∨ o = 1) → ∃ v, am_it (fun _ _ _ _ _ _ => none) fX9_isAheadWith_6b f m (c : Int) (k : Int) o (a : Int) b = some (v, b) ∧ ((v = 1 ∧ (o = 1 ∨ ∃ i, a ≤ i ∧ i < 36 ∧ b 52 i ≠ 0 ∧ so i < 6 * k + c ∧ b 17 i = m)) ∨ (v = 0 ∧ o = 0 ∧ ∀ i, a ≤ i → i < 36 → b 52 i ≠ 0 → so i < 6 * k + c → b 17 i ≠ m)) := by
  intro r
  induction r with
  | zero =>
    intro a f o ha hf ho
    obtain ⟨f, rfl⟩ : ∃ q, f = q + 1 := ⟨f - 1, by omega⟩
    obtain rfl : a = 36 := by omega
    rw [am_it_s]
    unfold fX9_isAheadWith_6b
    rw [if_neg (by decide), if_pos ho]
    refine ⟨o, rfl, ?_⟩
    rcases ho with q | q
    · exact Or.inr ⟨q, q, fun i h1 h2 => by omega⟩
    · exact Or.inl ⟨q, Or.inl q⟩
  | succ r ih =>
    intro a f o ha hf ho
    obtain ⟨f, rfl⟩ : ∃ q, f = q + 1 := ⟨f - 1, by omega⟩
    have h36 : a < 36 := by omega
    have i1 : ((a : Int) < 36) = True := eq_true (by omega)
    have nx := fun o ho => ih (a + 1) f o (by omega) (by omega) ho
    have dd := d6 a h36
    rw [am_it_s]
    clear ih
    generalize am_it (fun _ _ _ _ _ _ => none) fX9_isAheadWith_6b f = K at nx ⊢
    unfold fX9_isAheadWith_6b fX9_isAheadWith_57 fX9_isAheadWith_61 fX9_isAheadWith_62
    simp only [i1, fa h36, ↓reduceIte, Int.toNat_natCast, dd.1, dd.2, m_isAhead a c k h36 hc, ↓am_b_t, pw1 a (Nat.lt_trans h36 (by decide))]
    clear dd
    have hit : b 52 a ≠ 0 → so a < 6 * k + c → b 17 a = m → o = 0 → ∃ v, K m (c : Int) (k : Int) 1 ((a + 1 : Nat) : Int) b = some (v, b) ∧ ((v = 1 ∧ (o = 1 ∨ ∃ i, a ≤ i ∧ i < 36 ∧ b 52 i ≠ 0 ∧ so i < 6 * k + c ∧ b 17 i = m)) ∨ (v = 0 ∧ o = 0 ∧ ∀ i, a ≤ i → i < 36 → b 52 i ≠ 0 → so i < 6 * k + c → b 17 i ≠ m)) := by
      intro h1 h2 h3 _
      obtain ⟨v, e, kk⟩ := nx 1 (Or.inr rfl)
      refine ⟨v, e, Or.inl ⟨?_, Or.inr ⟨a, Nat.le_refl _, h36, h1, h2, h3⟩⟩⟩
      rcases kk with kk | kk
      · exact kk.1
      · exact absurd kk.2.1 (by decide)
    have miss : ¬ (b 52 a ≠ 0 ∧ so a < 6 * k + c ∧ b 17 a = m) → o = 0 → ∃ v, K m (c : Int) (k : Int) 0 ((a + 1 : Nat) : Int) b = some (v, b) ∧ ((v = 1 ∧ (o = 1 ∨ ∃ i, a ≤ i ∧ i < 36 ∧ b 52 i ≠ 0 ∧ so i < 6 * k + c ∧ b 17 i = m)) ∨ (v = 0 ∧ o = 0 ∧ ∀ i, a ≤ i → i < 36 → b 52 i ≠ 0 → so i < 6 * k + c → b 17 i ≠ m)) := by
      intro h1 h2
      obtain ⟨v, e, kk⟩ := nx 0 (Or.inl rfl)
      refine ⟨v, e, ?_⟩
      rcases kk with ⟨k1, k2 | ⟨i, a1, a2⟩⟩ | ⟨k1, k2, k3⟩
      · exact absurd k2 (by decide)
      · exact Or.inl ⟨k1, Or.inr ⟨i, by omega, a2⟩⟩
      · refine Or.inr ⟨k1, h2, fun i a1 a2 a3 a4 a5 => ?_⟩
        by_cases ci : i = a
        · rw [ci] at a3 a4 a5; exact h1 ⟨a3, a4, a5⟩
        · exact k3 i (by omega) a2 a3 a4 a5
    rcases ho with q | q
    · simp only [eqT q, ↓reduceIte]
      simp only [eqT q] at hit miss
      by_cases c1 : b 52 a = 0
      · simp only [eqT c1, ↓reduceIte]
        exact miss (fun z => z.1 c1) trivial
      · by_cases c2 : so a < 6 * k + c
        · by_cases c3 : b 17 a = m
          · simp only [eqF c1, eqT c2, eqT c3, ↓reduceIte, z10]
            exact hit c1 c2 c3 trivial
          · simp only [eqF c1, eqT c2, eqF c3, ↓reduceIte, z10]
            exact miss (fun z => c3 z.2.2) trivial
        · simp only [eqF c1, eqF c2, ↓reduceIte]
          exact miss (fun z => c2 z.2.1) trivial
    · simp only [q, z10, ↓reduceIte]
      obtain ⟨v, e, kk⟩ := nx 1 (Or.inr rfl)
      refine ⟨v, e, Or.inl ⟨?_, Or.inl trivial⟩⟩
      rcases kk with kk | kk
      · exact kk.1
      · exact absurd kk.2.1 (by decide)
/-- reference: match m stands ahead: it answers as the class -/
theorem m_ah {hx hm h b : am_M} (r : Rel hx hm) {c k : Nat} (hc : c < 6) (hk : k < 6) (I : TI hx hm h b (6 * k + c)) (m : Nat) : ∃ v, fX9_isAheadWith (m : Int) (c : Int) (k : Int) b = some (v, b) ∧ ((v = 1 ∧ ∃ i, i < 6 * k + c ∧ h 44 i = m) ∨ (v = 0 ∧ ∀ i, i < 6 * k + c → h 44 i ≠ m)) := by
  obtain ⟨v, e, kk⟩ := m_aw b c k hc m 36 0 400 0 (by decide) (by decide) (Or.inl rfl)
  rw [show ((0 : Nat) : Int) = 0 from rfl] at e
  refine ⟨v, by unfold fX9_isAheadWith fX9_isAheadWith_6; exact e, ?_⟩
  have b17 : ∀ i, b 17 i = hx 17 i := fun i => by rw [I.2.1 17 (by decide), r.1 17 (by decide) (by decide)]
  rcases kk with ⟨k1, k2 | ⟨i, _, a2, a3, a4, a5⟩⟩ | ⟨k1, _, k3⟩
  · exact absurd k2 (by decide)
  · refine Or.inl ⟨k1, so i, a4, ?_⟩
    have hi := ix_so i a2
    rcases I.2.2.2.2.1 (so i) hi.2 a4 with q | q
    · rw [hi.1] at q; exact absurd q.1 a3
    · rw [hi.1] at q
      rw [b17] at a5
      rcases q.2.2.2.2 with ⟨y, _⟩ | ⟨m', y1, y2, _⟩
      · omega
      · rw [y2, ← y1, a5]
  · refine Or.inr ⟨k1, fun s hs z => ?_⟩
    have hs36 : s < 36 := by omega
    have hi := so_ix s hs36
    rcases I.2.2.2.2.1 s hs36 hs with q | q
    · rw [q.2.2.2] at z; omega
    · rcases q.2.2.2.2 with ⟨_, y⟩ | ⟨m', y1, y2, _⟩
      · rw [y] at z; omega
      · refine k3 (ix s) (Nat.zero_le _) hi.2 ?_ ?_ ?_
        · rw [q.1]; decide
        · rw [hi.1]; exact hs
        · rw [b17, y1, ← y2, z]
