/-! ===== the best of a row ===== -/
noncomputable def bs (ok : Nat → Prop) (w : Nat → Int) : Nat → Int
  | 0 => -1
  | k + 1 => @ite _ (ok k ∧ (bs ok w k < 0 ∨ w (bs ok w k).toNat < w k)) (Classical.propDecidable _) (k : Int) (bs ok w k)
theorem bs_p {ok : Nat → Prop} {w : Nat → Int} {k : Nat} (h : ok k ∧ (bs ok w k < 0 ∨ w (bs ok w k).toNat < w k)) : bs ok w (k + 1) = k := if_pos h
theorem bs_q {ok : Nat → Prop} {w : Nat → Int} {k : Nat} (h : ¬ (ok k ∧ (bs ok w k < 0 ∨ w (bs ok w k).toNat < w k))) : bs ok w (k + 1) = bs ok w k := if_neg h
theorem bs_c (ok : Nat → Prop) (w : Nat → Int) : ∀ K, (bs ok w K = -1 ∧ ∀ i, i < K → ¬ ok i) ∨ ∃ q : Nat, q < K ∧ bs ok w K = q ∧ ok q ∧ ∀ i, i < K → ok i → w i < w q ∨ (w i = w q ∧ q ≤ i) := by
  intro K
  induction K with
  | zero => exact Or.inl ⟨rfl, fun i hi => absurd hi (Nat.not_lt_zero _)⟩
  | succ k ih =>
    by_cases c : ok k ∧ (bs ok w k < 0 ∨ w (bs ok w k).toNat < w k)
    · refine Or.inr ⟨k, Nat.lt_succ_self _, bs_p c, c.1, fun i hi oi => ?_⟩
      by_cases e : i = k
      · subst e; exact Or.inr ⟨rfl, Nat.le_refl _⟩
      · have hik : i < k := by omega
        rcases ih with ⟨_, h2⟩ | ⟨q, h1, h2, h3, h4⟩
        · exact absurd oi (h2 i hik)
        · left
          have c2 := c.2
          rw [h2, Int.toNat_natCast] at c2
          have := h4 i hik oi
          omega
    · rw [bs_q c]
      rcases ih with ⟨h1, h2⟩ | ⟨q, h1, h2, h3, h4⟩
      · refine Or.inl ⟨h1, fun i hi oi => ?_⟩
        by_cases e : i = k
        · subst e; exact c ⟨oi, Or.inl (by rw [h1]; decide)⟩
        · exact h2 i (by omega) oi
      · refine Or.inr ⟨q, by omega, h2, h3, fun i hi oi => ?_⟩
        by_cases e : i = k
        · subst e
          have : ¬ w q < w i := fun z => c ⟨oi, Or.inr (by rw [h2, Int.toNat_natCast]; exact z)⟩
          omega
        · exact h4 i (by omega) oi
theorem bs_u {ok : Nat → Prop} {w : Nat → Int} {K q : Nat} (hq : q < K) (o : ok q) (h : ∀ i, i < K → ok i → w i < w q ∨ (w i = w q ∧ q ≤ i)) : bs ok w K = q := by
  rcases bs_c ok w K with ⟨_, h2⟩ | ⟨p, h1, h2, h3, h4⟩
  · exact absurd o (h2 q hq)
  · rw [h2]
    have a := h p h1 h3
    have b := h4 q hq o
    omega
theorem bs_n {ok : Nat → Prop} {w : Nat → Int} {K : Nat} (h : ∀ i, i < K → ¬ ok i) : bs ok w K = -1 := by
  rcases bs_c ok w K with ⟨h1, _⟩ | ⟨p, h1, _, h3, _⟩
  · exact h1
  · exact absurd h3 (h p h1)
/-- how many zeros -/
noncomputable def zc (f : Nat → Int) : Nat → Nat
  | 0 => 0
  | k + 1 => zc f k + if f k = 0 then 1 else 0
theorem zc_le (f : Nat → Int) : ∀ K, zc f K ≤ K := by
  intro K
  induction K with
  | zero => exact Nat.le_refl _
  | succ k ih =>
    simp only [zc]
    split <;> omega
theorem zc_z {f : Nat → Int} : ∀ {K : Nat}, zc f K = 0 → ∀ i, i < K → f i ≠ 0 := by
  intro K
  induction K with
  | zero => intro _ i hi; exact absurd hi (Nat.not_lt_zero _)
  | succ k ih =>
    intro h i hi
    simp only [zc] at h
    by_cases e : i = k
    · subst e
      intro z
      rw [if_pos z] at h
      omega
    · exact ih (by omega) i (by omega)
theorem zc_cg {f g : Nat → Int} : ∀ {K : Nat}, (∀ i, i < K → g i = f i) → zc g K = zc f K := by
  intro K
  induction K with
  | zero => intro _; rfl
  | succ k ih =>
    intro h
    simp only [zc]
    rw [ih (fun i hi => h i (by omega)), h k (by omega)]
theorem zc_u {f : Nat → Int} {q : Nat} {v : Int} (hv : v ≠ 0) (h0 : f q = 0) : ∀ {K : Nat}, q < K → zc (up1 f q v) K + 1 = zc f K := by
  intro K
  induction K with
  | zero => intro h; exact absurd h (Nat.not_lt_zero _)
  | succ k ih =>
    intro h
    simp only [zc]
    by_cases e : q = k
    · subst e
      rw [zc_cg (fun i hi => up1_n f v (by omega)), up1_s, if_neg hv, if_pos h0]
    · have := ih (by omega)
      rw [up1_n f v (Ne.symm e)]
      omega
theorem x_wcl (h : am_M) : ∀ (r c m : Nat), c + r = 6 → r < m → am_it (fun _ _ _ => none) fX3_worthiestCourt_4b m (bs (fun i => h 50 i = 0) (h 14) c) (c : Int) h = some (bs (fun i => h 50 i = 0) (h 14) 6, h) := by
  intro r
  induction r with
  | zero =>
    intro c m hc hf
    obtain ⟨m, rfl⟩ : ∃ q, m = q + 1 := ⟨m - 1, by omega⟩
    obtain rfl : c = 6 := by omega
    rw [am_it_s]
    unfold fX3_worthiestCourt_4b
    rw [if_neg (by decide)]
  | succ r ih =>
    intro c m hcr hf
    obtain ⟨m, rfl⟩ : ∃ q, m = q + 1 := ⟨m - 1, by omega⟩
    have i1 : ((c : Int) < 6) = True := eq_true (by omega)
    have i2 : (0 ≤ (c : Int) ∧ (c : Int) < 6) = True := eq_true (by omega)
    have cb := bs_c (fun i => h 50 i = 0) (h 14) c
    have hcN : c < 6 := by omega
    have c1 := pw1 c (by omega)
    have nx := ih (c + 1) m (by clear c1; omega) (by clear c1; omega)
    rw [am_it_s]
    clear ih
    generalize am_it (fun _ _ _ => none) fX3_worthiestCourt_4b m = K at nx ⊢
    unfold fX3_worthiestCourt_4b fX3_worthiestCourt_44 fX3_worthiestCourt_46
    simp only [i1, i2, ↓reduceIte, Int.toNat_natCast, c1]
    clear c1
    by_cases c0 : h 50 c = 0
    · simp only [eqT c0, ↓reduceIte]
      rcases cb with ⟨e, _⟩ | ⟨q, hq, e, _⟩
      · rw [e]
        simp only [show ((-1 : Int) < 0) = True by decide, ↓reduceIte]
        rw [bs_p ⟨c0, Or.inl (by rw [e]; decide)⟩] at nx
        exact nx
      · have i3 : ((q : Int) < 0) = False := eq_false (by omega)
        have i4 : (0 ≤ (q : Int) ∧ (q : Int) < 6) = True := eq_true (by omega)
        by_cases cw : h 14 c ≤ h 14 q
        · have hb : bs (fun i => h 50 i = 0) (h 14) (c + 1) = q := by
            rw [bs_q, e]
            rintro ⟨_, z⟩
            rw [e, Int.toNat_natCast] at z
            omega
          rw [hb] at nx
          rw [e]
          simp only [i3, i4, ↓reduceIte, Int.toNat_natCast, eqT cw]
          exact nx
        · have hb : bs (fun i => h 50 i = 0) (h 14) (c + 1) = c := bs_p ⟨c0, Or.inr (by rw [e, Int.toNat_natCast]; omega)⟩
          rw [hb] at nx
          rw [e]
          simp only [i3, i4, ↓reduceIte, Int.toNat_natCast, eqF cw]
          exact nx
    · simp only [eqF c0, ↓reduceIte]
      rw [bs_q (fun z => c0 z.1)] at nx
      exact nx
theorem m_ncl (h : am_M) : ∀ (r c m : Nat), c + r = 6 → r < m → am_it (fun _ _ _ => none) fX9_nextCourt_4b m (bs (fun i => h 50 i = 0) (h 14) c) (c : Int) h = some (bs (fun i => h 50 i = 0) (h 14) 6, h) := by
  intro r
  induction r with
  | zero =>
    intro c m hc hf
    obtain ⟨m, rfl⟩ : ∃ q, m = q + 1 := ⟨m - 1, by omega⟩
    obtain rfl : c = 6 := by omega
    rw [am_it_s]
    unfold fX9_nextCourt_4b
    rw [if_neg (by decide)]
  | succ r ih =>
    intro c m hcr hf
    obtain ⟨m, rfl⟩ : ∃ q, m = q + 1 := ⟨m - 1, by omega⟩
    have i1 : ((c : Int) < 6) = True := eq_true (by omega)
    have i2 : (0 ≤ (c : Int) ∧ (c : Int) < 6) = True := eq_true (by omega)
    have cb := bs_c (fun i => h 50 i = 0) (h 14) c
    have hcN : c < 6 := by omega
    have c1 := pw1 c (by omega)
    have nx := ih (c + 1) m (by clear c1; omega) (by clear c1; omega)
    rw [am_it_s]
    clear ih
    generalize am_it (fun _ _ _ => none) fX9_nextCourt_4b m = K at nx ⊢
    unfold fX9_nextCourt_4b fX9_nextCourt_38 fX9_nextCourt_40
    simp only [i1, i2, ↓reduceIte, Int.toNat_natCast, c1]
    clear c1
    by_cases c0 : h 50 c = 0
    · simp only [eqT c0, ↓reduceIte]
      rcases cb with ⟨e, _⟩ | ⟨q, hq, e, _⟩
      · rw [e]
        simp only [show ((-1 : Int) < 0) = True by decide, ↓reduceIte]
        rw [bs_p ⟨c0, Or.inl (by rw [e]; decide)⟩] at nx
        exact nx
      · have i3 : ((q : Int) < 0) = False := eq_false (by omega)
        have i4 : (0 ≤ (q : Int) ∧ (q : Int) < 6) = True := eq_true (by omega)
        by_cases cw : h 14 c ≤ h 14 q
        · have hb : bs (fun i => h 50 i = 0) (h 14) (c + 1) = q := by
            rw [bs_q, e]
            rintro ⟨_, z⟩
            rw [e, Int.toNat_natCast] at z
            omega
          rw [hb] at nx
          rw [e]
          simp only [i3, i4, ↓reduceIte, Int.toNat_natCast, eqT cw]
          exact nx
        · have hb : bs (fun i => h 50 i = 0) (h 14) (c + 1) = c := bs_p ⟨c0, Or.inr (by rw [e, Int.toNat_natCast]; omega)⟩
          rw [hb] at nx
          rw [e]
          simp only [i3, i4, ↓reduceIte, Int.toNat_natCast, eqF cw]
          exact nx
    · simp only [eqF c0, ↓reduceIte]
      rw [bs_q (fun z => c0 z.1)] at nx
      exact nx
theorem m_nml (h : am_M) : ∀ (r c m : Nat), c + r = 64 → r < m → am_it (fun _ _ _ => none) fX9_nextMatch_4b m (bs (fun i => h 48 i = 0) (h 11) c) (c : Int) h = some (bs (fun i => h 48 i = 0) (h 11) 64, h) := by
  intro r
  induction r with
  | zero =>
    intro c m hc hf
    obtain ⟨m, rfl⟩ : ∃ q, m = q + 1 := ⟨m - 1, by omega⟩
    obtain rfl : c = 64 := by omega
    rw [am_it_s]
    unfold fX9_nextMatch_4b
    rw [if_neg (by decide)]
  | succ r ih =>
    intro c m hcr hf
    obtain ⟨m, rfl⟩ : ∃ q, m = q + 1 := ⟨m - 1, by omega⟩
    have i1 : ((c : Int) < 64) = True := eq_true (by omega)
    have i2 : (0 ≤ (c : Int) ∧ (c : Int) < 64) = True := eq_true (by omega)
    have cb := bs_c (fun i => h 48 i = 0) (h 11) c
    have hcN : c < 64 := by omega
    have c1 := pw1 c (by omega)
    have nx := ih (c + 1) m (by clear c1; omega) (by clear c1; omega)
    rw [am_it_s]
    clear ih
    generalize am_it (fun _ _ _ => none) fX9_nextMatch_4b m = K at nx ⊢
    unfold fX9_nextMatch_4b fX9_nextMatch_38 fX9_nextMatch_40
    simp only [i1, i2, ↓reduceIte, Int.toNat_natCast, c1]
    clear c1
    by_cases c0 : h 48 c = 0
    · simp only [eqT c0, ↓reduceIte]
      rcases cb with ⟨e, _⟩ | ⟨q, hq, e, _⟩
      · rw [e]
        simp only [show ((-1 : Int) < 0) = True by decide, ↓reduceIte]
        rw [bs_p ⟨c0, Or.inl (by rw [e]; decide)⟩] at nx
        exact nx
      · have i3 : ((q : Int) < 0) = False := eq_false (by omega)
        have i4 : (0 ≤ (q : Int) ∧ (q : Int) < 64) = True := eq_true (by omega)
        by_cases cw : h 11 c ≤ h 11 q
        · have hb : bs (fun i => h 48 i = 0) (h 11) (c + 1) = q := by
            rw [bs_q, e]
            rintro ⟨_, z⟩
            rw [e, Int.toNat_natCast] at z
            omega
          rw [hb] at nx
          rw [e]
          simp only [i3, i4, ↓reduceIte, Int.toNat_natCast, eqT cw]
          exact nx
        · have hb : bs (fun i => h 48 i = 0) (h 11) (c + 1) = c := bs_p ⟨c0, Or.inr (by rw [e, Int.toNat_natCast]; omega)⟩
          rw [hb] at nx
          rw [e]
          simp only [i3, i4, ↓reduceIte, Int.toNat_natCast, eqF cw]
          exact nx
    · simp only [eqF c0, ↓reduceIte]
      rw [bs_q (fun z => c0 z.1)] at nx
      exact nx
theorem x_wc (h : am_M) : fX3_worthiestCourt h = some (bs (fun i => h 50 i = 0) (h 14) 6, h) := by
  have := x_wcl h 6 0 400 (by decide) (by decide)
  rw [show ((0 : Nat) : Int) = 0 from rfl] at this
  unfold fX3_worthiestCourt fX3_worthiestCourt_4
  exact this
theorem m_nc (h : am_M) : fX9_nextCourt h = some (bs (fun i => h 50 i = 0) (h 14) 6, h) := by
  have := m_ncl h 6 0 400 (by decide) (by decide)
  rw [show ((0 : Nat) : Int) = 0 from rfl] at this
  unfold fX9_nextCourt fX9_nextCourt_4
  exact this
theorem m_nm (h : am_M) : fX9_nextMatch h = some (bs (fun i => h 48 i = 0) (h 11) 64, h) := by
  have := m_nml h 64 0 400 (by decide) (by decide)
  rw [show ((0 : Nat) : Int) = 0 from rfl] at this
  unfold fX9_nextMatch fX9_nextMatch_4
  exact this
