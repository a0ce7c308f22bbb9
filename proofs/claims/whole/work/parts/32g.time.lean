/-! ===== time ===== -/
def stepB (hx : am_M) (T : Nat) (b b' : am_M) : Prop := (((T / 6 : Nat) : Int) < hx 16 (T % 6) → fX9_laySlot ((T % 6 : Nat) : Int) ((T / 6 : Nat) : Int) b = some ((), b')) ∧ (¬ ((T / 6 : Nat) : Int) < hx 16 (T % 6) → b' = b)
theorem chain {hx hm h0 b0 : am_M} (r : Rel hx hm) (I0 : TI hx hm h0 b0 0) : ∀ N, N ≤ 36 → ∃ H B : Nat → am_M, H 0 = h0 ∧ B 0 = b0 ∧ (∀ T, T ≤ N → TI hx hm (H T) (B T) T) ∧ ∀ T, T < N → fX5_settle (T : Int) (H T) = some ((), H (T + 1)) ∧ stepB hx T (B T) (B (T + 1)) ∧ (∀ s, s ≠ T → H (T + 1) 42 s = H T 42 s ∧ H (T + 1) 43 s = H T 43 s) := by
  intro N
  induction N with
  | zero => intro _; exact ⟨fun _ => h0, fun _ => b0, rfl, rfl, fun T hT => by rw [Nat.le_zero.mp hT]; exact I0, fun T hT => absurd hT (Nat.not_lt_zero _)⟩
  | succ N ih =>
    intro hN
    obtain ⟨H, B, e1, e2, e3, e4⟩ := ih (by omega)
    have hk : N / 6 < 6 := by omega
    have hc : N % 6 < 6 := by omega
    have eN : 6 * (N / 6) + N % 6 = N := by omega
    have IN := e3 N (Nat.le_refl _)
    have IN' : TI hx hm (H N) (B N) (6 * (N / 6) + N % 6) := by rw [eN]; exact IN
    obtain ⟨h', f1, f2, f3, f4⟩ := e_settle r hc hk IN'
    rw [eN] at f1 f2 f3 f4
    have ex : ∃ b', stepB hx N (B N) b' ∧ TI hx hm h' b' (N + 1) := by
      by_cases c : ((N / 6 : Nat) : Int) < hx 16 (N % 6)
      · obtain ⟨b', g1, g2⟩ := f3 c
        exact ⟨b', ⟨fun _ => g1, fun z => absurd c z⟩, g2⟩
      · exact ⟨B N, ⟨fun z => absurd z c, fun _ => rfl⟩, f4 c⟩
    obtain ⟨b', g1, g2⟩ := ex
    refine ⟨fun T => if T ≤ N then H T else h', fun T => if T ≤ N then B T else b', ?_, ?_, fun T hT => ?_, fun T hT => ?_⟩
    · show (if 0 ≤ N then H 0 else h') = h0
      rw [if_pos (Nat.zero_le _), e1]
    · show (if 0 ≤ N then B 0 else b') = b0
      rw [if_pos (Nat.zero_le _), e2]
    · show TI hx hm (if T ≤ N then H T else h') (if T ≤ N then B T else b') T
      by_cases c : T ≤ N
      · rw [if_pos c, if_pos c]; exact e3 T c
      · have : T = N + 1 := by omega
        rw [if_neg c, if_neg c, this]; exact g2
    · show fX5_settle (T : Int) (if T ≤ N then H T else h') = some ((), if T + 1 ≤ N then H (T + 1) else h') ∧ stepB hx T (if T ≤ N then B T else b') (if T + 1 ≤ N then B (T + 1) else b') ∧ (∀ s, s ≠ T → (if T + 1 ≤ N then H (T + 1) else h') 42 s = (if T ≤ N then H T else h') 42 s ∧ (if T + 1 ≤ N then H (T + 1) else h') 43 s = (if T ≤ N then H T else h') 43 s)
      have cT : T ≤ N := by omega
      rw [if_pos cT, if_pos cT]
      by_cases c : T + 1 ≤ N
      · rw [if_pos c, if_pos c]; exact e4 T (by omega)
      · have : T = N := by omega
        subst this
        rw [if_neg c, if_neg c]
        exact ⟨f1, g1, f2⟩
theorem x_w47 (h0 : am_M) (l : Int) : ∀ (r c f : Nat) (h : am_M), c + r = 6 → r < f → (∀ k, k ≠ 47 → h k = h0 k) → (∀ i, i < c → h 47 i = h0 15 i) → ∃ h', am_it (fun _ _ _ => none) fX5_foretell_10b f l (c : Int) h = fX5_foretell_37 l h' ∧ (∀ k, k ≠ 47 → h' k = h0 k) ∧ (∀ i, i < 6 → h' 47 i = h0 15 i) := by
  intro r
  induction r with
  | zero =>
    intro c f h hc hf hk hp
    obtain ⟨f, rfl⟩ : ∃ q, f = q + 1 := ⟨f - 1, by omega⟩
    obtain rfl : c = 6 := by omega
    rw [am_it_s]
    unfold fX5_foretell_10b
    rw [if_neg (by decide)]
    exact ⟨h, rfl, hk, hp⟩
  | succ r ih =>
    intro c f h hcr hf hk hp
    obtain ⟨f, rfl⟩ : ∃ q, f = q + 1 := ⟨f - 1, by omega⟩
    have i1 : ((c : Int) < 6) = True := eq_true (by omega)
    have i0 : ((0 : Int) ≤ (c : Int)) = True := eq_true (by omega)
    have c1 := pw1 c (by omega)
    have nx := fun (h : am_M) => ih (c + 1) f h (by clear c1; omega) (by clear c1; omega)
    rw [am_it_s]
    clear ih
    generalize am_it (fun _ _ _ => none) fX5_foretell_10b f = K at nx ⊢
    unfold fX5_foretell_10b
    simp only [i1, i0, and_self, ↓reduceIte, Int.toNat_natCast, ↓am_l_t, c1]
    clear c1
    refine nx _ (fun k hk1 => ?_) (fun i hi => ?_)
    · rw [am_up_ne _ _ _ hk1]; exact hk k hk1
    · by_cases e : i = c
      · rw [e, am_up_s, hk 15 (by decide)]
      · rw [am_up_i _ _ _ e]; exact hp i (by omega)
theorem m_w52 (b0 : am_M) : ∀ (r c f : Nat) (b : am_M), c + r = 36 → r < f → (∀ k, k ≠ 52 → b k = b0 k) → (∀ i, i < c → b 52 i = 0) → ∃ b', am_it (fun _ _ => none) fX9_lay__2b f (c : Int) b = fX9_lay__21 b' ∧ (∀ k, k ≠ 52 → b' k = b0 k) ∧ (∀ i, i < 36 → b' 52 i = 0) := by
  intro r
  induction r with
  | zero =>
    intro c f b hc hf hk hp
    obtain ⟨f, rfl⟩ : ∃ q, f = q + 1 := ⟨f - 1, by omega⟩
    obtain rfl : c = 36 := by omega
    rw [am_it_s]
    unfold fX9_lay__2b
    rw [if_neg (by decide)]
    exact ⟨b, rfl, hk, hp⟩
  | succ r ih =>
    intro c f b hcr hf hk hp
    obtain ⟨f, rfl⟩ : ∃ q, f = q + 1 := ⟨f - 1, by omega⟩
    have i1 : ((c : Int) < 36) = True := eq_true (by omega)
    have i0 : ((0 : Int) ≤ (c : Int)) = True := eq_true (by omega)
    have c1 := pw1 c (by omega)
    have nx := fun (b : am_M) => ih (c + 1) f b (by clear c1; omega) (by clear c1; omega)
    rw [am_it_s]
    clear ih
    generalize am_it (fun _ _ => none) fX9_lay__2b f = K at nx ⊢
    unfold fX9_lay__2b
    simp only [i1, i0, and_self, ↓reduceIte, Int.toNat_natCast, ↓am_l_t, c1]
    clear c1
    refine nx _ (fun k hk1 => ?_) (fun i hi => ?_)
    · rw [am_up_ne _ _ _ hk1]; exact hk k hk1
    · by_cases e : i = c
      · rw [e, am_up_s]
      · rw [am_up_i _ _ _ e]; exact hp i (by omega)
theorem x_run {H : Nat → am_M} {T0 : Nat} (hT0 : T0 < 36) (hs : ∀ T : Nat, T < 36 → fX5_settle (T : Int) (H T) = some ((), H (T + 1))) : ∀ (r T f : Nat), T + r = T0 + 1 → r < f → am_it (fun _ _ _ => none) fX5_foretell_39b f (T0 : Int) (T : Int) (H T) = some ((), H (T0 + 1)) := by
  intro r
  induction r with
  | zero =>
    intro T f hT hf
    obtain ⟨f, rfl⟩ : ∃ q, f = q + 1 := ⟨f - 1, by omega⟩
    obtain rfl : T = T0 + 1 := by omega
    have i1 : (((T0 + 1 : Nat) : Int) ≤ (T0 : Int)) = False := eq_false (by omega)
    rw [am_it_s]
    unfold fX5_foretell_39b
    simp only [i1, ↓reduceIte]
  | succ r ih =>
    intro T f hT hf
    obtain ⟨f, rfl⟩ : ∃ q, f = q + 1 := ⟨f - 1, by omega⟩
    have i1 : ((T : Int) ≤ (T0 : Int)) = True := eq_true (by omega)
    have i2 : ((T : Int) < 36) = True := eq_true (by omega)
    have nx := ih (T + 1) f (by omega) (by omega)
    have st := hs T (by omega)
    rw [am_it_s]
    generalize am_it (fun _ _ _ => none) fX5_foretell_39b f = K at nx ⊢
    unfold fX5_foretell_39b
    simp only [i1, i2, ↓reduceIte, st, ↓am_b_t, pw1 T (by omega), nx]
theorem m_run1 {hx hm : am_M} {B : Nat → am_M} (h16 : ∀ T, T ≤ 36 → B T 16 = hx 16) (hs : ∀ T, T < 36 → stepB hx T (B T) (B (T + 1))) (K : Int → am_M → Option (Unit × am_M)) (k : Nat) (hk : k < 6) : ∀ (r c f : Nat), c + r = 6 → r < f → am_it (fun _ _ _ => none) (fX9_lay__31b K) f (k : Int) (c : Int) (B (6 * k + c)) = K ((k + 1 : Nat) : Int) (B (6 * (k + 1))) := by
  intro r
  induction r with
  | zero =>
    intro c f hc hf
    obtain ⟨f, rfl⟩ : ∃ q, f = q + 1 := ⟨f - 1, by omega⟩
    obtain rfl : c = 6 := by omega
    rw [am_it_s]
    unfold fX9_lay__31b fX9_lay__59
    rw [if_neg (by decide), pw1 k (by omega), show 6 * (k + 1) = 6 * k + 6 by omega]
  | succ r ih =>
    intro c f hc hf
    obtain ⟨f, rfl⟩ : ∃ q, f = q + 1 := ⟨f - 1, by omega⟩
    have i1 : ((c : Int) < 6) = True := eq_true (by omega)
    have i0 : ((0 : Int) ≤ (c : Int)) = True := eq_true (by omega)
    have nx := ih (c + 1) f (by omega) (by omega)
    have sb := hs (6 * k + c) (by omega)
    have e16 := h16 (6 * k + c) (by omega)
    unfold stepB at sb
    rw [show (6 * k + c) / 6 = k by omega, show (6 * k + c) % 6 = c by omega] at sb
    have c1 := pw1 c (by omega)
    rw [am_it_s]
    generalize am_it (fun _ _ _ => none) (fX9_lay__31b K) f = KK at nx ⊢
    unfold fX9_lay__31b fX9_lay__53
    simp only [i1, i0, and_self, ↓reduceIte, Int.toNat_natCast, e16, c1]
    by_cases cm : (k : Int) < hx 16 c
    · simp only [eqT cm, ↓reduceIte, sb.1 cm, ↓am_b_t]
      exact nx
    · simp only [eqF cm, ↓reduceIte]
      have := sb.2 cm
      rw [← Nat.add_assoc, this] at nx
      exact nx
theorem m_run2 {hx hm : am_M} {B : Nat → am_M} (h16 : ∀ T, T ≤ 36 → B T 16 = hx 16) (hs : ∀ T, T < 36 → stepB hx T (B T) (B (T + 1))) : ∀ (r k f : Nat), k + r = 6 → r < f → am_it (fun _ _ => none) fX9_lay__23b f (k : Int) (B (6 * k)) = some ((), B 36) := by
  intro r
  induction r with
  | zero =>
    intro k f hk hf
    obtain ⟨f, rfl⟩ : ∃ q, f = q + 1 := ⟨f - 1, by omega⟩
    obtain rfl : k = 6 := by omega
    rw [am_it_s]
    unfold fX9_lay__23b
    rw [if_neg (by decide)]
  | succ r ih =>
    intro k f hk hf
    obtain ⟨f, rfl⟩ : ∃ q, f = q + 1 := ⟨f - 1, by omega⟩
    have i1 : ((k : Int) < 6) = True := eq_true (by omega)
    have nx := ih (k + 1) f (by omega) (by omega)
    rw [am_it_s]
    generalize am_it (fun _ _ => none) fX9_lay__23b f = K at nx ⊢
    have e := m_run1 (hm := hm) h16 hs K k (by omega) 6 0 400 (by decide) (by decide)
    rw [Nat.add_zero, show ((0 : Nat) : Int) = 0 from rfl] at e
    unfold fX9_lay__23b fX9_lay__31
    simp only [i1, ↓reduceIte]
    rw [e]
    exact nx
theorem p_hs (h : am_M) (c : Nat) (a : Int) : fX1_hasSlot c a h = some (if 0 ≤ a ∧ a < h 16 c then 1 else 0, h) := by
  unfold fX1_hasSlot
  (repeat' split) <;> first | rfl | omega
theorem e_time {hx hm : am_M} (r : Rel hx hm) (a1 a2 a3 : Int) : Same (fX8_time a1 a2 a3 hx) (fX9_time a1 a2 a3 hm) := by
  unfold fX8_time fX9_time fX9_isSlot
  by_cases c1 : 0 ≤ a1 ∧ a1 < 6
  · obtain ⟨c, rfl⟩ := p_nat c1.1
    have hc : c < 6 := by omega
    have dyc := r.2.1.1 c hc
    have k16 : hm 16 c = hx 16 c := (r.kk (by decide) (by decide) c).symm
    have w16 : am_w (hx 16 c - 1) = hx 16 c - 1 := pw (by omega) (by omega)
    have i6 : (0 ≤ (c : Int) ∧ (c : Int) < 6) = True := eq_true c1
    simp only [p_findCourt, q_isCourt, i6, ↓reduceIte, ↓am_b_t, Int.toNat_natCast, am_on_some hc, p_hs, z10, p_in, k16, w16]
    clear w16
    by_cases c2 : 0 ≤ a2 ∧ a2 < hx 16 c
    · obtain ⟨k, rfl⟩ := p_nat c2.1
      have hk : k < 6 := by omega
      have c2' : 0 ≤ (k : Int) ∧ (k : Int) ≤ hx 16 c - 1 := by omega
      simp only [eqT c2, eqT c2', ↓reduceIte, z10, ↓am_b_t]
      by_cases c3 : 0 ≤ a3 ∧ a3 ≤ 1
      · have j1 : (a3 < 0) = False := eq_false (by omega)
        have j2 : (a3 ≤ 1) = True := eq_true c3.2
        have j0 : (0 ≤ a3) = True := eq_true c3.1
        have h36 : 6 * k + c < 36 := by omega
        have g36 : 6 * c + k < 36 := by omega
        have wx : am_w (am_w ((k : Int) * 6) + (c : Int)) = ((6 * k + c : Nat) : Int) := by
          rw [pw (x := (k : Int) * 6) (by omega) (by omega), pw (by omega) (by omega)]; omega
        have wm : am_w (am_w ((6 : Int) * (c : Int)) + (k : Int)) = ((6 * c + k : Nat) : Int) := ix_w 6 c k (by clear wx; omega)
        simp only [j1, j2, j0, and_self, ↓reduceIte, z10, ↓am_l_t, wx, wm, fa h36, fa g36, Int.toNat_natCast]
        clear wx wm
        -- the class's start
        obtain ⟨h1, e1, s1, k1, p1⟩ := x_gather r 1 hx (sc.rf _)
        obtain ⟨h2, e2, k2, p2⟩ := x_w47 h1 ((6 * k + c : Nat) : Int) 6 0 400 h1 (by decide) (by decide) (fun _ _ => rfl) (fun i hi => absurd hi (Nat.not_lt_zero _))
        have s2 : sc0 hx h2 := fun q hq => by rw [k2 q (by omega)]; exact s1.z q hq
        -- the reference's
        obtain ⟨b2, f2, j2', z2⟩ := m_w52 hm 36 0 400 hm (by decide) (by decide) (fun _ _ => rfl) (fun i hi => absurd hi (Nat.not_lt_zero _))
        have sb2 : sc0 hm b2 := fun q hq => j2' q (by omega)
        have I0 : TI hx hm h2 b2 0 := by
          refine ⟨s2, sb2, fun p hp => ?_, fun s hs _ => z2 _ (so_ix s hs).2, fun s _ hs => absurd hs (Nat.not_lt_zero _), fun x hx6 => ?_⟩
          · rw [k2 41 (by decide)]; exact p1 p hp
          · have ce : cE b2 x 6 = b2 15 x := cE_6 (k := 0) (by decide) (fun i _ hi => z2 _ (by omega))
            have d15 := (r.2.1.1 x hx6).2.2.1
            rw [ce, p2 x hx6, s1.z 15 (by decide), sb2 15 (by decide), ← r.1 15 (by decide) (by decide)]
            exact ⟨rfl, d15.1, by have := d15.2; omega⟩
        obtain ⟨H, B, q1, q2, q3, q4⟩ := chain r I0 36 (Nat.le_refl _)
        have h16 : ∀ T, T ≤ 36 → B T 16 = hx 16 := fun T hT => by rw [(q3 T hT).2.1 16 (by decide), r.1 16 (by decide) (by decide)]
        have xr := x_run h36 (fun T hT => (q4 T hT).1) (6 * k + c + 1) 0 400 (by omega) (by omega)
        have mr := m_run2 (hm := hm) h16 (fun T hT => (q4 T hT).2.1) 6 0 400 (by decide) (by decide)
        rw [show ((0 : Nat) : Int) = 0 from rfl, q1] at xr
        rw [show ((0 : Nat) : Int) = 0 from rfl, Nat.mul_zero, q2] at mr
        rw [show ((0 : Nat) : Int) = 0 from rfl] at e2 f2
        have ex : fX5_foretell ((6 * k + c : Nat) : Int) hx = some ((), H (6 * k + c + 1)) := by
          unfold fX5_foretell
          rw [e1, am_b_some]
          unfold fX5_foretell_10
          rw [e2]
          unfold fX5_foretell_37 fX5_foretell_39
          exact xr
        have em : fX9_lay_ hm = some ((), B 36) := by
          unfold fX9_lay_ fX9_lay__2
          rw [f2]
          unfold fX9_lay__21 fX9_lay__23
          exact mr
        -- later slots leave this one
        have keep : ∀ q, 6 * k + c + 1 + q ≤ 36 → H (6 * k + c + 1 + q) 42 (6 * k + c) = H (6 * k + c + 1) 42 (6 * k + c) ∧ H (6 * k + c + 1 + q) 43 (6 * k + c) = H (6 * k + c + 1) 43 (6 * k + c) := by
          intro q
          induction q with
          | zero => intro _; exact ⟨rfl, rfl⟩
          | succ q ih =>
            intro hq
            have i := ih (by omega)
            have w := (q4 (6 * k + c + 1 + q) (by omega)).2.2 (6 * k + c) (by omega)
            rw [← Nat.add_assoc, w.1, w.2]
            exact i
        have kp := keep (36 - (6 * k + c + 1)) (by omega)
        rw [show 6 * k + c + 1 + (36 - (6 * k + c + 1)) = 36 by omega] at kp
        have sl := (q3 36 (Nat.le_refl _)).2.2.2.2.1 (6 * k + c) h36 h36
        rw [ex, em, am_b_some, am_b_some]
        have rr : Rel (H (6 * k + c + 1)) (B 36) := r.sc0 (q3 (6 * k + c + 1) (by omega)).1 (q3 36 (Nat.le_refl _)).2.1
        unfold SL at sl
        rw [ix_T hc, kp.1, kp.2] at sl
        rcases sl with ⟨u1, u2, u3, _⟩ | ⟨u1, u2, u3, _⟩
        · simp only [eqT u1, ↓reduceIte]
          by_cases c4 : a3 = 0
          · simp only [eqT c4, ↓reduceIte]; exact Same.mk u2 rr
          · simp only [eqF c4, ↓reduceIte]; exact Same.mk u3 rr
        · have u1' : ¬ B 36 52 (6 * c + k) = 0 := by rw [u1]; decide
          simp only [eqF u1', ↓reduceIte]
          by_cases c4 : a3 = 0
          · simp only [eqT c4, ↓reduceIte]; exact Same.mk u2 rr
          · simp only [eqF c4, ↓reduceIte]; exact Same.mk u3 rr
      · simp only [eqF c3, ↓reduceIte]
        by_cases c4 : a3 < 0
        · simp only [eqT c4, ↓reduceIte]
          exact Same.mk rfl r
        · have c5 : ¬ a3 ≤ 1 := by omega
          simp only [eqF c4, eqF c5, ↓reduceIte]
          exact Same.mk rfl r
    · have c2' : ¬ (0 ≤ a2 ∧ a2 ≤ hx 16 c - 1) := by omega
      simp only [eqF c2, eqF c2', ↓reduceIte, ↓am_b_t]
      exact Same.mk rfl r
  · simp only [p_findCourt, q_isCourt, eqF c1, ↓reduceIte, ↓am_b_t, am_on_none]
    exact Same.mk rfl r
