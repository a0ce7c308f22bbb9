/-! ===== a slot is settled ===== -/
theorem ix_T {c k : Nat} (hc : c < 6) : ix (6 * k + c) = 6 * c + k := by
  unfold ix
  omega
theorem ix_ne {s t : Nat} (hs : s < 36) (ht : t < 36) (h : s ≠ t) : ix s ≠ ix t := by
  intro z
  have a := (so_ix s hs).1
  have b := (so_ix t ht).1
  rw [z] at a
  exact h (a.symm.trans b)
theorem cE_k {b : am_M} {c k : Nat} (hz : ∀ i, k ≤ i → i < 6 → b 52 (6 * c + i) = 0) : ∀ r, k + r ≤ 6 → cE b c (k + r) = cE b c k := by
  intro r
  induction r with
  | zero => intro _; rfl
  | succ r ih =>
    intro h
    rw [← Nat.add_assoc]
    simp only [cE]
    rw [if_pos (hz (k + r) (by omega) (by omega))]
    exact ih (by omega)
theorem cE_6 {b : am_M} {c k : Nat} (hk : k ≤ 6) (hz : ∀ i, k ≤ i → i < 6 → b 52 (6 * c + i) = 0) : cE b c 6 = cE b c k := by
  have := cE_k hz (6 - k) (by omega)
  rw [show k + (6 - k) = 6 by omega] at this
  exact this
theorem cE_cg {b b' : am_M} {c : Nat} (h15 : b' 15 c = b 15 c) : ∀ k, (∀ i, i < k → b' 52 (6 * c + i) = b 52 (6 * c + i)) → (∀ i, i < k → b' 43 (6 * c + i) = b 43 (6 * c + i)) → cE b' c k = cE b c k := by
  intro k
  induction k with
  | zero => intro _ _; exact h15
  | succ k ih =>
    intro h1 h2
    simp only [cE]
    rw [ih (fun i hi => h1 i (by omega)) (fun i hi => h2 i (by omega)), h1 k (by omega), h2 k (by omega)]
theorem TI.zk {hx hm h b : am_M} {c k : Nat} (I : TI hx hm h b (6 * k + c)) (hc : c < 6) : ∀ i, k ≤ i → i < 6 → b 52 (6 * c + i) = 0 := by
  intro i h1 h2
  have := I.2.2.2.1 (6 * i + c) (by omega) (by omega)
  rw [ix_T hc] at this
  exact this
theorem SL.mono {hx h b : am_M} {T T' s : Nat} (hT : T ≤ T') (a : SL hx h b T s) : SL hx h b T' s := by
  rcases a with q | ⟨q1, q2, q3, q4, q5⟩
  · exact Or.inl q
  · exact Or.inr ⟨q1, q2, q3, ⟨q4.1, by have := q4.2; omega⟩, q5⟩
theorem TI.not {hx hm h b h' : am_M} {T : Nat} (I : TI hx hm h b T) (hT : T < 36) (s' : sc0 hx h') (e41 : h' 41 = h 41) (e42 : ∀ s, s ≠ T → h' 42 s = h 42 s) (e43 : ∀ s, s ≠ T → h' 43 s = h 43 s) (e44 : ∀ s, s ≠ T → h' 44 s = h 44 s) (e45 : ∀ s, s ≠ T → h' 45 s = h 45 s) (e46 : ∀ s, s ≠ T → h' 46 s = h 46 s) (e47 : h' 47 = h 47) (t42 : h' 42 T = -1) (t43 : h' 43 T = -1) (t44 : h' 44 T = -1) : TI hx hm h' b (T + 1) := by
  obtain ⟨i1, i2, i3, i4, i5, i6⟩ := I
  refine ⟨s', i2, fun p hp => by rw [e41]; exact i3 p hp, fun s h1 h2 => i4 s h1 (by omega), fun s h1 h2 => ?_, fun c hc => ?_⟩
  · by_cases e : s = T
    · subst e
      exact Or.inl ⟨i4 s h1 (Nat.le_refl _), t42, t43, t44⟩
    · have := (i5 s h1 (by omega)).mono (show T ≤ T + 1 by omega)
      unfold SL at *
      rw [e42 s e, e43 s e, e44 s e, e45 s e, e46 s e]
      exact this
  · rw [e47]
    have := i6 c hc
    exact ⟨this.1, this.2.1, by have := this.2.2; omega⟩
theorem TI.can {hx hm h b h' b' : am_M} {c k : Nat} (I : TI hx hm h b (6 * k + c)) (hc : c < 6) (hk : k < 6) (s' : sc0 hx h') (sb : sc0 hm b') (e41 : h' 41 = h 41) (e42 : ∀ s, s ≠ 6 * k + c → h' 42 s = h 42 s) (e43 : ∀ s, s ≠ 6 * k + c → h' 43 s = h 43 s) (e44 : ∀ s, s ≠ 6 * k + c → h' 44 s = h 44 s) (e45 : ∀ s, s ≠ 6 * k + c → h' 45 s = h 45 s) (e46 : ∀ s, s ≠ 6 * k + c → h' 46 s = h 46 s) (e47 : ∀ x, x ≠ c → h' 47 x = h 47 x) (bg en : Int) (t47 : h' 47 c = en) (t42 : h' 42 (6 * k + c) = bg) (t43 : h' 43 (6 * k + c) = en) (b52 : b' 52 = up1 (b 52) (6 * c + k) 1) (b42 : b' 42 = up1 (b 42) (6 * c + k) bg) (b43 : b' 43 = up1 (b 43) (6 * c + k) en) (hen : 0 ≤ en ∧ en ≤ 102000 + 4000 * ((6 * k + c + 1 : Nat) : Int))
    (t44 : (hx 17 (6 * c + k) < 0 ∧ h' 44 (6 * k + c) = -1) ∨ ∃ m : Nat, hx 17 (6 * c + k) = m ∧ h' 44 (6 * k + c) = m ∧ m < 64 ∧ isM hx m ∧ h' 45 (6 * k + c) = plr hx m 0 ∧ h' 46 (6 * k + c) = plr hx m 1) : TI hx hm h' b' (6 * k + c + 1) := by
  have hzk := I.zk hc
  obtain ⟨i1, i2, i3, i4, i5, i6⟩ := I
  have hT : 6 * k + c < 36 := by omega
  have hix := ix_T (k := k) hc
  have nei : ∀ s, s < 36 → s ≠ 6 * k + c → ix s ≠ 6 * c + k := by
    intro s hs hn z
    rw [← hix] at z
    exact ix_ne hs hT hn z
  have h15 : ∀ x, b' 15 x = b 15 x := fun x => by rw [sb 15 (by decide), i2 15 (by decide)]
  refine ⟨s', sb, fun p hp => by rw [e41]; exact i3 p hp, fun s h1 h2 => ?_, fun s h1 h2 => ?_, fun x hx6 => ?_⟩
  · rw [b52, up1_n _ _ (nei s h1 (by omega))]
    exact i4 s h1 (by omega)
  · by_cases e : s = 6 * k + c
    · subst e
      right
      rw [hix, b52, b42, b43, up1_s, up1_s, up1_s]
      refine ⟨rfl, t42, t43, ?_, t44⟩
      rw [t43]
      exact hen
    · have := (i5 s h1 (by omega)).mono (show 6 * k + c ≤ 6 * k + c + 1 by omega)
      have ni := nei s h1 e
      unfold SL at *
      rw [e42 s e, e43 s e, e44 s e, e45 s e, e46 s e, b52, b42, b43, up1_n _ _ ni, up1_n _ _ ni, up1_n _ _ ni]
      exact this
  · by_cases e : x = c
    · subst e
      have z' : ∀ i, k + 1 ≤ i → i < 6 → b' 52 (6 * x + i) = 0 := by
        intro i a1 a2
        rw [b52, up1_n _ _ (by omega)]
        exact hzk i (by omega) a2
      rw [cE_6 (by omega) z', t47]
      simp only [cE]
      rw [b52, up1_s, if_neg (by decide), b43, up1_s]
      exact ⟨rfl, hen.1, hen.2⟩
    · have ce : cE b' x 6 = cE b x 6 := cE_cg (h15 x) 6 (fun i hi => by rw [b52, up1_n _ _ (by omega)]) (fun i hi => by rw [b43, up1_n _ _ (by omega)])
      have := i6 x hx6
      rw [ce, e47 x e]
      exact ⟨this.1, this.2.1, by have := this.2.2; omega⟩
/-- too dark -/
def td (hx : am_M) (c : Nat) (e : Int) : Prop := hx 18 3 < e ∧ hx 13 c = 0 ∧ hx 12 c = 0
theorem x_td {hx h : am_M} (hs : sc0 hx h) (c : Nat) (e : Int) : (td hx c e → fX0_isTooDark c e h = some (1, h)) ∧ (¬ td hx c e → fX0_isTooDark c e h = some (0, h)) := by
  unfold fX0_isTooDark
  rw [hs 18 (by decide), hs 13 (by decide), hs 12 (by decide)]
  unfold td
  by_cases c1 : e ≤ hx 18 3
  · rw [if_pos c1]
    exact ⟨fun z => by have := z.1; omega, fun _ => rfl⟩
  · rw [if_neg c1]
    by_cases c2 : hx 13 c = 0
    · by_cases c3 : hx 12 c = 0
      · rw [if_pos c2, if_pos c3]
        exact ⟨fun _ => rfl, fun z => absurd ⟨by omega, c2, c3⟩ z⟩
      · rw [if_pos c2, if_neg c3]
        exact ⟨fun z => absurd z.2.2 c3, fun _ => rfl⟩
    · rw [if_neg c2]
      exact ⟨fun z => absurd z.2.1 c2, fun _ => rfl⟩
theorem x_fix {hx h : am_M} {c k : Nat} (hs : sc0 hx h) (hc : c < 6) (hk : k < 6) (m bg en : Int) : (td hx c en → fX5_fix ((6 * k + c : Nat) : Int) m bg en h = some ((), h)) ∧ (¬ td hx c en → fX5_fix ((6 * k + c : Nat) : Int) m bg en h = some ((), am_up (am_up (am_up (am_up h 42 (6 * k + c) bg) 43 (6 * k + c) en) 44 (6 * k + c) m) 47 c en)) := by
  have h36 : 6 * k + c < 36 := by omega
  have dd := d6 (6 * k + c) h36
  have e6 : (6 * k + c) % 6 = c := by omega
  have i6 : (0 ≤ (c : Int) ∧ (c : Int) < 6) = True := eq_true (by omega)
  have t := x_td hs c en
  unfold fX5_fix
  simp only [dd.2, e6, ↓am_l_t, i6, ↓reduceIte, Int.toNat_natCast, fa h36]
  constructor
  · intro z
    simp only [t.1 z, ↓am_b_t, z10, ↓reduceIte]
  · intro z
    simp only [t.2 z, ↓am_b_t, ↓reduceIte]
theorem m_163 {hx hm b : am_M} (r : Rel hx hm) {c at' : Nat} (hb : sc0 hm b) (hc : c < 6) (ha : at' < 36) (bg tk : Int) (hw : am_w (bg + tk) = bg + tk) : (td hx c (bg + tk) → fX9_laySlot_163 (c : Int) (at' : Int) bg 1 tk b = some ((), b)) ∧ (¬ td hx c (bg + tk) → fX9_laySlot_163 (c : Int) (at' : Int) bg 1 tk b = some ((), am_up (am_up (am_up b 52 at' 1) 42 at' bg) 43 at' (bg + tk))) := by
  have i6 : (0 ≤ (c : Int) ∧ (c : Int) < 6) = True := eq_true (by omega)
  have b18 : b 18 3 = hx 18 3 := by rw [hb 18 (by decide), r.1 18 (by decide) (by decide)]
  have b13 : b 13 c = hx 13 c := by rw [hb 13 (by decide), r.1 13 (by decide) (by decide)]
  have b12 : b 12 c = hx 12 c := by rw [hb 12 (by decide), r.1 12 (by decide) (by decide)]
  unfold fX9_laySlot_163 fX9_laySlot_201 td
  simp only [z10, ↓reduceIte, hw, b18, b13, b12, i6, Int.toNat_natCast, fa ha, ↓am_l_t]
  clear hw
  by_cases c1 : bg + tk ≤ hx 18 3
  · simp only [eqT c1, ↓reduceIte]
    exact ⟨fun z => by have := z.1; omega, fun _ => trivial⟩
  · simp only [eqF c1, ↓reduceIte]
    by_cases c2 : hx 13 c = 0
    · by_cases c3 : hx 12 c = 0
      · simp only [eqT c2, eqT c3, ↓reduceIte]
        exact ⟨fun _ => trivial, fun z => absurd ⟨by omega, trivial, trivial⟩ z⟩
      · simp only [eqT c2, eqF c3, ↓reduceIte]
        exact ⟨fun z => absurd z.2.2 (fun y => y), fun _ => trivial⟩
    · simp only [eqF c2, ↓reduceIte]
      exact ⟨fun z => absurd z.2.1 (fun y => y), fun _ => trivial⟩
/-- the reference's loop over the slots ahead on one court -/
theorem m_cl26 {hx hm h b : am_M} {c k : Nat} (I : TI hx hm h b (6 * k + c)) (hc : c < 6) (hk : k < 6) (A H : Int) : ∀ (r i f : Nat), i + r = k → r < f → am_it (fun _ _ _ _ _ _ _ => none) fX9_laySlot_26b f (c : Int) (k : Int) A H (cE b c i) (i : Int) b = fX9_laySlot_67 (c : Int) (k : Int) A H (cE b c k) b := by
  intro r
  induction r with
  | zero =>
    intro i f hi hf
    obtain ⟨f, rfl⟩ : ∃ q, f = q + 1 := ⟨f - 1, by omega⟩
    obtain rfl : i = k := by omega
    have i1 : ((i : Int) < (i : Int)) = False := eq_false (by omega)
    rw [am_it_s]
    unfold fX9_laySlot_26b
    simp only [i1, ↓reduceIte]
  | succ r ih =>
    intro i f hi hf
    obtain ⟨f, rfl⟩ : ∃ q, f = q + 1 := ⟨f - 1, by omega⟩
    have i1 : ((i : Int) < (k : Int)) = True := eq_true (by omega)
    have i2 : 6 * c + i < 36 := by omega
    have nx := ih (i + 1) f (by omega) (by omega)
    have w1 : am_w (am_w ((6 : Int) * (c : Int)) + (i : Int)) = ((6 * c + i : Nat) : Int) := ix_w 6 c i (by omega)
    have w2 := pw1 i (by clear w1; omega)
    rw [am_it_s]
    clear ih
    generalize am_it (fun _ _ _ _ _ _ _ => none) fX9_laySlot_26b f = K at nx ⊢
    unfold fX9_laySlot_26b fX9_laySlot_61
    simp only [i1, ↓reduceIte, w1, fa i2, Int.toNat_natCast, w2, ↓am_l_t]
    clear w1 w2
    simp only [cE] at nx
    by_cases c0 : b 52 (6 * c + i) = 0
    · rw [if_pos c0] at nx
      simp only [eqT c0, ↓reduceIte]
      exact nx
    · rw [if_neg c0] at nx
      simp only [eqF c0, ↓reduceIte]
      exact nx
