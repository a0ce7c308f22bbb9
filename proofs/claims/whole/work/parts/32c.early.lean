/-! ===== when a match can begin ===== -/
def IsMx (base : Int) (P : Int → Prop) (v : Int) : Prop := base ≤ v ∧ (∀ x, P x → x ≤ v) ∧ (v = base ∨ P v)
theorem IsMx.u {base v w : Int} {P P' : Int → Prop} (a : IsMx base P v) (b : IsMx base P' w) (e : ∀ x, P x ↔ P' x) : v = w := by
  have h1 : v ≤ w := by
    rcases a.2.2 with z | z
    · rw [z]; exact b.1
    · exact b.2.1 v ((e v).mp z)
  have h2 : w ≤ v := by
    rcases b.2.2 with z | z
    · rw [z]; exact a.1
    · exact a.2.1 w ((e w).mpr z)
  omega
theorem IsMx.z {base : Int} {P : Int → Prop} (h : ∀ x, ¬ P x) : IsMx base P base := ⟨Int.le_refl _, fun x hx => absurd hx (h x), Or.inl rfl⟩
theorem IsMx.cg {base v : Int} {P P' : Int → Prop} (a : IsMx base P v) (e : ∀ x, P' x ↔ P x) : IsMx base P' v := ⟨a.1, fun x hx => a.2.1 x ((e x).mp hx), a.2.2.elim Or.inl (fun z => Or.inr ((e v).mpr z))⟩
theorem IsMx.add {base v y : Int} {P P' : Int → Prop} (a : IsMx base P v) (e : ∀ x, P' x ↔ P x ∨ x = y) : IsMx base P' (max v y) := by
  refine ⟨by have := a.1; omega, fun x hx => ?_, ?_⟩
  · rcases (e x).mp hx with z | z
    · have := a.2.1 x z; omega
    · omega
  · by_cases c : v ≤ y
    · right
      rw [e, Int.max_eq_right c]
      exact Or.inr rfl
    · rw [Int.max_eq_left (by omega)]
      rcases a.2.2 with z | z
      · exact Or.inl z
      · exact Or.inr ((e v).mpr (Or.inl z))
theorem IsMx.mx {base v c : Int} {P : Int → Prop} (a : IsMx base P v) : IsMx (max c base) P (max c v) := by
  refine ⟨by have := a.1; omega, fun x hx => by have := a.2.1 x hx; omega, ?_⟩
  rcases a.2.2 with z | z
  · left; rw [z]
  · by_cases q : c ≤ v
    · right; rw [Int.max_eq_right q]; exact z
    · left
      have := a.1
      omega
theorem aw_b (x y : Int) (hx : 0 ≤ x ∧ x ≤ 1000000) (hy : 0 ≤ y ∧ y ≤ 1000000) : am_w (x + y) = x + y := pw (by omega) (by omega)
/-- the first minute at which one is rested -/
noncomputable def rdv (hx : am_M) (v : Int) : Int := if 0 ≤ v ∧ v < 40 ∧ 0 ≤ ls hx v 64 then ls hx v 64 + hx 18 0 else -2147483648
theorem p_ready {hx hm h : am_M} (r : Rel hx hm) (v : Int) (hp : ∀ p, p < 40 → h 41 (40 * 1 + p) = ls hx p 64) : fX6_readyAt 1 v (hx 18 0) h = some (rdv hx v, h) := by
  unfold rdv
  by_cases c : 0 ≤ v ∧ v < 40
  · obtain ⟨q, rfl⟩ := p_nat c.1
    rw [x_ready r 1 q (by omega) h hp]
    by_cases c2 : ls hx q 64 < 0
    · rw [if_pos c2, if_neg (by omega)]
    · rw [if_neg c2, if_pos ⟨c.1, c.2, by omega⟩]
  · unfold fX6_readyAt
    simp only [p_isPlayer, eqF c, ↓reduceIte, ↓am_b_t]
    rw [if_neg (fun z => c ⟨z.1, z.2.1⟩)]
/-- what a match ahead has to do with match j of draw d -/
def Sm (hx : am_M) (d n j m : Nat) : Prop := (m / 16 = d ∧ n / 2 + m % 16 / 2 = j) ∨ (0 ≤ sd hx d n j 0 ∧ (plr hx m 0 = sd hx d n j 0 ∨ plr hx m 1 = sd hx d n j 0)) ∨ (0 ≤ sd hx d n j 1 ∧ (plr hx m 0 = sd hx d n j 1 ∨ plr hx m 1 = sd hx d n j 1))
def Px (hx h : am_M) (d n j s : Nat) (x : Int) : Prop := ∃ i, i < s ∧ ∃ m : Nat, h 44 i = m ∧ Sm hx d n j m ∧ x = h 43 i + hx 18 0
theorem p_dr (m : Nat) (hm : m < 64) (h : am_M) : fX8_drawOf (m : Int) h = some (((m / 16 : Nat) : Int), h) := by
  unfold fX8_drawOf
  rw [p_shr4 m hm]
theorem x_fe {hx hm h : am_M} {d n j m : Nat} (Q : Dr hx hm d n) (hj : j < n - 1) (hs : sc0 hx h) (hm64 : m < 64) : ∃ v, fX5_feeds d (m : Int) ((16 * d + j : Nat) : Int) h = some (v, h) ∧ ((v = 1 ∧ m / 16 = d ∧ n / 2 + m % 16 / 2 = j) ∨ (v = 0 ∧ ¬ (m / 16 = d ∧ n / 2 + m % 16 / 2 = j))) := by
  have hj16 := Q.j16 hj
  have hd := Q.2.1
  have c64 : 16 * d + j < 64 := by omega
  have e1 : h 1 d = n := (Q.z hs (sc0.rf hm)).2.2.2.1
  have ed : (16 * d + j) / 16 = d := by omega
  unfold fX5_feeds
  simp only [p_dr m hm64, p_dr (16 * d + j) c64, ed, ↓am_b_t, p_no0 m hm64, p_no d j hd hj16, p_next d n (m % 16) h Q.2.2.1 e1 (Nat.mod_lt _ (by decide))]
  by_cases c1 : m / 16 = d
  · have i1 : (((m / 16 : Nat) : Int) = (d : Int)) = True := eq_true (by omega)
    simp only [i1, ↓reduceIte]
    by_cases c2 : n / 2 + m % 16 / 2 = j
    · have i2 : (n / 2 + m % 16 / 2 < n - 1) = True := eq_true (by omega)
      have i3 : (((n / 2 + m % 16 / 2 : Nat) : Int) = (j : Int)) = True := eq_true (by omega)
      simp only [i2, i3, ↓reduceIte]
      exact ⟨1, rfl, Or.inl ⟨rfl, c1, c2⟩⟩
    · by_cases c3 : n / 2 + m % 16 / 2 < n - 1
      · have i3 : (((n / 2 + m % 16 / 2 : Nat) : Int) = (j : Int)) = False := eq_false (by omega)
        simp only [eqT c3, i3, ↓reduceIte]
        exact ⟨0, rfl, Or.inr ⟨rfl, fun z => c2 z.2⟩⟩
      · have i3 : ((-1 : Int) = (j : Int)) = False := eq_false (by omega)
        simp only [eqF c3, i3, ↓reduceIte]
        exact ⟨0, rfl, Or.inr ⟨rfl, fun z => c2 z.2⟩⟩
  · have i1 : (((m / 16 : Nat) : Int) = (d : Int)) = False := eq_false (by omega)
    simp only [i1, ↓reduceIte]
    exact ⟨0, rfl, Or.inr ⟨rfl, fun z => c1 z.1⟩⟩
theorem x_pls (h : am_M) (s : Nat) (hs : s < 36) (p : Int) (hp : p < 40) : fX5_plays (s : Int) p h = some (if 0 ≤ p ∧ (h 45 s = p ∨ h 46 s = p) then 1 else 0, h) := by
  unfold fX5_plays
  by_cases c : 0 ≤ p
  · have i1 : (0 ≤ p ∧ p < 40) = True := eq_true ⟨c, hp⟩
    simp only [p_isPlayer, i1, ↓reduceIte, ↓am_b_t, z10, fa hs, Int.toNat_natCast]
    by_cases c1 : h 45 s = p
    · simp only [eqT c1, ↓reduceIte, true_or, and_true, eqT c]
    · by_cases c2 : h 46 s = p
      · simp only [eqF c1, eqT c2, ↓reduceIte, or_true, and_true, eqT c]
      · simp only [eqF c1, eqF c2, ↓reduceIte, or_self, and_false]
  · have i1 : (0 ≤ p ∧ p < 40) = False := eq_false (fun z => c z.1)
    simp only [p_isPlayer, i1, ↓reduceIte, ↓am_b_t, eqF c, false_and]
theorem sd40 {hx hm : am_M} {d n j t : Nat} (Q : Dr hx hm d n) (hj : j < n - 1) (ht : t < 2) : sd hx d n j t < 40 := by
  rcases sd_r Q (rd n j) j t rfl hj ht with z | z | z
  · rw [z.1]; decide
  · exact z.2.1
  · rw [z.1]; decide
theorem x_el {hx hm h b : am_M} {d n j T : Nat} (Q : Dr hx hm d n) (hj : j < n - 1) (hT : T < 36) (hs : sc0 hx h) (hS : ∀ s, s < 36 → s < T → SL hx h b T s) (e45 : h 45 T = sd hx d n j 0) (e46 : h 46 T = sd hx d n j 1) (base : Int) : ∀ (r s f : Nat) (cur : Int), s + r = T → r < f → IsMx base (Px hx h d n j s) cur → ∃ v, am_it (fun _ _ _ _ _ _ _ => none) fX5_earliest_90b f d ((16 * d + j : Nat) : Int) (T : Int) (hx 18 0) cur (s : Int) h = some (v, h) ∧ IsMx base (Px hx h d n j T) v := by
  have hru := rul Q.1
  intro r
  induction r with
  | zero =>
    intro s f cur hs1 hf hM
    obtain ⟨f, rfl⟩ : ∃ q, f = q + 1 := ⟨f - 1, by omega⟩
    have i1 : ((s : Int) < (T : Int)) = False := eq_false (by omega)
    obtain rfl : s = T := by omega
    rw [am_it_s]
    unfold fX5_earliest_90b
    simp only [i1, ↓reduceIte]
    exact ⟨cur, rfl, hM⟩
  | succ r ih =>
    intro s f cur hs1 hf hM
    obtain ⟨f, rfl⟩ : ∃ q, f = q + 1 := ⟨f - 1, by omega⟩
    have hsT : s < T := by omega
    have hs36 : s < 36 := by omega
    have i1 : ((s : Int) < (T : Int)) = True := eq_true (by omega)
    have nx := fun cur => ih (s + 1) f cur (by omega) (by omega)
    have sl := hS s hs36 hsT
    have step : ∀ x, Px hx h d n j (s + 1) x ↔ Px hx h d n j s x ∨ (∃ m : Nat, h 44 s = m ∧ Sm hx d n j m ∧ x = h 43 s + hx 18 0) := by
      intro x
      constructor
      · rintro ⟨i, hi, y⟩
        by_cases e : i = s
        · subst e; exact Or.inr y
        · exact Or.inl ⟨i, by omega, y⟩
      · rintro (⟨i, hi, y⟩ | y)
        · exact ⟨i, by omega, y⟩
        · exact ⟨s, by omega, y⟩
    rw [am_it_s]
    clear ih
    generalize am_it (fun _ _ _ _ _ _ _ => none) fX5_earliest_90b f = K at nx ⊢
    have skip : (∀ m : Nat, h 44 s = m → ¬ Sm hx d n j m) → ∃ v, K d ((16 * d + j : Nat) : Int) (T : Int) (hx 18 0) cur ((s + 1 : Nat) : Int) h = some (v, h) ∧ IsMx base (Px hx h d n j T) v := by
      intro hn
      refine nx cur (hM.cg (fun x => ?_))
      rw [step]
      exact ⟨fun z => z.elim id (fun ⟨m, y1, y2, _⟩ => absurd y2 (hn m y1)), Or.inl⟩
    have s1 := pw1 s (by omega)
    rcases sl with q | ⟨q1, q2, q3, q4, q5⟩
    · have i2 : (h 44 s < 0) = True := eq_true (by rw [q.2.2.2]; decide)
      unfold fX5_earliest_90b fX5_earliest_148
      simp only [i1, i2, fa hs36, ↓reduceIte, Int.toNat_natCast, s1]
      exact skip (fun m hm => by rw [q.2.2.2] at hm; clear s1; omega)
    · rcases q5 with q5 | ⟨m, y1, y2, y3, y4, y5, y6⟩
      · have i2 : (h 44 s < 0) = True := eq_true (by rw [q5.2]; decide)
        unfold fX5_earliest_90b fX5_earliest_148
        simp only [i1, i2, fa hs36, ↓reduceIte, Int.toNat_natCast, s1]
        exact skip (fun m hm => by rw [q5.2] at hm; clear s1; omega)
      · have i2 : ((m : Int) < 0) = False := eq_false (by clear s1; omega)
        have bw := aw_b (h 43 s) (hx 18 0) (by clear s1; omega) (by clear s1; omega)
        have hit : Sm hx d n j m → ∃ v, K d ((16 * d + j : Nat) : Int) (T : Int) (hx 18 0) (max cur (am_w (h 43 s + hx 18 0))) ((s + 1 : Nat) : Int) h = some (v, h) ∧ IsMx base (Px hx h d n j T) v := by
          intro hm
          rw [bw]
          refine nx _ (hM.add (fun x => ?_))
          rw [step]
          constructor
          · rintro (z | ⟨m', a1, a2, a3⟩)
            · exact Or.inl z
            · exact Or.inr a3
          · rintro (z | z)
            · exact Or.inl z
            · exact Or.inr ⟨m, y2, hm, z⟩
        have miss : ¬ Sm hx d n j m → ∃ v, K d ((16 * d + j : Nat) : Int) (T : Int) (hx 18 0) cur ((s + 1 : Nat) : Int) h = some (v, h) ∧ IsMx base (Px hx h d n j T) v := by
          intro hn
          refine skip (fun m' hm' => ?_)
          have : m' = m := by rw [y2] at hm'; clear s1 bw; omega
          rw [this]; exact hn
        obtain ⟨v, e, k⟩ := x_fe Q hj hs y3
        have sp : fX5_sharePlayer (s : Int) (T : Int) h = some (if (0 ≤ sd hx d n j 0 ∧ (h 45 s = sd hx d n j 0 ∨ h 46 s = sd hx d n j 0)) ∨ (0 ≤ sd hx d n j 1 ∧ (h 45 s = sd hx d n j 1 ∨ h 46 s = sd hx d n j 1)) then 1 else 0, h) := by
          unfold fX5_sharePlayer
          simp only [fa hT, ↓reduceIte, Int.toNat_natCast, e45, e46, x_pls h s hs36 _ (sd40 Q hj (show 0 < 2 by decide)), x_pls h s hs36 _ (sd40 Q hj (show 1 < 2 by decide)), ↓am_b_t]
          by_cases c1 : 0 ≤ sd hx d n j 0 ∧ (h 45 s = sd hx d n j 0 ∨ h 46 s = sd hx d n j 0)
          · simp only [eqT c1, ↓reduceIte, z10, true_or]
          · by_cases c2 : 0 ≤ sd hx d n j 1 ∧ (h 45 s = sd hx d n j 1 ∨ h 46 s = sd hx d n j 1)
            · simp only [eqF c1, eqT c2, ↓reduceIte, z10, or_true]
            · simp only [eqF c1, eqF c2, ↓reduceIte, or_self]
        rw [y5, y6] at sp
        unfold fX5_earliest_90b fX5_earliest_148 fX5_earliest_131
        simp only [i1, fa hs36, ↓reduceIte, Int.toNat_natCast, s1, y2, i2, e, ↓am_b_t, sp, ↓am_l_t]
        clear s1 bw
        rcases k with ⟨k1, k2⟩ | ⟨k1, k2⟩
        · simp only [k1, z10, ↓reduceIte]
          exact hit (Or.inl k2)
        · simp only [k1, ↓reduceIte]
          by_cases c1 : (0 ≤ sd hx d n j 0 ∧ (plr hx m 0 = sd hx d n j 0 ∨ plr hx m 1 = sd hx d n j 0)) ∨ (0 ≤ sd hx d n j 1 ∧ (plr hx m 0 = sd hx d n j 1 ∨ plr hx m 1 = sd hx d n j 1))
          · simp only [eqT c1, ↓reduceIte, z10]
            exact hit (Or.inr c1)
          · simp only [eqF c1, ↓reduceIte]
            exact miss (fun z => z.elim k2 c1)
