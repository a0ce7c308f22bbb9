/-! ===== the reference's earliest ===== -/
theorem m_onz {hx hm b : am_M} (r : Rel hx hm) {m : Nat} (hm64 : m < 64) (hM : isM hx m) (a : Int) (hb : sc0 hm b) : ∃ v b', fX9_isOn (m : Int) a b = some (v, b') ∧ sc b b' ∧ ((v = 1 ∧ 0 ≤ a ∧ (plr hx m 0 = a ∨ plr hx m 1 = a)) ∨ (v = 0 ∧ ¬ (0 ≤ a ∧ (plr hx m 0 = a ∨ plr hx m 1 = a)))) := by
  rcases mtn r m hm64 with ⟨d, n, j, e, Q, hj⟩ | ⟨nm, _⟩
  · subst e
    rw [plr_e Q hj, plr_e Q hj]
    by_cases c : 0 ≤ a
    · obtain ⟨v, b', e, s, k⟩ := m_isOn (Q.z (sc0.rf hx) hb) hj a c b (sc.rf b)
      refine ⟨v, b', e, s, ?_⟩
      rcases k with k | k
      · exact Or.inl ⟨k.1, c, k.2⟩
      · exact Or.inr ⟨k.1, fun z => k.2 z.2⟩
    · refine ⟨0, b, ?_, sc.rf b, Or.inr ⟨rfl, fun z => c z.1⟩⟩
      unfold fX9_isOn
      rw [if_pos (by omega)]
  · exact absurd hM nm
theorem m_136 {hx hm h b : am_M} {d n j c k T a m : Nat} (Q : Dr hx hm d n) (hj : j < n - 1) (hb : sc0 hm b) (ha : a < 36) (hm64 : m < 64) (hM : isM hx m) (e17 : b 17 a = m) (K : Int → Int → Int → Int → Int → am_M → Option (Int × am_M)) (cur s0 : Int) (C K1 : Int) : ∃ b', sc b b' ∧ (((s0 ≠ 0 ∨ (0 ≤ sd hx d n j 0 ∧ (plr hx m 0 = sd hx d n j 0 ∨ plr hx m 1 = sd hx d n j 0)) ∨ (0 ≤ sd hx d n j 1 ∧ (plr hx m 0 = sd hx d n j 1 ∨ plr hx m 1 = sd hx d n j 1))) ∧ fX9_earliest_136 K ((16 * d + j : Nat) : Int) C K1 cur (a : Int) s0 b = K ((16 * d + j : Nat) : Int) C K1 (max cur (am_w (b 43 a + b 18 0))) (a : Int) b') ∨ (¬ (s0 ≠ 0 ∨ (0 ≤ sd hx d n j 0 ∧ (plr hx m 0 = sd hx d n j 0 ∨ plr hx m 1 = sd hx d n j 0)) ∨ (0 ≤ sd hx d n j 1 ∧ (plr hx m 0 = sd hx d n j 1 ∨ plr hx m 1 = sd hx d n j 1))) ∧ fX9_earliest_136 K ((16 * d + j : Nat) : Int) C K1 cur (a : Int) s0 b = K ((16 * d + j : Nat) : Int) C K1 cur (a : Int) b')) := by
  obtain ⟨b1, e1, s1⟩ := m_sidez Q hj (show 0 < 2 by decide) b hb
  have hb1 := hb.tr s1.z
  obtain ⟨v2, b2, e2, s2, k2⟩ := m_onz Q.1 hm64 hM (sd hx d n j 0) hb1
  have hb2 := hb1.tr s2.z
  obtain ⟨b3, e3, s3⟩ := m_sidez Q hj (show 1 < 2 by decide) b2 hb2
  have hb3 := hb2.tr s3.z
  obtain ⟨v4, b4, e4, s4, k4⟩ := m_onz Q.1 hm64 hM (sd hx d n j 1) hb3
  have s12 := s1.tr s2
  have s14 := (s12.tr s3).tr s4
  have f17 : b2 17 a = m := by rw [s12 17 (by decide)]; exact e17
  have g43 : b4 43 = b 43 := s14 43 (by decide)
  have g18 : b4 18 = b 18 := s14 18 (by decide)
  have p43 : b2 43 = b 43 := s12 43 (by decide)
  have p18 : b2 18 = b 18 := s12 18 (by decide)
  rw [show ((0 : Nat) : Int) = 0 from rfl] at e1
  rw [show ((1 : Nat) : Int) = 1 from rfl] at e3
  unfold fX9_earliest_136 fX9_earliest_178 fX9_earliest_183 fX9_earliest_195
  simp only [fa ha, ↓reduceIte, Int.toNat_natCast, e1, ↓am_b_t, e17, e2]
  rcases k2 with ⟨k2, q2⟩ | ⟨k2, q2⟩
  · refine ⟨b2, s12, Or.inl ⟨Or.inr (Or.inl q2), ?_⟩⟩
    simp only [k2, z10, ↓reduceIte, ↓am_l_t, p43, p18]
    split <;> rfl
  · simp only [k2, ↓reduceIte, e3, ↓am_b_t, f17, e4]
    rcases k4 with ⟨k4, q4⟩ | ⟨k4, q4⟩
    · refine ⟨b4, s14, Or.inl ⟨Or.inr (Or.inr q4), ?_⟩⟩
      simp only [k4, z10, ↓reduceIte, ↓am_l_t, g43, g18]
      split <;> rfl
    · simp only [k4, ↓reduceIte, ↓am_l_t, g43, g18]
      by_cases c0 : s0 = 0
      · refine ⟨b4, s14, Or.inr ⟨fun z => z.elim (fun y => y c0) (fun y => y.elim q2 q4), ?_⟩⟩
        simp only [eqT c0, ↓reduceIte]
      · refine ⟨b4, s14, Or.inl ⟨Or.inl c0, ?_⟩⟩
        simp only [eqF c0, ↓reduceIte]
/-- the same, told by the class's memory, in the reference's order -/
def Pa (hx h : am_M) (d n j T a : Nat) (x : Int) : Prop := ∃ i, i < a ∧ so i < T ∧ ∃ m : Nat, h 44 (so i) = m ∧ Sm hx d n j m ∧ x = h 43 (so i) + hx 18 0
theorem Pa_x {hx h : am_M} {d n j T : Nat} (hT : T ≤ 36) (x : Int) : Pa hx h d n j T 36 x ↔ Px hx h d n j T x := by
  constructor
  · rintro ⟨i, _, h2, y⟩
    exact ⟨so i, h2, y⟩
  · rintro ⟨s, h1, y⟩
    have := so_ix s (by omega)
    refine ⟨ix s, this.2, ?_, ?_⟩
    · rw [this.1]; exact h1
    · rw [this.1]; exact y
theorem neg1n (m : Nat) : ¬ ((-1 : Int) = (m : Int)) := by omega
theorem nneg {x : Int} {m : Nat} (h : x = (m : Int)) : ¬ x < 0 := by omega
theorem bb_l {x u : Int} {T : Nat} (h : 0 ≤ x ∧ x ≤ 102000 + 4000 * (T : Int)) (hT : T ≤ 36) (hu : 0 ≤ u ∧ u ≤ 2000) : (0 ≤ x ∧ x ≤ 1000000) ∧ (0 ≤ u ∧ u ≤ 1000000) := by omega
theorem fed_i {hx hm : am_M} {d n j d' n' j' m : Nat} (Q : Dr hx hm d n) (hj : j < n - 1) (Q' : Dr hx hm d' n') (hj' : j' < n' - 1) (e : m = 16 * d' + j') : (if n' / 2 + j' / 2 < n' - 1 then ((16 * d' + (n' / 2 + j' / 2) : Nat) : Int) else -1) = ((16 * d + j : Nat) : Int) ↔ (m / 16 = d ∧ n / 2 + m % 16 / 2 = j) := by
  have j16 := Q'.j16 hj'
  have dm : m / 16 = d' ∧ m % 16 = j' := by omega
  have hn' : n' ≤ 16 := Q'.2.2.1.b.2.1
  have hj16 := Q.j16 hj
  have hnn : d' = d → n' = n := by
    intro z
    subst z
    have : (n' : Int) = n := by rw [← Q'.2.2.2.1, ← Q.2.2.2.1]
    exact Int.ofNat_inj.mp this
  rw [dm.1, dm.2]
  clear Q Q' e dm
  constructor
  · intro z
    by_cases cn : n' / 2 + j' / 2 < n' - 1
    · rw [if_pos cn] at z
      have hd : d' = d := by clear hnn; omega
      have := hnn hd
      refine ⟨hd, by clear hnn; omega⟩
    · rw [if_neg cn] at z
      clear hnn
      omega
  · rintro ⟨z1, z2⟩
    have := hnn z1
    clear hnn
    rw [if_pos (by omega)]
    omega
theorem m_el {hx hm h : am_M} {d n j c k : Nat} (Q : Dr hx hm d n) (hj : j < n - 1) (hc : c < 6) (hk : k < 6) (base : Int) : ∀ (r a f : Nat) (cur : Int) (b : am_M), a + r = 36 → r < f → TI hx hm h b (6 * k + c) → IsMx base (Pa hx h d n j (6 * k + c) a) cur → ∃ v b', am_it (fun _ _ _ _ _ _ => none) fX9_earliest_68b f ((16 * d + j : Nat) : Int) (c : Int) (k : Int) cur (a : Int) b = some (v, b') ∧ sc b b' ∧ IsMx base (Px hx h d n j (6 * k + c)) v := by
  have hru := rul Q.1
  have hT : 6 * k + c ≤ 36 := by omega
  intro r
  induction r with
  | zero =>
    intro a f cur b ha hf I hM
    obtain ⟨f, rfl⟩ : ∃ q, f = q + 1 := ⟨f - 1, by omega⟩
    obtain rfl : a = 36 := by omega
    rw [am_it_s]
    unfold fX9_earliest_68b
    rw [if_neg (by decide)]
    exact ⟨cur, b, rfl, sc.rf b, hM.cg (fun x => (Pa_x hT x).symm)⟩
  | succ r ih =>
    intro a f cur b ha hf I hM
    obtain ⟨f, rfl⟩ : ∃ q, f = q + 1 := ⟨f - 1, by omega⟩
    have h36 : a < 36 := by omega
    have i1 : ((a : Int) < 36) = True := eq_true (by omega)
    have i0 : ((0 : Int) ≤ (a : Int)) = True := eq_true (by omega)
    have nx := fun cur b => ih (a + 1) f cur b (by omega) (by omega)
    have hia := ix_so a h36
    have b17 : b 17 a = hx 17 a := by rw [I.2.1 17 (by decide), Q.1.1 17 (by decide) (by decide)]
    have b18 : b 18 0 = hx 18 0 := by rw [I.2.1 18 (by decide), Q.1.1 18 (by decide) (by decide)]
    have step : ∀ x, Pa hx h d n j (6 * k + c) (a + 1) x ↔ Pa hx h d n j (6 * k + c) a x ∨ (so a < 6 * k + c ∧ ∃ m : Nat, h 44 (so a) = m ∧ Sm hx d n j m ∧ x = h 43 (so a) + hx 18 0) := by
      intro x
      constructor
      · rintro ⟨i, hi, y⟩
        by_cases e : i = a
        · subst e; exact Or.inr y
        · exact Or.inl ⟨i, by omega, y⟩
      · rintro (⟨i, hi, y⟩ | y)
        · exact ⟨i, by omega, y⟩
        · exact ⟨a, by omega, y⟩
    have dd := d6 a h36
    have a1 := pw1 a (Nat.lt_trans h36 (by decide))
    rw [am_it_s]
    clear ih
    generalize am_it (fun _ _ _ _ _ _ => none) fX9_earliest_68b f = K at nx ⊢
    have skip : ∀ b1, sc b b1 → (so a < 6 * k + c → ∀ m : Nat, h 44 (so a) = m → ¬ Sm hx d n j m) → ∃ v b', K ((16 * d + j : Nat) : Int) (c : Int) (k : Int) cur ((a + 1 : Nat) : Int) b1 = some (v, b') ∧ sc b b' ∧ IsMx base (Px hx h d n j (6 * k + c)) v := by
      intro b1 s1 hn
      obtain ⟨v, b', e, s', M⟩ := nx cur b1 (I.sc s1) (hM.cg (fun x => by
        rw [step]
        exact ⟨fun z => z.elim id (fun ⟨y0, m, y1, y2, _⟩ => absurd y2 (hn y0 m y1)), Or.inl⟩))
      exact ⟨v, b', e, s1.tr s', M⟩
    unfold fX9_earliest_68b
    simp only [i1, i0, and_self, ↓reduceIte, Int.toNat_natCast, dd.1, dd.2, m_isAhead a c k h36 hc, ↓am_b_t]
    clear dd
    have k216 : ∀ (cur' : Int) (b1 : am_M), fX9_earliest_216 K ((16 * d + j : Nat) : Int) (c : Int) (k : Int) cur' (a : Int) b1 = K ((16 * d + j : Nat) : Int) (c : Int) (k : Int) cur' ((a + 1 : Nat) : Int) b1 := by
      intro cur' b1
      unfold fX9_earliest_216
      rw [a1]
    clear a1
    by_cases c52 : b 52 a = 0
    · simp only [eqT c52, ↓reduceIte, k216]
      refine skip b (sc.rf b) (fun hs m hm => ?_)
      rcases I.2.2.2.2.1 (so a) hia.2 hs with q | q
      · rw [q.2.2.2] at hm; exact absurd hm (neg1n m)
      · rw [hia.1, c52] at q; exact absurd q.1 (by decide)
    · by_cases c17 : b 17 a < 0
      · simp only [eqF c52, eqT c17, ↓reduceIte, k216]
        refine skip b (sc.rf b) (fun hs m hm => ?_)
        rcases I.2.2.2.2.1 (so a) hia.2 hs with q | q
        · rw [q.2.2.2] at hm; exact absurd hm (neg1n m)
        · rcases q.2.2.2.2 with y | ⟨m', y1, _⟩
          · rw [y.2] at hm; exact absurd hm (neg1n m)
          · rw [hia.1, ← b17] at y1; exact absurd c17 (nneg y1)
      · by_cases cs : so a < 6 * k + c
        · rcases I.2.2.2.2.1 (so a) hia.2 cs with q | ⟨q1, q2, q3, q4, q5⟩
          · rw [hia.1] at q; exact absurd q.1 c52
          · rw [hia.1] at q1 q2 q3 q5
            have bb := bb_l q4 hT hru
            rcases q5 with y | ⟨m, y1, y2, y3, y4, y5, y6⟩
            · rw [← b17] at y; exact absurd y.1 c17
            · have e17 : b 17 a = m := by rw [b17]; exact y1
              have bw := aw_b (h 43 (so a)) (hx 18 0) bb.1 bb.2
              rcases mtn Q.1 m y3 with ⟨d', n', j', e, Q', hj'⟩ | ⟨nm, _⟩
              · have Qb' := Q'.z (sc0.rf hx) I.2.1
                have efb := q_fedBy d' n' j' b Q'.2.1 Q'.2.2.1 (Qb'.d.m1 (sc.rf b)) hj'
                rw [← e] at efb
                have c17' : ¬ ((m : Int) < 0) := by rw [← e17]; exact c17
                have fed := fed_i Q hj Q' hj' e
                have done : ∀ s0 : Int, (s0 ≠ 0 ↔ (m / 16 = d ∧ n / 2 + m % 16 / 2 = j)) → ∃ v b', fX9_earliest_136 (fX9_earliest_216 K) ((16 * d + j : Nat) : Int) (c : Int) (k : Int) cur (a : Int) s0 b = some (v, b') ∧ sc b b' ∧ IsMx base (Px hx h d n j (6 * k + c)) v := by
                  intro s0 hs0
                  obtain ⟨b1, s1, kk⟩ := m_136 (h := h) (c := c) (k := k) (T := 6 * k + c) Q hj I.2.1 h36 y3 y4 e17 (fX9_earliest_216 K) cur s0 (c : Int) (k : Int)
                  rcases kk with ⟨k1, k2⟩ | ⟨k1, k2⟩
                  · rw [k2, k216, ← q3, b18, bw]
                    have hm : Sm hx d n j m := k1.elim (fun z => Or.inl (hs0.mp z)) Or.inr
                    obtain ⟨v, b', e', s', M⟩ := nx (max cur (h 43 (so a) + hx 18 0)) b1 (I.sc s1) (hM.add (fun x => by
                      rw [step]
                      constructor
                      · rintro (z | ⟨_, m', a1, a2, a3⟩)
                        · exact Or.inl z
                        · exact Or.inr a3
                      · rintro (z | z)
                        · exact Or.inl z
                        · exact Or.inr ⟨cs, m, y2, hm, z⟩))
                    exact ⟨v, b', e', s1.tr s', M⟩
                  · rw [k2, k216]
                    refine skip b1 s1 (fun _ m' hm' hS => ?_)
                    have : m' = m := Int.ofNat_inj.mp (hm'.symm.trans y2)
                    rw [this] at hS
                    exact k1 (hS.elim (fun z => Or.inl (hs0.mpr z)) Or.inr)
                simp only [eqF c52, e17, eqF c17', eqT cs, ↓reduceIte, z10, efb, ↓am_b_t]
                clear bw
                by_cases cf : m / 16 = d ∧ n / 2 + m % 16 / 2 = j
                · rw [if_pos (fed.mpr cf)]
                  exact done 1 ⟨fun _ => cf, fun _ => by decide⟩
                · rw [if_neg (fun z => cf (fed.mp z))]
                  exact done 0 ⟨fun z => absurd rfl z, fun z => absurd z cf⟩
              · exact absurd y4 nm
        · simp only [eqF c52, eqF c17, eqF cs, ↓reduceIte, k216]
          exact skip b (sc.rf b) (fun hs => absurd hs cs)
theorem rdv_b {hx hm : am_M} (r : Rel hx hm) (v : Int) : rdv hx v = -2147483648 ∨ (0 ≤ rdv hx v ∧ rdv hx v ≤ 102000) := by
  have hru := rul r
  have hl := ls_b r v 64 (Nat.le_refl _)
  unfold rdv
  split
  · right; omega
  · left; rfl
theorem m_e1 {hx hm b : am_M} {d n j t : Nat} (Q : Dr hx hm d n) (hj : j < n - 1) (hb : sc0 hm b) (ht : t < 2) (C K1 cur : Int) (hcur : 0 ≤ cur) (K : Int → Int → Int → Int → Int → am_M → Option (Int × am_M)) : ∃ b', sc b b' ∧ fX9_earliest_6b K ((16 * d + j : Nat) : Int) C K1 cur (t : Int) b = K ((16 * d + j : Nat) : Int) C K1 (max cur (rdv hx (sd hx d n j t))) ((t + 1 : Nat) : Int) b' := by
  obtain ⟨b1, e1, s1⟩ := m_sidez Q hj ht b hb
  have hb1 := hb.tr s1.z
  have i1 : ((t : Int) < 2) = True := eq_true (by omega)
  have h40 := sd40 Q hj ht
  have t1 := pw1 t (by omega)
  unfold fX9_earliest_6b fX9_earliest_36 fX9_earliest_59
  simp only [i1, ↓reduceIte, e1, ↓am_b_t, t1, show ((-1 : Int) < 0) = True by decide]
  clear t1
  by_cases c : sd hx d n j t < 0
  · refine ⟨b1, s1, ?_⟩
    have : rdv hx (sd hx d n j t) = -2147483648 := by
      unfold rdv
      rw [if_neg (fun z => by omega)]
    rw [this, Int.max_eq_left (by omega)]
    simp only [eqT c, ↓reduceIte]
  · obtain ⟨b2, e2, s2⟩ := m_lastEnd (Q.1.sc0 (sc0.rf hx) hb1) (sd hx d n j t) (by omega) b1 (sc.rf b1)
    refine ⟨b2, s1.tr s2, ?_⟩
    have b18 : b2 18 0 = hx 18 0 := by rw [s2 18 (by decide), hb1 18 (by decide), Q.1.1 18 (by decide) (by decide)]
    simp only [eqF c, ↓reduceIte, e2, ↓am_b_t, ↓am_l_t, b18, ls_w Q.1]
    unfold rdv
    by_cases c2 : ls hx (sd hx d n j t) 64 < 0
    · simp only [eqT c2, ↓reduceIte]
      rw [if_neg (fun z => absurd z.2.2 (by omega)), Int.max_eq_left (by omega)]
    · simp only [eqF c2, ↓reduceIte]
      rw [if_pos ⟨by omega, h40, by omega⟩]
theorem m_early {hx hm h b : am_M} {d n j c k : Nat} (Q : Dr hx hm d n) (hj : j < n - 1) (hc : c < 6) (hk : k < 6) (I : TI hx hm h b (6 * k + c)) : ∃ v b', fX9_earliest ((16 * d + j : Nat) : Int) (c : Int) (k : Int) b = some (v, b') ∧ sc b b' ∧ IsMx (max (max 0 (rdv hx (sd hx d n j 0))) (rdv hx (sd hx d n j 1))) (Px hx h d n j (6 * k + c)) v := by
  have key : ∀ f, ∃ v b', am_it (fun _ _ _ _ _ _ => none) fX9_earliest_6b (f + 3) ((16 * d + j : Nat) : Int) (c : Int) (k : Int) 0 ((0 : Nat) : Int) b = some (v, b') ∧ sc b b' ∧ IsMx (max (max 0 (rdv hx (sd hx d n j 0))) (rdv hx (sd hx d n j 1))) (Px hx h d n j (6 * k + c)) v := by
    intro f
    rw [am_it_s]
    obtain ⟨b1, s1, e1⟩ := m_e1 (t := 0) Q hj I.2.1 (by decide) (c : Int) (k : Int) 0 (Int.le_refl _) (am_it (fun _ _ _ _ _ _ => none) fX9_earliest_6b (f + 2))
    have I1 := I.sc s1
    rw [e1, am_it_s, show ((0 + 1 : Nat) : Int) = ((1 : Nat) : Int) from rfl]
    obtain ⟨b2, s2, e2⟩ := m_e1 (t := 1) Q hj I1.2.1 (by decide) (c : Int) (k : Int) (max 0 (rdv hx (sd hx d n j 0))) (Int.le_max_left _ _) (am_it (fun _ _ _ _ _ _ => none) fX9_earliest_6b (f + 1))
    have I2 := I1.sc s2
    rw [e2, am_it_s]
    obtain ⟨v, b3, e3, s3, M⟩ := m_el (h := h) Q hj hc hk (max (max 0 (rdv hx (sd hx d n j 0))) (rdv hx (sd hx d n j 1))) 36 0 400 _ b2 (by decide) (by decide) I2 (IsMx.z (fun x z => by obtain ⟨i, hi, _⟩ := z; exact absurd hi (Nat.not_lt_zero _)))
    refine ⟨v, b3, ?_, (s1.tr s2).tr s3, M⟩
    rw [show ((0 : Nat) : Int) = 0 from rfl] at e3
    generalize am_it (fun _ _ _ _ _ _ => none) fX9_earliest_6b f = K
    unfold fX9_earliest_6b fX9_earliest_65 fX9_earliest_68
    rw [if_neg (by decide)]
    exact e3
  obtain ⟨v, b', e, s, M⟩ := key 397
  rw [show ((0 : Nat) : Int) = 0 from rfl] at e
  refine ⟨v, b', ?_, s, M⟩
  unfold fX9_earliest fX9_earliest_6
  exact e
