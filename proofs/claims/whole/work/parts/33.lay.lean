/-! ===== lay: numbers, the first writes ===== -/
theorem ush_b (x : Int) : 0 ≤ am_ushr x 16 ∧ am_ushr x 16 < 65536 := by
  unfold am_ushr
  have e16 : Int32.ofInt 16 = nI 16 := rfl
  rw [e16]
  have eb : (((Int32.ofInt x).toUInt32 >>> ((nI 16).toUInt32 &&& Int32.toUInt32 31)).toInt32).toBitVec = (Int32.ofInt x).toUInt32.toBitVec >>> 16 := by
    show ((Int32.ofInt x).toUInt32 >>> ((nI 16).toUInt32 &&& Int32.toUInt32 31)).toBitVec = _
    rw [UInt32.toBitVec_shiftRight]
    show (Int32.ofInt x).toUInt32.toBitVec >>> (((nI 16).toUInt32 &&& Int32.toUInt32 31).toBitVec % 32).toNat = _
    rw [s_u 16 (by decide)]
  have hn : ((Int32.ofInt x).toUInt32.toBitVec >>> 16).toNat < 65536 := by
    rw [BitVec.toNat_ushiftRight, Nat.shiftRight_eq_div_pow]
    have := (Int32.ofInt x).toUInt32.toBitVec.isLt
    omega
  have ei : (((Int32.ofInt x).toUInt32 >>> ((nI 16).toUInt32 &&& Int32.toUInt32 31)).toInt32).toInt = (((Int32.ofInt x).toUInt32.toBitVec >>> 16).toNat : Int) := by
    show (((Int32.ofInt x).toUInt32 >>> ((nI 16).toUInt32 &&& Int32.toUInt32 31)).toInt32).toBitVec.toInt = _
    rw [eb, BitVec.toInt_eq_toNat_of_lt (by omega)]
  rw [ei]
  omega
/-- the next state of the numbers -/
def lcg (x : Int) : Int := am_w (am_w (1103515245 * x) + 12345)
theorem num_b (x : Int) (m : Nat) (hm : 0 < m) : ∃ v : Nat, Int.tmod (am_ushr x 16) (m : Int) = v ∧ v < m := by
  have b := ush_b x
  obtain ⟨u, hu⟩ := p_nat b.1
  rw [hu, p_tmod]
  exact ⟨u % m, rfl, Nat.mod_lt _ hm⟩
theorem x_num (h : am_M) (m : Nat) (hm : 0 < m) : fX4_numberBelow (m : Int) h = some (Int.tmod (am_ushr (lcg (h 33 0)) 16) (m : Int), am_up h 33 0 (lcg (h 33 0))) := by
  have i1 : ((m : Int) < 1) = False := eq_false (by omega)
  have i2 : ((m : Int) ≠ 0) = True := eq_true (by omega)
  unfold fX4_numberBelow lcg
  simp only [↓am_l_t, i1, i2, ↓reduceIte, am_up_s]
theorem m_num (b : am_M) (m : Nat) (hm : 0 < m) : fX9_number (m : Int) b = some (Int.tmod (am_ushr (lcg (b 33 0)) 16) (m : Int), am_up b 33 0 (lcg (b 33 0))) := by
  have i2 : ((m : Int) ≠ 0) = True := eq_true (by omega)
  unfold fX9_number lcg
  simp only [↓am_l_t, i2, ↓reduceIte, am_up_s]
/-- laying draw d leaves all else: of kinds < 30 the places of draw d alone change -/
def fr7 (d : Nat) (hx h : am_M) : Prop := (∀ k, k < 30 → k ≠ 7 → h k = hx k) ∧ ∀ x, (∀ i, i < 16 → x ≠ 16 * d + i) → h 7 x = hx 7 x
theorem fr7.rf (d : Nat) (h : am_M) : fr7 d h h := ⟨fun _ _ _ => rfl, fun _ _ => rfl⟩
theorem fr7.tr {d : Nat} {h h1 h2 : am_M} (a : fr7 d h h1) (b : fr7 d h1 h2) : fr7 d h h2 := ⟨fun k hk h7 => (b.1 k hk h7).trans (a.1 k hk h7), fun x hx => (b.2 x hx).trans (a.2 x hx)⟩
theorem fr7.p {d : Nat} {hx h : am_M} (a : fr7 d hx h) {i : Nat} (hi : i < 16) (v : Int) : fr7 d hx (am_up h 7 (16 * d + i) v) := ⟨fun k hk h7 => by rw [am_up_ne _ _ _ h7]; exact a.1 k hk h7, fun x hx1 => by rw [am_up_i _ _ _ (hx1 i hi)]; exact a.2 x hx1⟩
theorem fr7.s {d : Nat} {hx h : am_M} (a : fr7 d hx h) {k : Nat} (i : Nat) (v : Int) (hk : 30 ≤ k) : fr7 d hx (am_up h k i v) := ⟨fun q hq h7 => by rw [am_up_ne _ _ _ (by omega)]; exact a.1 q hq h7, fun x hx1 => by rw [am_up_ne _ _ _ (by omega)]; exact a.2 x hx1⟩
/-- the places of draw d, from 0 on -/
def pc (h : am_M) (d i : Nat) : Int := h 7 (16 * d + i)
theorem pc_up (h : am_M) (d i : Nat) (v : Int) (j : Nat) : pc (am_up h 7 (16 * d + i) v) d j = if j = i then v else pc h d j := by
  unfold pc
  by_cases e : j = i
  · rw [e, am_up_s, if_pos rfl]
  · rw [am_up_i _ _ _ (by omega), if_neg e]
theorem pc_s (h : am_M) (d : Nat) {k : Nat} (i : Nat) (v : Int) (hk : k ≠ 7) (j : Nat) : pc (am_up h k i v) d j = pc h d j := by
  unfold pc
  rw [am_up_ne _ _ _ (Ne.symm hk)]
theorem x_l1 (d : Nat) (hd : d < 4) (h0 : am_M) : ∀ (r i f : Nat) (h : am_M), i + r = 16 → r < f → fr7 d h0 h → h 33 = h0 33 → (∀ j, j < i → pc h d j = -2 ∧ h 32 j = 0) → ∃ h', am_it (fun _ _ _ => none) fX4_arrange_8b f d (i : Int) h = fX4_arrange_38 d h' ∧ fr7 d h0 h' ∧ h' 33 = h0 33 ∧ (∀ j, j < 16 → pc h' d j = -2 ∧ h' 32 j = 0) := by
  intro r
  induction r with
  | zero =>
    intro i f h hi hf F h33 hp
    obtain ⟨f, rfl⟩ : ∃ q, f = q + 1 := ⟨f - 1, by omega⟩
    obtain rfl : i = 16 := by omega
    rw [am_it_s]
    unfold fX4_arrange_8b
    rw [if_neg (by decide)]
    exact ⟨h, rfl, F, h33, hp⟩
  | succ r ih =>
    intro i f h hi hf F h33 hp
    obtain ⟨f, rfl⟩ : ∃ q, f = q + 1 := ⟨f - 1, by omega⟩
    have i16 : i < 16 := by omega
    have i1 : ((i : Int) < 16) = True := eq_true (by omega)
    have i0 : ((0 : Int) ≤ (i : Int)) = True := eq_true (by omega)
    have c1 := pw1 i (by omega)
    have nx := fun (h : am_M) => ih (i + 1) f h (by clear c1; omega) (by clear c1; omega)
    rw [am_it_s]
    clear ih
    generalize am_it (fun _ _ _ => none) fX4_arrange_8b f = K at nx ⊢
    unfold fX4_arrange_8b
    simp only [i1, i0, and_self, ↓reduceIte, Int.toNat_natCast, ↓am_l_t, c1]
    clear c1
    refine nx _ ((F.p i16 (-2)).s _ _ (by decide)) ?_ (fun j hj => ?_)
    · rw [am_up_ne _ _ _ (by decide), am_up_ne _ _ _ (by decide)]; exact h33
    · rw [pc_s _ _ _ _ (by decide), pc_up]
      by_cases e : j = i
      · rw [if_pos e, e, am_up_s]
        exact ⟨rfl, rfl⟩
      · rw [if_neg e, am_up_i _ _ _ e, am_up_k _ _ _ _ (by decide)]
        exact hp j (by omega)
theorem m_l1 (d n : Nat) (hd : d < 4) (hn : n ≤ 16) (b0 : am_M) : ∀ (r i f : Nat) (b : am_M), i + r = n → r < f → fr7 d b0 b → b 33 = b0 33 → (∀ j, j < i → pc b d j = -2) → ∃ b', am_it (fun _ _ _ _ => none) fX9_lay_69b f (d : Int) (n : Int) (i : Int) b = fX9_lay_90 (d : Int) (n : Int) b' ∧ fr7 d b0 b' ∧ b' 33 = b0 33 ∧ (∀ j, j < n → pc b' d j = -2) := by
  intro r
  induction r with
  | zero =>
    intro i f b hi hf F h33 hp
    obtain ⟨f, rfl⟩ : ∃ q, f = q + 1 := ⟨f - 1, by omega⟩
    obtain rfl : i = n := by omega
    have i1 : ((i : Int) < (i : Int)) = False := eq_false (by omega)
    rw [am_it_s]
    unfold fX9_lay_69b
    simp only [i1, ↓reduceIte]
    exact ⟨b, rfl, F, h33, hp⟩
  | succ r ih =>
    intro i f b hi hf F h33 hp
    obtain ⟨f, rfl⟩ : ∃ q, f = q + 1 := ⟨f - 1, by omega⟩
    have i16 : i < 16 := by omega
    have i1 : ((i : Int) < (n : Int)) = True := eq_true (by omega)
    have c1 := pw1 i (by omega)
    have nx := fun (b : am_M) => ih (i + 1) f b (by clear c1; omega) (by clear c1; omega)
    rw [am_it_s]
    clear ih
    generalize am_it (fun _ _ _ _ => none) fX9_lay_69b f = K at nx ⊢
    unfold fX9_lay_69b
    simp only [i1, ↓reduceIte, q_put d i _ hd i16, ↓am_b_t, c1]
    clear c1
    refine nx _ (F.p i16 (-2)) ?_ (fun j hj => ?_)
    · rw [am_up_ne _ _ _ (by decide)]; exact h33
    · rw [pc_up]
      by_cases e : j = i
      · rw [if_pos e]
      · rw [if_neg e]
        exact hp j (by omega)
/-! the seeds' places -/
def sp (n t k : Nat) : Nat := if k = 0 then 0 else if k = 1 then n - 1 else if k = 2 then n / 2 - t else n / 2 - 1 + t
theorem sp_lt {n t k : Nat} (hn : szn n) (ht : t < 2) : sp n t k < n := by
  have := hn.b
  unfold sp
  (repeat' split) <;> omega
theorem sp_inj {n t k k' : Nat} (hn : szn n) (ht : t < 2) (hk : k < 4) (hk' : k' < 4) (e : sp n t k = sp n t k') : k = k' := by
  have := hn.b
  unfold sp at e
  (repeat' split at e) <;> omega
theorem m_sp {n t k : Nat} (hn : szn n) (ht : t < 2) (hk : k < 4) (b : am_M) : fX9_seedPlace (n : Int) (k : Int) (t : Int) b = some (((sp n t k : Nat) : Int), b) := by
  have hb := hn.b
  have w1 : am_w ((n : Int) - 1) = ((n - 1 : Nat) : Int) := n1_w hn
  have w2 : am_w (Int.tdiv (n : Int) 2) = ((n / 2 : Nat) : Int) := by rw [show (2 : Int) = ((2 : Nat) : Int) from rfl, p_tdiv, pw_n]; clear w1; omega
  have w3 : am_w (((n / 2 : Nat) : Int) - 1) = ((n / 2 - 1 : Nat) : Int) := by clear w1 w2; rw [pw (by omega) (by omega)]; omega
  unfold fX9_seedPlace fX9_seedPlace_27 sp
  rw [w1, w2, w3]
  clear w1 w2 w3
  (repeat' split) <;> first | rfl | omega | (congr 3; omega)
