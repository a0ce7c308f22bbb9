def bt (x : Int32) (i : Nat) : Bool := x.toBitVec.getLsbD i
theorem b_ext {x y : Int32} (h : ∀ i, i < 32 → bt x i = bt y i) : x = y := Int32.toBitVec_inj.mp (BitVec.eq_of_getLsbD_eq (fun i hi => h i hi))
theorem b_or (x y : Int32) (i : Nat) : bt (x ||| y) i = (bt x i || bt y i) := by unfold bt; rw [Int32.toBitVec_or, BitVec.getLsbD_or]
theorem b_and (x y : Int32) (i : Nat) : bt (x &&& y) i = (bt x i && bt y i) := by unfold bt; rw [Int32.toBitVec_and, BitVec.getLsbD_and]
theorem b_xor (x y : Int32) (i : Nat) : bt (x ^^^ y) i = (bt x i ^^ bt y i) := by unfold bt; rw [Int32.toBitVec_xor, BitVec.getLsbD_xor]
theorem b_big {x : Int32} {i : Nat} (h : 32 ≤ i) : bt x i = false := BitVec.getLsbD_of_ge _ _ h
theorem b_m1 : ∀ i, i < 32 → bt (-1) i = true := by decide +kernel
theorem b_0 (i : Nat) : bt 0 i = false := BitVec.getLsbD_zero
theorem s_l : ∀ n, n < 32 → ((nI n &&& 31).toBitVec.smod 32).toNat = n := by decide +kernel
theorem s_u : ∀ n, n < 32 → (((nI n).toUInt32 &&& Int32.toUInt32 31).toBitVec % 32).toNat = n := by decide +kernel
theorem b_shl (n : Nat) (hn : n < 32) (x : Int32) {i : Nat} (hi : i < 32) : bt (x <<< (nI n &&& 31)) i = (decide (n ≤ i) && bt x (i - n)) := by
  unfold bt
  rw [Int32.toBitVec_shiftLeft]
  show (x.toBitVec <<< ((nI n &&& 31).toBitVec.smod 32).toNat).getLsbD i = _
  rw [s_l n hn, BitVec.getLsbD_shiftLeft]
  rcases Nat.lt_or_ge i n with h | h
  · simp [h, Nat.not_le.mpr h]
  · simp [hi, h, Nat.not_lt.mpr h]
theorem b_ushr (n : Nat) (hn : n < 32) (x : Int32) (i : Nat) : bt ((x.toUInt32 >>> ((nI n).toUInt32 &&& Int32.toUInt32 31)).toInt32) i = bt x (n + i) := by
  show (x.toUInt32 >>> ((nI n).toUInt32 &&& Int32.toUInt32 31)).toBitVec.getLsbD i = x.toUInt32.toBitVec.getLsbD (n + i)
  rw [UInt32.toBitVec_shiftRight]
  show (x.toUInt32.toBitVec >>> (((nI n).toUInt32 &&& Int32.toUInt32 31).toBitVec % 32).toNat).getLsbD i = _
  rw [s_u n hn, BitVec.getLsbD_ushiftRight]
/-! ===== a bit of a number ===== -/
theorem nI_ofi : ∀ n : Nat, n < 32 → Int32.ofInt (n : Int) = nI n := by decide +kernel
theorem bt_1 : ∀ i, i < 32 → bt 1 i = decide (i = 0) := by decide +kernel
theorem bit_v (b : Int) (r : Nat) (hr : r < 32) : am_and (am_ushr b (r : Int)) 1 = if bt (Int32.ofInt b) r = true then 1 else 0 := by
  unfold am_and am_ushr
  rw [Int32.ofInt_toInt, nI_ofi r hr]
  have key : (((Int32.ofInt b).toUInt32 >>> ((nI r).toUInt32 &&& Int32.toUInt32 31)).toInt32 &&& Int32.ofInt 1) = if bt (Int32.ofInt b) r = true then 1 else 0 := by
    apply b_ext
    intro i hi
    rw [b_and, b_ushr r hr, show Int32.ofInt 1 = 1 from rfl, bt_1 i hi]
    by_cases c : bt (Int32.ofInt b) r = true
    · rw [if_pos c, bt_1 i hi]
      by_cases ci : i = 0
      · subst ci; simp [c]
      · simp [ci]
    · rw [if_neg c, b_0]
      by_cases ci : i = 0
      · subst ci; simp [c]
      · simp [ci]
  rw [key]
  split <;> rfl
theorem bt_shl1 (r0 r : Nat) (h0 : r0 < 32) (hr : r < 32) : bt (Int32.ofInt (am_shl 1 (r0 : Int))) r = decide (r = r0) := by
  unfold am_shl
  rw [Int32.ofInt_toInt, nI_ofi r0 h0, show Int32.ofInt 1 = 1 from rfl, b_shl r0 h0 1 hr, bt_1 _ (by omega)]
  by_cases c : r = r0
  · subst c; simp
  · by_cases c2 : r0 ≤ r
    · have : r - r0 ≠ 0 := by omega
      simp [c, this]
    · simp [c, c2]
theorem bit_or (b : Int) (r0 r : Nat) (h0 : r0 < 32) (hr : r < 32) : am_and (am_ushr (am_or b (am_shl 1 (r0 : Int))) (r : Int)) 1 = if r = r0 then 1 else am_and (am_ushr b (r : Int)) 1 := by
  rw [bit_v _ r hr, bit_v _ r hr]
  have : bt (Int32.ofInt (am_or b (am_shl 1 (r0 : Int)))) r = (bt (Int32.ofInt b) r || decide (r = r0)) := by
    unfold am_or
    rw [Int32.ofInt_toInt, b_or, bt_shl1 r0 r h0 hr]
  rw [this]
  by_cases c : r = r0
  · simp [c]
  · simp [c]
theorem bit_an (b : Int) (r0 r : Nat) (h0 : r0 < 32) (hr : r < 32) : am_and (am_ushr (am_and b (am_xor (am_shl 1 (r0 : Int)) (-1))) (r : Int)) 1 = if r = r0 then 0 else am_and (am_ushr b (r : Int)) 1 := by
  rw [bit_v _ r hr, bit_v _ r hr]
  have : bt (Int32.ofInt (am_and b (am_xor (am_shl 1 (r0 : Int)) (-1)))) r = (bt (Int32.ofInt b) r && !decide (r = r0)) := by
    unfold am_and am_xor
    rw [Int32.ofInt_toInt, Int32.ofInt_toInt, b_and, b_xor, bt_shl1 r0 r h0 hr, show Int32.ofInt (-1) = -1 from rfl, b_m1 r hr]
    simp
  rw [this]
  by_cases c : r = r0
  · simp [c]
  · simp [c]
