/-! ===== an abstract machine over whole numbers: values, memory, worlds of a fixed shape ===== -/
def am_in (x : Int) : Prop := -2147483648 ≤ x ∧ x < 2147483648
def am_w (x : Int) : Int := (x + 2147483648) % 4294967296 - 2147483648
theorem am_w_in (x : Int) : am_in (am_w x) := by unfold am_in am_w; omega
theorem am_w_id {x : Int} (h : am_in x) : am_w x = x := by unfold am_in at h; unfold am_w; omega
theorem am_ti {x : Int} (h : am_in x) : (Int32.ofInt x).toInt = x := Int32.toInt_ofInt_of_le (by have := h.1; omega) (by have := h.2; omega)
theorem am_tin (z : Int32) : am_in z.toInt := by
  have h1 := Int32.le_toInt z
  have h2 := Int32.toInt_lt z
  unfold am_in; omega
theorem am_ofw (x : Int) : Int32.ofInt (am_w x) = Int32.ofInt x := by
  apply Int32.toInt_inj.mp
  rw [am_ti (am_w_in x), Int32.toInt_ofInt]
  unfold am_w
  rw [Int.bmod_def, show (Int32.size : Nat) = 4294967296 from rfl]
  split <;> omega
theorem am_oi {a b : Int} (ha : am_in a) (hb : am_in b) : Int32.ofInt a = Int32.ofInt b ↔ a = b :=
  ⟨fun h => by rw [← am_ti ha, ← am_ti hb, h], fun h => by rw [h]⟩
theorem am_lt {a b : Int} (ha : am_in a) (hb : am_in b) : Int32.ofInt a < Int32.ofInt b ↔ a < b := by
  rw [Int32.lt_iff_toInt_lt, am_ti ha, am_ti hb]
theorem am_le {a b : Int} (ha : am_in a) (hb : am_in b) : Int32.ofInt a ≤ Int32.ofInt b ↔ a ≤ b := by
  rw [Int32.le_iff_toInt_le, am_ti ha, am_ti hb]
theorem am_add (a b : Int) : Int32.ofInt a + Int32.ofInt b = Int32.ofInt (am_w (a + b)) := by rw [am_ofw, Int32.ofInt_add]
theorem am_sub (a b : Int) : Int32.ofInt a - Int32.ofInt b = Int32.ofInt (am_w (a - b)) := by rw [am_ofw, Int32.ofInt_sub]
theorem am_mul (a b : Int) : Int32.ofInt a * Int32.ofInt b = Int32.ofInt (am_w (a * b)) := by rw [am_ofw, Int32.ofInt_mul]
theorem am_neg (a : Int) : - Int32.ofInt a = Int32.ofInt (am_w (-a)) := by rw [am_ofw, Int32.ofInt_neg]
theorem am_div {a b : Int} (ha : am_in a) (hb : am_in b) : Int32.ofInt a / Int32.ofInt b = Int32.ofInt (am_w (a.tdiv b)) := by
  apply Int32.toInt_inj.mp
  rw [am_ofw, Int32.toInt_div, am_ti ha, am_ti hb, Int32.toInt_ofInt]
theorem am_rem {a b : Int} (ha : am_in a) (hb : am_in b) : Int32.ofInt a - Int32.ofInt a / Int32.ofInt b * Int32.ofInt b = Int32.ofInt (a.tmod b) := by
  rw [am_div ha hb, am_ofw, ← Int32.ofInt_mul, ← Int32.ofInt_sub]
  congr 1
  rw [Int.mul_comm, Int.tmod_def]
theorem am_tmod_in {a b : Int} (ha : am_in a) : am_in (a.tmod b) := by
  unfold am_in at *
  have h : (a.tmod b).natAbs ≤ a.natAbs := by
    rw [Int.natAbs_tmod]
    exact Nat.mod_le _ _
  rcases Int.le_total 0 a with h0 | h0
  · have h1 := Int.tmod_nonneg b h0
    omega
  · have h1 : 0 ≤ (-a).tmod b := Int.tmod_nonneg b (by omega)
    rw [Int.neg_tmod] at h1
    omega
def am_and (a b : Int) : Int := (Int32.ofInt a &&& Int32.ofInt b).toInt
def am_or (a b : Int) : Int := (Int32.ofInt a ||| Int32.ofInt b).toInt
def am_xor (a b : Int) : Int := (Int32.ofInt a ^^^ Int32.ofInt b).toInt
def am_shl (a b : Int) : Int := (Int32.ofInt a <<< (Int32.ofInt b &&& 31)).toInt
def am_shr (a b : Int) : Int := (Int32.ofInt a >>> (Int32.ofInt b &&& 31)).toInt
def am_ushr (a b : Int) : Int := ((Int32.ofInt a).toUInt32 >>> ((Int32.ofInt b).toUInt32 &&& Int32.toUInt32 31)).toInt32.toInt
/-- values: a number, or a reference to the n-th cell of the world, or null -/
abbrev am_V : Type := Int ⊕ Option Nat
abbrev am_M : Type := Nat → Nat → Int
def am_up (h : am_M) (k i : Nat) (v : Int) : am_M := fun a b => if a = k then (if b = i then v else h a b) else h a b
theorem am_up_s (h : am_M) (k i : Nat) (v : Int) : am_up h k i v k i = v := by simp [am_up]
theorem am_up_i (h : am_M) (k : Nat) {i j : Nat} (v : Int) (n : j ≠ i) : am_up h k i v k j = h k j := by simp [am_up, n]
theorem am_up_k (h : am_M) {k a : Nat} (i j : Nat) (v : Int) (n : a ≠ k) : am_up h k i v a j = h a j := by simp [am_up, n]
/-- cells of a world: an array of numbers (which array class, which kind of memory, from where on, how many); an object (its class's number, its fields: a place of the memory, or a cell); an array of cells -/
abbrev am_S : Type := (Nat × Nat × Nat × Nat) ⊕ ((Nat × List ((Nat × Nat) ⊕ Nat)) ⊕ (Nat × Nat × Nat))
/-- a world: the classes' numbers and slots, the array classes, the addresses, the shape, how many cells -/
abbrev am_E : Type := va_G × (Nat → ClassId) × (Nat → Nat) × (Nat → am_S) × Nat
abbrev am_D (E : am_E) : va_G := E.1
abbrev am_a (E : am_E) : Nat → ClassId := E.2.1
abbrev am_ad (E : am_E) : Nat → Nat := E.2.2.1
abbrev am_sh (E : am_E) : Nat → am_S := E.2.2.2.1
abbrev am_N (E : am_E) : Nat := E.2.2.2.2
def am_c (E : am_E) : am_V → Value
  | .inl n => .int (Int32.ofInt n)
  | .inr none => .null
  | .inr (some i) => .ref (am_ad E i)
theorem am_c_cat (E : am_E) (v : am_V) : (am_c E v).category = 1 := by
  rcases v with n | _ | i <;> rfl
def am_f (E : am_E) (h : am_M) : (Nat × Nat) ⊕ Nat → Value
  | .inl q => .int (Int32.ofInt (h q.1 q.2))
  | .inr i => .ref (am_ad E i)
def am_e (E : am_E) (h : am_M) : am_S → va_E
  | .inl q => .inl (am_a E q.1, q.2.2.2, .inl (fun j => if j < q.2.2.2 then Int32.ofInt (h q.2.1 (q.2.2.1 + j)) else 0))
  | .inr (.inl q) => .inr (q.1, q.2.map (am_f E h))
  | .inr (.inr q) => .inl (am_a E q.1, q.2.2, .inr (.inr (.inr (.inr (fun j => if j < q.2.2 then some (am_ad E (q.2.1 + j)) else none)))))
def am_ws (E : am_E) (h : am_M) : va_W := (List.range (am_N E)).map (fun i => (am_ad E i, am_e E h (am_sh E i)))
theorem am_ws_at (E : am_E) (h : am_M) {i : Nat} (hi : i < am_N E) : (am_ws E h)[i]? = some (am_ad E i, am_e E h (am_sh E i)) := by
  simp [am_ws, hi]
theorem am_ws_len (E : am_E) (h : am_M) : (am_ws E h).length = am_N E := by simp [am_ws]
theorem am_ws_inv (E : am_E) (h : am_M) {k : Nat} {q : Nat × va_E} (hk : (am_ws E h)[k]? = some q) : k < am_N E ∧ q = (am_ad E k, am_e E h (am_sh E k)) := by
  have hl : k < (am_ws E h).length := (List.getElem?_eq_some_iff.mp hk).1
  rw [am_ws_len] at hl
  exact ⟨hl, (Option.some.inj ((am_ws_at E h hl).symm.trans hk)).symm⟩
theorem am_ws_set (E : am_E) {h h' : am_M} {i : Nat} {e : va_E} (hi : i < am_N E) (he : am_e E h' (am_sh E i) = e) (ho : ∀ j, j < am_N E → j ≠ i → am_e E h' (am_sh E j) = am_e E h (am_sh E j)) : (am_ws E h).set i (am_ad E i, e) = am_ws E h' := by
  apply List.ext_getElem?
  intro k
  by_cases hk : k < am_N E
  · rw [am_ws_at E h' hk]
    by_cases hki : k = i
    · subst hki
      rw [List.getElem?_set_self (by rw [am_ws_len]; exact hk), he]
    · rw [List.getElem?_set_ne (Ne.symm hki), am_ws_at E h hk, ho k hk hki]
  · rw [List.getElem?_eq_none (by rw [List.length_set, am_ws_len]; omega), List.getElem?_eq_none (by rw [am_ws_len]; omega)]
/-- the addresses of a world are apart -/
def am_ap (E : am_E) : Prop := ∀ i j, i < am_N E → j < am_N E → am_ad E i = am_ad E j → i = j
/-- an address of the world -/
def am_A (E : am_E) : Nat → Prop := fun q => ∃ i, i < am_N E ∧ q = am_ad E i
theorem am_ap.D {E : am_E} (h : am_ap E) (m : am_M) : va_D (am_A E) (am_ws E m) := by
  refine ⟨fun i j p q hi hj hpq => ?_, fun k q hk => ?_⟩
  · obtain ⟨h1, rfl⟩ := am_ws_inv E m hi
    obtain ⟨h2, rfl⟩ := am_ws_inv E m hj
    exact h i j h1 h2 hpq
  · obtain ⟨h1, rfl⟩ := am_ws_inv E m hk
    exact ⟨k, h1, rfl⟩
/-- the places of the memory that a cell holds: kind, from, how many -/
def am_pl : am_S → List (Nat × Nat × Nat)
  | .inl q => [(q.2.1, q.2.2.1, q.2.2.2)]
  | .inr (.inl q) => q.2.filterMap (fun f => match f with | .inl x => some (x.1, x.2, 1) | .inr _ => none)
  | .inr (.inr _) => []
def am_meets (a b : Nat × Nat × Nat) : Bool := a.1 == b.1 && (decide (a.2.1 < b.2.1 + b.2.2) && decide (b.2.1 < a.2.1 + a.2.2))
/-- no place of the memory is held twice -/
def am_sep (sh : Nat → am_S) (N : Nat) : Bool := (List.range N).all fun i => (List.range N).all fun j => i == j || (am_pl (sh i)).all fun a => (am_pl (sh j)).all fun b => !(am_meets a b)
/-- within one cell -/
def am_own (sh : Nat → am_S) (N : Nat) : Bool := (List.range N).all fun i => match sh i with
  | .inr (.inl q) => (List.range q.2.length).all fun a => (List.range q.2.length).all fun b => a == b || (match q.2[a]?, q.2[b]? with | some (.inl x), some (.inl y) => !(x == y) | _, _ => true)
  | _ => true
/-- a write at a place of cell i leaves the other cells as they are -/
theorem am_e_up {E : am_E} (hs : am_sep (am_sh E) (am_N E) = true) (h : am_M) {i j k p : Nat} {v : Int} (hi : i < am_N E) (hj : j < am_N E) (hij : j ≠ i) {q : Nat × Nat × Nat} (hq : q ∈ am_pl (am_sh E i)) (hk : q.1 = k) (h1 : q.2.1 ≤ p) (h2 : p < q.2.1 + q.2.2) : am_e E (am_up h k p v) (am_sh E j) = am_e E h (am_sh E j) := by
  have hs1 := List.all_eq_true.mp (List.all_eq_true.mp hs i (List.mem_range.mpr hi)) j (List.mem_range.mpr hj)
  have hs2 : ((am_pl (am_sh E i)).all fun a => (am_pl (am_sh E j)).all fun b => !(am_meets a b)) = true := by
    simpa [Ne.symm hij] using hs1
  have hs3 : ∀ b ∈ am_pl (am_sh E j), am_meets q b = false := fun b hb => by
    have := List.all_eq_true.mp (List.all_eq_true.mp hs2 q hq) b hb
    simpa using this
  have key : ∀ b ∈ am_pl (am_sh E j), b.1 = k → ∀ x, b.2.1 ≤ x → x < b.2.1 + b.2.2 → x ≠ p := by
    intro b hb hbk x hx1 hx2 hxp
    have := hs3 b hb
    simp only [am_meets, Bool.and_eq_false_iff, beq_eq_false_iff_ne, decide_eq_false_iff_not] at this
    omega
  generalize am_sh E j = sj at key ⊢
  rcases sj with ⟨t, kk, o, n⟩ | ⟨ci, fs⟩ | ⟨t, b, n⟩
  · simp only [am_e]
    congr 4
    funext x
    by_cases hx : x < n
    · simp only [hx, if_true]
      by_cases hkk : kk = k
      · subst hkk
        rw [am_up_i]
        exact key (kk, o, n) (by simp [am_pl]) rfl (o + x) (by simp) (by simp; omega)
      · rw [am_up_k _ _ _ _ hkk]
    · simp only [hx, if_false]
  · simp only [am_e]
    congr 2
    apply List.map_congr_left
    intro f hf
    rcases f with ⟨x, y⟩ | z
    · simp only [am_f]
      by_cases hkk : x = k
      · subst hkk
        rw [am_up_i]
        exact key (x, y, 1) (by simp only [am_pl, List.mem_filterMap]; exact ⟨.inl (x, y), hf, rfl⟩) rfl y (by simp) (by simp)
      · rw [am_up_k _ _ _ _ hkk]
    · rfl
  · rfl
