/-! ===== constructors: the words of the tables ===== -/
theorem lo_X2_3 : am_lk (.methodLink RX2 3 Lib.objectInit) := ⟨List.mem_append_right _ (List.mem_of_getElem? (i := 34) (by decide +kernel)), rfl⟩
theorem lo_i : am_lk (.instanceMethod Lib.objectInit) := ⟨List.mem_append_right _ (List.mem_of_getElem? (i := 18) (by decide +kernel)), rfl⟩
theorem lo_c : am_lk (.code Lib.objectInit ⟨#[0xb1]⟩ 1 none) := ⟨List.mem_append_right _ (List.mem_of_getElem? (i := 19) (by decide +kernel)), rfl⟩
theorem lkc_X2 : am_lk (.code yX2_init cX2_init 1 none) := ⟨List.mem_append_right _ (List.mem_of_getElem? (i := 33) (by decide +kernel)), rfl⟩
theorem lki_X2 : am_lk (.instanceMethod yX2_init) := ⟨List.mem_append_right _ (List.mem_of_getElem? (i := 32) (by decide +kernel)), rfl⟩
theorem lz_X2 : am_lk (.initialized RX2) := ⟨List.mem_append_right _ (List.mem_of_getElem? (i := 3) (by decide +kernel)), rfl⟩
theorem lo_X1_3 : am_lk (.methodLink RX1 3 Lib.objectInit) := ⟨List.mem_append_right _ (List.mem_of_getElem? (i := 105) (by decide +kernel)), rfl⟩
theorem lkc_X1 : am_lk (.code yX1_init cX1_init 1 none) := ⟨List.mem_append_right _ (List.mem_of_getElem? (i := 104) (by decide +kernel)), rfl⟩
theorem lki_X1 : am_lk (.instanceMethod yX1_init) := ⟨List.mem_append_right _ (List.mem_of_getElem? (i := 103) (by decide +kernel)), rfl⟩
theorem lz_X1 : am_lk (.initialized RX1) := ⟨List.mem_append_right _ (List.mem_of_getElem? (i := 4) (by decide +kernel)), rfl⟩
theorem lo_X6_3 : am_lk (.methodLink RX6 3 Lib.objectInit) := ⟨List.mem_append_right _ (List.mem_of_getElem? (i := 218) (by decide +kernel)), rfl⟩
theorem lkc_X6 : am_lk (.code yX6_init cX6_init 1 none) := ⟨List.mem_append_right _ (List.mem_of_getElem? (i := 217) (by decide +kernel)), rfl⟩
theorem lki_X6 : am_lk (.instanceMethod yX6_init) := ⟨List.mem_append_right _ (List.mem_of_getElem? (i := 216) (by decide +kernel)), rfl⟩
theorem lz_X6 : am_lk (.initialized RX6) := ⟨List.mem_append_right _ (List.mem_of_getElem? (i := 7) (by decide +kernel)), rfl⟩
theorem lo_X4_3 : am_lk (.methodLink RX4 3 Lib.objectInit) := ⟨List.mem_append_right _ (List.mem_of_getElem? (i := 167) (by decide +kernel)), rfl⟩
theorem lkc_X4 : am_lk (.code yX4_init cX4_init 1 none) := ⟨List.mem_append_right _ (List.mem_of_getElem? (i := 166) (by decide +kernel)), rfl⟩
theorem lki_X4 : am_lk (.instanceMethod yX4_init) := ⟨List.mem_append_right _ (List.mem_of_getElem? (i := 165) (by decide +kernel)), rfl⟩
theorem lz_X4 : am_lk (.initialized RX4) := ⟨List.mem_append_right _ (List.mem_of_getElem? (i := 5) (by decide +kernel)), rfl⟩
theorem lo_X7_3 : am_lk (.methodLink RX7 3 Lib.objectInit) := ⟨List.mem_append_right _ (List.mem_of_getElem? (i := 186) (by decide +kernel)), rfl⟩
theorem lkc_X7 : am_lk (.code yX7_init cX7_init 1 none) := ⟨List.mem_append_right _ (List.mem_of_getElem? (i := 185) (by decide +kernel)), rfl⟩
theorem lki_X7 : am_lk (.instanceMethod yX7_init) := ⟨List.mem_append_right _ (List.mem_of_getElem? (i := 184) (by decide +kernel)), rfl⟩
theorem lz_X7 : am_lk (.initialized RX7) := ⟨List.mem_append_right _ (List.mem_of_getElem? (i := 6) (by decide +kernel)), rfl⟩
theorem lo_X5_3 : am_lk (.methodLink RX5 3 Lib.objectInit) := ⟨List.mem_append_right _ (List.mem_of_getElem? (i := 228) (by decide +kernel)), rfl⟩
theorem lc_X5_30 : am_lk (.classLink RX5 30 RX6) := ⟨List.mem_append_right _ (List.mem_of_getElem? (i := 229) (by decide +kernel)), rfl⟩
theorem ln_X6 : am_lk (.instantiable RX6 1) := ⟨List.mem_append_right _ (List.mem_of_getElem? (i := 214) (by decide +kernel)), rfl⟩
theorem li_X5_32 : am_lk (.methodLinkNest RX5 32 yX6_init "CourtDraws") := ⟨List.mem_append_right _ (List.mem_of_getElem? (i := 230) (by decide +kernel)), rfl⟩
theorem lkc_X5 : am_lk (.code yX5_init cX5_init 1 none) := ⟨List.mem_append_right _ (List.mem_of_getElem? (i := 227) (by decide +kernel)), rfl⟩
theorem lki_X5 : am_lk (.instanceMethod yX5_init) := ⟨List.mem_append_right _ (List.mem_of_getElem? (i := 226) (by decide +kernel)), rfl⟩
theorem lz_X5 : am_lk (.initialized RX5) := ⟨List.mem_append_right _ (List.mem_of_getElem? (i := 8) (by decide +kernel)), rfl⟩
theorem lo_X3_3 : am_lk (.methodLink RX3 3 Lib.objectInit) := ⟨List.mem_append_right _ (List.mem_of_getElem? (i := 260) (by decide +kernel)), rfl⟩
theorem lc_X3_21 : am_lk (.classLink RX3 21 RX6) := ⟨List.mem_append_right _ (List.mem_of_getElem? (i := 261) (by decide +kernel)), rfl⟩
theorem li_X3_23 : am_lk (.methodLinkNest RX3 23 yX6_init "CourtDraws") := ⟨List.mem_append_right _ (List.mem_of_getElem? (i := 262) (by decide +kernel)), rfl⟩
theorem lkc_X3 : am_lk (.code yX3_init cX3_init 1 none) := ⟨List.mem_append_right _ (List.mem_of_getElem? (i := 259) (by decide +kernel)), rfl⟩
theorem lki_X3 : am_lk (.instanceMethod yX3_init) := ⟨List.mem_append_right _ (List.mem_of_getElem? (i := 258) (by decide +kernel)), rfl⟩
theorem lz_X3 : am_lk (.initialized RX3) := ⟨List.mem_append_right _ (List.mem_of_getElem? (i := 9) (by decide +kernel)), rfl⟩
theorem lo_X0_3 : am_lk (.methodLink RX0 3 Lib.objectInit) := ⟨List.mem_append_right _ (List.mem_of_getElem? (i := 25) (by decide +kernel)), rfl⟩
theorem lc_X0_15 : am_lk (.classLink RX0 15 RX2) := ⟨List.mem_append_right _ (List.mem_of_getElem? (i := 26) (by decide +kernel)), rfl⟩
theorem lc_X0_21 : am_lk (.classLink RX0 21 RX1) := ⟨List.mem_append_right _ (List.mem_of_getElem? (i := 28) (by decide +kernel)), rfl⟩
theorem ln_X2 : am_lk (.instantiable RX2 13) := ⟨List.mem_append_right _ (List.mem_of_getElem? (i := 30) (by decide +kernel)), rfl⟩
theorem li_X0_33 : am_lk (.methodLinkNest RX0 33 yX2_init "CourtDraws") := ⟨List.mem_append_right _ (List.mem_of_getElem? (i := 31) (by decide +kernel)), rfl⟩
theorem ln_X1 : am_lk (.instantiable RX1 6) := ⟨List.mem_append_right _ (List.mem_of_getElem? (i := 101) (by decide +kernel)), rfl⟩
theorem li_X0_34 : am_lk (.methodLinkNest RX0 34 yX1_init "CourtDraws") := ⟨List.mem_append_right _ (List.mem_of_getElem? (i := 102) (by decide +kernel)), rfl⟩
theorem lkc_X0 : am_lk (.code yX0_init cX0_init 2 none) := ⟨List.mem_append_right _ (List.mem_of_getElem? (i := 24) (by decide +kernel)), rfl⟩
theorem lki_X0 : am_lk (.instanceMethod yX0_init) := ⟨List.mem_append_right _ (List.mem_of_getElem? (i := 23) (by decide +kernel)), rfl⟩
theorem lz_X0 : am_lk (.initialized RX0) := ⟨List.mem_append_right _ (List.mem_of_getElem? (i := 2) (by decide +kernel)), rfl⟩
theorem lo_X8_1 : am_lk (.methodLink RX8 1 Lib.objectInit) := ⟨List.mem_append_right _ (List.mem_of_getElem? (i := 17) (by decide +kernel)), rfl⟩
theorem lc_X8_7 : am_lk (.classLink RX8 7 RX0) := ⟨List.mem_append_right _ (List.mem_of_getElem? (i := 20) (by decide +kernel)), rfl⟩
theorem ln_X0 : am_lk (.instantiable RX0 6) := ⟨List.mem_append_right _ (List.mem_of_getElem? (i := 21) (by decide +kernel)), rfl⟩
theorem li_X8_9 : am_lk (.methodLink RX8 9 yX0_init) := ⟨List.mem_append_right _ (List.mem_of_getElem? (i := 22) (by decide +kernel)), rfl⟩
theorem lc_X8_16 : am_lk (.classLink RX8 16 RX4) := ⟨List.mem_append_right _ (List.mem_of_getElem? (i := 162) (by decide +kernel)), rfl⟩
theorem ln_X4 : am_lk (.instantiable RX4 4) := ⟨List.mem_append_right _ (List.mem_of_getElem? (i := 163) (by decide +kernel)), rfl⟩
theorem li_X8_18 : am_lk (.methodLinkNest RX8 18 yX4_init "CourtDraws") := ⟨List.mem_append_right _ (List.mem_of_getElem? (i := 164) (by decide +kernel)), rfl⟩
theorem lc_X8_23 : am_lk (.classLink RX8 23 RX7) := ⟨List.mem_append_right _ (List.mem_of_getElem? (i := 181) (by decide +kernel)), rfl⟩
theorem ln_X7 : am_lk (.instantiable RX7 7) := ⟨List.mem_append_right _ (List.mem_of_getElem? (i := 182) (by decide +kernel)), rfl⟩
theorem li_X8_25 : am_lk (.methodLinkNest RX8 25 yX7_init "CourtDraws") := ⟨List.mem_append_right _ (List.mem_of_getElem? (i := 183) (by decide +kernel)), rfl⟩
theorem lc_X8_30 : am_lk (.classLink RX8 30 RX6) := ⟨List.mem_append_right _ (List.mem_of_getElem? (i := 213) (by decide +kernel)), rfl⟩
theorem li_X8_32 : am_lk (.methodLinkNest RX8 32 yX6_init "CourtDraws") := ⟨List.mem_append_right _ (List.mem_of_getElem? (i := 215) (by decide +kernel)), rfl⟩
theorem lc_X8_37 : am_lk (.classLink RX8 37 RX5) := ⟨List.mem_append_right _ (List.mem_of_getElem? (i := 223) (by decide +kernel)), rfl⟩
theorem ln_X5 : am_lk (.instantiable RX5 7) := ⟨List.mem_append_right _ (List.mem_of_getElem? (i := 224) (by decide +kernel)), rfl⟩
theorem li_X8_39 : am_lk (.methodLinkNest RX8 39 yX5_init "CourtDraws") := ⟨List.mem_append_right _ (List.mem_of_getElem? (i := 225) (by decide +kernel)), rfl⟩
theorem lc_X8_44 : am_lk (.classLink RX8 44 RX3) := ⟨List.mem_append_right _ (List.mem_of_getElem? (i := 255) (by decide +kernel)), rfl⟩
theorem ln_X3 : am_lk (.instantiable RX3 4) := ⟨List.mem_append_right _ (List.mem_of_getElem? (i := 256) (by decide +kernel)), rfl⟩
theorem li_X8_46 : am_lk (.methodLinkNest RX8 46 yX3_init "CourtDraws") := ⟨List.mem_append_right _ (List.mem_of_getElem? (i := 257) (by decide +kernel)), rfl⟩
theorem lkc_X8 : am_lk (.code yX8_init cX8_init 1 none) := ⟨List.mem_append_right _ (List.mem_of_getElem? (i := 16) (by decide +kernel)), rfl⟩
theorem lki_X8 : am_lk (.instanceMethod yX8_init) := ⟨List.mem_append_right _ (List.mem_of_getElem? (i := 15) (by decide +kernel)), rfl⟩
theorem lz_X8 : am_lk (.initialized RX8) := ⟨List.mem_append_right _ (List.mem_of_getElem? (i := 1) (by decide +kernel)), rfl⟩
theorem lo_X9_1 : am_lk (.methodLink RX9 1 Lib.objectInit) := ⟨List.mem_append_right _ (List.mem_of_getElem? (i := 761) (by decide +kernel)), rfl⟩
theorem lkc_X9 : am_lk (.code yX9_init cX9_init 2 none) := ⟨List.mem_append_right _ (List.mem_of_getElem? (i := 760) (by decide +kernel)), rfl⟩
theorem lki_X9 : am_lk (.instanceMethod yX9_init) := ⟨List.mem_append_right _ (List.mem_of_getElem? (i := 759) (by decide +kernel)), rfl⟩
theorem lz_X9 : am_lk (.initialized RX9) := ⟨List.mem_append_right _ (List.mem_of_getElem? (i := 10) (by decide +kernel)), rfl⟩
def rl4 : Nat → Int32 := fun j => if j < 4 then Int32.ofInt (if j = 0 then 60 else if j = 1 then 90 else if j = 2 then 150 else 1300) else 0
def op6 : Nat → Int32 := fun j => if j < 6 then Int32.ofInt 600 else 0
theorem rl4_eq : va_up (va_up (va_up (va_up (zr 4) (Int32.ofInt 0).toNatClampNeg (Int32.ofInt 60)) (Int32.ofInt 1).toNatClampNeg (Int32.ofInt 90)) (Int32.ofInt 2).toNatClampNeg (Int32.ofInt 150)) (Int32.ofInt 3).toNatClampNeg (Int32.ofInt 1300) = rl4 := by
  funext j
  match j with
  | 0 => rfl
  | 1 => rfl
  | 2 => rfl
  | 3 => rfl
  | j + 4 =>
    rw [zr_0]
    simp only [va_up, rl4, show (Int32.ofInt 0).toNatClampNeg = 0 by decide, show (Int32.ofInt 1).toNatClampNeg = 1 by decide, show (Int32.ofInt 2).toNatClampNeg = 2 by decide, show (Int32.ofInt 3).toNatClampNeg = 3 by decide]
    rw [if_neg (by omega), if_neg (by omega), if_neg (by omega), if_neg (by omega), if_neg (by omega)]
theorem op6_eq : va_up (va_up (va_up (va_up (va_up (va_up (zr 6) (Int32.ofInt 0).toNatClampNeg (Int32.ofInt 600)) (Int32.ofInt 1).toNatClampNeg (Int32.ofInt 600)) (Int32.ofInt 2).toNatClampNeg (Int32.ofInt 600)) (Int32.ofInt 3).toNatClampNeg (Int32.ofInt 600)) (Int32.ofInt 4).toNatClampNeg (Int32.ofInt 600)) (Int32.ofInt 5).toNatClampNeg (Int32.ofInt 600) = op6 := by
  funext j
  match j with
  | 0 => rfl
  | 1 => rfl
  | 2 => rfl
  | 3 => rfl
  | 4 => rfl
  | 5 => rfl
  | j + 6 =>
    rw [zr_0]
    simp only [va_up, op6, show (Int32.ofInt 0).toNatClampNeg = 0 by decide, show (Int32.ofInt 1).toNatClampNeg = 1 by decide, show (Int32.ofInt 2).toNatClampNeg = 2 by decide, show (Int32.ofInt 3).toNatClampNeg = 3 by decide, show (Int32.ofInt 4).toNatClampNeg = 4 by decide, show (Int32.ofInt 5).toNatClampNeg = 5 by decide]
    rw [if_neg (by omega), if_neg (by omega), if_neg (by omega), if_neg (by omega), if_neg (by omega), if_neg (by omega), if_neg (by omega)]
theorem dr4_eq (x0 x1 x2 x3 : Nat) : va_up (va_up (va_up (va_up (fun _ => none) (Int32.ofInt 0).toNatClampNeg (some x0)) (Int32.ofInt 1).toNatClampNeg (some x1)) (Int32.ofInt 2).toNatClampNeg (some x2)) (Int32.ofInt 3).toNatClampNeg (some x3) = fun j => [x0, x1, x2, x3][j]? := by
  funext j
  match j with
  | 0 => rfl
  | 1 => rfl
  | 2 => rfl
  | 3 => rfl
  | j + 4 =>
    simp only [va_up, show (Int32.ofInt 0).toNatClampNeg = 0 by decide, show (Int32.ofInt 1).toNatClampNeg = 1 by decide, show (Int32.ofInt 2).toNatClampNeg = 2 by decide, show (Int32.ofInt 3).toNatClampNeg = 3 by decide]
    rw [if_neg (by omega), if_neg (by omega), if_neg (by omega), if_neg (by omega)]
    rfl
theorem ct6_eq (x0 x1 x2 x3 x4 x5 : Nat) : va_up (va_up (va_up (va_up (va_up (va_up (fun _ => none) (Int32.ofInt 0).toNatClampNeg (some x0)) (Int32.ofInt 1).toNatClampNeg (some x1)) (Int32.ofInt 2).toNatClampNeg (some x2)) (Int32.ofInt 3).toNatClampNeg (some x3)) (Int32.ofInt 4).toNatClampNeg (some x4)) (Int32.ofInt 5).toNatClampNeg (some x5) = fun j => [x0, x1, x2, x3, x4, x5][j]? := by
  funext j
  match j with
  | 0 => rfl
  | 1 => rfl
  | 2 => rfl
  | 3 => rfl
  | 4 => rfl
  | 5 => rfl
  | j + 6 =>
    simp only [va_up, show (Int32.ofInt 0).toNatClampNeg = 0 by decide, show (Int32.ofInt 1).toNatClampNeg = 1 by decide, show (Int32.ofInt 2).toNatClampNeg = 2 by decide, show (Int32.ofInt 3).toNatClampNeg = 3 by decide, show (Int32.ofInt 4).toNatClampNeg = 4 by decide, show (Int32.ofInt 5).toNatClampNeg = 5 by decide]
    rw [if_neg (by omega), if_neg (by omega), if_neg (by omega), if_neg (by omega), if_neg (by omega), if_neg (by omega)]
    rfl
