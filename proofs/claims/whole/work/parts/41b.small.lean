/-! ===== constructors: the small ones ===== -/
def f0X2 : List Value := [.null, .null, .null, .null, .null, .null, .null, .null, .int (Int32.ofInt 0), .int (Int32.ofInt 0), .int (Int32.ofInt 0), .int (Int32.ofInt 0), .int (Int32.ofInt 0)]
theorem f0X2_ok : ∀ j, j < 13 → defaultValue (tyX2 j) = vp_V f0X2 j := by
  intro j hj
  match j, hj with
  | 0, _ => rfl
  | 1, _ => rfl
  | 2, _ => rfl
  | 3, _ => rfl
  | 4, _ => rfl
  | 5, _ => rfl
  | 6, _ => rfl
  | 7, _ => rfl
  | 8, _ => rfl
  | 9, _ => rfl
  | 10, _ => rfl
  | 11, _ => rfl
  | 12, _ => rfl
theorem mi_kX2 : kc_mi yX2_init cX2_init 1 := ⟨lkc_X2, lki_X2, lz_X2, ⟨by decide +kernel, by decide +kernel⟩, by decide +kernel, rfl⟩
def wX2 (a : Nat → ClassId) (u : Nat → Nat) : va_W := [(u 0, .inr (2, [.ref (u 1), .ref (u 2), .ref (u 3), .ref (u 4), .ref (u 5), .ref (u 6), .ref (u 7), .ref (u 8), .int (Int32.ofInt 0), .int (Int32.ofInt 0), .int (Int32.ofInt 0), .int (Int32.ofInt 0), .int (Int32.ofInt 0)])), (u 1, .inl (a 0, 16, .inl (zr 16))), (u 2, .inl (a 0, 16, .inl (zr 16))), (u 3, .inl (a 1, 40, .inl (zr 40))), (u 4, .inl (a 0, 16, .inl (zr 16))), (u 5, .inl (a 0, 16, .inl (zr 16))), (u 6, .inl (a 0, 16, .inl (zr 16))), (u 7, .inl (a 0, 16, .inl (zr 16))), (u 8, .inl (a 0, 160, .inl (zr 160)))]
set_option maxHeartbeats 4000000 in
set_option maxRecDepth 100000 in
theorem kX2 (D : va_G) (a : Nat → ClassId) : kc_M D a yX2_init cX2_init 1 1 8 296 2 f0X2 0 (wX2 a) := by
  refine kc_ofJ (by decide +kernel) rfl (Nat.le_of_ble_eq_true rfl) (fun l h0 A G g kret => ?_)
  refine kc_al g 0 dX2_init_0 rfl ?_
  refine kc_oi g dX2_init_1 lo_X2_3 lo_i lo_c (Nat.le_of_ble_eq_true rfl) (Nat.le_of_ble_eq_true rfl) ?_
  refine kc_al g 0 dX2_init_4 rfl ?_
  refine kc_bi (v := Int32.ofInt 16) g dX2_init_5 (by decide) ?_
  refine kc_na g 0 16 dX2_init_7 rfl (fun _ _ h => h) rfl rfl (by decide) (by decide) (Nat.le_of_ble_eq_true rfl) (Nat.le_of_ble_eq_true rfl) (Nat.le_of_ble_eq_true rfl) (fun q1 => ?_)
  refine kc_pf g 0 clX2 dX2_init_9 (Nat.le_of_ble_eq_true rfl) lf_X2_9 rfl rfl rfl rfl (Nat.le_of_ble_eq_true rfl) ?_
  refine kc_al g 0 dX2_init_12 rfl ?_
  refine kc_bi (v := Int32.ofInt 16) g dX2_init_13 (by decide) ?_
  refine kc_na g 0 16 dX2_init_15 rfl (fun _ _ h => h) rfl rfl (by decide) (by decide) (Nat.le_of_ble_eq_true rfl) (Nat.le_of_ble_eq_true rfl) (Nat.le_of_ble_eq_true rfl) (fun q2 => ?_)
  refine kc_pf g 1 clX2 dX2_init_17 (Nat.le_of_ble_eq_true rfl) lf_X2_15 rfl rfl rfl rfl (Nat.le_of_ble_eq_true rfl) ?_
  refine kc_al g 0 dX2_init_20 rfl ?_
  refine kc_bi (v := Int32.ofInt 40) g dX2_init_21 (by decide) ?_
  refine kc_na g 1 40 dX2_init_23 rfl (fun _ _ h => h) rfl rfl (by decide) (by decide) (Nat.le_of_ble_eq_true rfl) (Nat.le_of_ble_eq_true rfl) (Nat.le_of_ble_eq_true rfl) (fun q3 => ?_)
  refine kc_pf g 2 clX2 dX2_init_25 (Nat.le_of_ble_eq_true rfl) lf_X2_18 rfl rfl rfl rfl (Nat.le_of_ble_eq_true rfl) ?_
  refine kc_al g 0 dX2_init_28 rfl ?_
  refine kc_bi (v := Int32.ofInt 16) g dX2_init_29 (by decide) ?_
  refine kc_na g 0 16 dX2_init_31 rfl (fun _ _ h => h) rfl rfl (by decide) (by decide) (Nat.le_of_ble_eq_true rfl) (Nat.le_of_ble_eq_true rfl) (Nat.le_of_ble_eq_true rfl) (fun q4 => ?_)
  refine kc_pf g 3 clX2 dX2_init_33 (Nat.le_of_ble_eq_true rfl) lf_X2_22 rfl rfl rfl rfl (Nat.le_of_ble_eq_true rfl) ?_
  refine kc_al g 0 dX2_init_36 rfl ?_
  refine kc_bi (v := Int32.ofInt 16) g dX2_init_37 (by decide) ?_
  refine kc_na g 0 16 dX2_init_39 rfl (fun _ _ h => h) rfl rfl (by decide) (by decide) (Nat.le_of_ble_eq_true rfl) (Nat.le_of_ble_eq_true rfl) (Nat.le_of_ble_eq_true rfl) (fun q5 => ?_)
  refine kc_pf g 4 clX2 dX2_init_41 (Nat.le_of_ble_eq_true rfl) lf_X2_25 rfl rfl rfl rfl (Nat.le_of_ble_eq_true rfl) ?_
  refine kc_al g 0 dX2_init_44 rfl ?_
  refine kc_bi (v := Int32.ofInt 16) g dX2_init_45 (by decide) ?_
  refine kc_na g 0 16 dX2_init_47 rfl (fun _ _ h => h) rfl rfl (by decide) (by decide) (Nat.le_of_ble_eq_true rfl) (Nat.le_of_ble_eq_true rfl) (Nat.le_of_ble_eq_true rfl) (fun q6 => ?_)
  refine kc_pf g 5 clX2 dX2_init_49 (Nat.le_of_ble_eq_true rfl) lf_X2_28 rfl rfl rfl rfl (Nat.le_of_ble_eq_true rfl) ?_
  refine kc_al g 0 dX2_init_52 rfl ?_
  refine kc_bi (v := Int32.ofInt 16) g dX2_init_53 (by decide) ?_
  refine kc_na g 0 16 dX2_init_55 rfl (fun _ _ h => h) rfl rfl (by decide) (by decide) (Nat.le_of_ble_eq_true rfl) (Nat.le_of_ble_eq_true rfl) (Nat.le_of_ble_eq_true rfl) (fun q7 => ?_)
  refine kc_pf g 6 clX2 dX2_init_57 (Nat.le_of_ble_eq_true rfl) lf_X2_31 rfl rfl rfl rfl (Nat.le_of_ble_eq_true rfl) ?_
  refine kc_al g 0 dX2_init_60 rfl ?_
  refine kc_si (v := Int32.ofInt 160) g dX2_init_61 (by decide) ?_
  refine kc_na g 0 160 dX2_init_64 rfl (fun _ _ h => h) rfl rfl (by decide) (by decide) (Nat.le_of_ble_eq_true rfl) (Nat.le_of_ble_eq_true rfl) (Nat.le_of_ble_eq_true rfl) (fun q8 => ?_)
  refine kc_pf g 7 clX2 dX2_init_66 (Nat.le_of_ble_eq_true rfl) lf_X2_34 rfl rfl rfl rfl (Nat.le_of_ble_eq_true rfl) ?_
  exact fun H locs ls hl hP hD hS => kret (fun i => [h0, q1, q2, q3, q4, q5, q6, q7, q8].getD i 0) rfl 69 H locs ls dX2_init_69 hP hD hS
def f0X1 : List Value := [.null, .int (Int32.ofInt 0), .int (Int32.ofInt 0), .int (Int32.ofInt 0), .int (Int32.ofInt 0), .int (Int32.ofInt 0)]
theorem f0X1_ok : ∀ j, j < 6 → defaultValue (tyX1 j) = vp_V f0X1 j := by
  intro j hj
  match j, hj with
  | 0, _ => rfl
  | 1, _ => rfl
  | 2, _ => rfl
  | 3, _ => rfl
  | 4, _ => rfl
  | 5, _ => rfl
theorem mi_kX1 : kc_mi yX1_init cX1_init 1 := ⟨lkc_X1, lki_X1, lz_X1, ⟨by decide +kernel, by decide +kernel⟩, by decide +kernel, rfl⟩
def wX1 (a : Nat → ClassId) (u : Nat → Nat) : va_W := [(u 0, .inr (1, [.ref (u 1), .int (Int32.ofInt 0), .int (Int32.ofInt 0), .int (Int32.ofInt 0), .int (Int32.ofInt 0), .int (Int32.ofInt 600)])), (u 1, .inl (a 0, 6, .inl (zr 6)))]
set_option maxHeartbeats 4000000 in
set_option maxRecDepth 100000 in
theorem kX1 (D : va_G) (a : Nat → ClassId) : kc_M D a yX1_init cX1_init 1 1 1 6 1 f0X1 0 (wX1 a) := by
  refine kc_ofJ (by decide +kernel) rfl (Nat.le_of_ble_eq_true rfl) (fun l h0 A G g kret => ?_)
  refine kc_al g 0 dX1_init_0 rfl ?_
  refine kc_oi g dX1_init_1 lo_X1_3 lo_i lo_c (Nat.le_of_ble_eq_true rfl) (Nat.le_of_ble_eq_true rfl) ?_
  refine kc_al g 0 dX1_init_4 rfl ?_
  refine kc_bi (v := Int32.ofInt 6) g dX1_init_5 (by decide) ?_
  refine kc_na g 0 6 dX1_init_7 rfl (fun _ _ h => h) rfl rfl (by decide) (by decide) (Nat.le_of_ble_eq_true rfl) (Nat.le_of_ble_eq_true rfl) (Nat.le_of_ble_eq_true rfl) (fun q1 => ?_)
  refine kc_pf g 0 clX1 dX1_init_9 (Nat.le_of_ble_eq_true rfl) lf_X1_9 rfl rfl rfl rfl (Nat.le_of_ble_eq_true rfl) ?_
  refine kc_al g 0 dX1_init_12 rfl ?_
  refine kc_si (v := Int32.ofInt 600) g dX1_init_13 (by decide) ?_
  refine kc_pi g 5 clX1 dX1_init_16 (Nat.le_of_ble_eq_true rfl) lf_X1_15 rfl rfl rfl (Nat.le_of_ble_eq_true rfl) ?_
  exact fun H locs ls hl hP hD hS => kret (fun i => [h0, q1].getD i 0) rfl 19 H locs ls dX1_init_19 hP hD hS
def f0X6 : List Value := [.null]
theorem f0X6_ok : ∀ j, j < 1 → defaultValue (tyX6 j) = vp_V f0X6 j := by
  intro j hj
  match j, hj with
  | 0, _ => rfl
theorem mi_kX6 : kc_mi yX6_init cX6_init 1 := ⟨lkc_X6, lki_X6, lz_X6, ⟨by decide +kernel, by decide +kernel⟩, by decide +kernel, rfl⟩
def wX6 (a : Nat → ClassId) (u : Nat → Nat) : va_W := [(u 0, .inr (6, [.ref (u 1)])), (u 1, .inl (a 0, 40, .inl (zr 40)))]
set_option maxHeartbeats 4000000 in
set_option maxRecDepth 100000 in
theorem kX6 (D : va_G) (a : Nat → ClassId) : kc_M D a yX6_init cX6_init 1 1 1 40 6 f0X6 0 (wX6 a) := by
  refine kc_ofJ (by decide +kernel) rfl (Nat.le_of_ble_eq_true rfl) (fun l h0 A G g kret => ?_)
  refine kc_al g 0 dX6_init_0 rfl ?_
  refine kc_oi g dX6_init_1 lo_X6_3 lo_i lo_c (Nat.le_of_ble_eq_true rfl) (Nat.le_of_ble_eq_true rfl) ?_
  refine kc_al g 0 dX6_init_4 rfl ?_
  refine kc_bi (v := Int32.ofInt 40) g dX6_init_5 (by decide) ?_
  refine kc_na g 0 40 dX6_init_7 rfl (fun _ _ h => h) rfl rfl (by decide) (by decide) (Nat.le_of_ble_eq_true rfl) (Nat.le_of_ble_eq_true rfl) (Nat.le_of_ble_eq_true rfl) (fun q1 => ?_)
  refine kc_pf g 0 clX6 dX6_init_9 (Nat.le_of_ble_eq_true rfl) lf_X6_9 rfl rfl rfl rfl (Nat.le_of_ble_eq_true rfl) ?_
  exact fun H locs ls hl hP hD hS => kret (fun i => [h0, q1].getD i 0) rfl 12 H locs ls dX6_init_12 hP hD hS
def f0X4 : List Value := [.null, .null, .null, .int (Int32.ofInt 0)]
theorem f0X4_ok : ∀ j, j < 4 → defaultValue (tyX4 j) = vp_V f0X4 j := by
  intro j hj
  match j, hj with
  | 0, _ => rfl
  | 1, _ => rfl
  | 2, _ => rfl
  | 3, _ => rfl
theorem mi_kX4 : kc_mi yX4_init cX4_init 1 := ⟨lkc_X4, lki_X4, lz_X4, ⟨by decide +kernel, by decide +kernel⟩, by decide +kernel, rfl⟩
def wX4 (a : Nat → ClassId) (u : Nat → Nat) : va_W := [(u 7, .inr (4, [.ref (u 8), .ref (u 9), .ref (u 58), .int (Int32.ofInt 0)])), (u 8, .inl (a 0, 16, .inl (zr 16))), (u 9, .inl (a 0, 4, .inl (zr 4))), (u 58, .inl (a 1, 16, .inl (zr 16)))]
set_option maxHeartbeats 4000000 in
set_option maxRecDepth 100000 in
theorem kX4 (D : va_G) (a : Nat → ClassId) : kc_M D a yX4_init cX4_init 1 1 3 36 4 f0X4 7 (wX4 a) := by
  refine kc_ofJ (by decide +kernel) rfl (Nat.le_of_ble_eq_true rfl) (fun l h0 A G g kret => ?_)
  refine kc_al g 0 dX4_init_0 rfl ?_
  refine kc_oi g dX4_init_1 lo_X4_3 lo_i lo_c (Nat.le_of_ble_eq_true rfl) (Nat.le_of_ble_eq_true rfl) ?_
  refine kc_al g 0 dX4_init_4 rfl ?_
  refine kc_bi (v := Int32.ofInt 16) g dX4_init_5 (by decide) ?_
  refine kc_na g 0 16 dX4_init_7 rfl (fun _ _ h => h) rfl rfl (by decide) (by decide) (Nat.le_of_ble_eq_true rfl) (Nat.le_of_ble_eq_true rfl) (Nat.le_of_ble_eq_true rfl) (fun q1 => ?_)
  refine kc_pf g 0 clX4 dX4_init_9 (Nat.le_of_ble_eq_true rfl) lf_X4_9 rfl rfl rfl rfl (Nat.le_of_ble_eq_true rfl) ?_
  refine kc_al g 0 dX4_init_12 rfl ?_
  refine kc_ic (v := Int32.ofInt 4) g dX4_init_13 (by decide) ?_
  refine kc_na g 0 4 dX4_init_14 rfl (fun _ _ h => h) rfl rfl (by decide) (by decide) (Nat.le_of_ble_eq_true rfl) (Nat.le_of_ble_eq_true rfl) (Nat.le_of_ble_eq_true rfl) (fun q2 => ?_)
  refine kc_pf g 1 clX4 dX4_init_16 (Nat.le_of_ble_eq_true rfl) lf_X4_15 rfl rfl rfl rfl (Nat.le_of_ble_eq_true rfl) ?_
  refine kc_al g 0 dX4_init_19 rfl ?_
  refine kc_bi (v := Int32.ofInt 16) g dX4_init_20 (by decide) ?_
  refine kc_na g 1 16 dX4_init_22 rfl (fun _ _ h => h) rfl rfl (by decide) (by decide) (Nat.le_of_ble_eq_true rfl) (Nat.le_of_ble_eq_true rfl) (Nat.le_of_ble_eq_true rfl) (fun q3 => ?_)
  refine kc_pf g 2 clX4 dX4_init_24 (Nat.le_of_ble_eq_true rfl) lf_X4_18 rfl rfl rfl rfl (Nat.le_of_ble_eq_true rfl) ?_
  exact fun H locs ls hl hP hD hS => kret (fun i => [0, 0, 0, 0, 0, 0, 0, h0, q1, q2, 0, 0, 0, 0, 0, 0, 0, 0, 0, 0, 0, 0, 0, 0, 0, 0, 0, 0, 0, 0, 0, 0, 0, 0, 0, 0, 0, 0, 0, 0, 0, 0, 0, 0, 0, 0, 0, 0, 0, 0, 0, 0, 0, 0, 0, 0, 0, 0, q3].getD i 0) rfl 27 H locs ls dX4_init_27 hP hD hS
def f0X7 : List Value := [.null, .null, .null, .null, .int (Int32.ofInt 0), .int (Int32.ofInt 0), .int (Int32.ofInt 0)]
theorem f0X7_ok : ∀ j, j < 7 → defaultValue (tyX7 j) = vp_V f0X7 j := by
  intro j hj
  match j, hj with
  | 0, _ => rfl
  | 1, _ => rfl
  | 2, _ => rfl
  | 3, _ => rfl
  | 4, _ => rfl
  | 5, _ => rfl
  | 6, _ => rfl
theorem mi_kX7 : kc_mi yX7_init cX7_init 1 := ⟨lkc_X7, lki_X7, lz_X7, ⟨by decide +kernel, by decide +kernel⟩, by decide +kernel, rfl⟩
def wX7 (a : Nat → ClassId) (u : Nat → Nat) : va_W := [(u 59, .inr (7, [.ref (u 60), .ref (u 61), .ref (u 62), .ref (u 63), .int (Int32.ofInt 0), .int (Int32.ofInt 0), .int (Int32.ofInt 0)])), (u 60, .inl (a 0, 2, .inl (zr 2))), (u 61, .inl (a 0, 2, .inl (zr 2))), (u 62, .inl (a 0, 2, .inl (zr 2))), (u 63, .inl (a 0, 10, .inl (zr 10)))]
set_option maxHeartbeats 4000000 in
set_option maxRecDepth 100000 in
theorem kX7 (D : va_G) (a : Nat → ClassId) : kc_M D a yX7_init cX7_init 1 1 4 16 7 f0X7 59 (wX7 a) := by
  refine kc_ofJ (by decide +kernel) rfl (Nat.le_of_ble_eq_true rfl) (fun l h0 A G g kret => ?_)
  refine kc_al g 0 dX7_init_0 rfl ?_
  refine kc_oi g dX7_init_1 lo_X7_3 lo_i lo_c (Nat.le_of_ble_eq_true rfl) (Nat.le_of_ble_eq_true rfl) ?_
  refine kc_al g 0 dX7_init_4 rfl ?_
  refine kc_ic (v := Int32.ofInt 2) g dX7_init_5 (by decide) ?_
  refine kc_na g 0 2 dX7_init_6 rfl (fun _ _ h => h) rfl rfl (by decide) (by decide) (Nat.le_of_ble_eq_true rfl) (Nat.le_of_ble_eq_true rfl) (Nat.le_of_ble_eq_true rfl) (fun q1 => ?_)
  refine kc_pf g 0 clX7 dX7_init_8 (Nat.le_of_ble_eq_true rfl) lf_X7_9 rfl rfl rfl rfl (Nat.le_of_ble_eq_true rfl) ?_
  refine kc_al g 0 dX7_init_11 rfl ?_
  refine kc_ic (v := Int32.ofInt 2) g dX7_init_12 (by decide) ?_
  refine kc_na g 0 2 dX7_init_13 rfl (fun _ _ h => h) rfl rfl (by decide) (by decide) (Nat.le_of_ble_eq_true rfl) (Nat.le_of_ble_eq_true rfl) (Nat.le_of_ble_eq_true rfl) (fun q2 => ?_)
  refine kc_pf g 1 clX7 dX7_init_15 (Nat.le_of_ble_eq_true rfl) lf_X7_15 rfl rfl rfl rfl (Nat.le_of_ble_eq_true rfl) ?_
  refine kc_al g 0 dX7_init_18 rfl ?_
  refine kc_ic (v := Int32.ofInt 2) g dX7_init_19 (by decide) ?_
  refine kc_na g 0 2 dX7_init_20 rfl (fun _ _ h => h) rfl rfl (by decide) (by decide) (Nat.le_of_ble_eq_true rfl) (Nat.le_of_ble_eq_true rfl) (Nat.le_of_ble_eq_true rfl) (fun q3 => ?_)
  refine kc_pf g 2 clX7 dX7_init_22 (Nat.le_of_ble_eq_true rfl) lf_X7_18 rfl rfl rfl rfl (Nat.le_of_ble_eq_true rfl) ?_
  refine kc_al g 0 dX7_init_25 rfl ?_
  refine kc_bi (v := Int32.ofInt 10) g dX7_init_26 (by decide) ?_
  refine kc_na g 0 10 dX7_init_28 rfl (fun _ _ h => h) rfl rfl (by decide) (by decide) (Nat.le_of_ble_eq_true rfl) (Nat.le_of_ble_eq_true rfl) (Nat.le_of_ble_eq_true rfl) (fun q4 => ?_)
  refine kc_pf g 3 clX7 dX7_init_30 (Nat.le_of_ble_eq_true rfl) lf_X7_21 rfl rfl rfl rfl (Nat.le_of_ble_eq_true rfl) ?_
  exact fun H locs ls hl hP hD hS => kret (fun i => [0, 0, 0, 0, 0, 0, 0, 0, 0, 0, 0, 0, 0, 0, 0, 0, 0, 0, 0, 0, 0, 0, 0, 0, 0, 0, 0, 0, 0, 0, 0, 0, 0, 0, 0, 0, 0, 0, 0, 0, 0, 0, 0, 0, 0, 0, 0, 0, 0, 0, 0, 0, 0, 0, 0, 0, 0, 0, 0, h0, q1, q2, q3, q4].getD i 0) rfl 33 H locs ls dX7_init_33 hP hD hS
def f0X5 : List Value := [.null, .null, .null, .null, .null, .null, .null]
theorem f0X5_ok : ∀ j, j < 7 → defaultValue (tyX5 j) = vp_V f0X5 j := by
  intro j hj
  match j, hj with
  | 0, _ => rfl
  | 1, _ => rfl
  | 2, _ => rfl
  | 3, _ => rfl
  | 4, _ => rfl
  | 5, _ => rfl
  | 6, _ => rfl
theorem mi_kX5 : kc_mi yX5_init cX5_init 1 := ⟨lkc_X5, lki_X5, lz_X5, ⟨by decide +kernel, by decide +kernel⟩, by decide +kernel, rfl⟩
def wX5 (a : Nat → ClassId) (u : Nat → Nat) : va_W := ([(u 70, .inr (5, [.ref (u 71), .ref (u 72), .ref (u 73), .ref (u 74), .ref (u 75), .ref (u 76), .ref (u 65)])), (u 71, .inl (a 0, 36, .inl (zr 36))), (u 72, .inl (a 0, 36, .inl (zr 36))), (u 73, .inl (a 0, 36, .inl (zr 36))), (u 74, .inl (a 0, 36, .inl (zr 36))), (u 75, .inl (a 0, 36, .inl (zr 36))), (u 76, .inl (a 0, 6, .inl (zr 6)))]) ++ wX6 a (fun i => [u 65, u 68].getD i 0)
set_option maxHeartbeats 4000000 in
set_option maxRecDepth 100000 in
theorem kX5 (D : va_G) (a : Nat → ClassId) : kc_M D a yX5_init cX5_init 1 2 8 227 5 f0X5 70 (wX5 a) := by
  refine kc_ofJ (by decide +kernel) rfl (Nat.le_of_ble_eq_true rfl) (fun l h0 A G g kret => ?_)
  refine kc_al g 0 dX5_init_0 rfl ?_
  refine kc_oi g dX5_init_1 lo_X5_3 lo_i lo_c (Nat.le_of_ble_eq_true rfl) (Nat.le_of_ble_eq_true rfl) ?_
  refine kc_al g 0 dX5_init_4 rfl ?_
  refine kc_bi (v := Int32.ofInt 36) g dX5_init_5 (by decide) ?_
  refine kc_na g 0 36 dX5_init_7 rfl (fun _ _ h => h) rfl rfl (by decide) (by decide) (Nat.le_of_ble_eq_true rfl) (Nat.le_of_ble_eq_true rfl) (Nat.le_of_ble_eq_true rfl) (fun q1 => ?_)
  refine kc_pf g 0 clX5 dX5_init_9 (Nat.le_of_ble_eq_true rfl) lf_X5_9 rfl rfl rfl rfl (Nat.le_of_ble_eq_true rfl) ?_
  refine kc_al g 0 dX5_init_12 rfl ?_
  refine kc_bi (v := Int32.ofInt 36) g dX5_init_13 (by decide) ?_
  refine kc_na g 0 36 dX5_init_15 rfl (fun _ _ h => h) rfl rfl (by decide) (by decide) (Nat.le_of_ble_eq_true rfl) (Nat.le_of_ble_eq_true rfl) (Nat.le_of_ble_eq_true rfl) (fun q2 => ?_)
  refine kc_pf g 1 clX5 dX5_init_17 (Nat.le_of_ble_eq_true rfl) lf_X5_15 rfl rfl rfl rfl (Nat.le_of_ble_eq_true rfl) ?_
  refine kc_al g 0 dX5_init_20 rfl ?_
  refine kc_bi (v := Int32.ofInt 36) g dX5_init_21 (by decide) ?_
  refine kc_na g 0 36 dX5_init_23 rfl (fun _ _ h => h) rfl rfl (by decide) (by decide) (Nat.le_of_ble_eq_true rfl) (Nat.le_of_ble_eq_true rfl) (Nat.le_of_ble_eq_true rfl) (fun q3 => ?_)
  refine kc_pf g 2 clX5 dX5_init_25 (Nat.le_of_ble_eq_true rfl) lf_X5_18 rfl rfl rfl rfl (Nat.le_of_ble_eq_true rfl) ?_
  refine kc_al g 0 dX5_init_28 rfl ?_
  refine kc_bi (v := Int32.ofInt 36) g dX5_init_29 (by decide) ?_
  refine kc_na g 0 36 dX5_init_31 rfl (fun _ _ h => h) rfl rfl (by decide) (by decide) (Nat.le_of_ble_eq_true rfl) (Nat.le_of_ble_eq_true rfl) (Nat.le_of_ble_eq_true rfl) (fun q4 => ?_)
  refine kc_pf g 3 clX5 dX5_init_33 (Nat.le_of_ble_eq_true rfl) lf_X5_21 rfl rfl rfl rfl (Nat.le_of_ble_eq_true rfl) ?_
  refine kc_al g 0 dX5_init_36 rfl ?_
  refine kc_bi (v := Int32.ofInt 36) g dX5_init_37 (by decide) ?_
  refine kc_na g 0 36 dX5_init_39 rfl (fun _ _ h => h) rfl rfl (by decide) (by decide) (Nat.le_of_ble_eq_true rfl) (Nat.le_of_ble_eq_true rfl) (Nat.le_of_ble_eq_true rfl) (fun q5 => ?_)
  refine kc_pf g 4 clX5 dX5_init_41 (Nat.le_of_ble_eq_true rfl) lf_X5_24 rfl rfl rfl rfl (Nat.le_of_ble_eq_true rfl) ?_
  refine kc_al g 0 dX5_init_44 rfl ?_
  refine kc_bi (v := Int32.ofInt 6) g dX5_init_45 (by decide) ?_
  refine kc_na g 0 6 dX5_init_47 rfl (fun _ _ h => h) rfl rfl (by decide) (by decide) (Nat.le_of_ble_eq_true rfl) (Nat.le_of_ble_eq_true rfl) (Nat.le_of_ble_eq_true rfl) (fun q6 => ?_)
  refine kc_pf g 5 clX5 dX5_init_49 (Nat.le_of_ble_eq_true rfl) lf_X5_27 rfl rfl rfl rfl (Nat.le_of_ble_eq_true rfl) ?_
  refine kc_al g 0 dX5_init_52 rfl ?_
  refine kc_nw g f0X6 clX6 dX5_init_53 lc_X5_30 ln_X6 lz_X6 f0X6_ok (Nat.le_of_ble_eq_true rfl) (Nat.le_of_ble_eq_true rfl) (fun q7 => ?_)
  refine kc_du g dX5_init_56 ?_
  refine kc_cn g (kX6 D a) mi_kX6 li_X5_32 dX5_init_57 ⟨(Nat.le_of_ble_eq_true rfl), (Nat.le_of_ble_eq_true rfl)⟩ (Nat.le_of_ble_eq_true rfl) ⟨(Nat.le_of_ble_eq_true rfl), (Nat.le_of_ble_eq_true rfl)⟩ (fun u8 hu => ?_)
  subst hu
  refine kc_pf g 6 clX5 dX5_init_60 (Nat.le_of_ble_eq_true rfl) lf_X5_33 rfl rfl rfl rfl (Nat.le_of_ble_eq_true rfl) ?_
  exact fun H locs ls hl hP hD hS => kret (fun i => [0, 0, 0, 0, 0, 0, 0, 0, 0, 0, 0, 0, 0, 0, 0, 0, 0, 0, 0, 0, 0, 0, 0, 0, 0, 0, 0, 0, 0, 0, 0, 0, 0, 0, 0, 0, 0, 0, 0, 0, 0, 0, 0, 0, 0, 0, 0, 0, 0, 0, 0, 0, 0, 0, 0, 0, 0, 0, 0, 0, 0, 0, 0, 0, 0, (u8 0), 0, 0, (u8 1), 0, h0, q1, q2, q3, q4, q5, q6].getD i 0) rfl 63 H locs ls dX5_init_63 hP hD hS
def f0X3 : List Value := [.null, .null, .null, .null]
theorem f0X3_ok : ∀ j, j < 4 → defaultValue (tyX3 j) = vp_V f0X3 j := by
  intro j hj
  match j, hj with
  | 0, _ => rfl
  | 1, _ => rfl
  | 2, _ => rfl
  | 3, _ => rfl
theorem mi_kX3 : kc_mi yX3_init cX3_init 1 := ⟨lkc_X3, lki_X3, lz_X3, ⟨by decide +kernel, by decide +kernel⟩, by decide +kernel, rfl⟩
def wX3 (a : Nat → ClassId) (u : Nat → Nat) : va_W := ([(u 77, .inr (3, [.ref (u 78), .ref (u 79), .ref (u 80), .ref (u 66)])), (u 78, .inl (a 1, 64, .inl (zr 64))), (u 79, .inl (a 1, 40, .inl (zr 40))), (u 80, .inl (a 1, 6, .inl (zr 6)))]) ++ wX6 a (fun i => [u 66, u 69].getD i 0)
set_option maxHeartbeats 4000000 in
set_option maxRecDepth 100000 in
theorem kX3 (D : va_G) (a : Nat → ClassId) : kc_M D a yX3_init cX3_init 1 2 5 151 3 f0X3 77 (wX3 a) := by
  refine kc_ofJ (by decide +kernel) rfl (Nat.le_of_ble_eq_true rfl) (fun l h0 A G g kret => ?_)
  refine kc_al g 0 dX3_init_0 rfl ?_
  refine kc_oi g dX3_init_1 lo_X3_3 lo_i lo_c (Nat.le_of_ble_eq_true rfl) (Nat.le_of_ble_eq_true rfl) ?_
  refine kc_al g 0 dX3_init_4 rfl ?_
  refine kc_bi (v := Int32.ofInt 64) g dX3_init_5 (by decide) ?_
  refine kc_na g 1 64 dX3_init_7 rfl (fun _ _ h => h) rfl rfl (by decide) (by decide) (Nat.le_of_ble_eq_true rfl) (Nat.le_of_ble_eq_true rfl) (Nat.le_of_ble_eq_true rfl) (fun q1 => ?_)
  refine kc_pf g 0 clX3 dX3_init_9 (Nat.le_of_ble_eq_true rfl) lf_X3_9 rfl rfl rfl rfl (Nat.le_of_ble_eq_true rfl) ?_
  refine kc_al g 0 dX3_init_12 rfl ?_
  refine kc_bi (v := Int32.ofInt 40) g dX3_init_13 (by decide) ?_
  refine kc_na g 1 40 dX3_init_15 rfl (fun _ _ h => h) rfl rfl (by decide) (by decide) (Nat.le_of_ble_eq_true rfl) (Nat.le_of_ble_eq_true rfl) (Nat.le_of_ble_eq_true rfl) (fun q2 => ?_)
  refine kc_pf g 1 clX3 dX3_init_17 (Nat.le_of_ble_eq_true rfl) lf_X3_15 rfl rfl rfl rfl (Nat.le_of_ble_eq_true rfl) ?_
  refine kc_al g 0 dX3_init_20 rfl ?_
  refine kc_bi (v := Int32.ofInt 6) g dX3_init_21 (by decide) ?_
  refine kc_na g 1 6 dX3_init_23 rfl (fun _ _ h => h) rfl rfl (by decide) (by decide) (Nat.le_of_ble_eq_true rfl) (Nat.le_of_ble_eq_true rfl) (Nat.le_of_ble_eq_true rfl) (fun q3 => ?_)
  refine kc_pf g 2 clX3 dX3_init_25 (Nat.le_of_ble_eq_true rfl) lf_X3_18 rfl rfl rfl rfl (Nat.le_of_ble_eq_true rfl) ?_
  refine kc_al g 0 dX3_init_28 rfl ?_
  refine kc_nw g f0X6 clX6 dX3_init_29 lc_X3_21 ln_X6 lz_X6 f0X6_ok (Nat.le_of_ble_eq_true rfl) (Nat.le_of_ble_eq_true rfl) (fun q4 => ?_)
  refine kc_du g dX3_init_32 ?_
  refine kc_cn g (kX6 D a) mi_kX6 li_X3_23 dX3_init_33 ⟨(Nat.le_of_ble_eq_true rfl), (Nat.le_of_ble_eq_true rfl)⟩ (Nat.le_of_ble_eq_true rfl) ⟨(Nat.le_of_ble_eq_true rfl), (Nat.le_of_ble_eq_true rfl)⟩ (fun u5 hu => ?_)
  subst hu
  refine kc_pf g 3 clX3 dX3_init_36 (Nat.le_of_ble_eq_true rfl) lf_X3_24 rfl rfl rfl rfl (Nat.le_of_ble_eq_true rfl) ?_
  exact fun H locs ls hl hP hD hS => kret (fun i => [0, 0, 0, 0, 0, 0, 0, 0, 0, 0, 0, 0, 0, 0, 0, 0, 0, 0, 0, 0, 0, 0, 0, 0, 0, 0, 0, 0, 0, 0, 0, 0, 0, 0, 0, 0, 0, 0, 0, 0, 0, 0, 0, 0, 0, 0, 0, 0, 0, 0, 0, 0, 0, 0, 0, 0, 0, 0, 0, 0, 0, 0, 0, 0, 0, 0, (u5 0), 0, 0, (u5 1), 0, 0, 0, 0, 0, 0, 0, h0, q1, q2, q3].getD i 0) rfl 39 H locs ls dX3_init_39 hP hD hS
