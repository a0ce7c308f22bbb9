/-! ===== constructors: the class ===== -/
def f0X8 : List Value := [.null, .null, .null, .null, .null, .null]
theorem f0X8_ok : ∀ j, j < 6 → defaultValue (tyX8 j) = vp_V f0X8 j := by
  intro j hj
  match j, hj with
  | 0, _ => rfl
  | 1, _ => rfl
  | 2, _ => rfl
  | 3, _ => rfl
  | 4, _ => rfl
  | 5, _ => rfl
theorem mi_kX8 : kc_mi yX8_init cX8_init 1 := ⟨lkc_X8, lki_X8, lz_X8, ⟨by decide +kernel, by decide +kernel⟩, by decide +kernel, rfl⟩
def wX8 (a : Nat → ClassId) (u : Nat → Nat) : va_W := (((((([(u 0, .inr (8, [.ref (u 1), .ref (u 7), .ref (u 59), .ref (u 64), .ref (u 70), .ref (u 77)]))]) ++ wX0 a u) ++ wX4 a u) ++ wX7 a u) ++ wX6 a (fun i => [u 64, u 67].getD i 0)) ++ wX5 a u) ++ wX3 a u
set_option maxHeartbeats 4000000 in
set_option maxRecDepth 100000 in
theorem kX8 (D : va_G) (a : Nat → ClassId) : kc_M D a yX8_init cX8_init 1 3 80 1925 8 f0X8 0 (wX8 a) := by
  refine kc_ofJ (by decide +kernel) rfl (Nat.le_of_ble_eq_true rfl) (fun l h0 A G g kret => ?_)
  refine kc_al g 0 dX8_init_0 rfl ?_
  refine kc_oi g dX8_init_1 lo_X8_1 lo_i lo_c (Nat.le_of_ble_eq_true rfl) (Nat.le_of_ble_eq_true rfl) ?_
  refine kc_al g 0 dX8_init_4 rfl ?_
  refine kc_nw g f0X0 clX0 dX8_init_5 lc_X8_7 ln_X0 lz_X0 f0X0_ok (Nat.le_of_ble_eq_true rfl) (Nat.le_of_ble_eq_true rfl) (fun q1 => ?_)
  refine kc_du g dX8_init_8 ?_
  refine kc_ci g (kX0 D a) mi_kX0 li_X8_9 dX8_init_9 ⟨(Nat.le_of_ble_eq_true rfl), (Nat.le_of_ble_eq_true rfl)⟩ (Nat.le_of_ble_eq_true rfl) ⟨(Nat.le_of_ble_eq_true rfl), (Nat.le_of_ble_eq_true rfl)⟩ (fun u2 hu => ?_)
  subst hu
  refine kc_pf g 0 clX8 dX8_init_12 (Nat.le_of_ble_eq_true rfl) lf_X8_10 rfl rfl rfl rfl (Nat.le_of_ble_eq_true rfl) ?_
  refine kc_al g 0 dX8_init_15 rfl ?_
  refine kc_nw g f0X4 clX4 dX8_init_16 lc_X8_16 ln_X4 lz_X4 f0X4_ok (Nat.le_of_ble_eq_true rfl) (Nat.le_of_ble_eq_true rfl) (fun q3 => ?_)
  refine kc_du g dX8_init_19 ?_
  refine kc_cn g (kX4 D a) mi_kX4 li_X8_18 dX8_init_20 ⟨(Nat.le_of_ble_eq_true rfl), (Nat.le_of_ble_eq_true rfl)⟩ (Nat.le_of_ble_eq_true rfl) ⟨(Nat.le_of_ble_eq_true rfl), (Nat.le_of_ble_eq_true rfl)⟩ (fun u4 hu => ?_)
  subst hu
  refine kc_pf g 1 clX8 dX8_init_23 (Nat.le_of_ble_eq_true rfl) lf_X8_19 rfl rfl rfl rfl (Nat.le_of_ble_eq_true rfl) ?_
  refine kc_al g 0 dX8_init_26 rfl ?_
  refine kc_nw g f0X7 clX7 dX8_init_27 lc_X8_23 ln_X7 lz_X7 f0X7_ok (Nat.le_of_ble_eq_true rfl) (Nat.le_of_ble_eq_true rfl) (fun q5 => ?_)
  refine kc_du g dX8_init_30 ?_
  refine kc_cn g (kX7 D a) mi_kX7 li_X8_25 dX8_init_31 ⟨(Nat.le_of_ble_eq_true rfl), (Nat.le_of_ble_eq_true rfl)⟩ (Nat.le_of_ble_eq_true rfl) ⟨(Nat.le_of_ble_eq_true rfl), (Nat.le_of_ble_eq_true rfl)⟩ (fun u6 hu => ?_)
  subst hu
  refine kc_pf g 2 clX8 dX8_init_34 (Nat.le_of_ble_eq_true rfl) lf_X8_26 rfl rfl rfl rfl (Nat.le_of_ble_eq_true rfl) ?_
  refine kc_al g 0 dX8_init_37 rfl ?_
  refine kc_nw g f0X6 clX6 dX8_init_38 lc_X8_30 ln_X6 lz_X6 f0X6_ok (Nat.le_of_ble_eq_true rfl) (Nat.le_of_ble_eq_true rfl) (fun q7 => ?_)
  refine kc_du g dX8_init_41 ?_
  refine kc_cn g (kX6 D a) mi_kX6 li_X8_32 dX8_init_42 ⟨(Nat.le_of_ble_eq_true rfl), (Nat.le_of_ble_eq_true rfl)⟩ (Nat.le_of_ble_eq_true rfl) ⟨(Nat.le_of_ble_eq_true rfl), (Nat.le_of_ble_eq_true rfl)⟩ (fun u8 hu => ?_)
  subst hu
  refine kc_pf g 3 clX8 dX8_init_45 (Nat.le_of_ble_eq_true rfl) lf_X8_33 rfl rfl rfl rfl (Nat.le_of_ble_eq_true rfl) ?_
  refine kc_al g 0 dX8_init_48 rfl ?_
  refine kc_nw g f0X5 clX5 dX8_init_49 lc_X8_37 ln_X5 lz_X5 f0X5_ok (Nat.le_of_ble_eq_true rfl) (Nat.le_of_ble_eq_true rfl) (fun q9 => ?_)
  refine kc_du g dX8_init_52 ?_
  refine kc_cn g (kX5 D a) mi_kX5 li_X8_39 dX8_init_53 ⟨(Nat.le_of_ble_eq_true rfl), (Nat.le_of_ble_eq_true rfl)⟩ (Nat.le_of_ble_eq_true rfl) ⟨(Nat.le_of_ble_eq_true rfl), (Nat.le_of_ble_eq_true rfl)⟩ (fun u10 hu => ?_)
  subst hu
  refine kc_pf g 4 clX8 dX8_init_56 (Nat.le_of_ble_eq_true rfl) lf_X8_40 rfl rfl rfl rfl (Nat.le_of_ble_eq_true rfl) ?_
  refine kc_al g 0 dX8_init_59 rfl ?_
  refine kc_nw g f0X3 clX3 dX8_init_60 lc_X8_44 ln_X3 lz_X3 f0X3_ok (Nat.le_of_ble_eq_true rfl) (Nat.le_of_ble_eq_true rfl) (fun q11 => ?_)
  refine kc_du g dX8_init_63 ?_
  refine kc_cn g (kX3 D a) mi_kX3 li_X8_46 dX8_init_64 ⟨(Nat.le_of_ble_eq_true rfl), (Nat.le_of_ble_eq_true rfl)⟩ (Nat.le_of_ble_eq_true rfl) ⟨(Nat.le_of_ble_eq_true rfl), (Nat.le_of_ble_eq_true rfl)⟩ (fun u12 hu => ?_)
  subst hu
  refine kc_pf g 5 clX8 dX8_init_67 (Nat.le_of_ble_eq_true rfl) lf_X8_47 rfl rfl rfl rfl (Nat.le_of_ble_eq_true rfl) ?_
  exact fun H locs ls hl hP hD hS => kret (fun i => [h0, (u2 1), (u2 2), (u2 3), (u2 4), (u2 5), (u2 6), (u4 7), (u4 8), (u4 9), (u2 10), (u2 11), (u2 12), (u2 13), (u2 14), (u2 15), (u2 16), (u2 17), (u2 18), (u2 19), (u2 20), (u2 21), (u2 22), (u2 23), (u2 24), (u2 25), (u2 26), (u2 27), (u2 28), (u2 29), (u2 30), (u2 31), (u2 32), (u2 33), (u2 34), (u2 35), (u2 36), (u2 37), (u2 38), (u2 39), (u2 40), (u2 41), (u2 42), (u2 43), (u2 44), (u2 45), (u2 46), (u2 47), (u2 48), (u2 49), (u2 50), (u2 51), (u2 52), (u2 53), (u2 54), (u2 55), (u2 56), (u2 57), (u4 58), (u6 59), (u6 60), (u6 61), (u6 62), (u6 63), (u8 0), (u10 65), (u12 66), (u8 1), (u10 68), (u12 69), (u10 70), (u10 71), (u10 72), (u10 73), (u10 74), (u10 75), (u10 76), (u12 77), (u12 78), (u12 79), (u12 80)].getD i 0) rfl 70 H locs ls dX8_init_70 hP hD hS
