/-! ===== constructors: the book ===== -/
def f0X0 : List Value := [.null, .null, .null, .null, .null, .int (Int32.ofInt 0)]
theorem f0X0_ok : ∀ j, j < 6 → defaultValue (tyX0 j) = vp_V f0X0 j := by
  intro j hj
  match j, hj with
  | 0, _ => rfl
  | 1, _ => rfl
  | 2, _ => rfl
  | 3, _ => rfl
  | 4, _ => rfl
  | 5, _ => rfl
theorem mi_kX0 : kc_mi yX0_init cX0_init 2 := ⟨lkc_X0, lki_X0, lz_X0, ⟨by decide +kernel, by decide +kernel⟩, by decide +kernel, rfl⟩
def wX0 (a : Nat → ClassId) (u : Nat → Nat) : va_W := (((((((((([(u 1, .inr (0, [.ref (u 2), .ref (u 3), .ref (u 4), .ref (u 5), .ref (u 6), .int (Int32.ofInt 0)])), (u 2, .inl (a 0, 40, .inl (zr 40))), (u 3, .inl (a 3, 4, .inr (.inr (.inr (.inr (fun j => [u 10, u 11, u 12, u 13][j]?)))))), (u 4, .inl (a 4, 6, .inr (.inr (.inr (.inr (fun j => [u 46, u 47, u 48, u 49, u 50, u 51][j]?)))))), (u 5, .inl (a 0, 4, .inl rl4)), (u 6, .inl (a 0, 64, .inl (zr 64)))]) ++ wX2 a (fun i => [u 10, u 14, u 18, u 22, u 26, u 30, u 34, u 38, u 42].getD i 0)) ++ wX2 a (fun i => [u 11, u 15, u 19, u 23, u 27, u 31, u 35, u 39, u 43].getD i 0)) ++ wX2 a (fun i => [u 12, u 16, u 20, u 24, u 28, u 32, u 36, u 40, u 44].getD i 0)) ++ wX2 a (fun i => [u 13, u 17, u 21, u 25, u 29, u 33, u 37, u 41, u 45].getD i 0)) ++ wX1 a (fun i => [u 46, u 52].getD i 0)) ++ wX1 a (fun i => [u 47, u 53].getD i 0)) ++ wX1 a (fun i => [u 48, u 54].getD i 0)) ++ wX1 a (fun i => [u 49, u 55].getD i 0)) ++ wX1 a (fun i => [u 50, u 56].getD i 0)) ++ wX1 a (fun i => [u 51, u 57].getD i 0)
set_option maxHeartbeats 4000000 in
set_option maxRecDepth 100000 in
theorem kX0 (D : va_G) (a : Nat → ClassId) : kc_M D a yX0_init cX0_init 2 2 53 1426 0 f0X0 1 (wX0 a) := by
  refine kc_ofJ (by decide +kernel) rfl (Nat.le_of_ble_eq_true rfl) (fun l h0 A G g kret => ?_)
  refine kc_al g 0 dX0_init_0 rfl ?_
  refine kc_oi g dX0_init_1 lo_X0_3 lo_i lo_c (Nat.le_of_ble_eq_true rfl) (Nat.le_of_ble_eq_true rfl) ?_
  refine kc_al g 0 dX0_init_4 rfl ?_
  refine kc_bi (v := Int32.ofInt 40) g dX0_init_5 (by decide) ?_
  refine kc_na g 0 40 dX0_init_7 rfl (fun _ _ h => h) rfl rfl (by decide) (by decide) (Nat.le_of_ble_eq_true rfl) (Nat.le_of_ble_eq_true rfl) (Nat.le_of_ble_eq_true rfl) (fun q1 => ?_)
  refine kc_pf g 0 clX0 dX0_init_9 (Nat.le_of_ble_eq_true rfl) lf_X0_9 rfl rfl rfl rfl (Nat.le_of_ble_eq_true rfl) ?_
  refine kc_al g 0 dX0_init_12 rfl ?_
  refine kc_ic (v := Int32.ofInt 4) g dX0_init_13 (by decide) ?_
  refine kc_nq g 3 4 dX0_init_14 lc_X0_15 (fun _ h => h.2.1) rfl (by decide) (by decide) (Nat.le_of_ble_eq_true rfl) (Nat.le_of_ble_eq_true rfl) (Nat.le_of_ble_eq_true rfl) (fun q2 => ?_)
  refine kc_pf g 1 clX0 dX0_init_17 (Nat.le_of_ble_eq_true rfl) lf_X0_17 rfl rfl rfl rfl (Nat.le_of_ble_eq_true rfl) ?_
  refine kc_al g 0 dX0_init_20 rfl ?_
  refine kc_bi (v := Int32.ofInt 6) g dX0_init_21 (by decide) ?_
  refine kc_nq g 4 6 dX0_init_23 lc_X0_21 (fun _ h => h.2.2) rfl (by decide) (by decide) (Nat.le_of_ble_eq_true rfl) (Nat.le_of_ble_eq_true rfl) (Nat.le_of_ble_eq_true rfl) (fun q3 => ?_)
  refine kc_pf g 2 clX0 dX0_init_26 (Nat.le_of_ble_eq_true rfl) lf_X0_23 rfl rfl rfl rfl (Nat.le_of_ble_eq_true rfl) ?_
  refine kc_al g 0 dX0_init_29 rfl ?_
  refine kc_ic (v := Int32.ofInt 4) g dX0_init_30 (by decide) ?_
  refine kc_na g 0 4 dX0_init_31 rfl (fun _ _ h => h) rfl rfl (by decide) (by decide) (Nat.le_of_ble_eq_true rfl) (Nat.le_of_ble_eq_true rfl) (Nat.le_of_ble_eq_true rfl) (fun q4 => ?_)
  refine kc_du g dX0_init_33 ?_
  refine kc_ic (v := Int32.ofInt 0) g dX0_init_34 (by decide) ?_
  refine kc_bi (v := Int32.ofInt 60) g dX0_init_35 (by decide) ?_
  refine kc_ia g 4 rfl (by unfold vp_in; decide) dX0_init_37 ?_
  refine kc_ws ([(h0, .inr (0, [.ref q1, .ref q2, .ref q3, .null, .null, .int (Int32.ofInt 0)])), (q1, .inl (a 0, 40, .inl (zr 40))), (q2, .inl (a 3, 4, .inr (.inr (.inr (.inr (fun _ => none)))))), (q3, .inl (a 4, 6, .inr (.inr (.inr (.inr (fun _ => none)))))), (q4, .inl (a 0, 4, .inl (va_up (zr 4) (Int32.ofInt 0).toNatClampNeg (Int32.ofInt 60))))]) rfl ?_
  refine kc_du g dX0_init_38 ?_
  refine kc_ic (v := Int32.ofInt 1) g dX0_init_39 (by decide) ?_
  refine kc_bi (v := Int32.ofInt 90) g dX0_init_40 (by decide) ?_
  refine kc_ia g 4 rfl (by unfold vp_in; decide) dX0_init_42 ?_
  refine kc_ws ([(h0, .inr (0, [.ref q1, .ref q2, .ref q3, .null, .null, .int (Int32.ofInt 0)])), (q1, .inl (a 0, 40, .inl (zr 40))), (q2, .inl (a 3, 4, .inr (.inr (.inr (.inr (fun _ => none)))))), (q3, .inl (a 4, 6, .inr (.inr (.inr (.inr (fun _ => none)))))), (q4, .inl (a 0, 4, .inl (va_up (va_up (zr 4) (Int32.ofInt 0).toNatClampNeg (Int32.ofInt 60)) (Int32.ofInt 1).toNatClampNeg (Int32.ofInt 90))))]) rfl ?_
  refine kc_du g dX0_init_43 ?_
  refine kc_ic (v := Int32.ofInt 2) g dX0_init_44 (by decide) ?_
  refine kc_si (v := Int32.ofInt 150) g dX0_init_45 (by decide) ?_
  refine kc_ia g 4 rfl (by unfold vp_in; decide) dX0_init_48 ?_
  refine kc_ws ([(h0, .inr (0, [.ref q1, .ref q2, .ref q3, .null, .null, .int (Int32.ofInt 0)])), (q1, .inl (a 0, 40, .inl (zr 40))), (q2, .inl (a 3, 4, .inr (.inr (.inr (.inr (fun _ => none)))))), (q3, .inl (a 4, 6, .inr (.inr (.inr (.inr (fun _ => none)))))), (q4, .inl (a 0, 4, .inl (va_up (va_up (va_up (zr 4) (Int32.ofInt 0).toNatClampNeg (Int32.ofInt 60)) (Int32.ofInt 1).toNatClampNeg (Int32.ofInt 90)) (Int32.ofInt 2).toNatClampNeg (Int32.ofInt 150))))]) rfl ?_
  refine kc_du g dX0_init_49 ?_
  refine kc_ic (v := Int32.ofInt 3) g dX0_init_50 (by decide) ?_
  refine kc_si (v := Int32.ofInt 1300) g dX0_init_51 (by decide) ?_
  refine kc_ia g 4 rfl (by unfold vp_in; decide) dX0_init_54 ?_
  refine kc_ws ([(h0, .inr (0, [.ref q1, .ref q2, .ref q3, .null, .null, .int (Int32.ofInt 0)])), (q1, .inl (a 0, 40, .inl (zr 40))), (q2, .inl (a 3, 4, .inr (.inr (.inr (.inr (fun _ => none)))))), (q3, .inl (a 4, 6, .inr (.inr (.inr (.inr (fun _ => none)))))), (q4, .inl (a 0, 4, .inl (va_up (va_up (va_up (va_up (zr 4) (Int32.ofInt 0).toNatClampNeg (Int32.ofInt 60)) (Int32.ofInt 1).toNatClampNeg (Int32.ofInt 90)) (Int32.ofInt 2).toNatClampNeg (Int32.ofInt 150)) (Int32.ofInt 3).toNatClampNeg (Int32.ofInt 1300))))]) rfl ?_
  refine kc_pf g 3 clX0 dX0_init_55 (Nat.le_of_ble_eq_true rfl) lf_X0_27 rfl rfl rfl rfl (Nat.le_of_ble_eq_true rfl) ?_
  refine kc_al g 0 dX0_init_58 rfl ?_
  refine kc_bi (v := Int32.ofInt 64) g dX0_init_59 (by decide) ?_
  refine kc_na g 0 64 dX0_init_61 rfl (fun _ _ h => h) rfl rfl (by decide) (by decide) (Nat.le_of_ble_eq_true rfl) (Nat.le_of_ble_eq_true rfl) (Nat.le_of_ble_eq_true rfl) (fun q5 => ?_)
  refine kc_pf g 4 clX0 dX0_init_63 (Nat.le_of_ble_eq_true rfl) lf_X0_30 rfl rfl rfl rfl (Nat.le_of_ble_eq_true rfl) ?_
  refine kc_ic (v := Int32.ofInt 0) g dX0_init_66 (by decide) ?_
  refine kc_is g [(1, .int (Int32.ofInt 0)), (0, .ref h0)] dX0_init_67 rfl (Nat.le_of_ble_eq_true rfl) rfl ?_
  refine kc_il g 0 dX0_init_68 rfl ?_
  refine kc_ic (v := Int32.ofInt 4) g dX0_init_69 (by decide) ?_
  refine kc_lt g 92 dX0_init_70 (by decide) (by decide) ?_
  refine kc_al g 1 dX0_init_73 rfl ?_
  refine kc_gf g 1 clX0 dX0_init_74 (Nat.le_of_ble_eq_true rfl) lf_X0_17 rfl ?_
  refine kc_il g 0 dX0_init_77 rfl ?_
  refine kc_nw g f0X2 clX2 dX0_init_78 lc_X0_15 ln_X2 lz_X2 f0X2_ok (Nat.le_of_ble_eq_true rfl) (Nat.le_of_ble_eq_true rfl) (fun q6 => ?_)
  refine kc_du g dX0_init_81 ?_
  refine kc_cn g (kX2 D a) mi_kX2 li_X0_33 dX0_init_82 ⟨(Nat.le_of_ble_eq_true rfl), (Nat.le_of_ble_eq_true rfl)⟩ (Nat.le_of_ble_eq_true rfl) ⟨(Nat.le_of_ble_eq_true rfl), (Nat.le_of_ble_eq_true rfl)⟩ (fun u7 hu => ?_)
  subst hu
  refine kc_aa g 2 6 3 clX2 rfl rfl rfl (by unfold vp_in; decide) dX0_init_85 ?_
  refine kc_ws (([(h0, .inr (0, [.ref q1, .ref q2, .ref q3, .ref q4, .ref q5, .int (Int32.ofInt 0)])), (q1, .inl (a 0, 40, .inl (zr 40))), (q2, .inl (a 3, 4, .inr (.inr (.inr (.inr (va_up (fun _ => none) (Int32.ofInt 0).toNatClampNeg (some (u7 0)))))))), (q3, .inl (a 4, 6, .inr (.inr (.inr (.inr (fun _ => none)))))), (q4, .inl (a 0, 4, .inl (va_up (va_up (va_up (va_up (zr 4) (Int32.ofInt 0).toNatClampNeg (Int32.ofInt 60)) (Int32.ofInt 1).toNatClampNeg (Int32.ofInt 90)) (Int32.ofInt 2).toNatClampNeg (Int32.ofInt 150)) (Int32.ofInt 3).toNatClampNeg (Int32.ofInt 1300)))), (q5, .inl (a 0, 64, .inl (zr 64)))]) ++ wX2 a u7) rfl ?_
  refine kc_ii (k := 0) g (Int32.ofInt 1) [(1, .int (Int32.ofInt 1)), (0, .ref h0)] dX0_init_86 rfl (by decide) (Nat.le_of_ble_eq_true rfl) rfl ?_
  refine kc_go g 68 dX0_init_89 (by decide) ?_
  refine kc_il g 0 dX0_init_68 rfl ?_
  refine kc_ic (v := Int32.ofInt 4) g dX0_init_69 (by decide) ?_
  refine kc_lt g 92 dX0_init_70 (by decide) (by decide) ?_
  refine kc_al g 1 dX0_init_73 rfl ?_
  refine kc_gf g 1 clX0 dX0_init_74 (Nat.le_of_ble_eq_true rfl) lf_X0_17 rfl ?_
  refine kc_il g 0 dX0_init_77 rfl ?_
  refine kc_nw g f0X2 clX2 dX0_init_78 lc_X0_15 ln_X2 lz_X2 f0X2_ok (Nat.le_of_ble_eq_true rfl) (Nat.le_of_ble_eq_true rfl) (fun q8 => ?_)
  refine kc_du g dX0_init_81 ?_
  refine kc_cn g (kX2 D a) mi_kX2 li_X0_33 dX0_init_82 ⟨(Nat.le_of_ble_eq_true rfl), (Nat.le_of_ble_eq_true rfl)⟩ (Nat.le_of_ble_eq_true rfl) ⟨(Nat.le_of_ble_eq_true rfl), (Nat.le_of_ble_eq_true rfl)⟩ (fun u9 hu => ?_)
  subst hu
  refine kc_aa g 2 15 3 clX2 rfl rfl rfl (by unfold vp_in; decide) dX0_init_85 ?_
  refine kc_ws ((([(h0, .inr (0, [.ref q1, .ref q2, .ref q3, .ref q4, .ref q5, .int (Int32.ofInt 0)])), (q1, .inl (a 0, 40, .inl (zr 40))), (q2, .inl (a 3, 4, .inr (.inr (.inr (.inr (va_up (va_up (fun _ => none) (Int32.ofInt 0).toNatClampNeg (some (u7 0))) (Int32.ofInt 1).toNatClampNeg (some (u9 0)))))))), (q3, .inl (a 4, 6, .inr (.inr (.inr (.inr (fun _ => none)))))), (q4, .inl (a 0, 4, .inl (va_up (va_up (va_up (va_up (zr 4) (Int32.ofInt 0).toNatClampNeg (Int32.ofInt 60)) (Int32.ofInt 1).toNatClampNeg (Int32.ofInt 90)) (Int32.ofInt 2).toNatClampNeg (Int32.ofInt 150)) (Int32.ofInt 3).toNatClampNeg (Int32.ofInt 1300)))), (q5, .inl (a 0, 64, .inl (zr 64)))]) ++ wX2 a u7) ++ wX2 a u9) rfl ?_
  refine kc_ii (k := 0) g (Int32.ofInt 2) [(1, .int (Int32.ofInt 2)), (0, .ref h0)] dX0_init_86 rfl (by decide) (Nat.le_of_ble_eq_true rfl) rfl ?_
  refine kc_go g 68 dX0_init_89 (by decide) ?_
  refine kc_il g 0 dX0_init_68 rfl ?_
  refine kc_ic (v := Int32.ofInt 4) g dX0_init_69 (by decide) ?_
  refine kc_lt g 92 dX0_init_70 (by decide) (by decide) ?_
  refine kc_al g 1 dX0_init_73 rfl ?_
  refine kc_gf g 1 clX0 dX0_init_74 (Nat.le_of_ble_eq_true rfl) lf_X0_17 rfl ?_
  refine kc_il g 0 dX0_init_77 rfl ?_
  refine kc_nw g f0X2 clX2 dX0_init_78 lc_X0_15 ln_X2 lz_X2 f0X2_ok (Nat.le_of_ble_eq_true rfl) (Nat.le_of_ble_eq_true rfl) (fun q10 => ?_)
  refine kc_du g dX0_init_81 ?_
  refine kc_cn g (kX2 D a) mi_kX2 li_X0_33 dX0_init_82 ⟨(Nat.le_of_ble_eq_true rfl), (Nat.le_of_ble_eq_true rfl)⟩ (Nat.le_of_ble_eq_true rfl) ⟨(Nat.le_of_ble_eq_true rfl), (Nat.le_of_ble_eq_true rfl)⟩ (fun u11 hu => ?_)
  subst hu
  refine kc_aa g 2 24 3 clX2 rfl rfl rfl (by unfold vp_in; decide) dX0_init_85 ?_
  refine kc_ws (((([(h0, .inr (0, [.ref q1, .ref q2, .ref q3, .ref q4, .ref q5, .int (Int32.ofInt 0)])), (q1, .inl (a 0, 40, .inl (zr 40))), (q2, .inl (a 3, 4, .inr (.inr (.inr (.inr (va_up (va_up (va_up (fun _ => none) (Int32.ofInt 0).toNatClampNeg (some (u7 0))) (Int32.ofInt 1).toNatClampNeg (some (u9 0))) (Int32.ofInt 2).toNatClampNeg (some (u11 0)))))))), (q3, .inl (a 4, 6, .inr (.inr (.inr (.inr (fun _ => none)))))), (q4, .inl (a 0, 4, .inl (va_up (va_up (va_up (va_up (zr 4) (Int32.ofInt 0).toNatClampNeg (Int32.ofInt 60)) (Int32.ofInt 1).toNatClampNeg (Int32.ofInt 90)) (Int32.ofInt 2).toNatClampNeg (Int32.ofInt 150)) (Int32.ofInt 3).toNatClampNeg (Int32.ofInt 1300)))), (q5, .inl (a 0, 64, .inl (zr 64)))]) ++ wX2 a u7) ++ wX2 a u9) ++ wX2 a u11) rfl ?_
  refine kc_ii (k := 0) g (Int32.ofInt 3) [(1, .int (Int32.ofInt 3)), (0, .ref h0)] dX0_init_86 rfl (by decide) (Nat.le_of_ble_eq_true rfl) rfl ?_
  refine kc_go g 68 dX0_init_89 (by decide) ?_
  refine kc_il g 0 dX0_init_68 rfl ?_
  refine kc_ic (v := Int32.ofInt 4) g dX0_init_69 (by decide) ?_
  refine kc_lt g 92 dX0_init_70 (by decide) (by decide) ?_
  refine kc_al g 1 dX0_init_73 rfl ?_
  refine kc_gf g 1 clX0 dX0_init_74 (Nat.le_of_ble_eq_true rfl) lf_X0_17 rfl ?_
  refine kc_il g 0 dX0_init_77 rfl ?_
  refine kc_nw g f0X2 clX2 dX0_init_78 lc_X0_15 ln_X2 lz_X2 f0X2_ok (Nat.le_of_ble_eq_true rfl) (Nat.le_of_ble_eq_true rfl) (fun q12 => ?_)
  refine kc_du g dX0_init_81 ?_
  refine kc_cn g (kX2 D a) mi_kX2 li_X0_33 dX0_init_82 ⟨(Nat.le_of_ble_eq_true rfl), (Nat.le_of_ble_eq_true rfl)⟩ (Nat.le_of_ble_eq_true rfl) ⟨(Nat.le_of_ble_eq_true rfl), (Nat.le_of_ble_eq_true rfl)⟩ (fun u13 hu => ?_)
  subst hu
  refine kc_aa g 2 33 3 clX2 rfl rfl rfl (by unfold vp_in; decide) dX0_init_85 ?_
  refine kc_ws ((((([(h0, .inr (0, [.ref q1, .ref q2, .ref q3, .ref q4, .ref q5, .int (Int32.ofInt 0)])), (q1, .inl (a 0, 40, .inl (zr 40))), (q2, .inl (a 3, 4, .inr (.inr (.inr (.inr (va_up (va_up (va_up (va_up (fun _ => none) (Int32.ofInt 0).toNatClampNeg (some (u7 0))) (Int32.ofInt 1).toNatClampNeg (some (u9 0))) (Int32.ofInt 2).toNatClampNeg (some (u11 0))) (Int32.ofInt 3).toNatClampNeg (some (u13 0)))))))), (q3, .inl (a 4, 6, .inr (.inr (.inr (.inr (fun _ => none)))))), (q4, .inl (a 0, 4, .inl (va_up (va_up (va_up (va_up (zr 4) (Int32.ofInt 0).toNatClampNeg (Int32.ofInt 60)) (Int32.ofInt 1).toNatClampNeg (Int32.ofInt 90)) (Int32.ofInt 2).toNatClampNeg (Int32.ofInt 150)) (Int32.ofInt 3).toNatClampNeg (Int32.ofInt 1300)))), (q5, .inl (a 0, 64, .inl (zr 64)))]) ++ wX2 a u7) ++ wX2 a u9) ++ wX2 a u11) ++ wX2 a u13) rfl ?_
  refine kc_ii (k := 0) g (Int32.ofInt 4) [(1, .int (Int32.ofInt 4)), (0, .ref h0)] dX0_init_86 rfl (by decide) (Nat.le_of_ble_eq_true rfl) rfl ?_
  refine kc_go g 68 dX0_init_89 (by decide) ?_
  refine kc_il g 0 dX0_init_68 rfl ?_
  refine kc_ic (v := Int32.ofInt 4) g dX0_init_69 (by decide) ?_
  refine kc_ge g 92 dX0_init_70 (by decide) (by decide) ?_
  refine kc_ic (v := Int32.ofInt 0) g dX0_init_92 (by decide) ?_
  refine kc_is g [(1, .int (Int32.ofInt 0)), (0, .ref h0)] dX0_init_93 rfl (Nat.le_of_ble_eq_true rfl) rfl ?_
  refine kc_il g 0 dX0_init_94 rfl ?_
  refine kc_bi (v := Int32.ofInt 6) g dX0_init_95 (by decide) ?_
  refine kc_lt g 119 dX0_init_97 (by decide) (by decide) ?_
  refine kc_al g 1 dX0_init_100 rfl ?_
  refine kc_gf g 2 clX0 dX0_init_101 (Nat.le_of_ble_eq_true rfl) lf_X0_23 rfl ?_
  refine kc_il g 0 dX0_init_104 rfl ?_
  refine kc_nw g f0X1 clX1 dX0_init_105 lc_X0_21 ln_X1 lz_X1 f0X1_ok (Nat.le_of_ble_eq_true rfl) (Nat.le_of_ble_eq_true rfl) (fun q14 => ?_)
  refine kc_du g dX0_init_108 ?_
  refine kc_cn g (kX1 D a) mi_kX1 li_X0_34 dX0_init_109 ⟨(Nat.le_of_ble_eq_true rfl), (Nat.le_of_ble_eq_true rfl)⟩ (Nat.le_of_ble_eq_true rfl) ⟨(Nat.le_of_ble_eq_true rfl), (Nat.le_of_ble_eq_true rfl)⟩ (fun u15 hu => ?_)
  subst hu
  refine kc_aa g 3 42 4 clX1 rfl rfl rfl (by unfold vp_in; decide) dX0_init_112 ?_
  refine kc_ws (((((([(h0, .inr (0, [.ref q1, .ref q2, .ref q3, .ref q4, .ref q5, .int (Int32.ofInt 0)])), (q1, .inl (a 0, 40, .inl (zr 40))), (q2, .inl (a 3, 4, .inr (.inr (.inr (.inr (va_up (va_up (va_up (va_up (fun _ => none) (Int32.ofInt 0).toNatClampNeg (some (u7 0))) (Int32.ofInt 1).toNatClampNeg (some (u9 0))) (Int32.ofInt 2).toNatClampNeg (some (u11 0))) (Int32.ofInt 3).toNatClampNeg (some (u13 0)))))))), (q3, .inl (a 4, 6, .inr (.inr (.inr (.inr (va_up (fun _ => none) (Int32.ofInt 0).toNatClampNeg (some (u15 0)))))))), (q4, .inl (a 0, 4, .inl (va_up (va_up (va_up (va_up (zr 4) (Int32.ofInt 0).toNatClampNeg (Int32.ofInt 60)) (Int32.ofInt 1).toNatClampNeg (Int32.ofInt 90)) (Int32.ofInt 2).toNatClampNeg (Int32.ofInt 150)) (Int32.ofInt 3).toNatClampNeg (Int32.ofInt 1300)))), (q5, .inl (a 0, 64, .inl (zr 64)))]) ++ wX2 a u7) ++ wX2 a u9) ++ wX2 a u11) ++ wX2 a u13) ++ wX1 a u15) rfl ?_
  refine kc_ii (k := 0) g (Int32.ofInt 1) [(1, .int (Int32.ofInt 1)), (0, .ref h0)] dX0_init_113 rfl (by decide) (Nat.le_of_ble_eq_true rfl) rfl ?_
  refine kc_go g 94 dX0_init_116 (by decide) ?_
  refine kc_il g 0 dX0_init_94 rfl ?_
  refine kc_bi (v := Int32.ofInt 6) g dX0_init_95 (by decide) ?_
  refine kc_lt g 119 dX0_init_97 (by decide) (by decide) ?_
  refine kc_al g 1 dX0_init_100 rfl ?_
  refine kc_gf g 2 clX0 dX0_init_101 (Nat.le_of_ble_eq_true rfl) lf_X0_23 rfl ?_
  refine kc_il g 0 dX0_init_104 rfl ?_
  refine kc_nw g f0X1 clX1 dX0_init_105 lc_X0_21 ln_X1 lz_X1 f0X1_ok (Nat.le_of_ble_eq_true rfl) (Nat.le_of_ble_eq_true rfl) (fun q16 => ?_)
  refine kc_du g dX0_init_108 ?_
  refine kc_cn g (kX1 D a) mi_kX1 li_X0_34 dX0_init_109 ⟨(Nat.le_of_ble_eq_true rfl), (Nat.le_of_ble_eq_true rfl)⟩ (Nat.le_of_ble_eq_true rfl) ⟨(Nat.le_of_ble_eq_true rfl), (Nat.le_of_ble_eq_true rfl)⟩ (fun u17 hu => ?_)
  subst hu
  refine kc_aa g 3 44 4 clX1 rfl rfl rfl (by unfold vp_in; decide) dX0_init_112 ?_
  refine kc_ws ((((((([(h0, .inr (0, [.ref q1, .ref q2, .ref q3, .ref q4, .ref q5, .int (Int32.ofInt 0)])), (q1, .inl (a 0, 40, .inl (zr 40))), (q2, .inl (a 3, 4, .inr (.inr (.inr (.inr (va_up (va_up (va_up (va_up (fun _ => none) (Int32.ofInt 0).toNatClampNeg (some (u7 0))) (Int32.ofInt 1).toNatClampNeg (some (u9 0))) (Int32.ofInt 2).toNatClampNeg (some (u11 0))) (Int32.ofInt 3).toNatClampNeg (some (u13 0)))))))), (q3, .inl (a 4, 6, .inr (.inr (.inr (.inr (va_up (va_up (fun _ => none) (Int32.ofInt 0).toNatClampNeg (some (u15 0))) (Int32.ofInt 1).toNatClampNeg (some (u17 0)))))))), (q4, .inl (a 0, 4, .inl (va_up (va_up (va_up (va_up (zr 4) (Int32.ofInt 0).toNatClampNeg (Int32.ofInt 60)) (Int32.ofInt 1).toNatClampNeg (Int32.ofInt 90)) (Int32.ofInt 2).toNatClampNeg (Int32.ofInt 150)) (Int32.ofInt 3).toNatClampNeg (Int32.ofInt 1300)))), (q5, .inl (a 0, 64, .inl (zr 64)))]) ++ wX2 a u7) ++ wX2 a u9) ++ wX2 a u11) ++ wX2 a u13) ++ wX1 a u15) ++ wX1 a u17) rfl ?_
  refine kc_ii (k := 0) g (Int32.ofInt 2) [(1, .int (Int32.ofInt 2)), (0, .ref h0)] dX0_init_113 rfl (by decide) (Nat.le_of_ble_eq_true rfl) rfl ?_
  refine kc_go g 94 dX0_init_116 (by decide) ?_
  refine kc_il g 0 dX0_init_94 rfl ?_
  refine kc_bi (v := Int32.ofInt 6) g dX0_init_95 (by decide) ?_
  refine kc_lt g 119 dX0_init_97 (by decide) (by decide) ?_
  refine kc_al g 1 dX0_init_100 rfl ?_
  refine kc_gf g 2 clX0 dX0_init_101 (Nat.le_of_ble_eq_true rfl) lf_X0_23 rfl ?_
  refine kc_il g 0 dX0_init_104 rfl ?_
  refine kc_nw g f0X1 clX1 dX0_init_105 lc_X0_21 ln_X1 lz_X1 f0X1_ok (Nat.le_of_ble_eq_true rfl) (Nat.le_of_ble_eq_true rfl) (fun q18 => ?_)
  refine kc_du g dX0_init_108 ?_
  refine kc_cn g (kX1 D a) mi_kX1 li_X0_34 dX0_init_109 ⟨(Nat.le_of_ble_eq_true rfl), (Nat.le_of_ble_eq_true rfl)⟩ (Nat.le_of_ble_eq_true rfl) ⟨(Nat.le_of_ble_eq_true rfl), (Nat.le_of_ble_eq_true rfl)⟩ (fun u19 hu => ?_)
  subst hu
  refine kc_aa g 3 46 4 clX1 rfl rfl rfl (by unfold vp_in; decide) dX0_init_112 ?_
  refine kc_ws (((((((([(h0, .inr (0, [.ref q1, .ref q2, .ref q3, .ref q4, .ref q5, .int (Int32.ofInt 0)])), (q1, .inl (a 0, 40, .inl (zr 40))), (q2, .inl (a 3, 4, .inr (.inr (.inr (.inr (va_up (va_up (va_up (va_up (fun _ => none) (Int32.ofInt 0).toNatClampNeg (some (u7 0))) (Int32.ofInt 1).toNatClampNeg (some (u9 0))) (Int32.ofInt 2).toNatClampNeg (some (u11 0))) (Int32.ofInt 3).toNatClampNeg (some (u13 0)))))))), (q3, .inl (a 4, 6, .inr (.inr (.inr (.inr (va_up (va_up (va_up (fun _ => none) (Int32.ofInt 0).toNatClampNeg (some (u15 0))) (Int32.ofInt 1).toNatClampNeg (some (u17 0))) (Int32.ofInt 2).toNatClampNeg (some (u19 0)))))))), (q4, .inl (a 0, 4, .inl (va_up (va_up (va_up (va_up (zr 4) (Int32.ofInt 0).toNatClampNeg (Int32.ofInt 60)) (Int32.ofInt 1).toNatClampNeg (Int32.ofInt 90)) (Int32.ofInt 2).toNatClampNeg (Int32.ofInt 150)) (Int32.ofInt 3).toNatClampNeg (Int32.ofInt 1300)))), (q5, .inl (a 0, 64, .inl (zr 64)))]) ++ wX2 a u7) ++ wX2 a u9) ++ wX2 a u11) ++ wX2 a u13) ++ wX1 a u15) ++ wX1 a u17) ++ wX1 a u19) rfl ?_
  refine kc_ii (k := 0) g (Int32.ofInt 3) [(1, .int (Int32.ofInt 3)), (0, .ref h0)] dX0_init_113 rfl (by decide) (Nat.le_of_ble_eq_true rfl) rfl ?_
  refine kc_go g 94 dX0_init_116 (by decide) ?_
  refine kc_il g 0 dX0_init_94 rfl ?_
  refine kc_bi (v := Int32.ofInt 6) g dX0_init_95 (by decide) ?_
  refine kc_lt g 119 dX0_init_97 (by decide) (by decide) ?_
  refine kc_al g 1 dX0_init_100 rfl ?_
  refine kc_gf g 2 clX0 dX0_init_101 (Nat.le_of_ble_eq_true rfl) lf_X0_23 rfl ?_
  refine kc_il g 0 dX0_init_104 rfl ?_
  refine kc_nw g f0X1 clX1 dX0_init_105 lc_X0_21 ln_X1 lz_X1 f0X1_ok (Nat.le_of_ble_eq_true rfl) (Nat.le_of_ble_eq_true rfl) (fun q20 => ?_)
  refine kc_du g dX0_init_108 ?_
  refine kc_cn g (kX1 D a) mi_kX1 li_X0_34 dX0_init_109 ⟨(Nat.le_of_ble_eq_true rfl), (Nat.le_of_ble_eq_true rfl)⟩ (Nat.le_of_ble_eq_true rfl) ⟨(Nat.le_of_ble_eq_true rfl), (Nat.le_of_ble_eq_true rfl)⟩ (fun u21 hu => ?_)
  subst hu
  refine kc_aa g 3 48 4 clX1 rfl rfl rfl (by unfold vp_in; decide) dX0_init_112 ?_
  refine kc_ws ((((((((([(h0, .inr (0, [.ref q1, .ref q2, .ref q3, .ref q4, .ref q5, .int (Int32.ofInt 0)])), (q1, .inl (a 0, 40, .inl (zr 40))), (q2, .inl (a 3, 4, .inr (.inr (.inr (.inr (va_up (va_up (va_up (va_up (fun _ => none) (Int32.ofInt 0).toNatClampNeg (some (u7 0))) (Int32.ofInt 1).toNatClampNeg (some (u9 0))) (Int32.ofInt 2).toNatClampNeg (some (u11 0))) (Int32.ofInt 3).toNatClampNeg (some (u13 0)))))))), (q3, .inl (a 4, 6, .inr (.inr (.inr (.inr (va_up (va_up (va_up (va_up (fun _ => none) (Int32.ofInt 0).toNatClampNeg (some (u15 0))) (Int32.ofInt 1).toNatClampNeg (some (u17 0))) (Int32.ofInt 2).toNatClampNeg (some (u19 0))) (Int32.ofInt 3).toNatClampNeg (some (u21 0)))))))), (q4, .inl (a 0, 4, .inl (va_up (va_up (va_up (va_up (zr 4) (Int32.ofInt 0).toNatClampNeg (Int32.ofInt 60)) (Int32.ofInt 1).toNatClampNeg (Int32.ofInt 90)) (Int32.ofInt 2).toNatClampNeg (Int32.ofInt 150)) (Int32.ofInt 3).toNatClampNeg (Int32.ofInt 1300)))), (q5, .inl (a 0, 64, .inl (zr 64)))]) ++ wX2 a u7) ++ wX2 a u9) ++ wX2 a u11) ++ wX2 a u13) ++ wX1 a u15) ++ wX1 a u17) ++ wX1 a u19) ++ wX1 a u21) rfl ?_
  refine kc_ii (k := 0) g (Int32.ofInt 4) [(1, .int (Int32.ofInt 4)), (0, .ref h0)] dX0_init_113 rfl (by decide) (Nat.le_of_ble_eq_true rfl) rfl ?_
  refine kc_go g 94 dX0_init_116 (by decide) ?_
  refine kc_il g 0 dX0_init_94 rfl ?_
  refine kc_bi (v := Int32.ofInt 6) g dX0_init_95 (by decide) ?_
  refine kc_lt g 119 dX0_init_97 (by decide) (by decide) ?_
  refine kc_al g 1 dX0_init_100 rfl ?_
  refine kc_gf g 2 clX0 dX0_init_101 (Nat.le_of_ble_eq_true rfl) lf_X0_23 rfl ?_
  refine kc_il g 0 dX0_init_104 rfl ?_
  refine kc_nw g f0X1 clX1 dX0_init_105 lc_X0_21 ln_X1 lz_X1 f0X1_ok (Nat.le_of_ble_eq_true rfl) (Nat.le_of_ble_eq_true rfl) (fun q22 => ?_)
  refine kc_du g dX0_init_108 ?_
  refine kc_cn g (kX1 D a) mi_kX1 li_X0_34 dX0_init_109 ⟨(Nat.le_of_ble_eq_true rfl), (Nat.le_of_ble_eq_true rfl)⟩ (Nat.le_of_ble_eq_true rfl) ⟨(Nat.le_of_ble_eq_true rfl), (Nat.le_of_ble_eq_true rfl)⟩ (fun u23 hu => ?_)
  subst hu
  refine kc_aa g 3 50 4 clX1 rfl rfl rfl (by unfold vp_in; decide) dX0_init_112 ?_
  refine kc_ws (((((((((([(h0, .inr (0, [.ref q1, .ref q2, .ref q3, .ref q4, .ref q5, .int (Int32.ofInt 0)])), (q1, .inl (a 0, 40, .inl (zr 40))), (q2, .inl (a 3, 4, .inr (.inr (.inr (.inr (va_up (va_up (va_up (va_up (fun _ => none) (Int32.ofInt 0).toNatClampNeg (some (u7 0))) (Int32.ofInt 1).toNatClampNeg (some (u9 0))) (Int32.ofInt 2).toNatClampNeg (some (u11 0))) (Int32.ofInt 3).toNatClampNeg (some (u13 0)))))))), (q3, .inl (a 4, 6, .inr (.inr (.inr (.inr (va_up (va_up (va_up (va_up (va_up (fun _ => none) (Int32.ofInt 0).toNatClampNeg (some (u15 0))) (Int32.ofInt 1).toNatClampNeg (some (u17 0))) (Int32.ofInt 2).toNatClampNeg (some (u19 0))) (Int32.ofInt 3).toNatClampNeg (some (u21 0))) (Int32.ofInt 4).toNatClampNeg (some (u23 0)))))))), (q4, .inl (a 0, 4, .inl (va_up (va_up (va_up (va_up (zr 4) (Int32.ofInt 0).toNatClampNeg (Int32.ofInt 60)) (Int32.ofInt 1).toNatClampNeg (Int32.ofInt 90)) (Int32.ofInt 2).toNatClampNeg (Int32.ofInt 150)) (Int32.ofInt 3).toNatClampNeg (Int32.ofInt 1300)))), (q5, .inl (a 0, 64, .inl (zr 64)))]) ++ wX2 a u7) ++ wX2 a u9) ++ wX2 a u11) ++ wX2 a u13) ++ wX1 a u15) ++ wX1 a u17) ++ wX1 a u19) ++ wX1 a u21) ++ wX1 a u23) rfl ?_
  refine kc_ii (k := 0) g (Int32.ofInt 5) [(1, .int (Int32.ofInt 5)), (0, .ref h0)] dX0_init_113 rfl (by decide) (Nat.le_of_ble_eq_true rfl) rfl ?_
  refine kc_go g 94 dX0_init_116 (by decide) ?_
  refine kc_il g 0 dX0_init_94 rfl ?_
  refine kc_bi (v := Int32.ofInt 6) g dX0_init_95 (by decide) ?_
  refine kc_lt g 119 dX0_init_97 (by decide) (by decide) ?_
  refine kc_al g 1 dX0_init_100 rfl ?_
  refine kc_gf g 2 clX0 dX0_init_101 (Nat.le_of_ble_eq_true rfl) lf_X0_23 rfl ?_
  refine kc_il g 0 dX0_init_104 rfl ?_
  refine kc_nw g f0X1 clX1 dX0_init_105 lc_X0_21 ln_X1 lz_X1 f0X1_ok (Nat.le_of_ble_eq_true rfl) (Nat.le_of_ble_eq_true rfl) (fun q24 => ?_)
  refine kc_du g dX0_init_108 ?_
  refine kc_cn g (kX1 D a) mi_kX1 li_X0_34 dX0_init_109 ⟨(Nat.le_of_ble_eq_true rfl), (Nat.le_of_ble_eq_true rfl)⟩ (Nat.le_of_ble_eq_true rfl) ⟨(Nat.le_of_ble_eq_true rfl), (Nat.le_of_ble_eq_true rfl)⟩ (fun u25 hu => ?_)
  subst hu
  refine kc_aa g 3 52 4 clX1 rfl rfl rfl (by unfold vp_in; decide) dX0_init_112 ?_
  refine kc_ws ((((((((((([(h0, .inr (0, [.ref q1, .ref q2, .ref q3, .ref q4, .ref q5, .int (Int32.ofInt 0)])), (q1, .inl (a 0, 40, .inl (zr 40))), (q2, .inl (a 3, 4, .inr (.inr (.inr (.inr (va_up (va_up (va_up (va_up (fun _ => none) (Int32.ofInt 0).toNatClampNeg (some (u7 0))) (Int32.ofInt 1).toNatClampNeg (some (u9 0))) (Int32.ofInt 2).toNatClampNeg (some (u11 0))) (Int32.ofInt 3).toNatClampNeg (some (u13 0)))))))), (q3, .inl (a 4, 6, .inr (.inr (.inr (.inr (va_up (va_up (va_up (va_up (va_up (va_up (fun _ => none) (Int32.ofInt 0).toNatClampNeg (some (u15 0))) (Int32.ofInt 1).toNatClampNeg (some (u17 0))) (Int32.ofInt 2).toNatClampNeg (some (u19 0))) (Int32.ofInt 3).toNatClampNeg (some (u21 0))) (Int32.ofInt 4).toNatClampNeg (some (u23 0))) (Int32.ofInt 5).toNatClampNeg (some (u25 0)))))))), (q4, .inl (a 0, 4, .inl (va_up (va_up (va_up (va_up (zr 4) (Int32.ofInt 0).toNatClampNeg (Int32.ofInt 60)) (Int32.ofInt 1).toNatClampNeg (Int32.ofInt 90)) (Int32.ofInt 2).toNatClampNeg (Int32.ofInt 150)) (Int32.ofInt 3).toNatClampNeg (Int32.ofInt 1300)))), (q5, .inl (a 0, 64, .inl (zr 64)))]) ++ wX2 a u7) ++ wX2 a u9) ++ wX2 a u11) ++ wX2 a u13) ++ wX1 a u15) ++ wX1 a u17) ++ wX1 a u19) ++ wX1 a u21) ++ wX1 a u23) ++ wX1 a u25) rfl ?_
  refine kc_ii (k := 0) g (Int32.ofInt 6) [(1, .int (Int32.ofInt 6)), (0, .ref h0)] dX0_init_113 rfl (by decide) (Nat.le_of_ble_eq_true rfl) rfl ?_
  refine kc_go g 94 dX0_init_116 (by decide) ?_
  refine kc_il g 0 dX0_init_94 rfl ?_
  refine kc_bi (v := Int32.ofInt 6) g dX0_init_95 (by decide) ?_
  refine kc_ge g 119 dX0_init_97 (by decide) (by decide) ?_
  refine kc_ws ((((((((((([(h0, .inr (0, [.ref q1, .ref q2, .ref q3, .ref q4, .ref q5, .int (Int32.ofInt 0)])), (q1, .inl (a 0, 40, .inl (zr 40))), (q2, .inl (a 3, 4, .inr (.inr (.inr (.inr (fun j => [(u7 0), (u9 0), (u11 0), (u13 0)][j]?)))))), (q3, .inl (a 4, 6, .inr (.inr (.inr (.inr (fun j => [(u15 0), (u17 0), (u19 0), (u21 0), (u23 0), (u25 0)][j]?)))))), (q4, .inl (a 0, 4, .inl rl4)), (q5, .inl (a 0, 64, .inl (zr 64)))]) ++ wX2 a u7) ++ wX2 a u9) ++ wX2 a u11) ++ wX2 a u13) ++ wX1 a u15) ++ wX1 a u17) ++ wX1 a u19) ++ wX1 a u21) ++ wX1 a u23) ++ wX1 a u25) (by rw [rl4_eq, dr4_eq, ct6_eq]) ?_
  exact fun H locs ls hl hP hD hS => kret (fun i => [0, h0, q1, q2, q3, q4, q5, 0, 0, 0, (u7 0), (u9 0), (u11 0), (u13 0), (u7 1), (u9 1), (u11 1), (u13 1), (u7 2), (u9 2), (u11 2), (u13 2), (u7 3), (u9 3), (u11 3), (u13 3), (u7 4), (u9 4), (u11 4), (u13 4), (u7 5), (u9 5), (u11 5), (u13 5), (u7 6), (u9 6), (u11 6), (u13 6), (u7 7), (u9 7), (u11 7), (u13 7), (u7 8), (u9 8), (u11 8), (u13 8), (u15 0), (u17 0), (u19 0), (u21 0), (u23 0), (u25 0), (u15 1), (u17 1), (u19 1), (u21 1), (u23 1), (u25 1)].getD i 0) rfl 119 H locs ls dX0_init_119 hP hD hS
