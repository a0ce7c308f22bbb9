def fX8_land (a1 : Int) (a2 : Int) (h : am_M) : Option (Int × am_M) := am_b (fX8_isPlayer a1 h) (fun v1 h2 => if v1 = 0 then some ((-1), h2) else if a2 < 0 then some ((-1), h2) else if a2 < 10 then (if 0 ≤ a1 ∧ a1 < 40 then am_l (h2 0 (Int.toNat a1)) (fun x3 => if 0 ≤ a1 ∧ a1 < 40 then am_l (am_up h2 0 (Int.toNat a1) a2) (fun h4 => some (x3, h4)) else none) else none) else some ((-1), h2))
set_option maxRecDepth 10000 in
theorem cX8_landC {D : va_G} {a : Nat → ClassId} {ad : Nat → Nat} (a1 : Int) (a2 : Int) (h : am_M) : am_C (EX D a ad) yX8_land cX8_land 4 (some .int) 2 [.inr (some 0), .inl a1, .inl a2] h am_ei (fX8_land a1 a2 h) := by
  refine am_ofJ (L := [some (.inr (some 0)), some (.inl a1), some (.inl a2), none]) (by decide) rfl (Nat.le_of_ble_eq_true rfl) (fun G g => ?_)
  have g : am_Gd (EX D a ad) RX8 cX8_land 4 (some .int) 2 G := g
  unfold fX8_land
  refine am_iload_n g dX8_land_0 rfl ?_
  refine am_Si (as := [.inl a1]) (S := []) g (cX8_isPlayerC a1 h) mi_X8_isPlayer lm_X8_51 dX8_land_1 rfl (by decide) (Nat.le_of_ble_eq_true rfl) rfl (fun v1 h2 => ?_)
  refine am_if_eq (tgt := 17) g dX8_land_4 (by decide) ?_ ?_
  · refine am_iconst g dX8_land_17 (am_il rfl) rfl ?_
    exact am_ireturn g dX8_land_18
  · refine am_iload_n g dX8_land_7 rfl ?_
    refine am_if_lt (tgt := 17) g dX8_land_8 (by decide) ?_ ?_
    · refine am_iconst g dX8_land_17 (am_il rfl) rfl ?_
      exact am_ireturn g dX8_land_18
    · refine am_iload_n g dX8_land_11 rfl ?_
      refine am_bipush g dX8_land_12 (am_il rfl) (am_bi rfl) ?_
      refine am_icmp_lt (tgt := 19) g dX8_land_14 (by decide) ?_ ?_
      · refine am_aload_n g dX8_land_19 rfl ?_
        refine am_getr (q := 0) (a := 1) g clX8 dX8_land_20 (Nat.le_of_ble_eq_true rfl) rfl (by decide) rfl (Nat.le_of_ble_eq_true rfl) lf_X8_10 ?_
        refine am_getr (q := 0) (a := 2) g clX0 dX8_land_23 (Nat.le_of_ble_eq_true rfl) rfl (by decide) rfl (Nat.le_of_ble_eq_true rfl) lf_X8_55 ?_
        refine am_iload_n g dX8_land_26 rfl ?_
        refine am_iaload (ix := Int.toNat a1) (nI := 40) g dX8_land_27 (Nat.le_of_ble_eq_true rfl) rfl rfl (Nat.zero_add _) ?_
        refine am_gv (fun x3 => ?_)
        refine am_istore_n g dX8_land_28 (by decide) ?_
        refine am_aload_n g dX8_land_29 rfl ?_
        refine am_getr (q := 0) (a := 1) g clX8 dX8_land_30 (Nat.le_of_ble_eq_true rfl) rfl (by decide) rfl (Nat.le_of_ble_eq_true rfl) lf_X8_10 ?_
        refine am_getr (q := 0) (a := 2) g clX0 dX8_land_33 (Nat.le_of_ble_eq_true rfl) rfl (by decide) rfl (Nat.le_of_ble_eq_true rfl) lf_X8_55 ?_
        refine am_iload_n g dX8_land_36 rfl ?_
        refine am_iload_n g dX8_land_37 rfl ?_
        refine am_iastore (ix := Int.toNat a1) (nI := 40) g dX8_land_38 (Nat.le_of_ble_eq_true rfl) rfl rfl (Nat.zero_add _) ?_
        refine am_gm (fun h4 => ?_)
        refine am_iload_n g dX8_land_39 rfl ?_
        exact am_ireturn g dX8_land_40
      · refine am_iconst g dX8_land_17 (am_il rfl) rfl ?_
        exact am_ireturn g dX8_land_18
def fX8_isLength (a1 : Int) (h : am_M) : Option (Int × am_M) := if a1 = 2 then some (1, h) else if a1 = 3 then some (1, h) else some (0, h)
set_option maxRecDepth 10000 in
theorem cX8_isLengthC {D : va_G} {a : Nat → ClassId} {ad : Nat → Nat} (a1 : Int) (h : am_M) : am_C (EX D a ad) yX8_isLength cX8_isLength 1 (some .boolean) 1 [.inl a1] h am_ei (fX8_isLength a1 h) := by
  refine am_ofJ (L := [some (.inl a1)]) (by decide) rfl (Nat.le_of_ble_eq_true rfl) (fun G g => ?_)
  have g : am_Gd (EX D a ad) RX8 cX8_isLength 1 (some .boolean) 1 G := g
  unfold fX8_isLength
  refine am_iload_n g dX8_isLength_0 rfl ?_
  refine am_iconst g dX8_isLength_1 (am_il rfl) rfl ?_
  refine am_icmp_eq (tgt := 10) g dX8_isLength_2 (by decide) ?_ ?_
  · refine am_iconst g dX8_isLength_10 (am_il rfl) rfl ?_
    refine am_goto (tgt := 15) g dX8_isLength_11 (by decide) ?_
    exact am_zreturn g dX8_isLength_15 (by decide)
  · refine am_iload_n g dX8_isLength_5 rfl ?_
    refine am_iconst g dX8_isLength_6 (am_il rfl) rfl ?_
    refine am_icmp_ne (tgt := 14) g dX8_isLength_7 (by decide) ?_ ?_
    · refine am_iconst g dX8_isLength_14 (am_il rfl) rfl ?_
      exact am_zreturn g dX8_isLength_15 (by decide)
    · refine am_iconst g dX8_isLength_10 (am_il rfl) rfl ?_
      refine am_goto (tgt := 15) g dX8_isLength_11 (by decide) ?_
      exact am_zreturn g dX8_isLength_15 (by decide)
def fX8_isSize (a1 : Int) (h : am_M) : Option (Int × am_M) := if a1 = 4 then some (1, h) else if a1 = 8 then some (1, h) else if a1 = 16 then some (1, h) else some (0, h)
set_option maxRecDepth 10000 in
theorem cX8_isSizeC {D : va_G} {a : Nat → ClassId} {ad : Nat → Nat} (a1 : Int) (h : am_M) : am_C (EX D a ad) yX8_isSize cX8_isSize 1 (some .boolean) 1 [.inl a1] h am_ei (fX8_isSize a1 h) := by
  refine am_ofJ (L := [some (.inl a1)]) (by decide) rfl (Nat.le_of_ble_eq_true rfl) (fun G g => ?_)
  have g : am_Gd (EX D a ad) RX8 cX8_isSize 1 (some .boolean) 1 G := g
  unfold fX8_isSize
  refine am_iload_n g dX8_isSize_0 rfl ?_
  refine am_iconst g dX8_isSize_1 (am_il rfl) rfl ?_
  refine am_icmp_eq (tgt := 17) g dX8_isSize_2 (by decide) ?_ ?_
  · refine am_iconst g dX8_isSize_17 (am_il rfl) rfl ?_
    refine am_goto (tgt := 22) g dX8_isSize_18 (by decide) ?_
    exact am_zreturn g dX8_isSize_22 (by decide)
  · refine am_iload_n g dX8_isSize_5 rfl ?_
    refine am_bipush g dX8_isSize_6 (am_il rfl) (am_bi rfl) ?_
    refine am_icmp_eq (tgt := 17) g dX8_isSize_8 (by decide) ?_ ?_
    · refine am_iconst g dX8_isSize_17 (am_il rfl) rfl ?_
      refine am_goto (tgt := 22) g dX8_isSize_18 (by decide) ?_
      exact am_zreturn g dX8_isSize_22 (by decide)
    · refine am_iload_n g dX8_isSize_11 rfl ?_
      refine am_bipush g dX8_isSize_12 (am_il rfl) (am_bi rfl) ?_
      refine am_icmp_ne (tgt := 21) g dX8_isSize_14 (by decide) ?_ ?_
      · refine am_iconst g dX8_isSize_21 (am_il rfl) rfl ?_
        exact am_zreturn g dX8_isSize_22 (by decide)
      · refine am_iconst g dX8_isSize_17 (am_il rfl) rfl ?_
        refine am_goto (tgt := 22) g dX8_isSize_18 (by decide) ?_
        exact am_zreturn g dX8_isSize_22 (by decide)
def fX8_draw (a1 : Int) (a2 : Int) (a3 : Int) (h : am_M) : Option (Int × am_M) := if a1 < 0 then some ((-1), h) else if a1 < 4 then (am_b (fX8_isSize a2 h) (fun v1 h2 => if v1 = 0 then some ((-1), h2) else am_b (fX8_isLength a3 h2) (fun v3 h4 => if v3 = 0 then some ((-1), h4) else if 0 ≤ a1 ∧ a1 < 4 then am_b (fX2_renew (Int.toNat a1) a2 a3 h4) (fun _ h7 => some (1, h7)) else none))) else some ((-1), h)
set_option maxRecDepth 10000 in
theorem cX8_drawC {D : va_G} {a : Nat → ClassId} {ad : Nat → Nat} (a1 : Int) (a2 : Int) (a3 : Int) (h : am_M) : am_C (EX D a ad) yX8_draw cX8_draw 4 (some .int) 2 [.inr (some 0), .inl a1, .inl a2, .inl a3] h am_ei (fX8_draw a1 a2 a3 h) := by
  refine am_ofJ (L := [some (.inr (some 0)), some (.inl a1), some (.inl a2), some (.inl a3)]) (by decide) rfl (Nat.le_of_ble_eq_true rfl) (fun G g => ?_)
  have g : am_Gd (EX D a ad) RX8 cX8_draw 4 (some .int) 2 G := g
  unfold fX8_draw
  refine am_iload_n g dX8_draw_0 rfl ?_
  refine am_if_lt (tgt := 23) g dX8_draw_1 (by decide) ?_ ?_
  · refine am_iconst g dX8_draw_23 (am_il rfl) rfl ?_
    exact am_ireturn g dX8_draw_24
  · refine am_iload_n g dX8_draw_4 rfl ?_
    refine am_iconst g dX8_draw_5 (am_il rfl) rfl ?_
    refine am_icmp_ge (tgt := 23) g dX8_draw_6 (by decide) ?_ ?_
    · refine am_iconst g dX8_draw_23 (am_il rfl) rfl ?_
      exact am_ireturn g dX8_draw_24
    · refine am_iload_n g dX8_draw_9 rfl ?_
      refine am_Si (as := [.inl a2]) (S := []) g (cX8_isSizeC a2 h) mi_X8_isSize lm_X8_59 dX8_draw_10 rfl (by decide) (Nat.le_of_ble_eq_true rfl) rfl (fun v1 h2 => ?_)
      refine am_if_eq (tgt := 23) g dX8_draw_13 (by decide) ?_ ?_
      · refine am_iconst g dX8_draw_23 (am_il rfl) rfl ?_
        exact am_ireturn g dX8_draw_24
      · refine am_iload_n g dX8_draw_16 rfl ?_
        refine am_Si (as := [.inl a3]) (S := []) g (cX8_isLengthC a3 h2) mi_X8_isLength lm_X8_62 dX8_draw_17 rfl (by decide) (Nat.le_of_ble_eq_true rfl) rfl (fun v3 h4 => ?_)
        refine am_if_ne (tgt := 25) g dX8_draw_20 (by decide) ?_ ?_
        · refine am_aload_n g dX8_draw_25 rfl ?_
          refine am_getr (q := 0) (a := 1) g clX8 dX8_draw_26 (Nat.le_of_ble_eq_true rfl) rfl (by decide) rfl (Nat.le_of_ble_eq_true rfl) lf_X8_10 ?_
          refine am_getr (q := 1) (a := 3) g clX0 dX8_draw_29 (Nat.le_of_ble_eq_true rfl) rfl (by decide) rfl (Nat.le_of_ble_eq_true rfl) lf_X8_65 ?_
          refine am_iload_n g dX8_draw_32 rfl ?_
          refine am_aaload (b := 10) (n := 4) (nI := 4) g dX8_draw_33 (Nat.le_of_ble_eq_true rfl) rfl rfl rfl (Nat.le_of_ble_eq_true rfl) (fun c5 => ?_)
          have hd6 : Int.toNat a1 < 4 := by omega
          refine am_iload_n g dX8_draw_34 rfl ?_
          refine am_iload_n g dX8_draw_35 rfl ?_
          refine am_Vv (as := [.inl a2, .inl a3]) (S := []) g (cX2_renewC (Int.toNat a1) hd6 a2 a3 h4) mi_X2_renew lm_X8_69 clX2.1 (Nat.lt_of_lt_of_le (Nat.add_lt_add_left hd6 10) (Nat.le_of_ble_eq_true rfl)) (sh_X2 (Int.toNat a1) hd6) dX8_draw_36 rfl (by decide) (Nat.le_of_ble_eq_true rfl) rfl (fun _ h7 => ?_)
          refine am_iconst g dX8_draw_39 (am_il rfl) rfl ?_
          exact am_ireturn g dX8_draw_40
        · refine am_iconst g dX8_draw_23 (am_il rfl) rfl ?_
          exact am_ireturn g dX8_draw_24
def fX8_enter (a1 : Int) (a2 : Int) (h : am_M) : Option (Int × am_M) := am_b (fX0_findDraw a1 h) (fun v1 h2 => am_on v1 10 4 (some ((-1), h2)) (fun d3 => am_b (fX8_isPlayer a2 h2) (fun v4 h5 => if v4 = 0 then some ((-1), h5) else if (h5 5 d3) = 0 then (if 0 ≤ a2 ∧ a2 < 40 then if (h5 8 (40 * d3 + Int.toNat a2)) = 0 then (if (h5 3 d3) < (h5 1 d3) then am_b (fX2_admit d3 a2 h5) (fun _ h6 => some (h6 3 d3, h6)) else some ((-2), h5)) else some ((-3), h5) else none) else some ((-4), h5))))
set_option maxRecDepth 10000 in
theorem cX8_enterC {D : va_G} {a : Nat → ClassId} {ad : Nat → Nat} (a1 : Int) (a2 : Int) (h : am_M) : am_C (EX D a ad) yX8_enter cX8_enter 4 (some .int) 2 [.inr (some 0), .inl a1, .inl a2] h am_ei (fX8_enter a1 a2 h) := by
  refine am_ofJ (L := [some (.inr (some 0)), some (.inl a1), some (.inl a2), none]) (by decide) rfl (Nat.le_of_ble_eq_true rfl) (fun G g => ?_)
  have g : am_Gd (EX D a ad) RX8 cX8_enter 4 (some .int) 2 G := g
  unfold fX8_enter
  refine am_aload_n g dX8_enter_0 rfl ?_
  refine am_getr (q := 0) (a := 1) g clX8 dX8_enter_1 (Nat.le_of_ble_eq_true rfl) rfl (by decide) rfl (Nat.le_of_ble_eq_true rfl) lf_X8_10 ?_
  refine am_iload_n g dX8_enter_4 rfl ?_
  refine am_Vr (as := [.inl a1]) (S := []) g (cX0_findDrawC a1 h) mi_X0_findDraw lm_X8_75 clX0.1 (Nat.le_of_ble_eq_true rfl) rfl dX8_enter_5 rfl (by decide) (Nat.le_of_ble_eq_true rfl) rfl (fun v1 h2 => ?_)
  refine am_astore_n g dX8_enter_8 (by decide) ?_
  refine am_aload_n g dX8_enter_9 rfl ?_
  refine am_ionull (b := 10) (n := 4) (Lf := fun r_ => [some (.inr (some 0)), some (.inl a1), some (.inl a2), some (.inr r_)]) (tgt := 20) g dX8_enter_10 (by decide) ?_ (fun d3 hd3 => ?_)
  · refine am_iconst g dX8_enter_20 (am_il rfl) rfl ?_
    exact am_ireturn g dX8_enter_21
  · refine am_iload_n g dX8_enter_13 rfl ?_
    refine am_Si (as := [.inl a2]) (S := []) g (cX8_isPlayerC a2 h2) mi_X8_isPlayer lm_X8_51 dX8_enter_14 rfl (by decide) (Nat.le_of_ble_eq_true rfl) rfl (fun v4 h5 => ?_)
    refine am_if_ne (tgt := 22) g dX8_enter_17 (by decide) ?_ ?_
    · refine am_aload_n g dX8_enter_22 rfl ?_
      refine am_geti (q := 12) (kd := 5) (ix := d3) g clX2 dX8_enter_23 (Nat.lt_of_lt_of_le (Nat.add_lt_add_left hd3 10) (Nat.le_of_ble_eq_true rfl)) (sh_X2 d3 hd3) (by decide) rfl lf_X8_79 ?_
      refine am_if_eq (tgt := 32) g dX8_enter_26 (by decide) ?_ ?_
      · refine am_aload_n g dX8_enter_32 rfl ?_
        refine am_getr (q := 2) (a := 22 + d3) g clX2 dX8_enter_33 (Nat.lt_of_lt_of_le (Nat.add_lt_add_left hd3 10) (Nat.le_of_ble_eq_true rfl)) (sh_X2 d3 hd3) (by decide) rfl (Nat.lt_of_lt_of_le (Nat.add_lt_add_left hd3 22) (Nat.le_of_ble_eq_true rfl)) lf_X8_83 ?_
        refine am_iload_n g dX8_enter_36 rfl ?_
        refine am_zaload (ix := 40 * d3 + Int.toNat a2) (nI := 40) g dX8_enter_37 (Nat.lt_of_lt_of_le (Nat.add_lt_add_left hd3 22) (Nat.le_of_ble_eq_true rfl)) (sh_X2_came d3 hd3) rfl rfl ?_
        refine am_if_eq (tgt := 44) g dX8_enter_38 (by decide) ?_ ?_
        · refine am_aload_n g dX8_enter_44 rfl ?_
          refine am_geti (q := 10) (kd := 3) (ix := d3) g clX2 dX8_enter_45 (Nat.lt_of_lt_of_le (Nat.add_lt_add_left hd3 10) (Nat.le_of_ble_eq_true rfl)) (sh_X2 d3 hd3) (by decide) rfl lf_X8_87 ?_
          refine am_aload_n g dX8_enter_48 rfl ?_
          refine am_geti (q := 8) (kd := 1) (ix := d3) g clX2 dX8_enter_49 (Nat.lt_of_lt_of_le (Nat.add_lt_add_left hd3 10) (Nat.le_of_ble_eq_true rfl)) (sh_X2 d3 hd3) (by decide) rfl lf_X8_91 ?_
          refine am_icmp_lt (tgt := 58) g dX8_enter_52 (by decide) ?_ ?_
          · refine am_aload_n g dX8_enter_58 rfl ?_
            refine am_iload_n g dX8_enter_59 rfl ?_
            refine am_Vv (as := [.inl a2]) (S := []) g (cX2_admitC d3 hd3 a2 h5) mi_X2_admit lm_X8_94 clX2.1 (Nat.lt_of_lt_of_le (Nat.add_lt_add_left hd3 10) (Nat.le_of_ble_eq_true rfl)) (sh_X2 d3 hd3) dX8_enter_60 rfl (by decide) (Nat.le_of_ble_eq_true rfl) rfl (fun _ h6 => ?_)
            refine am_aload_n g dX8_enter_63 rfl ?_
            refine am_geti (q := 10) (kd := 3) (ix := d3) g clX2 dX8_enter_64 (Nat.lt_of_lt_of_le (Nat.add_lt_add_left hd3 10) (Nat.le_of_ble_eq_true rfl)) (sh_X2 d3 hd3) (by decide) rfl lf_X8_87 ?_
            exact am_ireturn g dX8_enter_67
          · refine am_bipush g dX8_enter_55 (am_il rfl) (am_bi rfl) ?_
            exact am_ireturn g dX8_enter_57
        · refine am_bipush g dX8_enter_41 (am_il rfl) (am_bi rfl) ?_
          exact am_ireturn g dX8_enter_43
      · refine am_bipush g dX8_enter_29 (am_il rfl) (am_bi rfl) ?_
        exact am_ireturn g dX8_enter_31
    · refine am_iconst g dX8_enter_20 (am_il rfl) rfl ?_
      exact am_ireturn g dX8_enter_21
def fX8_seeds (a1 : Int) (a2 : Int) (h : am_M) : Option (Int × am_M) := am_b (fX0_findDraw a1 h) (fun v1 h2 => am_on v1 10 4 (some ((-1), h2)) (fun d3 => if a2 < 0 then some ((-1), h2) else if a2 ≤ 4 then (if (h2 5 d3) = 0 then am_l (am_up h2 4 d3 a2) (fun h4 => some (1, h4)) else some ((-4), h2)) else some ((-1), h2)))
set_option maxRecDepth 10000 in
theorem cX8_seedsC {D : va_G} {a : Nat → ClassId} {ad : Nat → Nat} (a1 : Int) (a2 : Int) (h : am_M) : am_C (EX D a ad) yX8_seeds cX8_seeds 4 (some .int) 2 [.inr (some 0), .inl a1, .inl a2] h am_ei (fX8_seeds a1 a2 h) := by
  refine am_ofJ (L := [some (.inr (some 0)), some (.inl a1), some (.inl a2), none]) (by decide) rfl (Nat.le_of_ble_eq_true rfl) (fun G g => ?_)
  have g : am_Gd (EX D a ad) RX8 cX8_seeds 4 (some .int) 2 G := g
  unfold fX8_seeds
  refine am_aload_n g dX8_seeds_0 rfl ?_
  refine am_getr (q := 0) (a := 1) g clX8 dX8_seeds_1 (Nat.le_of_ble_eq_true rfl) rfl (by decide) rfl (Nat.le_of_ble_eq_true rfl) lf_X8_10 ?_
  refine am_iload_n g dX8_seeds_4 rfl ?_
  refine am_Vr (as := [.inl a1]) (S := []) g (cX0_findDrawC a1 h) mi_X0_findDraw lm_X8_75 clX0.1 (Nat.le_of_ble_eq_true rfl) rfl dX8_seeds_5 rfl (by decide) (Nat.le_of_ble_eq_true rfl) rfl (fun v1 h2 => ?_)
  refine am_astore_n g dX8_seeds_8 (by decide) ?_
  refine am_aload_n g dX8_seeds_9 rfl ?_
  refine am_ionull (b := 10) (n := 4) (Lf := fun r_ => [some (.inr (some 0)), some (.inl a1), some (.inl a2), some (.inr r_)]) (tgt := 22) g dX8_seeds_10 (by decide) ?_ (fun d3 hd3 => ?_)
  · refine am_iconst g dX8_seeds_22 (am_il rfl) rfl ?_
    exact am_ireturn g dX8_seeds_23
  · refine am_iload_n g dX8_seeds_13 rfl ?_
    refine am_if_lt (tgt := 22) g dX8_seeds_14 (by decide) ?_ ?_
    · refine am_iconst g dX8_seeds_22 (am_il rfl) rfl ?_
      exact am_ireturn g dX8_seeds_23
    · refine am_iload_n g dX8_seeds_17 rfl ?_
      refine am_iconst g dX8_seeds_18 (am_il rfl) rfl ?_
      refine am_icmp_le (tgt := 24) g dX8_seeds_19 (by decide) ?_ ?_
      · refine am_aload_n g dX8_seeds_24 rfl ?_
        refine am_geti (q := 12) (kd := 5) (ix := d3) g clX2 dX8_seeds_25 (Nat.lt_of_lt_of_le (Nat.add_lt_add_left hd3 10) (Nat.le_of_ble_eq_true rfl)) (sh_X2 d3 hd3) (by decide) rfl lf_X8_79 ?_
        refine am_if_eq (tgt := 34) g dX8_seeds_28 (by decide) ?_ ?_
        · refine am_aload_n g dX8_seeds_34 rfl ?_
          refine am_iload_n g dX8_seeds_35 rfl ?_
          refine am_puti (q := 11) (kd := 4) (ix := d3) g clX2 dX8_seeds_36 (Nat.lt_of_lt_of_le (Nat.add_lt_add_left hd3 10) (Nat.le_of_ble_eq_true rfl)) (sh_X2 d3 hd3) (by decide) rfl lf_X8_98 rfl rfl ?_
          refine am_gm (fun h4 => ?_)
          refine am_iconst g dX8_seeds_39 (am_il rfl) rfl ?_
          exact am_ireturn g dX8_seeds_40
        · refine am_bipush g dX8_seeds_31 (am_il rfl) (am_bi rfl) ?_
          exact am_ireturn g dX8_seeds_33
      · refine am_iconst g dX8_seeds_22 (am_il rfl) rfl ?_
        exact am_ireturn g dX8_seeds_23
def fX8_lay (a1 : Int) (a2 : Int) (h : am_M) : Option (Int × am_M) := am_b (fX0_findDraw a1 h) (fun v1 h2 => am_on v1 10 4 (some ((-1), h2)) (fun d3 => if (h2 5 d3) = 0 then (if (h2 3 d3) < (am_w ((am_w (Int.tdiv (h2 1 d3) 2)) + 1)) then some ((-5), h2) else if (h2 3 d3) < (h2 4 d3) then some ((-5), h2) else am_b (fX4_arrange d3 a2 h2) (fun _ h4 => am_b (fX2_open d3 h4) (fun _ h5 => some (am_w ((h5 1 d3) - (h5 3 d3)), h5)))) else some ((-4), h2)))
set_option maxRecDepth 10000 in
theorem cX8_layC {D : va_G} {a : Nat → ClassId} {ad : Nat → Nat} (a1 : Int) (a2 : Int) (h : am_M) : am_C (EX D a ad) yX8_lay cX8_lay 4 (some .int) 7 [.inr (some 0), .inl a1, .inl a2] h am_ei (fX8_lay a1 a2 h) := by
  refine am_ofJ (L := [some (.inr (some 0)), some (.inl a1), some (.inl a2), none]) (by decide) rfl (Nat.le_of_ble_eq_true rfl) (fun G g => ?_)
  have g : am_Gd (EX D a ad) RX8 cX8_lay 4 (some .int) 7 G := g
  unfold fX8_lay
  refine am_aload_n g dX8_lay_0 rfl ?_
  refine am_getr (q := 0) (a := 1) g clX8 dX8_lay_1 (Nat.le_of_ble_eq_true rfl) rfl (by decide) rfl (Nat.le_of_ble_eq_true rfl) lf_X8_10 ?_
  refine am_iload_n g dX8_lay_4 rfl ?_
  refine am_Vr (as := [.inl a1]) (S := []) g (cX0_findDrawC a1 h) mi_X0_findDraw lm_X8_75 clX0.1 (Nat.le_of_ble_eq_true rfl) rfl dX8_lay_5 rfl (by decide) (Nat.le_of_ble_eq_true rfl) rfl (fun v1 h2 => ?_)
  refine am_astore_n g dX8_lay_8 (by decide) ?_
  refine am_aload_n g dX8_lay_9 rfl ?_
  refine am_iononnull (b := 10) (n := 4) (Lf := fun r_ => [some (.inr (some 0)), some (.inl a1), some (.inl a2), some (.inr r_)]) (tgt := 15) g dX8_lay_10 (by decide) (fun d3 hd3 => ?_) ?_
  · refine am_aload_n g dX8_lay_15 rfl ?_
    refine am_geti (q := 12) (kd := 5) (ix := d3) g clX2 dX8_lay_16 (Nat.lt_of_lt_of_le (Nat.add_lt_add_left hd3 10) (Nat.le_of_ble_eq_true rfl)) (sh_X2 d3 hd3) (by decide) rfl lf_X8_79 ?_
    refine am_if_eq (tgt := 25) g dX8_lay_19 (by decide) ?_ ?_
    · refine am_aload_n g dX8_lay_25 rfl ?_
      refine am_geti (q := 10) (kd := 3) (ix := d3) g clX2 dX8_lay_26 (Nat.lt_of_lt_of_le (Nat.add_lt_add_left hd3 10) (Nat.le_of_ble_eq_true rfl)) (sh_X2 d3 hd3) (by decide) rfl lf_X8_87 ?_
      refine am_aload_n g dX8_lay_29 rfl ?_
      refine am_geti (q := 8) (kd := 1) (ix := d3) g clX2 dX8_lay_30 (Nat.lt_of_lt_of_le (Nat.add_lt_add_left hd3 10) (Nat.le_of_ble_eq_true rfl)) (sh_X2 d3 hd3) (by decide) rfl lf_X8_91 ?_
      refine am_iconst g dX8_lay_33 (am_il rfl) rfl ?_
      refine am_idiv g dX8_lay_34 (by decide) ?_
      refine am_iconst g dX8_lay_35 (am_il rfl) rfl ?_
      refine am_iadd g dX8_lay_36 ?_
      refine am_icmp_lt (tgt := 51) g dX8_lay_37 (by decide) ?_ ?_
      · refine am_bipush g dX8_lay_51 (am_il rfl) (am_bi rfl) ?_
        exact am_ireturn g dX8_lay_53
      · refine am_aload_n g dX8_lay_40 rfl ?_
        refine am_geti (q := 10) (kd := 3) (ix := d3) g clX2 dX8_lay_41 (Nat.lt_of_lt_of_le (Nat.add_lt_add_left hd3 10) (Nat.le_of_ble_eq_true rfl)) (sh_X2 d3 hd3) (by decide) rfl lf_X8_87 ?_
        refine am_aload_n g dX8_lay_44 rfl ?_
        refine am_geti (q := 11) (kd := 4) (ix := d3) g clX2 dX8_lay_45 (Nat.lt_of_lt_of_le (Nat.add_lt_add_left hd3 10) (Nat.le_of_ble_eq_true rfl)) (sh_X2 d3 hd3) (by decide) rfl lf_X8_98 ?_
        refine am_icmp_ge (tgt := 54) g dX8_lay_48 (by decide) ?_ ?_
        · refine am_aload_n g dX8_lay_54 rfl ?_
          refine am_getr (q := 1) (a := 7) g clX8 dX8_lay_55 (Nat.le_of_ble_eq_true rfl) rfl (by decide) rfl (Nat.le_of_ble_eq_true rfl) lf_X8_19 ?_
          refine am_aload_n g dX8_lay_58 rfl ?_
          refine am_aload_n g dX8_lay_59 rfl ?_
          refine am_getr (q := 0) (a := 1) g clX8 dX8_lay_60 (Nat.le_of_ble_eq_true rfl) rfl (by decide) rfl (Nat.le_of_ble_eq_true rfl) lf_X8_10 ?_
          refine am_getr (q := 0) (a := 2) g clX0 dX8_lay_63 (Nat.le_of_ble_eq_true rfl) rfl (by decide) rfl (Nat.le_of_ble_eq_true rfl) lf_X8_55 ?_
          refine am_iload_n g dX8_lay_66 rfl ?_
          refine am_Vv (as := [.inr (some (10 + d3)), .inr (some 2), .inl a2]) (S := []) g (cX4_arrangeC d3 hd3 a2 h2) mi_X4_arrange lm_X8_101 clX4.1 (Nat.le_of_ble_eq_true rfl) rfl dX8_lay_67 rfl (by decide) (Nat.le_of_ble_eq_true rfl) rfl (fun _ h4 => ?_)
          refine am_aload_n g dX8_lay_70 rfl ?_
          refine am_Vv (as := []) (S := []) g (cX2_openC d3 hd3 h4) mi_X2_open lm_X8_105 clX2.1 (Nat.lt_of_lt_of_le (Nat.add_lt_add_left hd3 10) (Nat.le_of_ble_eq_true rfl)) (sh_X2 d3 hd3) dX8_lay_71 rfl (by decide) (Nat.le_of_ble_eq_true rfl) rfl (fun _ h5 => ?_)
          refine am_aload_n g dX8_lay_74 rfl ?_
          refine am_geti (q := 8) (kd := 1) (ix := d3) g clX2 dX8_lay_75 (Nat.lt_of_lt_of_le (Nat.add_lt_add_left hd3 10) (Nat.le_of_ble_eq_true rfl)) (sh_X2 d3 hd3) (by decide) rfl lf_X8_91 ?_
          refine am_aload_n g dX8_lay_78 rfl ?_
          refine am_geti (q := 10) (kd := 3) (ix := d3) g clX2 dX8_lay_79 (Nat.lt_of_lt_of_le (Nat.add_lt_add_left hd3 10) (Nat.le_of_ble_eq_true rfl)) (sh_X2 d3 hd3) (by decide) rfl lf_X8_87 ?_
          refine am_isub g dX8_lay_82 ?_
          exact am_ireturn g dX8_lay_83
        · refine am_bipush g dX8_lay_51 (am_il rfl) (am_bi rfl) ?_
          exact am_ireturn g dX8_lay_53
    · refine am_bipush g dX8_lay_22 (am_il rfl) (am_bi rfl) ?_
      exact am_ireturn g dX8_lay_24
  · refine am_iconst g dX8_lay_13 (am_il rfl) rfl ?_
    exact am_ireturn g dX8_lay_14
def fX8_place (a1 : Int) (a2 : Int) (h : am_M) : Option (Int × am_M) := am_b (fX0_findDraw a1 h) (fun v1 h2 => am_on v1 10 4 (some ((-2), h2)) (fun d3 => if (h2 5 d3) = 0 then some ((-2), h2) else if a2 < 0 then some ((-2), h2) else if a2 < (h2 1 d3) then (if 0 ≤ a2 ∧ a2 < 16 then some (h2 7 (16 * d3 + Int.toNat a2), h2) else none) else some ((-2), h2)))
set_option maxRecDepth 10000 in
theorem cX8_placeC {D : va_G} {a : Nat → ClassId} {ad : Nat → Nat} (a1 : Int) (a2 : Int) (h : am_M) : am_C (EX D a ad) yX8_place cX8_place 4 (some .int) 2 [.inr (some 0), .inl a1, .inl a2] h am_ei (fX8_place a1 a2 h) := by
  refine am_ofJ (L := [some (.inr (some 0)), some (.inl a1), some (.inl a2), none]) (by decide) rfl (Nat.le_of_ble_eq_true rfl) (fun G g => ?_)
  have g : am_Gd (EX D a ad) RX8 cX8_place 4 (some .int) 2 G := g
  unfold fX8_place
  refine am_aload_n g dX8_place_0 rfl ?_
  refine am_getr (q := 0) (a := 1) g clX8 dX8_place_1 (Nat.le_of_ble_eq_true rfl) rfl (by decide) rfl (Nat.le_of_ble_eq_true rfl) lf_X8_10 ?_
  refine am_iload_n g dX8_place_4 rfl ?_
  refine am_Vr (as := [.inl a1]) (S := []) g (cX0_findDrawC a1 h) mi_X0_findDraw lm_X8_75 clX0.1 (Nat.le_of_ble_eq_true rfl) rfl dX8_place_5 rfl (by decide) (Nat.le_of_ble_eq_true rfl) rfl (fun v1 h2 => ?_)
  refine am_astore_n g dX8_place_8 (by decide) ?_
  refine am_aload_n g dX8_place_9 rfl ?_
  refine am_ionull (b := 10) (n := 4) (Lf := fun r_ => [some (.inr (some 0)), some (.inl a1), some (.inl a2), some (.inr r_)]) (tgt := 32) g dX8_place_10 (by decide) ?_ (fun d3 hd3 => ?_)
  · refine am_bipush g dX8_place_32 (am_il rfl) (am_bi rfl) ?_
    exact am_ireturn g dX8_place_34
  · refine am_aload_n g dX8_place_13 rfl ?_
    refine am_geti (q := 12) (kd := 5) (ix := d3) g clX2 dX8_place_14 (Nat.lt_of_lt_of_le (Nat.add_lt_add_left hd3 10) (Nat.le_of_ble_eq_true rfl)) (sh_X2 d3 hd3) (by decide) rfl lf_X8_79 ?_
    refine am_if_eq (tgt := 32) g dX8_place_17 (by decide) ?_ ?_
    · refine am_bipush g dX8_place_32 (am_il rfl) (am_bi rfl) ?_
      exact am_ireturn g dX8_place_34
    · refine am_iload_n g dX8_place_20 rfl ?_
      refine am_if_lt (tgt := 32) g dX8_place_21 (by decide) ?_ ?_
      · refine am_bipush g dX8_place_32 (am_il rfl) (am_bi rfl) ?_
        exact am_ireturn g dX8_place_34
      · refine am_iload_n g dX8_place_24 rfl ?_
        refine am_aload_n g dX8_place_25 rfl ?_
        refine am_geti (q := 8) (kd := 1) (ix := d3) g clX2 dX8_place_26 (Nat.lt_of_lt_of_le (Nat.add_lt_add_left hd3 10) (Nat.le_of_ble_eq_true rfl)) (sh_X2 d3 hd3) (by decide) rfl lf_X8_91 ?_
        refine am_icmp_lt (tgt := 35) g dX8_place_29 (by decide) ?_ ?_
        · refine am_aload_n g dX8_place_35 rfl ?_
          refine am_getr (q := 1) (a := 18 + d3) g clX2 dX8_place_36 (Nat.lt_of_lt_of_le (Nat.add_lt_add_left hd3 10) (Nat.le_of_ble_eq_true rfl)) (sh_X2 d3 hd3) (by decide) rfl (Nat.lt_of_lt_of_le (Nat.add_lt_add_left hd3 18) (Nat.le_of_ble_eq_true rfl)) lf_X8_108 ?_
          refine am_iload_n g dX8_place_39 rfl ?_
          refine am_iaload (ix := 16 * d3 + Int.toNat a2) (nI := 16) g dX8_place_40 (Nat.lt_of_lt_of_le (Nat.add_lt_add_left hd3 18) (Nat.le_of_ble_eq_true rfl)) (sh_X2_places d3 hd3) rfl rfl ?_
          exact am_ireturn g dX8_place_41
        · refine am_bipush g dX8_place_32 (am_il rfl) (am_bi rfl) ?_
          exact am_ireturn g dX8_place_34
def fX8_of (a1 : Int) (a2 : Int) (h : am_M) : Option (Int × am_M) := am_b (fX0_findDraw a1 h) (fun v1 h2 => am_on v1 10 4 (some ((-1), h2)) (fun d3 => if a2 = 0 then some (h2 1 d3, h2) else if a2 = 1 then some (h2 2 d3, h2) else if a2 = 2 then some (h2 3 d3, h2) else if a2 = 3 then some (h2 4 d3, h2) else if a2 = 4 then (if (h2 5 d3) = 0 then some (0, h2) else some (1, h2)) else if a2 = 5 then am_b (fX2_countEnded d3 0 (am_w ((h2 1 d3) - 1)) h2) (fun v10 h11 => some (v10, h11)) else if a2 = 6 then am_b (fX2_countOpenRounds d3 h2) (fun v13 h14 => some (v13, h14)) else some ((-1), h2)))
set_option maxRecDepth 10000 in
theorem cX8_ofC {D : va_G} {a : Nat → ClassId} {ad : Nat → Nat} (a1 : Int) (a2 : Int) (h : am_M) : am_C (EX D a ad) yX8_of cX8_of 4 (some .int) 3 [.inr (some 0), .inl a1, .inl a2] h am_ei (fX8_of a1 a2 h) := by
  refine am_ofJ (L := [some (.inr (some 0)), some (.inl a1), some (.inl a2), none]) (by decide) rfl (Nat.le_of_ble_eq_true rfl) (fun G g => ?_)
  have g : am_Gd (EX D a ad) RX8 cX8_of 4 (some .int) 3 G := g
  unfold fX8_of
  refine am_aload_n g dX8_of_0 rfl ?_
  refine am_getr (q := 0) (a := 1) g clX8 dX8_of_1 (Nat.le_of_ble_eq_true rfl) rfl (by decide) rfl (Nat.le_of_ble_eq_true rfl) lf_X8_10 ?_
  refine am_iload_n g dX8_of_4 rfl ?_
  refine am_Vr (as := [.inl a1]) (S := []) g (cX0_findDrawC a1 h) mi_X0_findDraw lm_X8_75 clX0.1 (Nat.le_of_ble_eq_true rfl) rfl dX8_of_5 rfl (by decide) (Nat.le_of_ble_eq_true rfl) rfl (fun v1 h2 => ?_)
  refine am_astore_n g dX8_of_8 (by decide) ?_
  refine am_aload_n g dX8_of_9 rfl ?_
  refine am_iononnull (b := 10) (n := 4) (Lf := fun r_ => [some (.inr (some 0)), some (.inl a1), some (.inl a2), some (.inr r_)]) (tgt := 15) g dX8_of_10 (by decide) (fun d3 hd3 => ?_) ?_
  · refine am_iload_n g dX8_of_15 rfl ?_
    refine am_if (c := a2 = 0) (fun c4 => ?_) (fun c4 => ?_)
    · refine am_swIn (tgt := 60) g dX8_of_16 (by omega) (by omega) (by rw [c4]; rfl) (by decide) ?_
      refine am_aload_n g dX8_of_60 rfl ?_
      refine am_geti (q := 8) (kd := 1) (ix := d3) g clX2 dX8_of_61 (Nat.lt_of_lt_of_le (Nat.add_lt_add_left hd3 10) (Nat.le_of_ble_eq_true rfl)) (sh_X2 d3 hd3) (by decide) rfl lf_X8_91 ?_
      exact am_ireturn g dX8_of_64
    refine am_if (c := a2 = 1) (fun c5 => ?_) (fun c5 => ?_)
    · refine am_swIn (tgt := 65) g dX8_of_16 (by omega) (by omega) (by rw [c5]; rfl) (by decide) ?_
      refine am_aload_n g dX8_of_65 rfl ?_
      refine am_geti (q := 9) (kd := 2) (ix := d3) g clX2 dX8_of_66 (Nat.lt_of_lt_of_le (Nat.add_lt_add_left hd3 10) (Nat.le_of_ble_eq_true rfl)) (sh_X2 d3 hd3) (by decide) rfl lf_X8_111 ?_
      exact am_ireturn g dX8_of_69
    refine am_if (c := a2 = 2) (fun c6 => ?_) (fun c6 => ?_)
    · refine am_swIn (tgt := 70) g dX8_of_16 (by omega) (by omega) (by rw [c6]; rfl) (by decide) ?_
      refine am_aload_n g dX8_of_70 rfl ?_
      refine am_geti (q := 10) (kd := 3) (ix := d3) g clX2 dX8_of_71 (Nat.lt_of_lt_of_le (Nat.add_lt_add_left hd3 10) (Nat.le_of_ble_eq_true rfl)) (sh_X2 d3 hd3) (by decide) rfl lf_X8_87 ?_
      exact am_ireturn g dX8_of_74
    refine am_if (c := a2 = 3) (fun c7 => ?_) (fun c7 => ?_)
    · refine am_swIn (tgt := 75) g dX8_of_16 (by omega) (by omega) (by rw [c7]; rfl) (by decide) ?_
      refine am_aload_n g dX8_of_75 rfl ?_
      refine am_geti (q := 11) (kd := 4) (ix := d3) g clX2 dX8_of_76 (Nat.lt_of_lt_of_le (Nat.add_lt_add_left hd3 10) (Nat.le_of_ble_eq_true rfl)) (sh_X2 d3 hd3) (by decide) rfl lf_X8_98 ?_
      exact am_ireturn g dX8_of_79
    refine am_if (c := a2 = 4) (fun c8 => ?_) (fun c8 => ?_)
    · refine am_swIn (tgt := 80) g dX8_of_16 (by omega) (by omega) (by rw [c8]; rfl) (by decide) ?_
      refine am_aload_n g dX8_of_80 rfl ?_
      refine am_geti (q := 12) (kd := 5) (ix := d3) g clX2 dX8_of_81 (Nat.lt_of_lt_of_le (Nat.add_lt_add_left hd3 10) (Nat.le_of_ble_eq_true rfl)) (sh_X2 d3 hd3) (by decide) rfl lf_X8_79 ?_
      refine am_if_eq (tgt := 91) g dX8_of_84 (by decide) ?_ ?_
      · refine am_iconst g dX8_of_91 (am_il rfl) rfl ?_
        exact am_ireturn g dX8_of_92
      · refine am_iconst g dX8_of_87 (am_il rfl) rfl ?_
        refine am_goto (tgt := 92) g dX8_of_88 (by decide) ?_
        exact am_ireturn g dX8_of_92
    refine am_if (c := a2 = 5) (fun c9 => ?_) (fun c9 => ?_)
    · refine am_swIn (tgt := 93) g dX8_of_16 (by omega) (by omega) (by rw [c9]; rfl) (by decide) ?_
      refine am_aload_n g dX8_of_93 rfl ?_
      refine am_iconst g dX8_of_94 (am_il rfl) rfl ?_
      refine am_aload_n g dX8_of_95 rfl ?_
      refine am_geti (q := 8) (kd := 1) (ix := d3) g clX2 dX8_of_96 (Nat.lt_of_lt_of_le (Nat.add_lt_add_left hd3 10) (Nat.le_of_ble_eq_true rfl)) (sh_X2 d3 hd3) (by decide) rfl lf_X8_91 ?_
      refine am_iconst g dX8_of_99 (am_il rfl) rfl ?_
      refine am_isub g dX8_of_100 ?_
      refine am_Vi (as := [.inl 0, .inl (am_w ((h2 1 d3) - 1))]) (S := []) g (cX2_countEndedC d3 hd3 0 (am_w ((h2 1 d3) - 1)) h2) mi_X2_countEnded lm_X8_114 clX2.1 (Nat.lt_of_lt_of_le (Nat.add_lt_add_left hd3 10) (Nat.le_of_ble_eq_true rfl)) (sh_X2 d3 hd3) dX8_of_101 rfl (by decide) (Nat.le_of_ble_eq_true rfl) rfl (fun v10 h11 => ?_)
      exact am_ireturn g dX8_of_104
    refine am_if (c := a2 = 6) (fun c12 => ?_) (fun c12 => ?_)
    · refine am_swIn (tgt := 105) g dX8_of_16 (by omega) (by omega) (by rw [c12]; rfl) (by decide) ?_
      refine am_aload_n g dX8_of_105 rfl ?_
      refine am_Vi (as := []) (S := []) g (cX2_countOpenRoundsC d3 hd3 h2) mi_X2_countOpenRounds lm_X8_118 clX2.1 (Nat.lt_of_lt_of_le (Nat.add_lt_add_left hd3 10) (Nat.le_of_ble_eq_true rfl)) (sh_X2 d3 hd3) dX8_of_106 rfl (by decide) (Nat.le_of_ble_eq_true rfl) rfl (fun v13 h14 => ?_)
      exact am_ireturn g dX8_of_109
    refine am_swOut (tgt := 110) g dX8_of_16 (by omega) (by decide) ?_
    refine am_iconst g dX8_of_110 (am_il rfl) rfl ?_
    exact am_ireturn g dX8_of_111
  · refine am_iconst g dX8_of_13 (am_il rfl) rfl ?_
    exact am_ireturn g dX8_of_14
def fX8_lucky (a1 : Int) (a2 : Int) (a3 : Int) (h : am_M) : Option (Int × am_M) := am_b (fX0_findDraw a1 h) (fun v1 h2 => am_on v1 10 4 (some ((-1), h2)) (fun d3 => am_b (fX8_isPlayer a2 h2) (fun v4 h5 => if v4 = 0 then some ((-1), h5) else am_b (fX8_isPlayer a3 h5) (fun v6 h7 => if v6 = 0 then some ((-1), h7) else if (h7 5 d3) = 0 then some ((-4), h7) else if 0 ≤ a3 ∧ a3 < 40 then if (h7 8 (40 * d3 + Int.toNat a3)) = 0 then (am_b (fX2_placeOf d3 a2 h7) (fun v8 h9 => if v8 < 0 then some ((-5), h9) else am_b (fX2_hasBegun d3 a2 h9) (fun v10 h11 => if v10 = 0 then (if 0 ≤ v8 ∧ v8 < 16 then am_l (am_up h11 7 (16 * d3 + Int.toNat v8) a3) (fun h12 => if 0 ≤ a3 ∧ a3 < 40 then am_l (am_up h12 8 (40 * d3 + Int.toNat a3) 1) (fun h13 => some (1, h13)) else none) else none) else some ((-7), h11)))) else some ((-3), h7) else none))))
set_option maxRecDepth 10000 in
theorem cX8_luckyC {D : va_G} {a : Nat → ClassId} {ad : Nat → Nat} (a1 : Int) (a2 : Int) (a3 : Int) (h : am_M) : am_C (EX D a ad) yX8_lucky cX8_lucky 6 (some .int) 5 [.inr (some 0), .inl a1, .inl a2, .inl a3] h am_ei (fX8_lucky a1 a2 a3 h) := by
  refine am_ofJ (L := [some (.inr (some 0)), some (.inl a1), some (.inl a2), some (.inl a3), none, none]) (by decide) rfl (Nat.le_of_ble_eq_true rfl) (fun G g => ?_)
  have g : am_Gd (EX D a ad) RX8 cX8_lucky 6 (some .int) 5 G := g
  unfold fX8_lucky
  refine am_aload_n g dX8_lucky_0 rfl ?_
  refine am_getr (q := 0) (a := 1) g clX8 dX8_lucky_1 (Nat.le_of_ble_eq_true rfl) rfl (by decide) rfl (Nat.le_of_ble_eq_true rfl) lf_X8_10 ?_
  refine am_iload_n g dX8_lucky_4 rfl ?_
  refine am_Vr (as := [.inl a1]) (S := []) g (cX0_findDrawC a1 h) mi_X0_findDraw lm_X8_75 clX0.1 (Nat.le_of_ble_eq_true rfl) rfl dX8_lucky_5 rfl (by decide) (Nat.le_of_ble_eq_true rfl) rfl (fun v1 h2 => ?_)
  refine am_astore g dX8_lucky_8 (by decide) ?_
  refine am_aload g dX8_lucky_10 rfl ?_
  refine am_ionull (b := 10) (n := 4) (Lf := fun r_ => [some (.inr (some 0)), some (.inl a1), some (.inl a2), some (.inl a3), some (.inr r_), none]) (tgt := 29) g dX8_lucky_12 (by decide) ?_ (fun d3 hd3 => ?_)
  · refine am_iconst g dX8_lucky_29 (am_il rfl) rfl ?_
    exact am_ireturn g dX8_lucky_30
  · refine am_iload_n g dX8_lucky_15 rfl ?_
    refine am_Si (as := [.inl a2]) (S := []) g (cX8_isPlayerC a2 h2) mi_X8_isPlayer lm_X8_51 dX8_lucky_16 rfl (by decide) (Nat.le_of_ble_eq_true rfl) rfl (fun v4 h5 => ?_)
    refine am_if_eq (tgt := 29) g dX8_lucky_19 (by decide) ?_ ?_
    · refine am_iconst g dX8_lucky_29 (am_il rfl) rfl ?_
      exact am_ireturn g dX8_lucky_30
    · refine am_iload_n g dX8_lucky_22 rfl ?_
      refine am_Si (as := [.inl a3]) (S := []) g (cX8_isPlayerC a3 h5) mi_X8_isPlayer lm_X8_51 dX8_lucky_23 rfl (by decide) (Nat.le_of_ble_eq_true rfl) rfl (fun v6 h7 => ?_)
      refine am_if_ne (tgt := 31) g dX8_lucky_26 (by decide) ?_ ?_
      · refine am_aload g dX8_lucky_31 rfl ?_
        refine am_geti (q := 12) (kd := 5) (ix := d3) g clX2 dX8_lucky_33 (Nat.lt_of_lt_of_le (Nat.add_lt_add_left hd3 10) (Nat.le_of_ble_eq_true rfl)) (sh_X2 d3 hd3) (by decide) rfl lf_X8_79 ?_
        refine am_if_ne (tgt := 42) g dX8_lucky_36 (by decide) ?_ ?_
        · refine am_aload g dX8_lucky_42 rfl ?_
          refine am_getr (q := 2) (a := 22 + d3) g clX2 dX8_lucky_44 (Nat.lt_of_lt_of_le (Nat.add_lt_add_left hd3 10) (Nat.le_of_ble_eq_true rfl)) (sh_X2 d3 hd3) (by decide) rfl (Nat.lt_of_lt_of_le (Nat.add_lt_add_left hd3 22) (Nat.le_of_ble_eq_true rfl)) lf_X8_83 ?_
          refine am_iload_n g dX8_lucky_47 rfl ?_
          refine am_zaload (ix := 40 * d3 + Int.toNat a3) (nI := 40) g dX8_lucky_48 (Nat.lt_of_lt_of_le (Nat.add_lt_add_left hd3 22) (Nat.le_of_ble_eq_true rfl)) (sh_X2_came d3 hd3) rfl rfl ?_
          refine am_if_eq (tgt := 55) g dX8_lucky_49 (by decide) ?_ ?_
          · refine am_aload g dX8_lucky_55 rfl ?_
            refine am_iload_n g dX8_lucky_57 rfl ?_
            refine am_Vi (as := [.inl a2]) (S := []) g (cX2_placeOfC d3 hd3 a2 h7) mi_X2_placeOf lm_X8_122 clX2.1 (Nat.lt_of_lt_of_le (Nat.add_lt_add_left hd3 10) (Nat.le_of_ble_eq_true rfl)) (sh_X2 d3 hd3) dX8_lucky_58 rfl (by decide) (Nat.le_of_ble_eq_true rfl) rfl (fun v8 h9 => ?_)
            refine am_istore g dX8_lucky_61 (by decide) ?_
            refine am_iload g dX8_lucky_63 rfl ?_
            refine am_if_ge (tgt := 71) g dX8_lucky_65 (by decide) ?_ ?_
            · refine am_aload g dX8_lucky_71 rfl ?_
              refine am_iload_n g dX8_lucky_73 rfl ?_
              refine am_Vi (as := [.inl a2]) (S := []) g (cX2_hasBegunC d3 hd3 a2 h9) mi_X2_hasBegun lm_X8_126 clX2.1 (Nat.lt_of_lt_of_le (Nat.add_lt_add_left hd3 10) (Nat.le_of_ble_eq_true rfl)) (sh_X2 d3 hd3) dX8_lucky_74 rfl (by decide) (Nat.le_of_ble_eq_true rfl) rfl (fun v10 h11 => ?_)
              refine am_if_eq (tgt := 83) g dX8_lucky_77 (by decide) ?_ ?_
              · refine am_aload g dX8_lucky_83 rfl ?_
                refine am_getr (q := 1) (a := 18 + d3) g clX2 dX8_lucky_85 (Nat.lt_of_lt_of_le (Nat.add_lt_add_left hd3 10) (Nat.le_of_ble_eq_true rfl)) (sh_X2 d3 hd3) (by decide) rfl (Nat.lt_of_lt_of_le (Nat.add_lt_add_left hd3 18) (Nat.le_of_ble_eq_true rfl)) lf_X8_108 ?_
                refine am_iload g dX8_lucky_88 rfl ?_
                refine am_iload_n g dX8_lucky_90 rfl ?_
                refine am_iastore (ix := 16 * d3 + Int.toNat v8) (nI := 16) g dX8_lucky_91 (Nat.lt_of_lt_of_le (Nat.add_lt_add_left hd3 18) (Nat.le_of_ble_eq_true rfl)) (sh_X2_places d3 hd3) rfl rfl ?_
                refine am_gm (fun h12 => ?_)
                refine am_aload g dX8_lucky_92 rfl ?_
                refine am_getr (q := 2) (a := 22 + d3) g clX2 dX8_lucky_94 (Nat.lt_of_lt_of_le (Nat.add_lt_add_left hd3 10) (Nat.le_of_ble_eq_true rfl)) (sh_X2 d3 hd3) (by decide) rfl (Nat.lt_of_lt_of_le (Nat.add_lt_add_left hd3 22) (Nat.le_of_ble_eq_true rfl)) lf_X8_83 ?_
                refine am_iload_n g dX8_lucky_97 rfl ?_
                refine am_iconst g dX8_lucky_98 (am_il rfl) rfl ?_
                refine am_zastoreB (ix := 40 * d3 + Int.toNat a3) (nI := 40) g dX8_lucky_99 (Nat.lt_of_lt_of_le (Nat.add_lt_add_left hd3 22) (Nat.le_of_ble_eq_true rfl)) (sh_X2_came d3 hd3) rfl rfl (by decide) ?_
                refine am_gm (fun h13 => ?_)
                refine am_iconst g dX8_lucky_100 (am_il rfl) rfl ?_
                exact am_ireturn g dX8_lucky_101
              · refine am_bipush g dX8_lucky_80 (am_il rfl) (am_bi rfl) ?_
                exact am_ireturn g dX8_lucky_82
            · refine am_bipush g dX8_lucky_68 (am_il rfl) (am_bi rfl) ?_
              exact am_ireturn g dX8_lucky_70
          · refine am_bipush g dX8_lucky_52 (am_il rfl) (am_bi rfl) ?_
            exact am_ireturn g dX8_lucky_54
        · refine am_bipush g dX8_lucky_39 (am_il rfl) (am_bi rfl) ?_
          exact am_ireturn g dX8_lucky_41
      · refine am_iconst g dX8_lucky_29 (am_il rfl) rfl ?_
        exact am_ireturn g dX8_lucky_30
def fX8_side (a1 : Int) (a2 : Int) (h : am_M) : Option (Int × am_M) := am_b (fX0_laidWith a1 h) (fun v1 h2 => am_on v1 10 4 (some ((-1), h2)) (fun d3 => am_b (fX8_isSide a2 h2) (fun v4 h5 => if v4 = 0 then some ((-1), h5) else am_b (fX8_numberOf a1 h5) (fun v6 h7 => am_b (fX2_standing d3 v6 a2 h7) (fun v8 h9 => if v8 < 0 then some ((-1), h9) else some (v8, h9))))))
set_option maxRecDepth 10000 in
theorem cX8_sideC {D : va_G} {a : Nat → ClassId} {ad : Nat → Nat} (a1 : Int) (a2 : Int) (h : am_M) : am_C (EX D a ad) yX8_side cX8_side 5 (some .int) 3 [.inr (some 0), .inl a1, .inl a2] h am_ei (fX8_side a1 a2 h) := by
  refine am_ofJ (L := [some (.inr (some 0)), some (.inl a1), some (.inl a2), none, none]) (by decide) rfl (Nat.le_of_ble_eq_true rfl) (fun G g => ?_)
  have g : am_Gd (EX D a ad) RX8 cX8_side 5 (some .int) 3 G := g
  unfold fX8_side
  refine am_aload_n g dX8_side_0 rfl ?_
  refine am_getr (q := 0) (a := 1) g clX8 dX8_side_1 (Nat.le_of_ble_eq_true rfl) rfl (by decide) rfl (Nat.le_of_ble_eq_true rfl) lf_X8_10 ?_
  refine am_iload_n g dX8_side_4 rfl ?_
  refine am_Vr (as := [.inl a1]) (S := []) g (cX0_laidWithC a1 h) mi_X0_laidWith lm_X8_129 clX0.1 (Nat.le_of_ble_eq_true rfl) rfl dX8_side_5 rfl (by decide) (Nat.le_of_ble_eq_true rfl) rfl (fun v1 h2 => ?_)
  refine am_astore_n g dX8_side_8 (by decide) ?_
  refine am_aload_n g dX8_side_9 rfl ?_
  refine am_ionull (b := 10) (n := 4) (Lf := fun r_ => [some (.inr (some 0)), some (.inl a1), some (.inl a2), some (.inr r_), none]) (tgt := 20) g dX8_side_10 (by decide) ?_ (fun d3 hd3 => ?_)
  · refine am_iconst g dX8_side_20 (am_il rfl) rfl ?_
    exact am_ireturn g dX8_side_21
  · refine am_iload_n g dX8_side_13 rfl ?_
    refine am_Si (as := [.inl a2]) (S := []) g (cX8_isSideC a2 h2) mi_X8_isSide lm_X8_132 dX8_side_14 rfl (by decide) (Nat.le_of_ble_eq_true rfl) rfl (fun v4 h5 => ?_)
    refine am_if_ne (tgt := 22) g dX8_side_17 (by decide) ?_ ?_
    · refine am_aload_n g dX8_side_22 rfl ?_
      refine am_iload_n g dX8_side_23 rfl ?_
      refine am_Si (as := [.inl a1]) (S := [.inr (some (10 + d3))]) g (cX8_numberOfC a1 h5) mi_X8_numberOf lm_X8_135 dX8_side_24 rfl (by decide) (Nat.le_of_ble_eq_true rfl) rfl (fun v6 h7 => ?_)
      refine am_iload_n g dX8_side_27 rfl ?_
      refine am_Vi (as := [.inl v6, .inl a2]) (S := []) g (cX2_standingC d3 hd3 v6 a2 h7) mi_X2_standing lm_X8_138 clX2.1 (Nat.lt_of_lt_of_le (Nat.add_lt_add_left hd3 10) (Nat.le_of_ble_eq_true rfl)) (sh_X2 d3 hd3) dX8_side_28 rfl (by decide) (Nat.le_of_ble_eq_true rfl) rfl (fun v8 h9 => ?_)
      refine am_istore g dX8_side_31 (by decide) ?_
      refine am_iload g dX8_side_33 rfl ?_
      refine am_if_ge (tgt := 42) g dX8_side_35 (by decide) ?_ ?_
      · refine am_iload g dX8_side_42 rfl ?_
        exact am_ireturn g dX8_side_44
      · refine am_iconst g dX8_side_38 (am_il rfl) rfl ?_
        refine am_goto (tgt := 44) g dX8_side_39 (by decide) ?_
        exact am_ireturn g dX8_side_44
    · refine am_iconst g dX8_side_20 (am_il rfl) rfl ?_
      exact am_ireturn g dX8_side_21
def fX8_refusalToPlay (a1 : Nat) (a2 : Int) (h : am_M) : Option (Int × am_M) := if 0 ≤ a2 ∧ a2 < 16 then if (h 20 (16 * a1 + Int.toNat a2)) = 0 then (am_b (fX2_isKnown a1 a2 h) (fun v1 h2 => if v1 = 0 then some ((-5), h2) else some (0, h2))) else some ((-6), h) else none
set_option maxRecDepth 10000 in
theorem cX8_refusalToPlayC {D : va_G} {a : Nat → ClassId} {ad : Nat → Nat} (a1 : Nat) (ha1 : a1 < 4) (a2 : Int) (h : am_M) : am_C (EX D a ad) yX8_refusalToPlay cX8_refusalToPlay 2 (some .int) 4 [.inr (some (10 + a1)), .inl a2] h am_ei (fX8_refusalToPlay a1 a2 h) := by
  refine am_ofJ (L := [some (.inr (some (10 + a1))), some (.inl a2)]) (by decide) rfl (Nat.le_of_ble_eq_true rfl) (fun G g => ?_)
  have g : am_Gd (EX D a ad) RX8 cX8_refusalToPlay 2 (some .int) 4 G := g
  unfold fX8_refusalToPlay
  refine am_aload_n g dX8_refusalToPlay_0 rfl ?_
  refine am_getr (q := 3) (a := 26 + a1) g clX2 dX8_refusalToPlay_1 (Nat.lt_of_lt_of_le (Nat.add_lt_add_left ha1 10) (Nat.le_of_ble_eq_true rfl)) (sh_X2 a1 ha1) (by decide) rfl (Nat.lt_of_lt_of_le (Nat.add_lt_add_left ha1 26) (Nat.le_of_ble_eq_true rfl)) lf_X8_162 ?_
  refine am_iload_n g dX8_refusalToPlay_4 rfl ?_
  refine am_iaload (ix := 16 * a1 + Int.toNat a2) (nI := 16) g dX8_refusalToPlay_5 (Nat.lt_of_lt_of_le (Nat.add_lt_add_left ha1 26) (Nat.le_of_ble_eq_true rfl)) (sh_X2_hows a1 ha1) rfl rfl ?_
  refine am_if_eq (tgt := 12) g dX8_refusalToPlay_6 (by decide) ?_ ?_
  · refine am_aload_n g dX8_refusalToPlay_12 rfl ?_
    refine am_iload_n g dX8_refusalToPlay_13 rfl ?_
    refine am_Vi (as := [.inl a2]) (S := []) g (cX2_isKnownC a1 ha1 a2 h) mi_X2_isKnown lm_X8_188 clX2.1 (Nat.lt_of_lt_of_le (Nat.add_lt_add_left ha1 10) (Nat.le_of_ble_eq_true rfl)) (sh_X2 a1 ha1) dX8_refusalToPlay_14 rfl (by decide) (Nat.le_of_ble_eq_true rfl) rfl (fun v1 h2 => ?_)
    refine am_if_eq (tgt := 24) g dX8_refusalToPlay_17 (by decide) ?_ ?_
    · refine am_bipush g dX8_refusalToPlay_24 (am_il rfl) (am_bi rfl) ?_
      exact am_ireturn g dX8_refusalToPlay_26
    · refine am_iconst g dX8_refusalToPlay_20 (am_il rfl) rfl ?_
      refine am_goto (tgt := 26) g dX8_refusalToPlay_21 (by decide) ?_
      exact am_ireturn g dX8_refusalToPlay_26
  · refine am_bipush g dX8_refusalToPlay_9 (am_il rfl) (am_bi rfl) ?_
    exact am_ireturn g dX8_refusalToPlay_11
def fX8_point (a1 : Int) (a2 : Int) (h : am_M) : Option (Int × am_M) := am_b (fX0_laidWith a1 h) (fun v1 h2 => am_on v1 10 4 (some ((-1), h2)) (fun d3 => am_b (fX8_isSide a2 h2) (fun v4 h5 => if v4 = 0 then some ((-1), h5) else am_b (fX8_numberOf a1 h5) (fun v6 h7 => am_b (fX8_refusalToPlay d3 v6 h7) (fun v8 h9 => if v8 = 0 then (if 0 ≤ v6 ∧ v6 < 16 then if (h9 9 (16 * d3 + Int.toNat v6)) < 300 then (am_b (fX7_replay d3 v6 h9) (fun _ h10 => am_b (fX7_take a2 h10) (fun v11 h12 => am_b (fX2_addPoint d3 v6 a2 h12) (fun _ h13 => if v11 = 3 then am_b (fX2_finish d3 v6 3 a2 h13) (fun _ h14 => some (v11, h14)) else some (v11, h13))))) else some ((-2), h9) else none) else some (v8, h9))))))
set_option maxRecDepth 10000 in
theorem cX8_pointC {D : va_G} {a : Nat → ClassId} {ad : Nat → Nat} (a1 : Int) (a2 : Int) (h : am_M) : am_C (EX D a ad) yX8_point cX8_point 7 (some .int) 5 [.inr (some 0), .inl a1, .inl a2] h am_ei (fX8_point a1 a2 h) := by
  refine am_ofJ (L := [some (.inr (some 0)), some (.inl a1), some (.inl a2), none, none, none, none]) (by decide) rfl (Nat.le_of_ble_eq_true rfl) (fun G g => ?_)
  have g : am_Gd (EX D a ad) RX8 cX8_point 7 (some .int) 5 G := g
  unfold fX8_point
  refine am_aload_n g dX8_point_0 rfl ?_
  refine am_getr (q := 0) (a := 1) g clX8 dX8_point_1 (Nat.le_of_ble_eq_true rfl) rfl (by decide) rfl (Nat.le_of_ble_eq_true rfl) lf_X8_10 ?_
  refine am_iload_n g dX8_point_4 rfl ?_
  refine am_Vr (as := [.inl a1]) (S := []) g (cX0_laidWithC a1 h) mi_X0_laidWith lm_X8_129 clX0.1 (Nat.le_of_ble_eq_true rfl) rfl dX8_point_5 rfl (by decide) (Nat.le_of_ble_eq_true rfl) rfl (fun v1 h2 => ?_)
  refine am_astore_n g dX8_point_8 (by decide) ?_
  refine am_aload_n g dX8_point_9 rfl ?_
  refine am_ionull (b := 10) (n := 4) (Lf := fun r_ => [some (.inr (some 0)), some (.inl a1), some (.inl a2), some (.inr r_), none, none, none]) (tgt := 20) g dX8_point_10 (by decide) ?_ (fun d3 hd3 => ?_)
  · refine am_iconst g dX8_point_20 (am_il rfl) rfl ?_
    exact am_ireturn g dX8_point_21
  · refine am_iload_n g dX8_point_13 rfl ?_
    refine am_Si (as := [.inl a2]) (S := []) g (cX8_isSideC a2 h2) mi_X8_isSide lm_X8_132 dX8_point_14 rfl (by decide) (Nat.le_of_ble_eq_true rfl) rfl (fun v4 h5 => ?_)
    refine am_if_ne (tgt := 22) g dX8_point_17 (by decide) ?_ ?_
    · refine am_iload_n g dX8_point_22 rfl ?_
      refine am_Si (as := [.inl a1]) (S := []) g (cX8_numberOfC a1 h5) mi_X8_numberOf lm_X8_135 dX8_point_23 rfl (by decide) (Nat.le_of_ble_eq_true rfl) rfl (fun v6 h7 => ?_)
      refine am_istore g dX8_point_26 (by decide) ?_
      refine am_aload_n g dX8_point_28 rfl ?_
      refine am_iload g dX8_point_29 rfl ?_
      refine am_Si (as := [.inr (some (10 + d3)), .inl v6]) (S := []) g (cX8_refusalToPlayC d3 hd3 v6 h7) mi_X8_refusalToPlay lm_X8_141 dX8_point_31 rfl (by decide) (Nat.le_of_ble_eq_true rfl) rfl (fun v8 h9 => ?_)
      refine am_istore g dX8_point_34 (by decide) ?_
      refine am_iload g dX8_point_36 rfl ?_
      refine am_if_eq (tgt := 44) g dX8_point_38 (by decide) ?_ ?_
      · refine am_aload_n g dX8_point_44 rfl ?_
        refine am_getr (q := 6) (a := 38 + d3) g clX2 dX8_point_45 (Nat.lt_of_lt_of_le (Nat.add_lt_add_left hd3 10) (Nat.le_of_ble_eq_true rfl)) (sh_X2 d3 hd3) (by decide) rfl (Nat.lt_of_lt_of_le (Nat.add_lt_add_left hd3 38) (Nat.le_of_ble_eq_true rfl)) lf_X8_145 ?_
        refine am_iload g dX8_point_48 rfl ?_
        refine am_iaload (ix := 16 * d3 + Int.toNat v6) (nI := 16) g dX8_point_50 (Nat.lt_of_lt_of_le (Nat.add_lt_add_left hd3 38) (Nat.le_of_ble_eq_true rfl)) (sh_X2_points d3 hd3) rfl rfl ?_
        refine am_sipush g dX8_point_51 (am_il rfl) (am_si rfl) ?_
        refine am_icmp_lt (tgt := 60) g dX8_point_54 (by decide) ?_ ?_
        · refine am_aload_n g dX8_point_60 rfl ?_
          refine am_getr (q := 2) (a := 59) g clX8 dX8_point_61 (Nat.le_of_ble_eq_true rfl) rfl (by decide) rfl (Nat.le_of_ble_eq_true rfl) lf_X8_26 ?_
          refine am_aload_n g dX8_point_64 rfl ?_
          refine am_iload g dX8_point_65 rfl ?_
          refine am_Vv (as := [.inr (some (10 + d3)), .inl v6]) (S := []) g (cX7_replayC d3 hd3 v6 h9) mi_X7_replay lm_X8_148 clX7.1 (Nat.le_of_ble_eq_true rfl) rfl dX8_point_67 rfl (by decide) (Nat.le_of_ble_eq_true rfl) rfl (fun _ h10 => ?_)
          refine am_aload_n g dX8_point_70 rfl ?_
          refine am_getr (q := 2) (a := 59) g clX8 dX8_point_71 (Nat.le_of_ble_eq_true rfl) rfl (by decide) rfl (Nat.le_of_ble_eq_true rfl) lf_X8_26 ?_
          refine am_iload_n g dX8_point_74 rfl ?_
          refine am_Vi (as := [.inl a2]) (S := []) g (cX7_takeC a2 h10) mi_X7_take lm_X8_152 clX7.1 (Nat.le_of_ble_eq_true rfl) rfl dX8_point_75 rfl (by decide) (Nat.le_of_ble_eq_true rfl) rfl (fun v11 h12 => ?_)
          refine am_istore g dX8_point_78 (by decide) ?_
          refine am_aload_n g dX8_point_80 rfl ?_
          refine am_iload g dX8_point_81 rfl ?_
          refine am_iload_n g dX8_point_83 rfl ?_
          refine am_Vv (as := [.inl v6, .inl a2]) (S := []) g (cX2_addPointC d3 hd3 v6 a2 h12) mi_X2_addPoint lm_X8_155 clX2.1 (Nat.lt_of_lt_of_le (Nat.add_lt_add_left hd3 10) (Nat.le_of_ble_eq_true rfl)) (sh_X2 d3 hd3) dX8_point_84 rfl (by decide) (Nat.le_of_ble_eq_true rfl) rfl (fun _ h13 => ?_)
          refine am_iload g dX8_point_87 rfl ?_
          refine am_iconst g dX8_point_89 (am_il rfl) rfl ?_
          refine am_icmp_ne (tgt := 101) g dX8_point_90 (by decide) ?_ ?_
          · refine am_iload g dX8_point_101 rfl ?_
            exact am_ireturn g dX8_point_103
          · refine am_aload_n g dX8_point_93 rfl ?_
            refine am_iload g dX8_point_94 rfl ?_
            refine am_iconst g dX8_point_96 (am_il rfl) rfl ?_
            refine am_iload_n g dX8_point_97 rfl ?_
            refine am_Vv (as := [.inl v6, .inl 3, .inl a2]) (S := []) g (cX2_finishC d3 hd3 v6 3 a2 h13) mi_X2_finish lm_X8_158 clX2.1 (Nat.lt_of_lt_of_le (Nat.add_lt_add_left hd3 10) (Nat.le_of_ble_eq_true rfl)) (sh_X2 d3 hd3) dX8_point_98 rfl (by decide) (Nat.le_of_ble_eq_true rfl) rfl (fun _ h14 => ?_)
            refine am_iload g dX8_point_101 rfl ?_
            exact am_ireturn g dX8_point_103
        · refine am_bipush g dX8_point_57 (am_il rfl) (am_bi rfl) ?_
          exact am_ireturn g dX8_point_59
      · refine am_iload g dX8_point_41 rfl ?_
        exact am_ireturn g dX8_point_43
    · refine am_iconst g dX8_point_20 (am_il rfl) rfl ?_
      exact am_ireturn g dX8_point_21
def fX8_back_92 (l2 : Nat) (l3 : Int) (h : am_M) : Option (Int × am_M) := if 0 ≤ l3 ∧ l3 < 16 then if 0 ≤ l3 ∧ l3 < 16 then am_l (am_up h 9 (16 * l2 + Int.toNat l3) (am_w ((h 9 (16 * l2 + Int.toNat l3)) - 1))) (fun h6 => if 0 ≤ l3 ∧ l3 < 16 then some (h6 9 (16 * l2 + Int.toNat l3), h6) else none) else none else none
set_option maxRecDepth 10000 in
theorem jX8_back_92 {D : va_G} {a : Nat → ClassId} {ad : Nat → Nat} {G : am_G} (g : am_Gd (EX D a ad) RX8 cX8_back 5 (some .int) 3 G) : ∀ (l2 : Nat), l2 < 4 → ∀ (l3 : Int), ∀ h : am_M, am_J (EX D a ad) G 5 am_ei 92 [none, none, some (.inr (some (10 + l2))), some (.inl l3), none] [] h (fX8_back_92 l2 l3 h) := by
  intro l2 hl2 l3 h
  unfold fX8_back_92
  refine am_aload_n g dX8_back_92 rfl ?_
  refine am_getr (q := 6) (a := 38 + l2) g clX2 dX8_back_93 (Nat.lt_of_lt_of_le (Nat.add_lt_add_left hl2 10) (Nat.le_of_ble_eq_true rfl)) (sh_X2 l2 hl2) (by decide) rfl (Nat.lt_of_lt_of_le (Nat.add_lt_add_left hl2 38) (Nat.le_of_ble_eq_true rfl)) lf_X8_145 ?_
  refine am_iload_n g dX8_back_96 rfl ?_
  refine am_dup2 g dX8_back_97 ?_
  refine am_iaload (ix := 16 * l2 + Int.toNat l3) (nI := 16) g dX8_back_98 (Nat.lt_of_lt_of_le (Nat.add_lt_add_left hl2 38) (Nat.le_of_ble_eq_true rfl)) (sh_X2_points l2 hl2) rfl rfl ?_
  refine am_iconst g dX8_back_99 (am_il rfl) rfl ?_
  refine am_isub g dX8_back_100 ?_
  refine am_iastore (ix := 16 * l2 + Int.toNat l3) (nI := 16) g dX8_back_101 (Nat.lt_of_lt_of_le (Nat.add_lt_add_left hl2 38) (Nat.le_of_ble_eq_true rfl)) (sh_X2_points l2 hl2) rfl rfl ?_
  refine am_gm (fun h6 => ?_)
  refine am_aload_n g dX8_back_102 rfl ?_
  refine am_getr (q := 6) (a := 38 + l2) g clX2 dX8_back_103 (Nat.lt_of_lt_of_le (Nat.add_lt_add_left hl2 10) (Nat.le_of_ble_eq_true rfl)) (sh_X2 l2 hl2) (by decide) rfl (Nat.lt_of_lt_of_le (Nat.add_lt_add_left hl2 38) (Nat.le_of_ble_eq_true rfl)) lf_X8_145 ?_
  refine am_iload_n g dX8_back_106 rfl ?_
  refine am_iaload (ix := 16 * l2 + Int.toNat l3) (nI := 16) g dX8_back_107 (Nat.lt_of_lt_of_le (Nat.add_lt_add_left hl2 38) (Nat.le_of_ble_eq_true rfl)) (sh_X2_points l2 hl2) rfl rfl ?_
  exact am_ireturn g dX8_back_108
def fX8_back_82 (l2 : Nat) (l3 : Int) (l4 : Int) (h : am_M) : Option (Int × am_M) := if l4 = 0 then fX8_back_92 l2 l3 h else am_b (fX2_reopen l2 l3 h) (fun _ h7 => fX8_back_92 l2 l3 h7)
set_option maxRecDepth 10000 in
theorem jX8_back_82 {D : va_G} {a : Nat → ClassId} {ad : Nat → Nat} {G : am_G} (g : am_Gd (EX D a ad) RX8 cX8_back 5 (some .int) 3 G) : ∀ (l2 : Nat), l2 < 4 → ∀ (l3 : Int), ∀ (l4 : Int), ∀ h : am_M, am_J (EX D a ad) G 5 am_ei 82 [none, none, some (.inr (some (10 + l2))), some (.inl l3), some (.inl l4)] [] h (fX8_back_82 l2 l3 l4 h) := by
  intro l2 hl2 l3 l4 h
  unfold fX8_back_82
  refine am_iload g dX8_back_82 rfl ?_
  refine am_if_eq (tgt := 92) g dX8_back_84 (by decide) ?_ ?_
  · refine am_drop 4 ?_
    exact (jX8_back_92 g) l2 hl2 l3 h
  · refine am_aload_n g dX8_back_87 rfl ?_
    refine am_iload_n g dX8_back_88 rfl ?_
    refine am_Vv (as := [.inl l3]) (S := []) g (cX2_reopenC l2 hl2 l3 h) mi_X2_reopen lm_X8_168 clX2.1 (Nat.lt_of_lt_of_le (Nat.add_lt_add_left hl2 10) (Nat.le_of_ble_eq_true rfl)) (sh_X2 l2 hl2) dX8_back_89 rfl (by decide) (Nat.le_of_ble_eq_true rfl) rfl (fun _ h7 => ?_)
    refine am_drop 4 ?_
    exact (jX8_back_92 g) l2 hl2 l3 h7
def fX8_back_54 (l2 : Nat) (l3 : Int) (l4 : Int) (h : am_M) : Option (Int × am_M) := if 0 ≤ l3 ∧ l3 < 16 then if (h 9 (16 * l2 + Int.toNat l3)) = 0 then some ((-5), h) else if l4 = 0 then fX8_back_82 l2 l3 l4 h else am_b (fX2_nextGoesOn l2 l3 h) (fun v8 h9 => if v8 = 0 then fX8_back_82 l2 l3 l4 h9 else some ((-7), h9)) else none
set_option maxRecDepth 10000 in
theorem jX8_back_54 {D : va_G} {a : Nat → ClassId} {ad : Nat → Nat} {G : am_G} (g : am_Gd (EX D a ad) RX8 cX8_back 5 (some .int) 3 G) : ∀ (l2 : Nat), l2 < 4 → ∀ (l3 : Int), ∀ (l4 : Int), ∀ h : am_M, am_J (EX D a ad) G 5 am_ei 54 [none, none, some (.inr (some (10 + l2))), some (.inl l3), some (.inl l4)] [] h (fX8_back_54 l2 l3 l4 h) := by
  intro l2 hl2 l3 l4 h
  unfold fX8_back_54
  refine am_aload_n g dX8_back_54 rfl ?_
  refine am_getr (q := 6) (a := 38 + l2) g clX2 dX8_back_55 (Nat.lt_of_lt_of_le (Nat.add_lt_add_left hl2 10) (Nat.le_of_ble_eq_true rfl)) (sh_X2 l2 hl2) (by decide) rfl (Nat.lt_of_lt_of_le (Nat.add_lt_add_left hl2 38) (Nat.le_of_ble_eq_true rfl)) lf_X8_145 ?_
  refine am_iload_n g dX8_back_58 rfl ?_
  refine am_iaload (ix := 16 * l2 + Int.toNat l3) (nI := 16) g dX8_back_59 (Nat.lt_of_lt_of_le (Nat.add_lt_add_left hl2 38) (Nat.le_of_ble_eq_true rfl)) (sh_X2_points l2 hl2) rfl rfl ?_
  refine am_if_ne (tgt := 66) g dX8_back_60 (by decide) ?_ ?_
  · refine am_iload g dX8_back_66 rfl ?_
    refine am_if_eq (tgt := 82) g dX8_back_68 (by decide) ?_ ?_
    · exact (jX8_back_82 g) l2 hl2 l3 l4 h
    · refine am_aload_n g dX8_back_71 rfl ?_
      refine am_iload_n g dX8_back_72 rfl ?_
      refine am_Vi (as := [.inl l3]) (S := []) g (cX2_nextGoesOnC l2 hl2 l3 h) mi_X2_nextGoesOn lm_X8_165 clX2.1 (Nat.lt_of_lt_of_le (Nat.add_lt_add_left hl2 10) (Nat.le_of_ble_eq_true rfl)) (sh_X2 l2 hl2) dX8_back_73 rfl (by decide) (Nat.le_of_ble_eq_true rfl) rfl (fun v8 h9 => ?_)
      refine am_if_eq (tgt := 82) g dX8_back_76 (by decide) ?_ ?_
      · exact (jX8_back_82 g) l2 hl2 l3 l4 h9
      · refine am_bipush g dX8_back_79 (am_il rfl) (am_bi rfl) ?_
        exact am_ireturn g dX8_back_81
  · refine am_bipush g dX8_back_63 (am_il rfl) (am_bi rfl) ?_
    exact am_ireturn g dX8_back_65
def fX8_back_34 (l2 : Nat) (l3 : Int) (s0 : Int) (h : am_M) : Option (Int × am_M) := if s0 = 0 then fX8_back_54 l2 l3 s0 h else if 0 ≤ l3 ∧ l3 < 16 then if (h 20 (16 * l2 + Int.toNat l3)) = 3 then fX8_back_54 l2 l3 s0 h else some ((-6), h) else none
set_option maxRecDepth 10000 in
theorem jX8_back_34 {D : va_G} {a : Nat → ClassId} {ad : Nat → Nat} {G : am_G} (g : am_Gd (EX D a ad) RX8 cX8_back 5 (some .int) 3 G) : ∀ (l2 : Nat), l2 < 4 → ∀ (l3 : Int), ∀ (s0 : Int), ∀ h : am_M, am_J (EX D a ad) G 5 am_ei 34 [none, none, some (.inr (some (10 + l2))), some (.inl l3), none] [.inl s0] h (fX8_back_34 l2 l3 s0 h) := by
  intro l2 hl2 l3 s0 h
  unfold fX8_back_34
  refine am_istore g dX8_back_34 (by decide) ?_
  refine am_iload g dX8_back_36 rfl ?_
  refine am_if_eq (tgt := 54) g dX8_back_38 (by decide) ?_ ?_
  · exact (jX8_back_54 g) l2 hl2 l3 s0 h
  · refine am_aload_n g dX8_back_41 rfl ?_
    refine am_getr (q := 3) (a := 26 + l2) g clX2 dX8_back_42 (Nat.lt_of_lt_of_le (Nat.add_lt_add_left hl2 10) (Nat.le_of_ble_eq_true rfl)) (sh_X2 l2 hl2) (by decide) rfl (Nat.lt_of_lt_of_le (Nat.add_lt_add_left hl2 26) (Nat.le_of_ble_eq_true rfl)) lf_X8_162 ?_
    refine am_iload_n g dX8_back_45 rfl ?_
    refine am_iaload (ix := 16 * l2 + Int.toNat l3) (nI := 16) g dX8_back_46 (Nat.lt_of_lt_of_le (Nat.add_lt_add_left hl2 26) (Nat.le_of_ble_eq_true rfl)) (sh_X2_hows l2 hl2) rfl rfl ?_
    refine am_iconst g dX8_back_47 (am_il rfl) rfl ?_
    refine am_icmp_eq (tgt := 54) g dX8_back_48 (by decide) ?_ ?_
    · exact (jX8_back_54 g) l2 hl2 l3 s0 h
    · refine am_bipush g dX8_back_51 (am_il rfl) (am_bi rfl) ?_
      exact am_ireturn g dX8_back_53
def fX8_back (a1 : Int) (h : am_M) : Option (Int × am_M) := am_b (fX0_laidWith a1 h) (fun v1 h2 => am_on v1 10 4 (some ((-1), h2)) (fun d3 => am_b (fX8_numberOf a1 h2) (fun v4 h5 => if 0 ≤ v4 ∧ v4 < 16 then if (h5 20 (16 * d3 + Int.toNat v4)) = 0 then fX8_back_34 d3 v4 0 h5 else fX8_back_34 d3 v4 1 h5 else none)))
set_option maxRecDepth 10000 in
theorem cX8_backC {D : va_G} {a : Nat → ClassId} {ad : Nat → Nat} (a1 : Int) (h : am_M) : am_C (EX D a ad) yX8_back cX8_back 5 (some .int) 3 [.inr (some 0), .inl a1] h am_ei (fX8_back a1 h) := by
  refine am_ofJ (L := [some (.inr (some 0)), some (.inl a1), none, none, none]) (by decide) rfl (Nat.le_of_ble_eq_true rfl) (fun G g => ?_)
  have g : am_Gd (EX D a ad) RX8 cX8_back 5 (some .int) 3 G := g
  unfold fX8_back
  refine am_aload_n g dX8_back_0 rfl ?_
  refine am_getr (q := 0) (a := 1) g clX8 dX8_back_1 (Nat.le_of_ble_eq_true rfl) rfl (by decide) rfl (Nat.le_of_ble_eq_true rfl) lf_X8_10 ?_
  refine am_iload_n g dX8_back_4 rfl ?_
  refine am_Vr (as := [.inl a1]) (S := []) g (cX0_laidWithC a1 h) mi_X0_laidWith lm_X8_129 clX0.1 (Nat.le_of_ble_eq_true rfl) rfl dX8_back_5 rfl (by decide) (Nat.le_of_ble_eq_true rfl) rfl (fun v1 h2 => ?_)
  refine am_astore_n g dX8_back_8 (by decide) ?_
  refine am_aload_n g dX8_back_9 rfl ?_
  refine am_iononnull (b := 10) (n := 4) (Lf := fun r_ => [some (.inr (some 0)), some (.inl a1), some (.inr r_), none, none]) (tgt := 15) g dX8_back_10 (by decide) (fun d3 hd3 => ?_) ?_
  · refine am_iload_n g dX8_back_15 rfl ?_
    refine am_Si (as := [.inl a1]) (S := []) g (cX8_numberOfC a1 h2) mi_X8_numberOf lm_X8_135 dX8_back_16 rfl (by decide) (Nat.le_of_ble_eq_true rfl) rfl (fun v4 h5 => ?_)
    refine am_istore_n g dX8_back_19 (by decide) ?_
    refine am_aload_n g dX8_back_20 rfl ?_
    refine am_getr (q := 3) (a := 26 + d3) g clX2 dX8_back_21 (Nat.lt_of_lt_of_le (Nat.add_lt_add_left hd3 10) (Nat.le_of_ble_eq_true rfl)) (sh_X2 d3 hd3) (by decide) rfl (Nat.lt_of_lt_of_le (Nat.add_lt_add_left hd3 26) (Nat.le_of_ble_eq_true rfl)) lf_X8_162 ?_
    refine am_iload_n g dX8_back_24 rfl ?_
    refine am_iaload (ix := 16 * d3 + Int.toNat v4) (nI := 16) g dX8_back_25 (Nat.lt_of_lt_of_le (Nat.add_lt_add_left hd3 26) (Nat.le_of_ble_eq_true rfl)) (sh_X2_hows d3 hd3) rfl rfl ?_
    refine am_if_eq (tgt := 33) g dX8_back_26 (by decide) ?_ ?_
    · refine am_iconst g dX8_back_33 (am_il rfl) rfl ?_
      refine am_drop 0 ?_
      refine am_drop 1 ?_
      exact (jX8_back_34 g) d3 hd3 v4 0 h5
    · refine am_iconst g dX8_back_29 (am_il rfl) rfl ?_
      refine am_goto (tgt := 34) g dX8_back_30 (by decide) ?_
      refine am_drop 0 ?_
      refine am_drop 1 ?_
      exact (jX8_back_34 g) d3 hd3 v4 1 h5
  · refine am_iconst g dX8_back_13 (am_il rfl) rfl ?_
    exact am_ireturn g dX8_back_14
def fX8_walk (a1 : Int) (a2 : Int) (h : am_M) : Option (Int × am_M) := am_b (fX0_laidWith a1 h) (fun v1 h2 => am_on v1 10 4 (some ((-1), h2)) (fun d3 => am_b (fX8_isSide a2 h2) (fun v4 h5 => if v4 = 0 then some ((-1), h5) else am_b (fX8_numberOf a1 h5) (fun v6 h7 => am_b (fX8_refusalToPlay d3 v6 h7) (fun v8 h9 => if v8 = 0 then (if 0 ≤ v6 ∧ v6 < 16 then if (h9 9 (16 * d3 + Int.toNat v6)) ≤ 0 then am_b (fX2_finish d3 v6 4 a2 h9) (fun _ h10 => some (1, h10)) else some ((-4), h9) else none) else some (v8, h9))))))
set_option maxRecDepth 10000 in
theorem cX8_walkC {D : va_G} {a : Nat → ClassId} {ad : Nat → Nat} (a1 : Int) (a2 : Int) (h : am_M) : am_C (EX D a ad) yX8_walk cX8_walk 6 (some .int) 5 [.inr (some 0), .inl a1, .inl a2] h am_ei (fX8_walk a1 a2 h) := by
  refine am_ofJ (L := [some (.inr (some 0)), some (.inl a1), some (.inl a2), none, none, none]) (by decide) rfl (Nat.le_of_ble_eq_true rfl) (fun G g => ?_)
  have g : am_Gd (EX D a ad) RX8 cX8_walk 6 (some .int) 5 G := g
  unfold fX8_walk
  refine am_aload_n g dX8_walk_0 rfl ?_
  refine am_getr (q := 0) (a := 1) g clX8 dX8_walk_1 (Nat.le_of_ble_eq_true rfl) rfl (by decide) rfl (Nat.le_of_ble_eq_true rfl) lf_X8_10 ?_
  refine am_iload_n g dX8_walk_4 rfl ?_
  refine am_Vr (as := [.inl a1]) (S := []) g (cX0_laidWithC a1 h) mi_X0_laidWith lm_X8_129 clX0.1 (Nat.le_of_ble_eq_true rfl) rfl dX8_walk_5 rfl (by decide) (Nat.le_of_ble_eq_true rfl) rfl (fun v1 h2 => ?_)
  refine am_astore_n g dX8_walk_8 (by decide) ?_
  refine am_aload_n g dX8_walk_9 rfl ?_
  refine am_ionull (b := 10) (n := 4) (Lf := fun r_ => [some (.inr (some 0)), some (.inl a1), some (.inl a2), some (.inr r_), none, none]) (tgt := 20) g dX8_walk_10 (by decide) ?_ (fun d3 hd3 => ?_)
  · refine am_iconst g dX8_walk_20 (am_il rfl) rfl ?_
    exact am_ireturn g dX8_walk_21
  · refine am_iload_n g dX8_walk_13 rfl ?_
    refine am_Si (as := [.inl a2]) (S := []) g (cX8_isSideC a2 h2) mi_X8_isSide lm_X8_132 dX8_walk_14 rfl (by decide) (Nat.le_of_ble_eq_true rfl) rfl (fun v4 h5 => ?_)
    refine am_if_ne (tgt := 22) g dX8_walk_17 (by decide) ?_ ?_
    · refine am_iload_n g dX8_walk_22 rfl ?_
      refine am_Si (as := [.inl a1]) (S := []) g (cX8_numberOfC a1 h5) mi_X8_numberOf lm_X8_135 dX8_walk_23 rfl (by decide) (Nat.le_of_ble_eq_true rfl) rfl (fun v6 h7 => ?_)
      refine am_istore g dX8_walk_26 (by decide) ?_
      refine am_aload_n g dX8_walk_28 rfl ?_
      refine am_iload g dX8_walk_29 rfl ?_
      refine am_Si (as := [.inr (some (10 + d3)), .inl v6]) (S := []) g (cX8_refusalToPlayC d3 hd3 v6 h7) mi_X8_refusalToPlay lm_X8_141 dX8_walk_31 rfl (by decide) (Nat.le_of_ble_eq_true rfl) rfl (fun v8 h9 => ?_)
      refine am_istore g dX8_walk_34 (by decide) ?_
      refine am_iload g dX8_walk_36 rfl ?_
      refine am_if_eq (tgt := 44) g dX8_walk_38 (by decide) ?_ ?_
      · refine am_aload_n g dX8_walk_44 rfl ?_
        refine am_getr (q := 6) (a := 38 + d3) g clX2 dX8_walk_45 (Nat.lt_of_lt_of_le (Nat.add_lt_add_left hd3 10) (Nat.le_of_ble_eq_true rfl)) (sh_X2 d3 hd3) (by decide) rfl (Nat.lt_of_lt_of_le (Nat.add_lt_add_left hd3 38) (Nat.le_of_ble_eq_true rfl)) lf_X8_145 ?_
        refine am_iload g dX8_walk_48 rfl ?_
        refine am_iaload (ix := 16 * d3 + Int.toNat v6) (nI := 16) g dX8_walk_50 (Nat.lt_of_lt_of_le (Nat.add_lt_add_left hd3 38) (Nat.le_of_ble_eq_true rfl)) (sh_X2_points d3 hd3) rfl rfl ?_
        refine am_if_le (tgt := 57) g dX8_walk_51 (by decide) ?_ ?_
        · refine am_aload_n g dX8_walk_57 rfl ?_
          refine am_iload g dX8_walk_58 rfl ?_
          refine am_iconst g dX8_walk_60 (am_il rfl) rfl ?_
          refine am_iload_n g dX8_walk_61 rfl ?_
          refine am_Vv (as := [.inl v6, .inl 4, .inl a2]) (S := []) g (cX2_finishC d3 hd3 v6 4 a2 h9) mi_X2_finish lm_X8_158 clX2.1 (Nat.lt_of_lt_of_le (Nat.add_lt_add_left hd3 10) (Nat.le_of_ble_eq_true rfl)) (sh_X2 d3 hd3) dX8_walk_62 rfl (by decide) (Nat.le_of_ble_eq_true rfl) rfl (fun _ h10 => ?_)
          refine am_iconst g dX8_walk_65 (am_il rfl) rfl ?_
          exact am_ireturn g dX8_walk_66
        · refine am_bipush g dX8_walk_54 (am_il rfl) (am_bi rfl) ?_
          exact am_ireturn g dX8_walk_56
      · refine am_iload g dX8_walk_41 rfl ?_
        exact am_ireturn g dX8_walk_43
    · refine am_iconst g dX8_walk_20 (am_il rfl) rfl ?_
      exact am_ireturn g dX8_walk_21
def fX8_retire (a1 : Int) (a2 : Int) (h : am_M) : Option (Int × am_M) := am_b (fX0_laidWith a1 h) (fun v1 h2 => am_on v1 10 4 (some ((-1), h2)) (fun d3 => am_b (fX8_isSide a2 h2) (fun v4 h5 => if v4 = 0 then some ((-1), h5) else am_b (fX8_numberOf a1 h5) (fun v6 h7 => am_b (fX8_refusalToPlay d3 v6 h7) (fun v8 h9 => if v8 = 0 then (if 0 ≤ v6 ∧ v6 < 16 then if (h9 9 (16 * d3 + Int.toNat v6)) = 0 then some ((-4), h9) else am_b (fX2_finish d3 v6 5 (am_w (1 - a2)) h9) (fun _ h10 => some (1, h10)) else none) else some (v8, h9))))))
set_option maxRecDepth 10000 in
theorem cX8_retireC {D : va_G} {a : Nat → ClassId} {ad : Nat → Nat} (a1 : Int) (a2 : Int) (h : am_M) : am_C (EX D a ad) yX8_retire cX8_retire 6 (some .int) 5 [.inr (some 0), .inl a1, .inl a2] h am_ei (fX8_retire a1 a2 h) := by
  refine am_ofJ (L := [some (.inr (some 0)), some (.inl a1), some (.inl a2), none, none, none]) (by decide) rfl (Nat.le_of_ble_eq_true rfl) (fun G g => ?_)
  have g : am_Gd (EX D a ad) RX8 cX8_retire 6 (some .int) 5 G := g
  unfold fX8_retire
  refine am_aload_n g dX8_retire_0 rfl ?_
  refine am_getr (q := 0) (a := 1) g clX8 dX8_retire_1 (Nat.le_of_ble_eq_true rfl) rfl (by decide) rfl (Nat.le_of_ble_eq_true rfl) lf_X8_10 ?_
  refine am_iload_n g dX8_retire_4 rfl ?_
  refine am_Vr (as := [.inl a1]) (S := []) g (cX0_laidWithC a1 h) mi_X0_laidWith lm_X8_129 clX0.1 (Nat.le_of_ble_eq_true rfl) rfl dX8_retire_5 rfl (by decide) (Nat.le_of_ble_eq_true rfl) rfl (fun v1 h2 => ?_)
  refine am_astore_n g dX8_retire_8 (by decide) ?_
  refine am_aload_n g dX8_retire_9 rfl ?_
  refine am_ionull (b := 10) (n := 4) (Lf := fun r_ => [some (.inr (some 0)), some (.inl a1), some (.inl a2), some (.inr r_), none, none]) (tgt := 20) g dX8_retire_10 (by decide) ?_ (fun d3 hd3 => ?_)
  · refine am_iconst g dX8_retire_20 (am_il rfl) rfl ?_
    exact am_ireturn g dX8_retire_21
  · refine am_iload_n g dX8_retire_13 rfl ?_
    refine am_Si (as := [.inl a2]) (S := []) g (cX8_isSideC a2 h2) mi_X8_isSide lm_X8_132 dX8_retire_14 rfl (by decide) (Nat.le_of_ble_eq_true rfl) rfl (fun v4 h5 => ?_)
    refine am_if_ne (tgt := 22) g dX8_retire_17 (by decide) ?_ ?_
    · refine am_iload_n g dX8_retire_22 rfl ?_
      refine am_Si (as := [.inl a1]) (S := []) g (cX8_numberOfC a1 h5) mi_X8_numberOf lm_X8_135 dX8_retire_23 rfl (by decide) (Nat.le_of_ble_eq_true rfl) rfl (fun v6 h7 => ?_)
      refine am_istore g dX8_retire_26 (by decide) ?_
      refine am_aload_n g dX8_retire_28 rfl ?_
      refine am_iload g dX8_retire_29 rfl ?_
      refine am_Si (as := [.inr (some (10 + d3)), .inl v6]) (S := []) g (cX8_refusalToPlayC d3 hd3 v6 h7) mi_X8_refusalToPlay lm_X8_141 dX8_retire_31 rfl (by decide) (Nat.le_of_ble_eq_true rfl) rfl (fun v8 h9 => ?_)
      refine am_istore g dX8_retire_34 (by decide) ?_
      refine am_iload g dX8_retire_36 rfl ?_
      refine am_if_eq (tgt := 44) g dX8_retire_38 (by decide) ?_ ?_
      · refine am_aload_n g dX8_retire_44 rfl ?_
        refine am_getr (q := 6) (a := 38 + d3) g clX2 dX8_retire_45 (Nat.lt_of_lt_of_le (Nat.add_lt_add_left hd3 10) (Nat.le_of_ble_eq_true rfl)) (sh_X2 d3 hd3) (by decide) rfl (Nat.lt_of_lt_of_le (Nat.add_lt_add_left hd3 38) (Nat.le_of_ble_eq_true rfl)) lf_X8_145 ?_
        refine am_iload g dX8_retire_48 rfl ?_
        refine am_iaload (ix := 16 * d3 + Int.toNat v6) (nI := 16) g dX8_retire_50 (Nat.lt_of_lt_of_le (Nat.add_lt_add_left hd3 38) (Nat.le_of_ble_eq_true rfl)) (sh_X2_points d3 hd3) rfl rfl ?_
        refine am_if_ne (tgt := 57) g dX8_retire_51 (by decide) ?_ ?_
        · refine am_aload_n g dX8_retire_57 rfl ?_
          refine am_iload g dX8_retire_58 rfl ?_
          refine am_iconst g dX8_retire_60 (am_il rfl) rfl ?_
          refine am_iconst g dX8_retire_61 (am_il rfl) rfl ?_
          refine am_iload_n g dX8_retire_62 rfl ?_
          refine am_isub g dX8_retire_63 ?_
          refine am_Vv (as := [.inl v6, .inl 5, .inl (am_w (1 - a2))]) (S := []) g (cX2_finishC d3 hd3 v6 5 (am_w (1 - a2)) h9) mi_X2_finish lm_X8_158 clX2.1 (Nat.lt_of_lt_of_le (Nat.add_lt_add_left hd3 10) (Nat.le_of_ble_eq_true rfl)) (sh_X2 d3 hd3) dX8_retire_64 rfl (by decide) (Nat.le_of_ble_eq_true rfl) rfl (fun _ h10 => ?_)
          refine am_iconst g dX8_retire_67 (am_il rfl) rfl ?_
          exact am_ireturn g dX8_retire_68
        · refine am_bipush g dX8_retire_54 (am_il rfl) (am_bi rfl) ?_
          exact am_ireturn g dX8_retire_56
      · refine am_iload g dX8_retire_41 rfl ?_
        exact am_ireturn g dX8_retire_43
    · refine am_iconst g dX8_retire_20 (am_il rfl) rfl ?_
      exact am_ireturn g dX8_retire_21
def fX8_undo_43 (l2 : Nat) (l3 : Int) (h : am_M) : Option (Int × am_M) := am_b (fX2_nextGoesOn l2 l3 h) (fun v6 h7 => if v6 = 0 then am_b (fX2_reopen l2 l3 h7) (fun _ h8 => some (1, h8)) else some ((-7), h7))
set_option maxRecDepth 10000 in
theorem jX8_undo_43 {D : va_G} {a : Nat → ClassId} {ad : Nat → Nat} {G : am_G} (g : am_Gd (EX D a ad) RX8 cX8_undo 4 (some .int) 3 G) : ∀ (l2 : Nat), l2 < 4 → ∀ (l3 : Int), ∀ h : am_M, am_J (EX D a ad) G 4 am_ei 43 [none, none, some (.inr (some (10 + l2))), some (.inl l3)] [] h (fX8_undo_43 l2 l3 h) := by
  intro l2 hl2 l3 h
  unfold fX8_undo_43
  refine am_aload_n g dX8_undo_43 rfl ?_
  refine am_iload_n g dX8_undo_44 rfl ?_
  refine am_Vi (as := [.inl l3]) (S := []) g (cX2_nextGoesOnC l2 hl2 l3 h) mi_X2_nextGoesOn lm_X8_165 clX2.1 (Nat.lt_of_lt_of_le (Nat.add_lt_add_left hl2 10) (Nat.le_of_ble_eq_true rfl)) (sh_X2 l2 hl2) dX8_undo_45 rfl (by decide) (Nat.le_of_ble_eq_true rfl) rfl (fun v6 h7 => ?_)
  refine am_if_eq (tgt := 54) g dX8_undo_48 (by decide) ?_ ?_
  · refine am_aload_n g dX8_undo_54 rfl ?_
    refine am_iload_n g dX8_undo_55 rfl ?_
    refine am_Vv (as := [.inl l3]) (S := []) g (cX2_reopenC l2 hl2 l3 h7) mi_X2_reopen lm_X8_168 clX2.1 (Nat.lt_of_lt_of_le (Nat.add_lt_add_left hl2 10) (Nat.le_of_ble_eq_true rfl)) (sh_X2 l2 hl2) dX8_undo_56 rfl (by decide) (Nat.le_of_ble_eq_true rfl) rfl (fun _ h8 => ?_)
    refine am_iconst g dX8_undo_59 (am_il rfl) rfl ?_
    exact am_ireturn g dX8_undo_60
  · refine am_bipush g dX8_undo_51 (am_il rfl) (am_bi rfl) ?_
    exact am_ireturn g dX8_undo_53
def fX8_undo (a1 : Int) (h : am_M) : Option (Int × am_M) := am_b (fX0_laidWith a1 h) (fun v1 h2 => am_on v1 10 4 (some ((-1), h2)) (fun d3 => am_b (fX8_numberOf a1 h2) (fun v4 h5 => if 0 ≤ v4 ∧ v4 < 16 then if (h5 20 (16 * d3 + Int.toNat v4)) = 4 then fX8_undo_43 d3 v4 h5 else if 0 ≤ v4 ∧ v4 < 16 then if (h5 20 (16 * d3 + Int.toNat v4)) = 5 then fX8_undo_43 d3 v4 h5 else some ((-6), h5) else none else none)))
set_option maxRecDepth 10000 in
theorem cX8_undoC {D : va_G} {a : Nat → ClassId} {ad : Nat → Nat} (a1 : Int) (h : am_M) : am_C (EX D a ad) yX8_undo cX8_undo 4 (some .int) 3 [.inr (some 0), .inl a1] h am_ei (fX8_undo a1 h) := by
  refine am_ofJ (L := [some (.inr (some 0)), some (.inl a1), none, none]) (by decide) rfl (Nat.le_of_ble_eq_true rfl) (fun G g => ?_)
  have g : am_Gd (EX D a ad) RX8 cX8_undo 4 (some .int) 3 G := g
  unfold fX8_undo
  refine am_aload_n g dX8_undo_0 rfl ?_
  refine am_getr (q := 0) (a := 1) g clX8 dX8_undo_1 (Nat.le_of_ble_eq_true rfl) rfl (by decide) rfl (Nat.le_of_ble_eq_true rfl) lf_X8_10 ?_
  refine am_iload_n g dX8_undo_4 rfl ?_
  refine am_Vr (as := [.inl a1]) (S := []) g (cX0_laidWithC a1 h) mi_X0_laidWith lm_X8_129 clX0.1 (Nat.le_of_ble_eq_true rfl) rfl dX8_undo_5 rfl (by decide) (Nat.le_of_ble_eq_true rfl) rfl (fun v1 h2 => ?_)
  refine am_astore_n g dX8_undo_8 (by decide) ?_
  refine am_aload_n g dX8_undo_9 rfl ?_
  refine am_iononnull (b := 10) (n := 4) (Lf := fun r_ => [some (.inr (some 0)), some (.inl a1), some (.inr r_), none]) (tgt := 15) g dX8_undo_10 (by decide) (fun d3 hd3 => ?_) ?_
  · refine am_iload_n g dX8_undo_15 rfl ?_
    refine am_Si (as := [.inl a1]) (S := []) g (cX8_numberOfC a1 h2) mi_X8_numberOf lm_X8_135 dX8_undo_16 rfl (by decide) (Nat.le_of_ble_eq_true rfl) rfl (fun v4 h5 => ?_)
    refine am_istore_n g dX8_undo_19 (by decide) ?_
    refine am_aload_n g dX8_undo_20 rfl ?_
    refine am_getr (q := 3) (a := 26 + d3) g clX2 dX8_undo_21 (Nat.lt_of_lt_of_le (Nat.add_lt_add_left hd3 10) (Nat.le_of_ble_eq_true rfl)) (sh_X2 d3 hd3) (by decide) rfl (Nat.lt_of_lt_of_le (Nat.add_lt_add_left hd3 26) (Nat.le_of_ble_eq_true rfl)) lf_X8_162 ?_
    refine am_iload_n g dX8_undo_24 rfl ?_
    refine am_iaload (ix := 16 * d3 + Int.toNat v4) (nI := 16) g dX8_undo_25 (Nat.lt_of_lt_of_le (Nat.add_lt_add_left hd3 26) (Nat.le_of_ble_eq_true rfl)) (sh_X2_hows d3 hd3) rfl rfl ?_
    refine am_iconst g dX8_undo_26 (am_il rfl) rfl ?_
    refine am_icmp_eq (tgt := 43) g dX8_undo_27 (by decide) ?_ ?_
    · refine am_drop 0 ?_
      refine am_drop 1 ?_
      exact (jX8_undo_43 g) d3 hd3 v4 h5
    · refine am_aload_n g dX8_undo_30 rfl ?_
      refine am_getr (q := 3) (a := 26 + d3) g clX2 dX8_undo_31 (Nat.lt_of_lt_of_le (Nat.add_lt_add_left hd3 10) (Nat.le_of_ble_eq_true rfl)) (sh_X2 d3 hd3) (by decide) rfl (Nat.lt_of_lt_of_le (Nat.add_lt_add_left hd3 26) (Nat.le_of_ble_eq_true rfl)) lf_X8_162 ?_
      refine am_iload_n g dX8_undo_34 rfl ?_
      refine am_iaload (ix := 16 * d3 + Int.toNat v4) (nI := 16) g dX8_undo_35 (Nat.lt_of_lt_of_le (Nat.add_lt_add_left hd3 26) (Nat.le_of_ble_eq_true rfl)) (sh_X2_hows d3 hd3) rfl rfl ?_
      refine am_iconst g dX8_undo_36 (am_il rfl) rfl ?_
      refine am_icmp_eq (tgt := 43) g dX8_undo_37 (by decide) ?_ ?_
      · refine am_drop 0 ?_
        refine am_drop 1 ?_
        exact (jX8_undo_43 g) d3 hd3 v4 h5
      · refine am_bipush g dX8_undo_40 (am_il rfl) (am_bi rfl) ?_
        exact am_ireturn g dX8_undo_42
  · refine am_iconst g dX8_undo_13 (am_il rfl) rfl ?_
    exact am_ireturn g dX8_undo_14
def fX8_score (a1 : Int) (a2 : Int) (h : am_M) : Option (Int × am_M) := am_b (fX0_laidWith a1 h) (fun v1 h2 => am_on v1 10 4 (some ((-1), h2)) (fun d3 => am_b (fX8_numberOf a1 h2) (fun v4 h5 => am_b (fX7_replay d3 v4 h5) (fun _ h6 => if a2 = 0 then (if 0 ≤ a2 ∧ a2 < 2 then some (h6 34 (Int.toNat a2), h6) else none) else if a2 = 1 then (if 0 ≤ a2 ∧ a2 < 2 then some (h6 34 (Int.toNat a2), h6) else none) else if a2 = 2 then (if 0 ≤ (am_w (a2 - 2)) ∧ (am_w (a2 - 2)) < 2 then some (h6 35 (Int.toNat (am_w (a2 - 2))), h6) else none) else if a2 = 3 then (if 0 ≤ (am_w (a2 - 2)) ∧ (am_w (a2 - 2)) < 2 then some (h6 35 (Int.toNat (am_w (a2 - 2))), h6) else none) else if a2 = 4 then (if 0 ≤ (am_w (a2 - 4)) ∧ (am_w (a2 - 4)) < 2 then some (h6 36 (Int.toNat (am_w (a2 - 4))), h6) else none) else if a2 = 5 then (if 0 ≤ (am_w (a2 - 4)) ∧ (am_w (a2 - 4)) < 2 then some (h6 36 (Int.toNat (am_w (a2 - 4))), h6) else none) else if a2 = 6 then am_b (fX7_serves h6) (fun v14 h15 => some (v14, h15)) else if a2 = 7 then some (h6 40 0, h6) else if a2 = 8 then (am_b (fX8_numberOf a1 h6) (fun v18 h19 => if 0 ≤ v18 ∧ v18 < 16 then some (h19 9 (16 * d3 + Int.toNat v18), h19) else none)) else if a2 = 9 then some (h6 2 d3, h6) else some ((-1), h6)))))
set_option maxRecDepth 10000 in
theorem cX8_scoreC {D : va_G} {a : Nat → ClassId} {ad : Nat → Nat} (a1 : Int) (a2 : Int) (h : am_M) : am_C (EX D a ad) yX8_score cX8_score 4 (some .int) 5 [.inr (some 0), .inl a1, .inl a2] h am_ei (fX8_score a1 a2 h) := by
  refine am_ofJ (L := [some (.inr (some 0)), some (.inl a1), some (.inl a2), none]) (by decide) rfl (Nat.le_of_ble_eq_true rfl) (fun G g => ?_)
  have g : am_Gd (EX D a ad) RX8 cX8_score 4 (some .int) 5 G := g
  unfold fX8_score
  refine am_aload_n g dX8_score_0 rfl ?_
  refine am_getr (q := 0) (a := 1) g clX8 dX8_score_1 (Nat.le_of_ble_eq_true rfl) rfl (by decide) rfl (Nat.le_of_ble_eq_true rfl) lf_X8_10 ?_
  refine am_iload_n g dX8_score_4 rfl ?_
  refine am_Vr (as := [.inl a1]) (S := []) g (cX0_laidWithC a1 h) mi_X0_laidWith lm_X8_129 clX0.1 (Nat.le_of_ble_eq_true rfl) rfl dX8_score_5 rfl (by decide) (Nat.le_of_ble_eq_true rfl) rfl (fun v1 h2 => ?_)
  refine am_astore_n g dX8_score_8 (by decide) ?_
  refine am_aload_n g dX8_score_9 rfl ?_
  refine am_iononnull (b := 10) (n := 4) (Lf := fun r_ => [some (.inr (some 0)), some (.inl a1), some (.inl a2), some (.inr r_)]) (tgt := 15) g dX8_score_10 (by decide) (fun d3 hd3 => ?_) ?_
  · refine am_aload_n g dX8_score_15 rfl ?_
    refine am_getr (q := 2) (a := 59) g clX8 dX8_score_16 (Nat.le_of_ble_eq_true rfl) rfl (by decide) rfl (Nat.le_of_ble_eq_true rfl) lf_X8_26 ?_
    refine am_aload_n g dX8_score_19 rfl ?_
    refine am_iload_n g dX8_score_20 rfl ?_
    refine am_Si (as := [.inl a1]) (S := [.inr (some (10 + d3)), .inr (some 59)]) g (cX8_numberOfC a1 h2) mi_X8_numberOf lm_X8_135 dX8_score_21 rfl (by decide) (Nat.le_of_ble_eq_true rfl) rfl (fun v4 h5 => ?_)
    refine am_Vv (as := [.inr (some (10 + d3)), .inl v4]) (S := []) g (cX7_replayC d3 hd3 v4 h5) mi_X7_replay lm_X8_148 clX7.1 (Nat.le_of_ble_eq_true rfl) rfl dX8_score_24 rfl (by decide) (Nat.le_of_ble_eq_true rfl) rfl (fun _ h6 => ?_)
    refine am_iload_n g dX8_score_27 rfl ?_
    refine am_if (c := a2 = 0) (fun c7 => ?_) (fun c7 => ?_)
    · refine am_swIn (tgt := 84) g dX8_score_28 (by omega) (by omega) (by rw [c7]; rfl) (by decide) ?_
      refine am_aload_n g dX8_score_84 rfl ?_
      refine am_getr (q := 2) (a := 59) g clX8 dX8_score_85 (Nat.le_of_ble_eq_true rfl) rfl (by decide) rfl (Nat.le_of_ble_eq_true rfl) lf_X8_26 ?_
      refine am_getr (q := 0) (a := 60) g clX7 dX8_score_88 (Nat.le_of_ble_eq_true rfl) rfl (by decide) rfl (Nat.le_of_ble_eq_true rfl) lf_X8_171 ?_
      refine am_iload_n g dX8_score_91 rfl ?_
      refine am_iaload (ix := Int.toNat a2) (nI := 2) g dX8_score_92 (Nat.le_of_ble_eq_true rfl) rfl rfl (Nat.zero_add _) ?_
      exact am_ireturn g dX8_score_93
    refine am_if (c := a2 = 1) (fun c8 => ?_) (fun c8 => ?_)
    · refine am_swIn (tgt := 84) g dX8_score_28 (by omega) (by omega) (by rw [c8]; rfl) (by decide) ?_
      refine am_aload_n g dX8_score_84 rfl ?_
      refine am_getr (q := 2) (a := 59) g clX8 dX8_score_85 (Nat.le_of_ble_eq_true rfl) rfl (by decide) rfl (Nat.le_of_ble_eq_true rfl) lf_X8_26 ?_
      refine am_getr (q := 0) (a := 60) g clX7 dX8_score_88 (Nat.le_of_ble_eq_true rfl) rfl (by decide) rfl (Nat.le_of_ble_eq_true rfl) lf_X8_171 ?_
      refine am_iload_n g dX8_score_91 rfl ?_
      refine am_iaload (ix := Int.toNat a2) (nI := 2) g dX8_score_92 (Nat.le_of_ble_eq_true rfl) rfl rfl (Nat.zero_add _) ?_
      exact am_ireturn g dX8_score_93
    refine am_if (c := a2 = 2) (fun c9 => ?_) (fun c9 => ?_)
    · refine am_swIn (tgt := 94) g dX8_score_28 (by omega) (by omega) (by rw [c9]; rfl) (by decide) ?_
      refine am_aload_n g dX8_score_94 rfl ?_
      refine am_getr (q := 2) (a := 59) g clX8 dX8_score_95 (Nat.le_of_ble_eq_true rfl) rfl (by decide) rfl (Nat.le_of_ble_eq_true rfl) lf_X8_26 ?_
      refine am_getr (q := 1) (a := 61) g clX7 dX8_score_98 (Nat.le_of_ble_eq_true rfl) rfl (by decide) rfl (Nat.le_of_ble_eq_true rfl) lf_X8_172 ?_
      refine am_iload_n g dX8_score_101 rfl ?_
      refine am_iconst g dX8_score_102 (am_il rfl) rfl ?_
      refine am_isub g dX8_score_103 ?_
      refine am_iaload (ix := Int.toNat (am_w (a2 - 2))) (nI := 2) g dX8_score_104 (Nat.le_of_ble_eq_true rfl) rfl rfl (Nat.zero_add _) ?_
      exact am_ireturn g dX8_score_105
    refine am_if (c := a2 = 3) (fun c10 => ?_) (fun c10 => ?_)
    · refine am_swIn (tgt := 94) g dX8_score_28 (by omega) (by omega) (by rw [c10]; rfl) (by decide) ?_
      refine am_aload_n g dX8_score_94 rfl ?_
      refine am_getr (q := 2) (a := 59) g clX8 dX8_score_95 (Nat.le_of_ble_eq_true rfl) rfl (by decide) rfl (Nat.le_of_ble_eq_true rfl) lf_X8_26 ?_
      refine am_getr (q := 1) (a := 61) g clX7 dX8_score_98 (Nat.le_of_ble_eq_true rfl) rfl (by decide) rfl (Nat.le_of_ble_eq_true rfl) lf_X8_172 ?_
      refine am_iload_n g dX8_score_101 rfl ?_
      refine am_iconst g dX8_score_102 (am_il rfl) rfl ?_
      refine am_isub g dX8_score_103 ?_
      refine am_iaload (ix := Int.toNat (am_w (a2 - 2))) (nI := 2) g dX8_score_104 (Nat.le_of_ble_eq_true rfl) rfl rfl (Nat.zero_add _) ?_
      exact am_ireturn g dX8_score_105
    refine am_if (c := a2 = 4) (fun c11 => ?_) (fun c11 => ?_)
    · refine am_swIn (tgt := 106) g dX8_score_28 (by omega) (by omega) (by rw [c11]; rfl) (by decide) ?_
      refine am_aload_n g dX8_score_106 rfl ?_
      refine am_getr (q := 2) (a := 59) g clX8 dX8_score_107 (Nat.le_of_ble_eq_true rfl) rfl (by decide) rfl (Nat.le_of_ble_eq_true rfl) lf_X8_26 ?_
      refine am_getr (q := 2) (a := 62) g clX7 dX8_score_110 (Nat.le_of_ble_eq_true rfl) rfl (by decide) rfl (Nat.le_of_ble_eq_true rfl) lf_X8_175 ?_
      refine am_iload_n g dX8_score_113 rfl ?_
      refine am_iconst g dX8_score_114 (am_il rfl) rfl ?_
      refine am_isub g dX8_score_115 ?_
      refine am_iaload (ix := Int.toNat (am_w (a2 - 4))) (nI := 2) g dX8_score_116 (Nat.le_of_ble_eq_true rfl) rfl rfl (Nat.zero_add _) ?_
      exact am_ireturn g dX8_score_117
    refine am_if (c := a2 = 5) (fun c12 => ?_) (fun c12 => ?_)
    · refine am_swIn (tgt := 106) g dX8_score_28 (by omega) (by omega) (by rw [c12]; rfl) (by decide) ?_
      refine am_aload_n g dX8_score_106 rfl ?_
      refine am_getr (q := 2) (a := 59) g clX8 dX8_score_107 (Nat.le_of_ble_eq_true rfl) rfl (by decide) rfl (Nat.le_of_ble_eq_true rfl) lf_X8_26 ?_
      refine am_getr (q := 2) (a := 62) g clX7 dX8_score_110 (Nat.le_of_ble_eq_true rfl) rfl (by decide) rfl (Nat.le_of_ble_eq_true rfl) lf_X8_175 ?_
      refine am_iload_n g dX8_score_113 rfl ?_
      refine am_iconst g dX8_score_114 (am_il rfl) rfl ?_
      refine am_isub g dX8_score_115 ?_
      refine am_iaload (ix := Int.toNat (am_w (a2 - 4))) (nI := 2) g dX8_score_116 (Nat.le_of_ble_eq_true rfl) rfl rfl (Nat.zero_add _) ?_
      exact am_ireturn g dX8_score_117
    refine am_if (c := a2 = 6) (fun c13 => ?_) (fun c13 => ?_)
    · refine am_swIn (tgt := 118) g dX8_score_28 (by omega) (by omega) (by rw [c13]; rfl) (by decide) ?_
      refine am_aload_n g dX8_score_118 rfl ?_
      refine am_getr (q := 2) (a := 59) g clX8 dX8_score_119 (Nat.le_of_ble_eq_true rfl) rfl (by decide) rfl (Nat.le_of_ble_eq_true rfl) lf_X8_26 ?_
      refine am_Vi (as := []) (S := []) g (cX7_servesC h6) mi_X7_serves lm_X8_178 clX7.1 (Nat.le_of_ble_eq_true rfl) rfl dX8_score_122 rfl (by decide) (Nat.le_of_ble_eq_true rfl) rfl (fun v14 h15 => ?_)
      exact am_ireturn g dX8_score_125
    refine am_if (c := a2 = 7) (fun c16 => ?_) (fun c16 => ?_)
    · refine am_swIn (tgt := 126) g dX8_score_28 (by omega) (by omega) (by rw [c16]; rfl) (by decide) ?_
      refine am_aload_n g dX8_score_126 rfl ?_
      refine am_getr (q := 2) (a := 59) g clX8 dX8_score_127 (Nat.le_of_ble_eq_true rfl) rfl (by decide) rfl (Nat.le_of_ble_eq_true rfl) lf_X8_26 ?_
      refine am_geti (q := 6) (kd := 40) (ix := 0) g clX7 dX8_score_130 (Nat.le_of_ble_eq_true rfl) rfl (by decide) rfl lf_X8_181 ?_
      exact am_ireturn g dX8_score_133
    refine am_if (c := a2 = 8) (fun c17 => ?_) (fun c17 => ?_)
    · refine am_swIn (tgt := 134) g dX8_score_28 (by omega) (by omega) (by rw [c17]; rfl) (by decide) ?_
      refine am_aload_n g dX8_score_134 rfl ?_
      refine am_getr (q := 6) (a := 38 + d3) g clX2 dX8_score_135 (Nat.lt_of_lt_of_le (Nat.add_lt_add_left hd3 10) (Nat.le_of_ble_eq_true rfl)) (sh_X2 d3 hd3) (by decide) rfl (Nat.lt_of_lt_of_le (Nat.add_lt_add_left hd3 38) (Nat.le_of_ble_eq_true rfl)) lf_X8_145 ?_
      refine am_iload_n g dX8_score_138 rfl ?_
      refine am_Si (as := [.inl a1]) (S := [.inr (some (38 + d3))]) g (cX8_numberOfC a1 h6) mi_X8_numberOf lm_X8_135 dX8_score_139 rfl (by decide) (Nat.le_of_ble_eq_true rfl) rfl (fun v18 h19 => ?_)
      refine am_iaload (ix := 16 * d3 + Int.toNat v18) (nI := 16) g dX8_score_142 (Nat.lt_of_lt_of_le (Nat.add_lt_add_left hd3 38) (Nat.le_of_ble_eq_true rfl)) (sh_X2_points d3 hd3) rfl rfl ?_
      exact am_ireturn g dX8_score_143
    refine am_if (c := a2 = 9) (fun c20 => ?_) (fun c20 => ?_)
    · refine am_swIn (tgt := 144) g dX8_score_28 (by omega) (by omega) (by rw [c20]; rfl) (by decide) ?_
      refine am_aload_n g dX8_score_144 rfl ?_
      refine am_geti (q := 9) (kd := 2) (ix := d3) g clX2 dX8_score_145 (Nat.lt_of_lt_of_le (Nat.add_lt_add_left hd3 10) (Nat.le_of_ble_eq_true rfl)) (sh_X2 d3 hd3) (by decide) rfl lf_X8_111 ?_
      exact am_ireturn g dX8_score_148
    refine am_swOut (tgt := 149) g dX8_score_28 (by omega) (by decide) ?_
    refine am_iconst g dX8_score_149 (am_il rfl) rfl ?_
    exact am_ireturn g dX8_score_150
  · refine am_iconst g dX8_score_13 (am_il rfl) rfl ?_
    exact am_ireturn g dX8_score_14
def fX8_games_64 (s0 : Int) (s1 : Int) (s2 : Int) (h : am_M) : Option (Int × am_M) := am_b (fX7_gamesOfSet s2 s1 s0 h) (fun v9 h10 => some (v9, h10))
set_option maxRecDepth 10000 in
theorem jX8_games_64 {D : va_G} {a : Nat → ClassId} {ad : Nat → Nat} {G : am_G} (g : am_Gd (EX D a ad) RX8 cX8_games 6 (some .int) 5 G) : ∀ (s0 : Int), ∀ (s1 : Int), ∀ (s2 : Int), ∀ h : am_M, am_J (EX D a ad) G 6 am_ei 64 [none, none, none, none, none, none] [.inl s0, .inl s1, .inl s2, .inr (some 59)] h (fX8_games_64 s0 s1 s2 h) := by
  intro s0 s1 s2 h
  unfold fX8_games_64
  refine am_Vi (as := [.inl s2, .inl s1, .inl s0]) (S := []) g (cX7_gamesOfSetC s2 s1 s0 h) mi_X7_gamesOfSet lm_X8_184 clX7.1 (Nat.le_of_ble_eq_true rfl) rfl dX8_games_64 rfl (by decide) (Nat.le_of_ble_eq_true rfl) rfl (fun v9 h10 => ?_)
  exact am_ireturn g dX8_games_67
def fX8_games (a1 : Int) (a2 : Int) (a3 : Int) (h : am_M) : Option (Int × am_M) := am_b (fX0_laidWith a1 h) (fun v1 h2 => am_on v1 10 4 (some ((-1), h2)) (fun d3 => am_b (fX8_isSide a3 h2) (fun v4 h5 => if v4 = 0 then some ((-1), h5) else am_b (fX8_numberOf a1 h5) (fun v6 h7 => am_b (fX7_replay d3 v6 h7) (fun _ h8 => if 0 ≤ v6 ∧ v6 < 16 then if (h8 20 (16 * d3 + Int.toNat v6)) = 3 then fX8_games_64 0 a3 a2 h8 else fX8_games_64 1 a3 a2 h8 else none)))))
set_option maxRecDepth 10000 in
theorem cX8_gamesC {D : va_G} {a : Nat → ClassId} {ad : Nat → Nat} (a1 : Int) (a2 : Int) (a3 : Int) (h : am_M) : am_C (EX D a ad) yX8_games cX8_games 6 (some .int) 5 [.inr (some 0), .inl a1, .inl a2, .inl a3] h am_ei (fX8_games a1 a2 a3 h) := by
  refine am_ofJ (L := [some (.inr (some 0)), some (.inl a1), some (.inl a2), some (.inl a3), none, none]) (by decide) rfl (Nat.le_of_ble_eq_true rfl) (fun G g => ?_)
  have g : am_Gd (EX D a ad) RX8 cX8_games 6 (some .int) 5 G := g
  unfold fX8_games
  refine am_aload_n g dX8_games_0 rfl ?_
  refine am_getr (q := 0) (a := 1) g clX8 dX8_games_1 (Nat.le_of_ble_eq_true rfl) rfl (by decide) rfl (Nat.le_of_ble_eq_true rfl) lf_X8_10 ?_
  refine am_iload_n g dX8_games_4 rfl ?_
  refine am_Vr (as := [.inl a1]) (S := []) g (cX0_laidWithC a1 h) mi_X0_laidWith lm_X8_129 clX0.1 (Nat.le_of_ble_eq_true rfl) rfl dX8_games_5 rfl (by decide) (Nat.le_of_ble_eq_true rfl) rfl (fun v1 h2 => ?_)
  refine am_astore g dX8_games_8 (by decide) ?_
  refine am_aload g dX8_games_10 rfl ?_
  refine am_ionull (b := 10) (n := 4) (Lf := fun r_ => [some (.inr (some 0)), some (.inl a1), some (.inl a2), some (.inl a3), some (.inr r_), none]) (tgt := 22) g dX8_games_12 (by decide) ?_ (fun d3 hd3 => ?_)
  · refine am_iconst g dX8_games_22 (am_il rfl) rfl ?_
    exact am_ireturn g dX8_games_23
  · refine am_iload_n g dX8_games_15 rfl ?_
    refine am_Si (as := [.inl a3]) (S := []) g (cX8_isSideC a3 h2) mi_X8_isSide lm_X8_132 dX8_games_16 rfl (by decide) (Nat.le_of_ble_eq_true rfl) rfl (fun v4 h5 => ?_)
    refine am_if_ne (tgt := 24) g dX8_games_19 (by decide) ?_ ?_
    · refine am_iload_n g dX8_games_24 rfl ?_
      refine am_Si (as := [.inl a1]) (S := []) g (cX8_numberOfC a1 h5) mi_X8_numberOf lm_X8_135 dX8_games_25 rfl (by decide) (Nat.le_of_ble_eq_true rfl) rfl (fun v6 h7 => ?_)
      refine am_istore g dX8_games_28 (by decide) ?_
      refine am_aload_n g dX8_games_30 rfl ?_
      refine am_getr (q := 2) (a := 59) g clX8 dX8_games_31 (Nat.le_of_ble_eq_true rfl) rfl (by decide) rfl (Nat.le_of_ble_eq_true rfl) lf_X8_26 ?_
      refine am_aload g dX8_games_34 rfl ?_
      refine am_iload g dX8_games_36 rfl ?_
      refine am_Vv (as := [.inr (some (10 + d3)), .inl v6]) (S := []) g (cX7_replayC d3 hd3 v6 h7) mi_X7_replay lm_X8_148 clX7.1 (Nat.le_of_ble_eq_true rfl) rfl dX8_games_38 rfl (by decide) (Nat.le_of_ble_eq_true rfl) rfl (fun _ h8 => ?_)
      refine am_aload_n g dX8_games_41 rfl ?_
      refine am_getr (q := 2) (a := 59) g clX8 dX8_games_42 (Nat.le_of_ble_eq_true rfl) rfl (by decide) rfl (Nat.le_of_ble_eq_true rfl) lf_X8_26 ?_
      refine am_iload_n g dX8_games_45 rfl ?_
      refine am_iload_n g dX8_games_46 rfl ?_
      refine am_aload g dX8_games_47 rfl ?_
      refine am_getr (q := 3) (a := 26 + d3) g clX2 dX8_games_49 (Nat.lt_of_lt_of_le (Nat.add_lt_add_left hd3 10) (Nat.le_of_ble_eq_true rfl)) (sh_X2 d3 hd3) (by decide) rfl (Nat.lt_of_lt_of_le (Nat.add_lt_add_left hd3 26) (Nat.le_of_ble_eq_true rfl)) lf_X8_162 ?_
      refine am_iload g dX8_games_52 rfl ?_
      refine am_iaload (ix := 16 * d3 + Int.toNat v6) (nI := 16) g dX8_games_54 (Nat.lt_of_lt_of_le (Nat.add_lt_add_left hd3 26) (Nat.le_of_ble_eq_true rfl)) (sh_X2_hows d3 hd3) rfl rfl ?_
      refine am_iconst g dX8_games_55 (am_il rfl) rfl ?_
      refine am_icmp_eq (tgt := 63) g dX8_games_56 (by decide) ?_ ?_
      · refine am_iconst g dX8_games_63 (am_il rfl) rfl ?_
        refine am_drop 0 ?_
        refine am_drop 1 ?_
        refine am_drop 2 ?_
        refine am_drop 3 ?_
        refine am_drop 4 ?_
        refine am_drop 5 ?_
        exact (jX8_games_64 g) 0 a3 a2 h8
      · refine am_iconst g dX8_games_59 (am_il rfl) rfl ?_
        refine am_goto (tgt := 64) g dX8_games_60 (by decide) ?_
        refine am_drop 0 ?_
        refine am_drop 1 ?_
        refine am_drop 2 ?_
        refine am_drop 3 ?_
        refine am_drop 4 ?_
        refine am_drop 5 ?_
        exact (jX8_games_64 g) 1 a3 a2 h8
    · refine am_iconst g dX8_games_22 (am_il rfl) rfl ?_
      exact am_ireturn g dX8_games_23
