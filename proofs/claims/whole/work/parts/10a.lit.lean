def fX0_findDraw (a1 : Int) (h : am_M) : Option (Option Nat × am_M) := if a1 < 0 then some (none, h) else if a1 < 4 then (if 0 ≤ a1 ∧ a1 < 4 then if (h 1 (Int.toNat a1)) = 0 then some (none, h) else if 0 ≤ a1 ∧ a1 < 4 then some (some (10 + (Int.toNat a1)), h) else none else none) else some (none, h)
set_option maxRecDepth 10000 in
theorem cX0_findDrawC {D : va_G} {a : Nat → ClassId} {ad : Nat → Nat} (a1 : Int) (h : am_M) : am_C (EX D a ad) yX0_findDraw cX0_findDraw 2 (some (.object "CourtDraws$Draw")) 1 [.inr (some 1), .inl a1] h am_er (fX0_findDraw a1 h) := by
  refine am_ofJ (L := [some (.inr (some 1)), some (.inl a1)]) (by decide) rfl (Nat.le_of_ble_eq_true rfl) (fun G g => ?_)
  have g : am_Gd (EX D a ad) RX0 cX0_findDraw 2 (some (.object "CourtDraws$Draw")) 1 G := g
  unfold fX0_findDraw
  refine am_iload_n g dX0_findDraw_0 rfl ?_
  refine am_if_lt (tgt := 21) g dX0_findDraw_1 (by decide) ?_ ?_
  · refine am_null g dX0_findDraw_21 ?_
    refine am_goto (tgt := 31) g dX0_findDraw_22 (by decide) ?_
    exact am_areturn g dX0_findDraw_31
  · refine am_iload_n g dX0_findDraw_4 rfl ?_
    refine am_iconst g dX0_findDraw_5 (am_il rfl) rfl ?_
    refine am_icmp_ge (tgt := 21) g dX0_findDraw_6 (by decide) ?_ ?_
    · refine am_null g dX0_findDraw_21 ?_
      refine am_goto (tgt := 31) g dX0_findDraw_22 (by decide) ?_
      exact am_areturn g dX0_findDraw_31
    · refine am_aload_n g dX0_findDraw_9 rfl ?_
      refine am_getr (q := 1) (a := 3) g clX0 dX0_findDraw_10 (Nat.le_of_ble_eq_true rfl) rfl (by decide) rfl (Nat.le_of_ble_eq_true rfl) lf_X0_17 ?_
      refine am_iload_n g dX0_findDraw_13 rfl ?_
      refine am_aaload (b := 10) (n := 4) (nI := 4) g dX0_findDraw_14 (Nat.le_of_ble_eq_true rfl) rfl rfl rfl (Nat.le_of_ble_eq_true rfl) (fun c1 => ?_)
      have hd2 : Int.toNat a1 < 4 := by omega
      refine am_geti (q := 8) (kd := 1) (ix := Int.toNat a1) g clX2 dX0_findDraw_15 (Nat.lt_of_lt_of_le (Nat.add_lt_add_left hd2 10) (Nat.le_of_ble_eq_true rfl)) (sh_X2 (Int.toNat a1) hd2) (by decide) rfl lf_X0_35 ?_
      refine am_if_ne (tgt := 25) g dX0_findDraw_18 (by decide) ?_ ?_
      · refine am_aload_n g dX0_findDraw_25 rfl ?_
        refine am_getr (q := 1) (a := 3) g clX0 dX0_findDraw_26 (Nat.le_of_ble_eq_true rfl) rfl (by decide) rfl (Nat.le_of_ble_eq_true rfl) lf_X0_17 ?_
        refine am_iload_n g dX0_findDraw_29 rfl ?_
        refine am_aaload (b := 10) (n := 4) (nI := 4) g dX0_findDraw_30 (Nat.le_of_ble_eq_true rfl) rfl rfl rfl (Nat.le_of_ble_eq_true rfl) (fun c3 => ?_)
        have hd4 : Int.toNat a1 < 4 := by omega
        exact am_areturn g dX0_findDraw_31
      · refine am_null g dX0_findDraw_21 ?_
        refine am_goto (tgt := 31) g dX0_findDraw_22 (by decide) ?_
        exact am_areturn g dX0_findDraw_31
def fX2_hasMatch (d : Nat) (a1 : Int) (h : am_M) : Option (Int × am_M) := if (h 5 d) = 0 then some (0, h) else if a1 < 0 then some (0, h) else if a1 < (am_w ((h 1 d) - 1)) then some (1, h) else some (0, h)
set_option maxRecDepth 10000 in
theorem cX2_hasMatchC {D : va_G} {a : Nat → ClassId} {ad : Nat → Nat} (d : Nat) (hd : d < 4) (a1 : Int) (h : am_M) : am_C (EX D a ad) yX2_hasMatch cX2_hasMatch 2 (some .boolean) 1 [.inr (some (10 + d)), .inl a1] h am_ei (fX2_hasMatch d a1 h) := by
  refine am_ofJ (L := [some (.inr (some (10 + d))), some (.inl a1)]) (by decide) rfl (Nat.le_of_ble_eq_true rfl) (fun G g => ?_)
  have g : am_Gd (EX D a ad) RX2 cX2_hasMatch 2 (some .boolean) 1 G := g
  unfold fX2_hasMatch
  refine am_aload_n g dX2_hasMatch_0 rfl ?_
  refine am_geti (q := 12) (kd := 5) (ix := d) g clX2 dX2_hasMatch_1 (Nat.lt_of_lt_of_le (Nat.add_lt_add_left hd 10) (Nat.le_of_ble_eq_true rfl)) (sh_X2 d hd) (by decide) rfl lf_X2_50 ?_
  refine am_if_eq (tgt := 25) g dX2_hasMatch_4 (by decide) ?_ ?_
  · refine am_iconst g dX2_hasMatch_25 (am_il rfl) rfl ?_
    exact am_zreturn g dX2_hasMatch_26 (by decide)
  · refine am_iload_n g dX2_hasMatch_7 rfl ?_
    refine am_if_lt (tgt := 25) g dX2_hasMatch_8 (by decide) ?_ ?_
    · refine am_iconst g dX2_hasMatch_25 (am_il rfl) rfl ?_
      exact am_zreturn g dX2_hasMatch_26 (by decide)
    · refine am_iload_n g dX2_hasMatch_11 rfl ?_
      refine am_aload_n g dX2_hasMatch_12 rfl ?_
      refine am_geti (q := 8) (kd := 1) (ix := d) g clX2 dX2_hasMatch_13 (Nat.lt_of_lt_of_le (Nat.add_lt_add_left hd 10) (Nat.le_of_ble_eq_true rfl)) (sh_X2 d hd) (by decide) rfl lf_X2_37 ?_
      refine am_iconst g dX2_hasMatch_16 (am_il rfl) rfl ?_
      refine am_isub g dX2_hasMatch_17 ?_
      refine am_icmp_ge (tgt := 25) g dX2_hasMatch_18 (by decide) ?_ ?_
      · refine am_iconst g dX2_hasMatch_25 (am_il rfl) rfl ?_
        exact am_zreturn g dX2_hasMatch_26 (by decide)
      · refine am_iconst g dX2_hasMatch_21 (am_il rfl) rfl ?_
        refine am_goto (tgt := 26) g dX2_hasMatch_22 (by decide) ?_
        exact am_zreturn g dX2_hasMatch_26 (by decide)
def fX8_drawOf (a1 : Int) (h : am_M) : Option (Int × am_M) := some (am_shr a1 4, h)
set_option maxRecDepth 10000 in
theorem cX8_drawOfC {D : va_G} {a : Nat → ClassId} {ad : Nat → Nat} (a1 : Int) (h : am_M) : am_C (EX D a ad) yX8_drawOf cX8_drawOf 1 (some .int) 1 [.inl a1] h am_ei (fX8_drawOf a1 h) := by
  refine am_ofJ (L := [some (.inl a1)]) (by decide) rfl (Nat.le_of_ble_eq_true rfl) (fun G g => ?_)
  have g : am_Gd (EX D a ad) RX8 cX8_drawOf 1 (some .int) 1 G := g
  unfold fX8_drawOf
  refine am_iload_n g dX8_drawOf_0 rfl ?_
  refine am_iconst g dX8_drawOf_1 (am_il rfl) rfl ?_
  refine am_ishr g dX8_drawOf_2 ?_
  exact am_ireturn g dX8_drawOf_3
def fX8_numberOf (a1 : Int) (h : am_M) : Option (Int × am_M) := some (am_and a1 15, h)
set_option maxRecDepth 10000 in
theorem cX8_numberOfC {D : va_G} {a : Nat → ClassId} {ad : Nat → Nat} (a1 : Int) (h : am_M) : am_C (EX D a ad) yX8_numberOf cX8_numberOf 1 (some .int) 1 [.inl a1] h am_ei (fX8_numberOf a1 h) := by
  refine am_ofJ (L := [some (.inl a1)]) (by decide) rfl (Nat.le_of_ble_eq_true rfl) (fun G g => ?_)
  have g : am_Gd (EX D a ad) RX8 cX8_numberOf 1 (some .int) 1 G := g
  unfold fX8_numberOf
  refine am_iload_n g dX8_numberOf_0 rfl ?_
  refine am_bipush g dX8_numberOf_1 (am_il rfl) (am_bi rfl) ?_
  refine am_iand g dX8_numberOf_3 ?_
  exact am_ireturn g dX8_numberOf_4
def fX0_laidWith (a1 : Int) (h : am_M) : Option (Option Nat × am_M) := if a1 < 0 then some (none, h) else if a1 < 64 then (am_b (fX8_drawOf a1 h) (fun v1 h2 => if 0 ≤ v1 ∧ v1 < 4 then am_b (fX8_numberOf a1 h2) (fun v5 h6 => am_b (fX2_hasMatch (Int.toNat v1) v5 h6) (fun v7 h8 => if v7 = 0 then some (none, h8) else some (some (10 + (Int.toNat v1)), h8))) else none)) else some (none, h)
set_option maxRecDepth 10000 in
theorem cX0_laidWithC {D : va_G} {a : Nat → ClassId} {ad : Nat → Nat} (a1 : Int) (h : am_M) : am_C (EX D a ad) yX0_laidWith cX0_laidWith 3 (some (.object "CourtDraws$Draw")) 2 [.inr (some 1), .inl a1] h am_er (fX0_laidWith a1 h) := by
  refine am_ofJ (L := [some (.inr (some 1)), some (.inl a1), none]) (by decide) rfl (Nat.le_of_ble_eq_true rfl) (fun G g => ?_)
  have g : am_Gd (EX D a ad) RX0 cX0_laidWith 3 (some (.object "CourtDraws$Draw")) 2 G := g
  unfold fX0_laidWith
  refine am_iload_n g dX0_laidWith_0 rfl ?_
  refine am_if_lt (tgt := 10) g dX0_laidWith_1 (by decide) ?_ ?_
  · refine am_null g dX0_laidWith_10 ?_
    exact am_areturn g dX0_laidWith_11
  · refine am_iload_n g dX0_laidWith_4 rfl ?_
    refine am_bipush g dX0_laidWith_5 (am_il rfl) (am_bi rfl) ?_
    refine am_icmp_lt (tgt := 12) g dX0_laidWith_7 (by decide) ?_ ?_
    · refine am_aload_n g dX0_laidWith_12 rfl ?_
      refine am_getr (q := 1) (a := 3) g clX0 dX0_laidWith_13 (Nat.le_of_ble_eq_true rfl) rfl (by decide) rfl (Nat.le_of_ble_eq_true rfl) lf_X0_17 ?_
      refine am_iload_n g dX0_laidWith_16 rfl ?_
      refine am_SNi (as := [.inl a1]) (S := [.inr (some 3)]) g (cX8_drawOfC a1 h) mi_X8_drawOf ln_X0_39 dX0_laidWith_17 rfl (by decide) (Nat.le_of_ble_eq_true rfl) rfl (fun v1 h2 => ?_)
      refine am_aaload (b := 10) (n := 4) (nI := 4) g dX0_laidWith_20 (Nat.le_of_ble_eq_true rfl) rfl rfl rfl (Nat.le_of_ble_eq_true rfl) (fun c3 => ?_)
      have hd4 : Int.toNat v1 < 4 := by omega
      refine am_astore_n g dX0_laidWith_21 (by decide) ?_
      refine am_aload_n g dX0_laidWith_22 rfl ?_
      refine am_iload_n g dX0_laidWith_23 rfl ?_
      refine am_SNi (as := [.inl a1]) (S := [.inr (some (10 + (Int.toNat v1)))]) g (cX8_numberOfC a1 h2) mi_X8_numberOf ln_X0_43 dX0_laidWith_24 rfl (by decide) (Nat.le_of_ble_eq_true rfl) rfl (fun v5 h6 => ?_)
      refine am_Vi (as := [.inl v5]) (S := []) g (cX2_hasMatchC (Int.toNat v1) hd4 v5 h6) mi_X2_hasMatch lm_X0_46 clX2.1 (Nat.lt_of_lt_of_le (Nat.add_lt_add_left hd4 10) (Nat.le_of_ble_eq_true rfl)) (sh_X2 (Int.toNat v1) hd4) dX0_laidWith_27 rfl (by decide) (Nat.le_of_ble_eq_true rfl) rfl (fun v7 h8 => ?_)
      refine am_if_eq (tgt := 37) g dX0_laidWith_30 (by decide) ?_ ?_
      · refine am_null g dX0_laidWith_37 ?_
        exact am_areturn g dX0_laidWith_38
      · refine am_aload_n g dX0_laidWith_33 rfl ?_
        refine am_goto (tgt := 38) g dX0_laidWith_34 (by decide) ?_
        exact am_areturn g dX0_laidWith_38
    · refine am_null g dX0_laidWith_10 ?_
      exact am_areturn g dX0_laidWith_11
def fX0_findCourt (a1 : Int) (h : am_M) : Option (Option Nat × am_M) := if a1 < 0 then some (none, h) else if a1 < 6 then (if 0 ≤ a1 ∧ a1 < 6 then some (some (46 + (Int.toNat a1)), h) else none) else some (none, h)
set_option maxRecDepth 10000 in
theorem cX0_findCourtC {D : va_G} {a : Nat → ClassId} {ad : Nat → Nat} (a1 : Int) (h : am_M) : am_C (EX D a ad) yX0_findCourt cX0_findCourt 2 (some (.object "CourtDraws$Court")) 1 [.inr (some 1), .inl a1] h am_er (fX0_findCourt a1 h) := by
  refine am_ofJ (L := [some (.inr (some 1)), some (.inl a1)]) (by decide) rfl (Nat.le_of_ble_eq_true rfl) (fun G g => ?_)
  have g : am_Gd (EX D a ad) RX0 cX0_findCourt 2 (some (.object "CourtDraws$Court")) 1 G := g
  unfold fX0_findCourt
  refine am_iload_n g dX0_findCourt_0 rfl ?_
  refine am_if_lt (tgt := 10) g dX0_findCourt_1 (by decide) ?_ ?_
  · refine am_null g dX0_findCourt_10 ?_
    refine am_goto (tgt := 20) g dX0_findCourt_11 (by decide) ?_
    exact am_areturn g dX0_findCourt_20
  · refine am_iload_n g dX0_findCourt_4 rfl ?_
    refine am_bipush g dX0_findCourt_5 (am_il rfl) (am_bi rfl) ?_
    refine am_icmp_lt (tgt := 14) g dX0_findCourt_7 (by decide) ?_ ?_
    · refine am_aload_n g dX0_findCourt_14 rfl ?_
      refine am_getr (q := 2) (a := 4) g clX0 dX0_findCourt_15 (Nat.le_of_ble_eq_true rfl) rfl (by decide) rfl (Nat.le_of_ble_eq_true rfl) lf_X0_23 ?_
      refine am_iload_n g dX0_findCourt_18 rfl ?_
      refine am_aaload (b := 46) (n := 6) (nI := 6) g dX0_findCourt_19 (Nat.le_of_ble_eq_true rfl) rfl rfl rfl (Nat.le_of_ble_eq_true rfl) (fun c1 => ?_)
      have hd2 : Int.toNat a1 < 6 := by omega
      exact am_areturn g dX0_findCourt_20
    · refine am_null g dX0_findCourt_10 ?_
      refine am_goto (tgt := 20) g dX0_findCourt_11 (by decide) ?_
      exact am_areturn g dX0_findCourt_20
def fX0_isRainedOff (a1 : Nat) (h : am_M) : Option (Int × am_M) := if (h 19 0) = 0 then some (0, h) else if (h 12 a1) = 0 then some (1, h) else some (0, h)
set_option maxRecDepth 10000 in
theorem cX0_isRainedOffC {D : va_G} {a : Nat → ClassId} {ad : Nat → Nat} (a1 : Nat) (ha1 : a1 < 6) (h : am_M) : am_C (EX D a ad) yX0_isRainedOff cX0_isRainedOff 2 (some .boolean) 1 [.inr (some 1), .inr (some (46 + a1))] h am_ei (fX0_isRainedOff a1 h) := by
  refine am_ofJ (L := [some (.inr (some 1)), some (.inr (some (46 + a1)))]) (by decide) rfl (Nat.le_of_ble_eq_true rfl) (fun G g => ?_)
  have g : am_Gd (EX D a ad) RX0 cX0_isRainedOff 2 (some .boolean) 1 G := g
  unfold fX0_isRainedOff
  refine am_aload_n g dX0_isRainedOff_0 rfl ?_
  refine am_geti (q := 5) (kd := 19) (ix := 0) g clX0 dX0_isRainedOff_1 (Nat.le_of_ble_eq_true rfl) rfl (by decide) rfl lf_X0_50 ?_
  refine am_if_eq (tgt := 18) g dX0_isRainedOff_4 (by decide) ?_ ?_
  · refine am_iconst g dX0_isRainedOff_18 (am_il rfl) rfl ?_
    exact am_zreturn g dX0_isRainedOff_19 (by decide)
  · refine am_aload_n g dX0_isRainedOff_7 rfl ?_
    refine am_geti (q := 2) (kd := 12) (ix := a1) g clX1 dX0_isRainedOff_8 (Nat.lt_of_lt_of_le (Nat.add_lt_add_left ha1 46) (Nat.le_of_ble_eq_true rfl)) (sh_X1 a1 ha1) (by decide) rfl lf_X0_54 ?_
    refine am_if_ne (tgt := 18) g dX0_isRainedOff_11 (by decide) ?_ ?_
    · refine am_iconst g dX0_isRainedOff_18 (am_il rfl) rfl ?_
      exact am_zreturn g dX0_isRainedOff_19 (by decide)
    · refine am_iconst g dX0_isRainedOff_14 (am_il rfl) rfl ?_
      refine am_goto (tgt := 19) g dX0_isRainedOff_15 (by decide) ?_
      exact am_zreturn g dX0_isRainedOff_19 (by decide)
def fX0_isTooDark (a1 : Nat) (a2 : Int) (h : am_M) : Option (Int × am_M) := if a2 ≤ (h 18 3) then some (0, h) else if (h 13 a1) = 0 then (if (h 12 a1) = 0 then some (1, h) else some (0, h)) else some (0, h)
set_option maxRecDepth 10000 in
theorem cX0_isTooDarkC {D : va_G} {a : Nat → ClassId} {ad : Nat → Nat} (a1 : Nat) (ha1 : a1 < 6) (a2 : Int) (h : am_M) : am_C (EX D a ad) yX0_isTooDark cX0_isTooDark 3 (some .boolean) 1 [.inr (some 1), .inr (some (46 + a1)), .inl a2] h am_ei (fX0_isTooDark a1 a2 h) := by
  refine am_ofJ (L := [some (.inr (some 1)), some (.inr (some (46 + a1))), some (.inl a2)]) (by decide) rfl (Nat.le_of_ble_eq_true rfl) (fun G g => ?_)
  have g : am_Gd (EX D a ad) RX0 cX0_isTooDark 3 (some .boolean) 1 G := g
  unfold fX0_isTooDark
  refine am_iload_n g dX0_isTooDark_0 rfl ?_
  refine am_aload_n g dX0_isTooDark_1 rfl ?_
  refine am_getr (q := 3) (a := 5) g clX0 dX0_isTooDark_2 (Nat.le_of_ble_eq_true rfl) rfl (by decide) rfl (Nat.le_of_ble_eq_true rfl) lf_X0_27 ?_
  refine am_iconst g dX0_isTooDark_5 (am_il rfl) rfl ?_
  refine am_ialoadC (ix := 3) (nI := 4) g dX0_isTooDark_6 (Nat.le_of_ble_eq_true rfl) rfl rfl rfl rfl ?_
  refine am_icmp_le (tgt := 28) g dX0_isTooDark_7 (by decide) ?_ ?_
  · refine am_iconst g dX0_isTooDark_28 (am_il rfl) rfl ?_
    exact am_zreturn g dX0_isTooDark_29 (by decide)
  · refine am_aload_n g dX0_isTooDark_10 rfl ?_
    refine am_geti (q := 3) (kd := 13) (ix := a1) g clX1 dX0_isTooDark_11 (Nat.lt_of_lt_of_le (Nat.add_lt_add_left ha1 46) (Nat.le_of_ble_eq_true rfl)) (sh_X1 a1 ha1) (by decide) rfl lf_X0_57 ?_
    refine am_if_ne (tgt := 28) g dX0_isTooDark_14 (by decide) ?_ ?_
    · refine am_iconst g dX0_isTooDark_28 (am_il rfl) rfl ?_
      exact am_zreturn g dX0_isTooDark_29 (by decide)
    · refine am_aload_n g dX0_isTooDark_17 rfl ?_
      refine am_geti (q := 2) (kd := 12) (ix := a1) g clX1 dX0_isTooDark_18 (Nat.lt_of_lt_of_le (Nat.add_lt_add_left ha1 46) (Nat.le_of_ble_eq_true rfl)) (sh_X1 a1 ha1) (by decide) rfl lf_X0_54 ?_
      refine am_if_ne (tgt := 28) g dX0_isTooDark_21 (by decide) ?_ ?_
      · refine am_iconst g dX0_isTooDark_28 (am_il rfl) rfl ?_
        exact am_zreturn g dX0_isTooDark_29 (by decide)
      · refine am_iconst g dX0_isTooDark_24 (am_il rfl) rfl ?_
        refine am_goto (tgt := 29) g dX0_isTooDark_25 (by decide) ?_
        exact am_zreturn g dX0_isTooDark_29 (by decide)
def fX0_foretold (a1 : Nat) (h : am_M) : Option (Int × am_M) := if (h 2 a1) = 2 then some (h 18 1, h) else some (h 18 2, h)
set_option maxRecDepth 10000 in
theorem cX0_foretoldC {D : va_G} {a : Nat → ClassId} {ad : Nat → Nat} (a1 : Nat) (ha1 : a1 < 4) (h : am_M) : am_C (EX D a ad) yX0_foretold cX0_foretold 2 (some .int) 1 [.inr (some 1), .inr (some (10 + a1))] h am_ei (fX0_foretold a1 h) := by
  refine am_ofJ (L := [some (.inr (some 1)), some (.inr (some (10 + a1)))]) (by decide) rfl (Nat.le_of_ble_eq_true rfl) (fun G g => ?_)
  have g : am_Gd (EX D a ad) RX0 cX0_foretold 2 (some .int) 1 G := g
  unfold fX0_foretold
  refine am_aload_n g dX0_foretold_0 rfl ?_
  refine am_geti (q := 9) (kd := 2) (ix := a1) g clX2 dX0_foretold_1 (Nat.lt_of_lt_of_le (Nat.add_lt_add_left ha1 10) (Nat.le_of_ble_eq_true rfl)) (sh_X2 a1 ha1) (by decide) rfl lf_X0_60 ?_
  refine am_iconst g dX0_foretold_4 (am_il rfl) rfl ?_
  refine am_icmp_ne (tgt := 17) g dX0_foretold_5 (by decide) ?_ ?_
  · refine am_aload_n g dX0_foretold_17 rfl ?_
    refine am_getr (q := 3) (a := 5) g clX0 dX0_foretold_18 (Nat.le_of_ble_eq_true rfl) rfl (by decide) rfl (Nat.le_of_ble_eq_true rfl) lf_X0_27 ?_
    refine am_iconst g dX0_foretold_21 (am_il rfl) rfl ?_
    refine am_ialoadC (ix := 2) (nI := 4) g dX0_foretold_22 (Nat.le_of_ble_eq_true rfl) rfl rfl rfl rfl ?_
    exact am_ireturn g dX0_foretold_23
  · refine am_aload_n g dX0_foretold_8 rfl ?_
    refine am_getr (q := 3) (a := 5) g clX0 dX0_foretold_9 (Nat.le_of_ble_eq_true rfl) rfl (by decide) rfl (Nat.le_of_ble_eq_true rfl) lf_X0_27 ?_
    refine am_iconst g dX0_foretold_12 (am_il rfl) rfl ?_
    refine am_ialoadC (ix := 1) (nI := 4) g dX0_foretold_13 (Nat.le_of_ble_eq_true rfl) rfl rfl rfl rfl ?_
    refine am_goto (tgt := 23) g dX0_foretold_14 (by decide) ?_
    exact am_ireturn g dX0_foretold_23
def fX1_hasSlot (d : Nat) (a1 : Int) (h : am_M) : Option (Int × am_M) := if a1 < 0 then some (0, h) else if a1 < (h 16 d) then some (1, h) else some (0, h)
set_option maxRecDepth 10000 in
theorem cX1_hasSlotC {D : va_G} {a : Nat → ClassId} {ad : Nat → Nat} (d : Nat) (hd : d < 6) (a1 : Int) (h : am_M) : am_C (EX D a ad) yX1_hasSlot cX1_hasSlot 2 (some .boolean) 1 [.inr (some (46 + d)), .inl a1] h am_ei (fX1_hasSlot d a1 h) := by
  refine am_ofJ (L := [some (.inr (some (46 + d))), some (.inl a1)]) (by decide) rfl (Nat.le_of_ble_eq_true rfl) (fun G g => ?_)
  have g : am_Gd (EX D a ad) RX1 cX1_hasSlot 2 (some .boolean) 1 G := g
  unfold fX1_hasSlot
  refine am_iload_n g dX1_hasSlot_0 rfl ?_
  refine am_if_lt (tgt := 16) g dX1_hasSlot_1 (by decide) ?_ ?_
  · refine am_iconst g dX1_hasSlot_16 (am_il rfl) rfl ?_
    exact am_zreturn g dX1_hasSlot_17 (by decide)
  · refine am_iload_n g dX1_hasSlot_4 rfl ?_
    refine am_aload_n g dX1_hasSlot_5 rfl ?_
    refine am_geti (q := 1) (kd := 16) (ix := d) g clX1 dX1_hasSlot_6 (Nat.lt_of_lt_of_le (Nat.add_lt_add_left hd 46) (Nat.le_of_ble_eq_true rfl)) (sh_X1 d hd) (by decide) rfl lf_X1_19 ?_
    refine am_icmp_ge (tgt := 16) g dX1_hasSlot_9 (by decide) ?_ ?_
    · refine am_iconst g dX1_hasSlot_16 (am_il rfl) rfl ?_
      exact am_zreturn g dX1_hasSlot_17 (by decide)
    · refine am_iconst g dX1_hasSlot_12 (am_il rfl) rfl ?_
      refine am_goto (tgt := 17) g dX1_hasSlot_13 (by decide) ?_
      exact am_zreturn g dX1_hasSlot_17 (by decide)
def fX1_addSlot (d : Nat) (a1 : Int) (h : am_M) : Option (Int × am_M) := if (h 16 d) < 6 then (if 0 ≤ (h 16 d) ∧ (h 16 d) < 6 then am_l (am_up h 17 (6 * d + Int.toNat (h 16 d)) a1) (fun h1 => am_l (am_up h1 16 d (am_w ((h1 16 d) + 1))) (fun h2 => some (am_w ((h2 16 d) - 1), h2))) else none) else some ((-2), h)
set_option maxRecDepth 10000 in
theorem cX1_addSlotC {D : va_G} {a : Nat → ClassId} {ad : Nat → Nat} (d : Nat) (hd : d < 6) (a1 : Int) (h : am_M) : am_C (EX D a ad) yX1_addSlot cX1_addSlot 2 (some .int) 1 [.inr (some (46 + d)), .inl a1] h am_ei (fX1_addSlot d a1 h) := by
  refine am_ofJ (L := [some (.inr (some (46 + d))), some (.inl a1)]) (by decide) rfl (Nat.le_of_ble_eq_true rfl) (fun G g => ?_)
  have g : am_Gd (EX D a ad) RX1 cX1_addSlot 2 (some .int) 1 G := g
  unfold fX1_addSlot
  refine am_aload_n g dX1_addSlot_0 rfl ?_
  refine am_geti (q := 1) (kd := 16) (ix := d) g clX1 dX1_addSlot_1 (Nat.lt_of_lt_of_le (Nat.add_lt_add_left hd 46) (Nat.le_of_ble_eq_true rfl)) (sh_X1 d hd) (by decide) rfl lf_X1_19 ?_
  refine am_bipush g dX1_addSlot_4 (am_il rfl) (am_bi rfl) ?_
  refine am_icmp_lt (tgt := 12) g dX1_addSlot_6 (by decide) ?_ ?_
  · refine am_aload_n g dX1_addSlot_12 rfl ?_
    refine am_getr (q := 0) (a := 52 + d) g clX1 dX1_addSlot_13 (Nat.lt_of_lt_of_le (Nat.add_lt_add_left hd 46) (Nat.le_of_ble_eq_true rfl)) (sh_X1 d hd) (by decide) rfl (Nat.lt_of_lt_of_le (Nat.add_lt_add_left hd 52) (Nat.le_of_ble_eq_true rfl)) lf_X1_9 ?_
    refine am_aload_n g dX1_addSlot_16 rfl ?_
    refine am_geti (q := 1) (kd := 16) (ix := d) g clX1 dX1_addSlot_17 (Nat.lt_of_lt_of_le (Nat.add_lt_add_left hd 46) (Nat.le_of_ble_eq_true rfl)) (sh_X1 d hd) (by decide) rfl lf_X1_19 ?_
    refine am_iload_n g dX1_addSlot_20 rfl ?_
    refine am_iastore (ix := 6 * d + Int.toNat (h 16 d)) (nI := 6) g dX1_addSlot_21 (Nat.lt_of_lt_of_le (Nat.add_lt_add_left hd 52) (Nat.le_of_ble_eq_true rfl)) (sh_X1_slots d hd) rfl rfl ?_
    refine am_gm (fun h1 => ?_)
    refine am_aload_n g dX1_addSlot_22 rfl ?_
    refine am_dup g dX1_addSlot_23 ?_
    refine am_geti (q := 1) (kd := 16) (ix := d) g clX1 dX1_addSlot_24 (Nat.lt_of_lt_of_le (Nat.add_lt_add_left hd 46) (Nat.le_of_ble_eq_true rfl)) (sh_X1 d hd) (by decide) rfl lf_X1_19 ?_
    refine am_iconst g dX1_addSlot_27 (am_il rfl) rfl ?_
    refine am_iadd g dX1_addSlot_28 ?_
    refine am_puti (q := 1) (kd := 16) (ix := d) g clX1 dX1_addSlot_29 (Nat.lt_of_lt_of_le (Nat.add_lt_add_left hd 46) (Nat.le_of_ble_eq_true rfl)) (sh_X1 d hd) (by decide) rfl lf_X1_19 rfl rfl ?_
    refine am_gm (fun h2 => ?_)
    refine am_aload_n g dX1_addSlot_32 rfl ?_
    refine am_geti (q := 1) (kd := 16) (ix := d) g clX1 dX1_addSlot_33 (Nat.lt_of_lt_of_le (Nat.add_lt_add_left hd 46) (Nat.le_of_ble_eq_true rfl)) (sh_X1 d hd) (by decide) rfl lf_X1_19 ?_
    refine am_iconst g dX1_addSlot_36 (am_il rfl) rfl ?_
    refine am_isub g dX1_addSlot_37 ?_
    exact am_ireturn g dX1_addSlot_38
  · refine am_bipush g dX1_addSlot_9 (am_il rfl) (am_bi rfl) ?_
    exact am_ireturn g dX1_addSlot_11
def fX1_removeSlot_12b (K12 : Nat → Int → am_M → Option (Unit × am_M)) (l0 : Nat) (l2 : Int) (h : am_M) : Option (Unit × am_M) := if l2 < (h 16 l0) then (if 0 ≤ (am_w (l2 + 1)) ∧ (am_w (l2 + 1)) < 6 then if 0 ≤ l2 ∧ l2 < 6 then am_l (am_up h 17 (6 * l0 + Int.toNat l2) (h 17 (6 * l0 + Int.toNat (am_w (l2 + 1))))) (fun h2 => K12 l0 (am_w (l2 + 1)) h2) else none else none) else some ((), h)
def fX1_removeSlot_12 : Nat → Int → am_M → Option (Unit × am_M) := am_it (fun _ _ _ => none) (fX1_removeSlot_12b) 400
set_option maxRecDepth 10000 in
theorem jX1_removeSlot_12b {D : va_G} {a : Nat → ClassId} {ad : Nat → Nat} {G : am_G} (g : am_Gd (EX D a ad) RX1 cX1_removeSlot 3 none 1 G) {K12 : Nat → Int → am_M → Option (Unit × am_M)} (hK12 : ∀ (l0 : Nat), l0 < 6 → ∀ (l2 : Int), ∀ h : am_M, am_J (EX D a ad) G 3 am_ev 12 [some (.inr (some (46 + l0))), none, some (.inl l2)] [] h (K12 l0 l2 h)) : ∀ (l0 : Nat), l0 < 6 → ∀ (l2 : Int), ∀ h : am_M, am_J (EX D a ad) G 3 am_ev 12 [some (.inr (some (46 + l0))), none, some (.inl l2)] [] h (fX1_removeSlot_12b K12 l0 l2 h) := by
  intro l0 hl0 l2 h
  unfold fX1_removeSlot_12b
  refine am_iload_n g dX1_removeSlot_12 rfl ?_
  refine am_aload_n g dX1_removeSlot_13 rfl ?_
  refine am_geti (q := 1) (kd := 16) (ix := l0) g clX1 dX1_removeSlot_14 (Nat.lt_of_lt_of_le (Nat.add_lt_add_left hl0 46) (Nat.le_of_ble_eq_true rfl)) (sh_X1 l0 hl0) (by decide) rfl lf_X1_19 ?_
  refine am_icmp_ge (tgt := 40) g dX1_removeSlot_17 (by decide) ?_ ?_
  · exact am_vreturn g dX1_removeSlot_40
  · refine am_aload_n g dX1_removeSlot_20 rfl ?_
    refine am_getr (q := 0) (a := 52 + l0) g clX1 dX1_removeSlot_21 (Nat.lt_of_lt_of_le (Nat.add_lt_add_left hl0 46) (Nat.le_of_ble_eq_true rfl)) (sh_X1 l0 hl0) (by decide) rfl (Nat.lt_of_lt_of_le (Nat.add_lt_add_left hl0 52) (Nat.le_of_ble_eq_true rfl)) lf_X1_9 ?_
    refine am_iload_n g dX1_removeSlot_24 rfl ?_
    refine am_aload_n g dX1_removeSlot_25 rfl ?_
    refine am_getr (q := 0) (a := 52 + l0) g clX1 dX1_removeSlot_26 (Nat.lt_of_lt_of_le (Nat.add_lt_add_left hl0 46) (Nat.le_of_ble_eq_true rfl)) (sh_X1 l0 hl0) (by decide) rfl (Nat.lt_of_lt_of_le (Nat.add_lt_add_left hl0 52) (Nat.le_of_ble_eq_true rfl)) lf_X1_9 ?_
    refine am_iload_n g dX1_removeSlot_29 rfl ?_
    refine am_iconst g dX1_removeSlot_30 (am_il rfl) rfl ?_
    refine am_iadd g dX1_removeSlot_31 ?_
    refine am_iaload (ix := 6 * l0 + Int.toNat (am_w (l2 + 1))) (nI := 6) g dX1_removeSlot_32 (Nat.lt_of_lt_of_le (Nat.add_lt_add_left hl0 52) (Nat.le_of_ble_eq_true rfl)) (sh_X1_slots l0 hl0) rfl rfl ?_
    refine am_iastore (ix := 6 * l0 + Int.toNat l2) (nI := 6) g dX1_removeSlot_33 (Nat.lt_of_lt_of_le (Nat.add_lt_add_left hl0 52) (Nat.le_of_ble_eq_true rfl)) (sh_X1_slots l0 hl0) rfl rfl ?_
    refine am_gm (fun h2 => ?_)
    refine am_iinc g dX1_removeSlot_34 (by decide) rfl ?_
    refine am_goto (tgt := 12) g dX1_removeSlot_37 (by decide) ?_
    exact hK12 l0 hl0 (am_w (l2 + 1)) h2
theorem jX1_removeSlot_12 {D : va_G} {a : Nat → ClassId} {ad : Nat → Nat} {G : am_G} (g : am_Gd (EX D a ad) RX1 cX1_removeSlot 3 none 1 G) : ∀ (l0 : Nat), l0 < 6 → ∀ (l2 : Int), ∀ h : am_M, am_J (EX D a ad) G 3 am_ev 12 [some (.inr (some (46 + l0))), none, some (.inl l2)] [] h (fX1_removeSlot_12 l0 l2 h) := by
  unfold fX1_removeSlot_12
  generalize 400 = n
  induction n with
  | zero => intro l0 hl0 l2 h; exact am_jn
  | succ n ih => exact jX1_removeSlot_12b g ih
def fX1_removeSlot (d : Nat) (a1 : Int) (h : am_M) : Option (Unit × am_M) := am_l (am_up h 16 d (am_w ((h 16 d) - 1))) (fun h1 => fX1_removeSlot_12 d a1 h1)
set_option maxRecDepth 10000 in
theorem cX1_removeSlotC {D : va_G} {a : Nat → ClassId} {ad : Nat → Nat} (d : Nat) (hd : d < 6) (a1 : Int) (h : am_M) : am_C (EX D a ad) yX1_removeSlot cX1_removeSlot 3 none 1 [.inr (some (46 + d)), .inl a1] h am_ev (fX1_removeSlot d a1 h) := by
  refine am_ofJ (L := [some (.inr (some (46 + d))), some (.inl a1), none]) (by decide) rfl (Nat.le_of_ble_eq_true rfl) (fun G g => ?_)
  have g : am_Gd (EX D a ad) RX1 cX1_removeSlot 3 none 1 G := g
  unfold fX1_removeSlot
  refine am_aload_n g dX1_removeSlot_0 rfl ?_
  refine am_dup g dX1_removeSlot_1 ?_
  refine am_geti (q := 1) (kd := 16) (ix := d) g clX1 dX1_removeSlot_2 (Nat.lt_of_lt_of_le (Nat.add_lt_add_left hd 46) (Nat.le_of_ble_eq_true rfl)) (sh_X1 d hd) (by decide) rfl lf_X1_19 ?_
  refine am_iconst g dX1_removeSlot_5 (am_il rfl) rfl ?_
  refine am_isub g dX1_removeSlot_6 ?_
  refine am_puti (q := 1) (kd := 16) (ix := d) g clX1 dX1_removeSlot_7 (Nat.lt_of_lt_of_le (Nat.add_lt_add_left hd 46) (Nat.le_of_ble_eq_true rfl)) (sh_X1 d hd) (by decide) rfl lf_X1_19 rfl rfl ?_
  refine am_gm (fun h1 => ?_)
  refine am_iload_n g dX1_removeSlot_10 rfl ?_
  refine am_istore_n g dX1_removeSlot_11 (by decide) ?_
  refine am_drop 1 ?_
  exact (jX1_removeSlot_12 g) d hd a1 h1
def fX2_renew_48b (K48 : Nat → Int → am_M → Option (Unit × am_M)) (l0 : Nat) (l3 : Int) (h : am_M) : Option (Unit × am_M) := if l3 < 16 then (if 0 ≤ l3 ∧ l3 < 16 then am_l (am_up h 7 (16 * l0 + Int.toNat l3) (-2)) (fun h6 => if 0 ≤ l3 ∧ l3 < 16 then am_l (am_up h6 20 (16 * l0 + Int.toNat l3) 0) (fun h7 => if 0 ≤ l3 ∧ l3 < 16 then am_l (am_up h7 21 (16 * l0 + Int.toNat l3) 0) (fun h8 => if 0 ≤ l3 ∧ l3 < 16 then am_l (am_up h8 10 (16 * l0 + Int.toNat l3) (-1)) (fun h9 => if 0 ≤ l3 ∧ l3 < 16 then am_l (am_up h9 9 (16 * l0 + Int.toNat l3) 0) (fun h10 => K48 l0 (am_w (l3 + 1)) h10) else none) else none) else none) else none) else none) else some ((), h)
def fX2_renew_48 : Nat → Int → am_M → Option (Unit × am_M) := am_it (fun _ _ _ => none) (fX2_renew_48b) 400
set_option maxRecDepth 10000 in
theorem jX2_renew_48b {D : va_G} {a : Nat → ClassId} {ad : Nat → Nat} {G : am_G} (g : am_Gd (EX D a ad) RX2 cX2_renew 4 none 1 G) {K48 : Nat → Int → am_M → Option (Unit × am_M)} (hK48 : ∀ (l0 : Nat), l0 < 4 → ∀ (l3 : Int), ∀ h : am_M, am_J (EX D a ad) G 4 am_ev 48 [some (.inr (some (10 + l0))), none, none, some (.inl l3)] [] h (K48 l0 l3 h)) : ∀ (l0 : Nat), l0 < 4 → ∀ (l3 : Int), ∀ h : am_M, am_J (EX D a ad) G 4 am_ev 48 [some (.inr (some (10 + l0))), none, none, some (.inl l3)] [] h (fX2_renew_48b K48 l0 l3 h) := by
  intro l0 hl0 l3 h
  unfold fX2_renew_48b
  refine am_iload_n g dX2_renew_48 rfl ?_
  refine am_bipush g dX2_renew_49 (am_il rfl) (am_bi rfl) ?_
  refine am_icmp_ge (tgt := 96) g dX2_renew_51 (by decide) ?_ ?_
  · exact am_vreturn g dX2_renew_96
  · refine am_aload_n g dX2_renew_54 rfl ?_
    refine am_getr (q := 1) (a := 18 + l0) g clX2 dX2_renew_55 (Nat.lt_of_lt_of_le (Nat.add_lt_add_left hl0 10) (Nat.le_of_ble_eq_true rfl)) (sh_X2 l0 hl0) (by decide) rfl (Nat.lt_of_lt_of_le (Nat.add_lt_add_left hl0 18) (Nat.le_of_ble_eq_true rfl)) lf_X2_15 ?_
    refine am_iload_n g dX2_renew_58 rfl ?_
    refine am_bipush g dX2_renew_59 (am_il rfl) (am_bi rfl) ?_
    refine am_iastore (ix := 16 * l0 + Int.toNat l3) (nI := 16) g dX2_renew_61 (Nat.lt_of_lt_of_le (Nat.add_lt_add_left hl0 18) (Nat.le_of_ble_eq_true rfl)) (sh_X2_places l0 hl0) rfl rfl ?_
    refine am_gm (fun h6 => ?_)
    refine am_aload_n g dX2_renew_62 rfl ?_
    refine am_getr (q := 3) (a := 26 + l0) g clX2 dX2_renew_63 (Nat.lt_of_lt_of_le (Nat.add_lt_add_left hl0 10) (Nat.le_of_ble_eq_true rfl)) (sh_X2 l0 hl0) (by decide) rfl (Nat.lt_of_lt_of_le (Nat.add_lt_add_left hl0 26) (Nat.le_of_ble_eq_true rfl)) lf_X2_22 ?_
    refine am_iload_n g dX2_renew_66 rfl ?_
    refine am_iconst g dX2_renew_67 (am_il rfl) rfl ?_
    refine am_iastore (ix := 16 * l0 + Int.toNat l3) (nI := 16) g dX2_renew_68 (Nat.lt_of_lt_of_le (Nat.add_lt_add_left hl0 26) (Nat.le_of_ble_eq_true rfl)) (sh_X2_hows l0 hl0) rfl rfl ?_
    refine am_gm (fun h7 => ?_)
    refine am_aload_n g dX2_renew_69 rfl ?_
    refine am_getr (q := 4) (a := 30 + l0) g clX2 dX2_renew_70 (Nat.lt_of_lt_of_le (Nat.add_lt_add_left hl0 10) (Nat.le_of_ble_eq_true rfl)) (sh_X2 l0 hl0) (by decide) rfl (Nat.lt_of_lt_of_le (Nat.add_lt_add_left hl0 30) (Nat.le_of_ble_eq_true rfl)) lf_X2_25 ?_
    refine am_iload_n g dX2_renew_73 rfl ?_
    refine am_iconst g dX2_renew_74 (am_il rfl) rfl ?_
    refine am_iastore (ix := 16 * l0 + Int.toNat l3) (nI := 16) g dX2_renew_75 (Nat.lt_of_lt_of_le (Nat.add_lt_add_left hl0 30) (Nat.le_of_ble_eq_true rfl)) (sh_X2_winners l0 hl0) rfl rfl ?_
    refine am_gm (fun h8 => ?_)
    refine am_aload_n g dX2_renew_76 rfl ?_
    refine am_getr (q := 5) (a := 34 + l0) g clX2 dX2_renew_77 (Nat.lt_of_lt_of_le (Nat.add_lt_add_left hl0 10) (Nat.le_of_ble_eq_true rfl)) (sh_X2 l0 hl0) (by decide) rfl (Nat.lt_of_lt_of_le (Nat.add_lt_add_left hl0 34) (Nat.le_of_ble_eq_true rfl)) lf_X2_28 ?_
    refine am_iload_n g dX2_renew_80 rfl ?_
    refine am_iconst g dX2_renew_81 (am_il rfl) rfl ?_
    refine am_iastore (ix := 16 * l0 + Int.toNat l3) (nI := 16) g dX2_renew_82 (Nat.lt_of_lt_of_le (Nat.add_lt_add_left hl0 34) (Nat.le_of_ble_eq_true rfl)) (sh_X2_realEnds l0 hl0) rfl rfl ?_
    refine am_gm (fun h9 => ?_)
    refine am_aload_n g dX2_renew_83 rfl ?_
    refine am_getr (q := 6) (a := 38 + l0) g clX2 dX2_renew_84 (Nat.lt_of_lt_of_le (Nat.add_lt_add_left hl0 10) (Nat.le_of_ble_eq_true rfl)) (sh_X2 l0 hl0) (by decide) rfl (Nat.lt_of_lt_of_le (Nat.add_lt_add_left hl0 38) (Nat.le_of_ble_eq_true rfl)) lf_X2_31 ?_
    refine am_iload_n g dX2_renew_87 rfl ?_
    refine am_iconst g dX2_renew_88 (am_il rfl) rfl ?_
    refine am_iastore (ix := 16 * l0 + Int.toNat l3) (nI := 16) g dX2_renew_89 (Nat.lt_of_lt_of_le (Nat.add_lt_add_left hl0 38) (Nat.le_of_ble_eq_true rfl)) (sh_X2_points l0 hl0) rfl rfl ?_
    refine am_gm (fun h10 => ?_)
    refine am_iinc g dX2_renew_90 (by decide) rfl ?_
    refine am_goto (tgt := 48) g dX2_renew_93 (by decide) ?_
    exact hK48 l0 hl0 (am_w (l3 + 1)) h10
theorem jX2_renew_48 {D : va_G} {a : Nat → ClassId} {ad : Nat → Nat} {G : am_G} (g : am_Gd (EX D a ad) RX2 cX2_renew 4 none 1 G) : ∀ (l0 : Nat), l0 < 4 → ∀ (l3 : Int), ∀ h : am_M, am_J (EX D a ad) G 4 am_ev 48 [some (.inr (some (10 + l0))), none, none, some (.inl l3)] [] h (fX2_renew_48 l0 l3 h) := by
  unfold fX2_renew_48
  generalize 400 = n
  induction n with
  | zero => intro l0 hl0 l3 h; exact am_jn
  | succ n ih => exact jX2_renew_48b g ih
def fX2_renew_46 (l0 : Nat) (h : am_M) : Option (Unit × am_M) := fX2_renew_48 l0 0 h
set_option maxRecDepth 10000 in
theorem jX2_renew_46 {D : va_G} {a : Nat → ClassId} {ad : Nat → Nat} {G : am_G} (g : am_Gd (EX D a ad) RX2 cX2_renew 4 none 1 G) : ∀ (l0 : Nat), l0 < 4 → ∀ h : am_M, am_J (EX D a ad) G 4 am_ev 46 [some (.inr (some (10 + l0))), none, none, none] [] h (fX2_renew_46 l0 h) := by
  intro l0 hl0 h
  unfold fX2_renew_46
  refine am_iconst g dX2_renew_46 (am_il rfl) rfl ?_
  refine am_istore_n g dX2_renew_47 (by decide) ?_
  exact (jX2_renew_48 g) l0 hl0 0 h
def fX2_renew_27b (K27 : Nat → Int → am_M → Option (Unit × am_M)) (l0 : Nat) (l3 : Int) (h : am_M) : Option (Unit × am_M) := if l3 < 40 then (if 0 ≤ l3 ∧ l3 < 40 then am_l (am_up h 8 (40 * l0 + Int.toNat l3) 0) (fun h11 => K27 l0 (am_w (l3 + 1)) h11) else none) else fX2_renew_46 l0 h
def fX2_renew_27 : Nat → Int → am_M → Option (Unit × am_M) := am_it (fun _ _ _ => none) (fX2_renew_27b) 400
set_option maxRecDepth 10000 in
theorem jX2_renew_27b {D : va_G} {a : Nat → ClassId} {ad : Nat → Nat} {G : am_G} (g : am_Gd (EX D a ad) RX2 cX2_renew 4 none 1 G) {K27 : Nat → Int → am_M → Option (Unit × am_M)} (hK27 : ∀ (l0 : Nat), l0 < 4 → ∀ (l3 : Int), ∀ h : am_M, am_J (EX D a ad) G 4 am_ev 27 [some (.inr (some (10 + l0))), none, none, some (.inl l3)] [] h (K27 l0 l3 h)) : ∀ (l0 : Nat), l0 < 4 → ∀ (l3 : Int), ∀ h : am_M, am_J (EX D a ad) G 4 am_ev 27 [some (.inr (some (10 + l0))), none, none, some (.inl l3)] [] h (fX2_renew_27b K27 l0 l3 h) := by
  intro l0 hl0 l3 h
  unfold fX2_renew_27b
  refine am_iload_n g dX2_renew_27 rfl ?_
  refine am_bipush g dX2_renew_28 (am_il rfl) (am_bi rfl) ?_
  refine am_icmp_ge (tgt := 46) g dX2_renew_30 (by decide) ?_ ?_
  · refine am_drop 3 ?_
    exact (jX2_renew_46 g) l0 hl0 h
  · refine am_aload_n g dX2_renew_33 rfl ?_
    refine am_getr (q := 2) (a := 22 + l0) g clX2 dX2_renew_34 (Nat.lt_of_lt_of_le (Nat.add_lt_add_left hl0 10) (Nat.le_of_ble_eq_true rfl)) (sh_X2 l0 hl0) (by decide) rfl (Nat.lt_of_lt_of_le (Nat.add_lt_add_left hl0 22) (Nat.le_of_ble_eq_true rfl)) lf_X2_18 ?_
    refine am_iload_n g dX2_renew_37 rfl ?_
    refine am_iconst g dX2_renew_38 (am_il rfl) rfl ?_
    refine am_zastoreB (ix := 40 * l0 + Int.toNat l3) (nI := 40) g dX2_renew_39 (Nat.lt_of_lt_of_le (Nat.add_lt_add_left hl0 22) (Nat.le_of_ble_eq_true rfl)) (sh_X2_came l0 hl0) rfl rfl (by decide) ?_
    refine am_gm (fun h11 => ?_)
    refine am_iinc g dX2_renew_40 (by decide) rfl ?_
    refine am_goto (tgt := 27) g dX2_renew_43 (by decide) ?_
    exact hK27 l0 hl0 (am_w (l3 + 1)) h11
theorem jX2_renew_27 {D : va_G} {a : Nat → ClassId} {ad : Nat → Nat} {G : am_G} (g : am_Gd (EX D a ad) RX2 cX2_renew 4 none 1 G) : ∀ (l0 : Nat), l0 < 4 → ∀ (l3 : Int), ∀ h : am_M, am_J (EX D a ad) G 4 am_ev 27 [some (.inr (some (10 + l0))), none, none, some (.inl l3)] [] h (fX2_renew_27 l0 l3 h) := by
  unfold fX2_renew_27
  generalize 400 = n
  induction n with
  | zero => intro l0 hl0 l3 h; exact am_jn
  | succ n ih => exact jX2_renew_27b g ih
def fX2_renew (d : Nat) (a1 : Int) (a2 : Int) (h : am_M) : Option (Unit × am_M) := am_l (am_up h 1 d a1) (fun h1 => am_l (am_up h1 2 d a2) (fun h2 => am_l (am_up h2 3 d 0) (fun h3 => am_l (am_up h3 4 d 0) (fun h4 => am_l (am_up h4 5 d 0) (fun h5 => fX2_renew_27 d 0 h5)))))
set_option maxRecDepth 10000 in
theorem cX2_renewC {D : va_G} {a : Nat → ClassId} {ad : Nat → Nat} (d : Nat) (hd : d < 4) (a1 : Int) (a2 : Int) (h : am_M) : am_C (EX D a ad) yX2_renew cX2_renew 4 none 1 [.inr (some (10 + d)), .inl a1, .inl a2] h am_ev (fX2_renew d a1 a2 h) := by
  refine am_ofJ (L := [some (.inr (some (10 + d))), some (.inl a1), some (.inl a2), none]) (by decide) rfl (Nat.le_of_ble_eq_true rfl) (fun G g => ?_)
  have g : am_Gd (EX D a ad) RX2 cX2_renew 4 none 1 G := g
  unfold fX2_renew
  refine am_aload_n g dX2_renew_0 rfl ?_
  refine am_iload_n g dX2_renew_1 rfl ?_
  refine am_puti (q := 8) (kd := 1) (ix := d) g clX2 dX2_renew_2 (Nat.lt_of_lt_of_le (Nat.add_lt_add_left hd 10) (Nat.le_of_ble_eq_true rfl)) (sh_X2 d hd) (by decide) rfl lf_X2_37 rfl rfl ?_
  refine am_gm (fun h1 => ?_)
  refine am_aload_n g dX2_renew_5 rfl ?_
  refine am_iload_n g dX2_renew_6 rfl ?_
  refine am_puti (q := 9) (kd := 2) (ix := d) g clX2 dX2_renew_7 (Nat.lt_of_lt_of_le (Nat.add_lt_add_left hd 10) (Nat.le_of_ble_eq_true rfl)) (sh_X2 d hd) (by decide) rfl lf_X2_41 rfl rfl ?_
  refine am_gm (fun h2 => ?_)
  refine am_aload_n g dX2_renew_10 rfl ?_
  refine am_iconst g dX2_renew_11 (am_il rfl) rfl ?_
  refine am_puti (q := 10) (kd := 3) (ix := d) g clX2 dX2_renew_12 (Nat.lt_of_lt_of_le (Nat.add_lt_add_left hd 10) (Nat.le_of_ble_eq_true rfl)) (sh_X2 d hd) (by decide) rfl lf_X2_44 rfl rfl ?_
  refine am_gm (fun h3 => ?_)
  refine am_aload_n g dX2_renew_15 rfl ?_
  refine am_iconst g dX2_renew_16 (am_il rfl) rfl ?_
  refine am_puti (q := 11) (kd := 4) (ix := d) g clX2 dX2_renew_17 (Nat.lt_of_lt_of_le (Nat.add_lt_add_left hd 10) (Nat.le_of_ble_eq_true rfl)) (sh_X2 d hd) (by decide) rfl lf_X2_47 rfl rfl ?_
  refine am_gm (fun h4 => ?_)
  refine am_aload_n g dX2_renew_20 rfl ?_
  refine am_iconst g dX2_renew_21 (am_il rfl) rfl ?_
  refine am_putzB (q := 12) (kd := 5) (ix := d) g clX2 dX2_renew_22 (Nat.lt_of_lt_of_le (Nat.add_lt_add_left hd 10) (Nat.le_of_ble_eq_true rfl)) (sh_X2 d hd) (by decide) rfl lf_X2_50 rfl rfl (by decide) ?_
  refine am_gm (fun h5 => ?_)
  refine am_iconst g dX2_renew_25 (am_il rfl) rfl ?_
  refine am_istore_n g dX2_renew_26 (by decide) ?_
  refine am_drop 1 ?_
  refine am_drop 2 ?_
  exact (jX2_renew_27 g) d hd 0 h5
def fX2_admit (d : Nat) (a1 : Int) (h : am_M) : Option (Unit × am_M) := if 0 ≤ (h 3 d) ∧ (h 3 d) < 16 then am_l (am_up h 6 (16 * d + Int.toNat (h 3 d)) a1) (fun h1 => if 0 ≤ a1 ∧ a1 < 40 then am_l (am_up h1 8 (40 * d + Int.toNat a1) 1) (fun h2 => am_l (am_up h2 3 d (am_w ((h2 3 d) + 1))) (fun h3 => some ((), h3))) else none) else none
set_option maxRecDepth 10000 in
theorem cX2_admitC {D : va_G} {a : Nat → ClassId} {ad : Nat → Nat} (d : Nat) (hd : d < 4) (a1 : Int) (h : am_M) : am_C (EX D a ad) yX2_admit cX2_admit 2 none 1 [.inr (some (10 + d)), .inl a1] h am_ev (fX2_admit d a1 h) := by
  refine am_ofJ (L := [some (.inr (some (10 + d))), some (.inl a1)]) (by decide) rfl (Nat.le_of_ble_eq_true rfl) (fun G g => ?_)
  have g : am_Gd (EX D a ad) RX2 cX2_admit 2 none 1 G := g
  unfold fX2_admit
  refine am_aload_n g dX2_admit_0 rfl ?_
  refine am_getr (q := 0) (a := 14 + d) g clX2 dX2_admit_1 (Nat.lt_of_lt_of_le (Nat.add_lt_add_left hd 10) (Nat.le_of_ble_eq_true rfl)) (sh_X2 d hd) (by decide) rfl (Nat.lt_of_lt_of_le (Nat.add_lt_add_left hd 14) (Nat.le_of_ble_eq_true rfl)) lf_X2_9 ?_
  refine am_aload_n g dX2_admit_4 rfl ?_
  refine am_geti (q := 10) (kd := 3) (ix := d) g clX2 dX2_admit_5 (Nat.lt_of_lt_of_le (Nat.add_lt_add_left hd 10) (Nat.le_of_ble_eq_true rfl)) (sh_X2 d hd) (by decide) rfl lf_X2_44 ?_
  refine am_iload_n g dX2_admit_8 rfl ?_
  refine am_iastore (ix := 16 * d + Int.toNat (h 3 d)) (nI := 16) g dX2_admit_9 (Nat.lt_of_lt_of_le (Nat.add_lt_add_left hd 14) (Nat.le_of_ble_eq_true rfl)) (sh_X2_entrants d hd) rfl rfl ?_
  refine am_gm (fun h1 => ?_)
  refine am_aload_n g dX2_admit_10 rfl ?_
  refine am_getr (q := 2) (a := 22 + d) g clX2 dX2_admit_11 (Nat.lt_of_lt_of_le (Nat.add_lt_add_left hd 10) (Nat.le_of_ble_eq_true rfl)) (sh_X2 d hd) (by decide) rfl (Nat.lt_of_lt_of_le (Nat.add_lt_add_left hd 22) (Nat.le_of_ble_eq_true rfl)) lf_X2_18 ?_
  refine am_iload_n g dX2_admit_14 rfl ?_
  refine am_iconst g dX2_admit_15 (am_il rfl) rfl ?_
  refine am_zastoreB (ix := 40 * d + Int.toNat a1) (nI := 40) g dX2_admit_16 (Nat.lt_of_lt_of_le (Nat.add_lt_add_left hd 22) (Nat.le_of_ble_eq_true rfl)) (sh_X2_came d hd) rfl rfl (by decide) ?_
  refine am_gm (fun h2 => ?_)
  refine am_aload_n g dX2_admit_17 rfl ?_
  refine am_dup g dX2_admit_18 ?_
  refine am_geti (q := 10) (kd := 3) (ix := d) g clX2 dX2_admit_19 (Nat.lt_of_lt_of_le (Nat.add_lt_add_left hd 10) (Nat.le_of_ble_eq_true rfl)) (sh_X2 d hd) (by decide) rfl lf_X2_44 ?_
  refine am_iconst g dX2_admit_22 (am_il rfl) rfl ?_
  refine am_iadd g dX2_admit_23 ?_
  refine am_puti (q := 10) (kd := 3) (ix := d) g clX2 dX2_admit_24 (Nat.lt_of_lt_of_le (Nat.add_lt_add_left hd 10) (Nat.le_of_ble_eq_true rfl)) (sh_X2 d hd) (by decide) rfl lf_X2_44 rfl rfl ?_
  refine am_gm (fun h3 => ?_)
  exact am_vreturn g dX2_admit_27
def fX2_finish (d : Nat) (a1 : Int) (a2 : Int) (a3 : Int) (h : am_M) : Option (Unit × am_M) := if 0 ≤ a1 ∧ a1 < 16 then am_l (am_up h 20 (16 * d + Int.toNat a1) a2) (fun h1 => if 0 ≤ a1 ∧ a1 < 16 then am_l (am_up h1 21 (16 * d + Int.toNat a1) a3) (fun h2 => some ((), h2)) else none) else none
set_option maxRecDepth 10000 in
theorem cX2_finishC {D : va_G} {a : Nat → ClassId} {ad : Nat → Nat} (d : Nat) (hd : d < 4) (a1 : Int) (a2 : Int) (a3 : Int) (h : am_M) : am_C (EX D a ad) yX2_finish cX2_finish 4 none 1 [.inr (some (10 + d)), .inl a1, .inl a2, .inl a3] h am_ev (fX2_finish d a1 a2 a3 h) := by
  refine am_ofJ (L := [some (.inr (some (10 + d))), some (.inl a1), some (.inl a2), some (.inl a3)]) (by decide) rfl (Nat.le_of_ble_eq_true rfl) (fun G g => ?_)
  have g : am_Gd (EX D a ad) RX2 cX2_finish 4 none 1 G := g
  unfold fX2_finish
  refine am_aload_n g dX2_finish_0 rfl ?_
  refine am_getr (q := 3) (a := 26 + d) g clX2 dX2_finish_1 (Nat.lt_of_lt_of_le (Nat.add_lt_add_left hd 10) (Nat.le_of_ble_eq_true rfl)) (sh_X2 d hd) (by decide) rfl (Nat.lt_of_lt_of_le (Nat.add_lt_add_left hd 26) (Nat.le_of_ble_eq_true rfl)) lf_X2_22 ?_
  refine am_iload_n g dX2_finish_4 rfl ?_
  refine am_iload_n g dX2_finish_5 rfl ?_
  refine am_iastore (ix := 16 * d + Int.toNat a1) (nI := 16) g dX2_finish_6 (Nat.lt_of_lt_of_le (Nat.add_lt_add_left hd 26) (Nat.le_of_ble_eq_true rfl)) (sh_X2_hows d hd) rfl rfl ?_
  refine am_gm (fun h1 => ?_)
  refine am_aload_n g dX2_finish_7 rfl ?_
  refine am_getr (q := 4) (a := 30 + d) g clX2 dX2_finish_8 (Nat.lt_of_lt_of_le (Nat.add_lt_add_left hd 10) (Nat.le_of_ble_eq_true rfl)) (sh_X2 d hd) (by decide) rfl (Nat.lt_of_lt_of_le (Nat.add_lt_add_left hd 30) (Nat.le_of_ble_eq_true rfl)) lf_X2_25 ?_
  refine am_iload_n g dX2_finish_11 rfl ?_
  refine am_iload_n g dX2_finish_12 rfl ?_
  refine am_iastore (ix := 16 * d + Int.toNat a1) (nI := 16) g dX2_finish_13 (Nat.lt_of_lt_of_le (Nat.add_lt_add_left hd 30) (Nat.le_of_ble_eq_true rfl)) (sh_X2_winners d hd) rfl rfl ?_
  refine am_gm (fun h2 => ?_)
  exact am_vreturn g dX2_finish_14
def fX2_open_62 (K7 : Nat → Int → am_M → Option (Unit × am_M)) (l0 : Nat) (l1 : Int) (h : am_M) : Option (Unit × am_M) := K7 l0 (am_w (l1 + 1)) h
set_option maxRecDepth 10000 in
theorem jX2_open_62 {D : va_G} {a : Nat → ClassId} {ad : Nat → Nat} {G : am_G} (g : am_Gd (EX D a ad) RX2 cX2_open 2 none 2 G) {K7 : Nat → Int → am_M → Option (Unit × am_M)} (hK7 : ∀ (l0 : Nat), l0 < 4 → ∀ (l1 : Int), ∀ h : am_M, am_J (EX D a ad) G 2 am_ev 7 [some (.inr (some (10 + l0))), some (.inl l1)] [] h (K7 l0 l1 h)) : ∀ (l0 : Nat), l0 < 4 → ∀ (l1 : Int), ∀ h : am_M, am_J (EX D a ad) G 2 am_ev 62 [some (.inr (some (10 + l0))), some (.inl l1)] [] h (fX2_open_62 K7 l0 l1 h) := by
  intro l0 hl0 l1 h
  unfold fX2_open_62
  refine am_iinc g dX2_open_62 (by decide) rfl ?_
  refine am_goto (tgt := 7) g dX2_open_65 (by decide) ?_
  exact hK7 l0 hl0 (am_w (l1 + 1)) h
def fX2_open_7b (K7 : Nat → Int → am_M → Option (Unit × am_M)) (l0 : Nat) (l1 : Int) (h : am_M) : Option (Unit × am_M) := if l1 < (am_w (Int.tdiv (h 1 l0) 2)) then (if 0 ≤ (am_w (2 * l1)) ∧ (am_w (2 * l1)) < 16 then if (h 7 (16 * l0 + Int.toNat (am_w (2 * l1)))) = (-1) then am_b (fX2_finish l0 l1 6 1 h) (fun _ h3 => (fX2_open_62 K7) l0 l1 h3) else if 0 ≤ (am_w ((am_w (2 * l1)) + 1)) ∧ (am_w ((am_w (2 * l1)) + 1)) < 16 then if (h 7 (16 * l0 + Int.toNat (am_w ((am_w (2 * l1)) + 1)))) = (-1) then am_b (fX2_finish l0 l1 6 0 h) (fun _ h2 => (fX2_open_62 K7) l0 l1 h2) else (fX2_open_62 K7) l0 l1 h else none else none) else some ((), h)
def fX2_open_7 : Nat → Int → am_M → Option (Unit × am_M) := am_it (fun _ _ _ => none) (fX2_open_7b) 400
set_option maxRecDepth 10000 in
theorem jX2_open_7b {D : va_G} {a : Nat → ClassId} {ad : Nat → Nat} {G : am_G} (g : am_Gd (EX D a ad) RX2 cX2_open 2 none 2 G) {K7 : Nat → Int → am_M → Option (Unit × am_M)} (hK7 : ∀ (l0 : Nat), l0 < 4 → ∀ (l1 : Int), ∀ h : am_M, am_J (EX D a ad) G 2 am_ev 7 [some (.inr (some (10 + l0))), some (.inl l1)] [] h (K7 l0 l1 h)) : ∀ (l0 : Nat), l0 < 4 → ∀ (l1 : Int), ∀ h : am_M, am_J (EX D a ad) G 2 am_ev 7 [some (.inr (some (10 + l0))), some (.inl l1)] [] h (fX2_open_7b K7 l0 l1 h) := by
  intro l0 hl0 l1 h
  unfold fX2_open_7b
  refine am_iload_n g dX2_open_7 rfl ?_
  refine am_aload_n g dX2_open_8 rfl ?_
  refine am_geti (q := 8) (kd := 1) (ix := l0) g clX2 dX2_open_9 (Nat.lt_of_lt_of_le (Nat.add_lt_add_left hl0 10) (Nat.le_of_ble_eq_true rfl)) (sh_X2 l0 hl0) (by decide) rfl lf_X2_37 ?_
  refine am_iconst g dX2_open_12 (am_il rfl) rfl ?_
  refine am_idiv g dX2_open_13 (by decide) ?_
  refine am_icmp_ge (tgt := 68) g dX2_open_14 (by decide) ?_ ?_
  · exact am_vreturn g dX2_open_68
  · refine am_aload_n g dX2_open_17 rfl ?_
    refine am_getr (q := 1) (a := 18 + l0) g clX2 dX2_open_18 (Nat.lt_of_lt_of_le (Nat.add_lt_add_left hl0 10) (Nat.le_of_ble_eq_true rfl)) (sh_X2 l0 hl0) (by decide) rfl (Nat.lt_of_lt_of_le (Nat.add_lt_add_left hl0 18) (Nat.le_of_ble_eq_true rfl)) lf_X2_15 ?_
    refine am_iconst g dX2_open_21 (am_il rfl) rfl ?_
    refine am_iload_n g dX2_open_22 rfl ?_
    refine am_imul g dX2_open_23 ?_
    refine am_iaload (ix := 16 * l0 + Int.toNat (am_w (2 * l1))) (nI := 16) g dX2_open_24 (Nat.lt_of_lt_of_le (Nat.add_lt_add_left hl0 18) (Nat.le_of_ble_eq_true rfl)) (sh_X2_places l0 hl0) rfl rfl ?_
    refine am_iconst g dX2_open_25 (am_il rfl) rfl ?_
    refine am_icmp_ne (tgt := 40) g dX2_open_26 (by decide) ?_ ?_
    · refine am_aload_n g dX2_open_40 rfl ?_
      refine am_getr (q := 1) (a := 18 + l0) g clX2 dX2_open_41 (Nat.lt_of_lt_of_le (Nat.add_lt_add_left hl0 10) (Nat.le_of_ble_eq_true rfl)) (sh_X2 l0 hl0) (by decide) rfl (Nat.lt_of_lt_of_le (Nat.add_lt_add_left hl0 18) (Nat.le_of_ble_eq_true rfl)) lf_X2_15 ?_
      refine am_iconst g dX2_open_44 (am_il rfl) rfl ?_
      refine am_iload_n g dX2_open_45 rfl ?_
      refine am_imul g dX2_open_46 ?_
      refine am_iconst g dX2_open_47 (am_il rfl) rfl ?_
      refine am_iadd g dX2_open_48 ?_
      refine am_iaload (ix := 16 * l0 + Int.toNat (am_w ((am_w (2 * l1)) + 1))) (nI := 16) g dX2_open_49 (Nat.lt_of_lt_of_le (Nat.add_lt_add_left hl0 18) (Nat.le_of_ble_eq_true rfl)) (sh_X2_places l0 hl0) rfl rfl ?_
      refine am_iconst g dX2_open_50 (am_il rfl) rfl ?_
      refine am_icmp_ne (tgt := 62) g dX2_open_51 (by decide) ?_ ?_
      · exact (jX2_open_62 g hK7) l0 hl0 l1 h
      · refine am_aload_n g dX2_open_54 rfl ?_
        refine am_iload_n g dX2_open_55 rfl ?_
        refine am_bipush g dX2_open_56 (am_il rfl) (am_bi rfl) ?_
        refine am_iconst g dX2_open_58 (am_il rfl) rfl ?_
        refine am_Vv (as := [.inl l1, .inl 6, .inl 0]) (S := []) g (cX2_finishC l0 hl0 l1 6 0 h) mi_X2_finish lm_X2_54 clX2.1 (Nat.lt_of_lt_of_le (Nat.add_lt_add_left hl0 10) (Nat.le_of_ble_eq_true rfl)) (sh_X2 l0 hl0) dX2_open_59 rfl (by decide) (Nat.le_of_ble_eq_true rfl) rfl (fun _ h2 => ?_)
        exact (jX2_open_62 g hK7) l0 hl0 l1 h2
    · refine am_aload_n g dX2_open_29 rfl ?_
      refine am_iload_n g dX2_open_30 rfl ?_
      refine am_bipush g dX2_open_31 (am_il rfl) (am_bi rfl) ?_
      refine am_iconst g dX2_open_33 (am_il rfl) rfl ?_
      refine am_Vv (as := [.inl l1, .inl 6, .inl 1]) (S := []) g (cX2_finishC l0 hl0 l1 6 1 h) mi_X2_finish lm_X2_54 clX2.1 (Nat.lt_of_lt_of_le (Nat.add_lt_add_left hl0 10) (Nat.le_of_ble_eq_true rfl)) (sh_X2 l0 hl0) dX2_open_34 rfl (by decide) (Nat.le_of_ble_eq_true rfl) rfl (fun _ h3 => ?_)
      refine am_goto (tgt := 62) g dX2_open_37 (by decide) ?_
      exact (jX2_open_62 g hK7) l0 hl0 l1 h3
theorem jX2_open_7 {D : va_G} {a : Nat → ClassId} {ad : Nat → Nat} {G : am_G} (g : am_Gd (EX D a ad) RX2 cX2_open 2 none 2 G) : ∀ (l0 : Nat), l0 < 4 → ∀ (l1 : Int), ∀ h : am_M, am_J (EX D a ad) G 2 am_ev 7 [some (.inr (some (10 + l0))), some (.inl l1)] [] h (fX2_open_7 l0 l1 h) := by
  unfold fX2_open_7
  generalize 400 = n
  induction n with
  | zero => intro l0 hl0 l1 h; exact am_jn
  | succ n ih => exact jX2_open_7b g ih
def fX2_open (d : Nat) (h : am_M) : Option (Unit × am_M) := am_l (am_up h 5 d 1) (fun h1 => fX2_open_7 d 0 h1)
set_option maxRecDepth 10000 in
theorem cX2_openC {D : va_G} {a : Nat → ClassId} {ad : Nat → Nat} (d : Nat) (hd : d < 4) (h : am_M) : am_C (EX D a ad) yX2_open cX2_open 2 none 2 [.inr (some (10 + d))] h am_ev (fX2_open d h) := by
  refine am_ofJ (L := [some (.inr (some (10 + d))), none]) (by decide) rfl (Nat.le_of_ble_eq_true rfl) (fun G g => ?_)
  have g : am_Gd (EX D a ad) RX2 cX2_open 2 none 2 G := g
  unfold fX2_open
  refine am_aload_n g dX2_open_0 rfl ?_
  refine am_iconst g dX2_open_1 (am_il rfl) rfl ?_
  refine am_putzB (q := 12) (kd := 5) (ix := d) g clX2 dX2_open_2 (Nat.lt_of_lt_of_le (Nat.add_lt_add_left hd 10) (Nat.le_of_ble_eq_true rfl)) (sh_X2 d hd) (by decide) rfl lf_X2_50 rfl rfl (by decide) ?_
  refine am_gm (fun h1 => ?_)
  refine am_iconst g dX2_open_5 (am_il rfl) rfl ?_
  refine am_istore_n g dX2_open_6 (by decide) ?_
  exact (jX2_open_7 g) d hd 0 h1
def fX2_feeder (d : Nat) (a1 : Int) (a2 : Int) (h : am_M) : Option (Int × am_M) := if a1 < (am_w (Int.tdiv (h 1 d) 2)) then some ((-1), h) else some (am_w ((am_w (2 * (am_w (a1 - (am_w (Int.tdiv (h 1 d) 2)))))) + a2), h)
set_option maxRecDepth 10000 in
theorem cX2_feederC {D : va_G} {a : Nat → ClassId} {ad : Nat → Nat} (d : Nat) (hd : d < 4) (a1 : Int) (a2 : Int) (h : am_M) : am_C (EX D a ad) yX2_feeder cX2_feeder 3 (some .int) 1 [.inr (some (10 + d)), .inl a1, .inl a2] h am_ei (fX2_feeder d a1 a2 h) := by
  refine am_ofJ (L := [some (.inr (some (10 + d))), some (.inl a1), some (.inl a2)]) (by decide) rfl (Nat.le_of_ble_eq_true rfl) (fun G g => ?_)
  have g : am_Gd (EX D a ad) RX2 cX2_feeder 3 (some .int) 1 G := g
  unfold fX2_feeder
  refine am_iload_n g dX2_feeder_0 rfl ?_
  refine am_aload_n g dX2_feeder_1 rfl ?_
  refine am_geti (q := 8) (kd := 1) (ix := d) g clX2 dX2_feeder_2 (Nat.lt_of_lt_of_le (Nat.add_lt_add_left hd 10) (Nat.le_of_ble_eq_true rfl)) (sh_X2 d hd) (by decide) rfl lf_X2_37 ?_
  refine am_iconst g dX2_feeder_5 (am_il rfl) rfl ?_
  refine am_idiv g dX2_feeder_6 (by decide) ?_
  refine am_icmp_ge (tgt := 14) g dX2_feeder_7 (by decide) ?_ ?_
  · refine am_iconst g dX2_feeder_14 (am_il rfl) rfl ?_
    refine am_iload_n g dX2_feeder_15 rfl ?_
    refine am_aload_n g dX2_feeder_16 rfl ?_
    refine am_geti (q := 8) (kd := 1) (ix := d) g clX2 dX2_feeder_17 (Nat.lt_of_lt_of_le (Nat.add_lt_add_left hd 10) (Nat.le_of_ble_eq_true rfl)) (sh_X2 d hd) (by decide) rfl lf_X2_37 ?_
    refine am_iconst g dX2_feeder_20 (am_il rfl) rfl ?_
    refine am_idiv g dX2_feeder_21 (by decide) ?_
    refine am_isub g dX2_feeder_22 ?_
    refine am_imul g dX2_feeder_23 ?_
    refine am_iload_n g dX2_feeder_24 rfl ?_
    refine am_iadd g dX2_feeder_25 ?_
    exact am_ireturn g dX2_feeder_26
  · refine am_iconst g dX2_feeder_10 (am_il rfl) rfl ?_
    refine am_goto (tgt := 26) g dX2_feeder_11 (by decide) ?_
    exact am_ireturn g dX2_feeder_26
def fX2_next (d : Nat) (a1 : Int) (h : am_M) : Option (Int × am_M) := am_l (am_w ((am_w (Int.tdiv (h 1 d) 2)) + (am_w (Int.tdiv a1 2)))) (fun x1 => if x1 < (am_w ((h 1 d) - 1)) then some (x1, h) else some ((-1), h))
set_option maxRecDepth 10000 in
theorem cX2_nextC {D : va_G} {a : Nat → ClassId} {ad : Nat → Nat} (d : Nat) (hd : d < 4) (a1 : Int) (h : am_M) : am_C (EX D a ad) yX2_next cX2_next 3 (some .int) 1 [.inr (some (10 + d)), .inl a1] h am_ei (fX2_next d a1 h) := by
  refine am_ofJ (L := [some (.inr (some (10 + d))), some (.inl a1), none]) (by decide) rfl (Nat.le_of_ble_eq_true rfl) (fun G g => ?_)
  have g : am_Gd (EX D a ad) RX2 cX2_next 3 (some .int) 1 G := g
  unfold fX2_next
  refine am_aload_n g dX2_next_0 rfl ?_
  refine am_geti (q := 8) (kd := 1) (ix := d) g clX2 dX2_next_1 (Nat.lt_of_lt_of_le (Nat.add_lt_add_left hd 10) (Nat.le_of_ble_eq_true rfl)) (sh_X2 d hd) (by decide) rfl lf_X2_37 ?_
  refine am_iconst g dX2_next_4 (am_il rfl) rfl ?_
  refine am_idiv g dX2_next_5 (by decide) ?_
  refine am_iload_n g dX2_next_6 rfl ?_
  refine am_iconst g dX2_next_7 (am_il rfl) rfl ?_
  refine am_idiv g dX2_next_8 (by decide) ?_
  refine am_iadd g dX2_next_9 ?_
  refine am_gv (fun x1 => ?_)
  refine am_istore_n g dX2_next_10 (by decide) ?_
  refine am_iload_n g dX2_next_11 rfl ?_
  refine am_aload_n g dX2_next_12 rfl ?_
  refine am_geti (q := 8) (kd := 1) (ix := d) g clX2 dX2_next_13 (Nat.lt_of_lt_of_le (Nat.add_lt_add_left hd 10) (Nat.le_of_ble_eq_true rfl)) (sh_X2 d hd) (by decide) rfl lf_X2_37 ?_
  refine am_iconst g dX2_next_16 (am_il rfl) rfl ?_
  refine am_isub g dX2_next_17 ?_
  refine am_icmp_ge (tgt := 25) g dX2_next_18 (by decide) ?_ ?_
  · refine am_iconst g dX2_next_25 (am_il rfl) rfl ?_
    exact am_ireturn g dX2_next_26
  · refine am_iload_n g dX2_next_21 rfl ?_
    refine am_goto (tgt := 26) g dX2_next_22 (by decide) ?_
    exact am_ireturn g dX2_next_26
def fX2_firstOf (d : Nat) (a1 : Int) (h : am_M) : Option (Int × am_M) := some (am_w ((h 1 d) - (am_shr (h 1 d) a1)), h)
set_option maxRecDepth 10000 in
theorem cX2_firstOfC {D : va_G} {a : Nat → ClassId} {ad : Nat → Nat} (d : Nat) (hd : d < 4) (a1 : Int) (h : am_M) : am_C (EX D a ad) yX2_firstOf cX2_firstOf 2 (some .int) 1 [.inr (some (10 + d)), .inl a1] h am_ei (fX2_firstOf d a1 h) := by
  refine am_ofJ (L := [some (.inr (some (10 + d))), some (.inl a1)]) (by decide) rfl (Nat.le_of_ble_eq_true rfl) (fun G g => ?_)
  have g : am_Gd (EX D a ad) RX2 cX2_firstOf 2 (some .int) 1 G := g
  unfold fX2_firstOf
  refine am_aload_n g dX2_firstOf_0 rfl ?_
  refine am_geti (q := 8) (kd := 1) (ix := d) g clX2 dX2_firstOf_1 (Nat.lt_of_lt_of_le (Nat.add_lt_add_left hd 10) (Nat.le_of_ble_eq_true rfl)) (sh_X2 d hd) (by decide) rfl lf_X2_37 ?_
  refine am_aload_n g dX2_firstOf_4 rfl ?_
  refine am_geti (q := 8) (kd := 1) (ix := d) g clX2 dX2_firstOf_5 (Nat.lt_of_lt_of_le (Nat.add_lt_add_left hd 10) (Nat.le_of_ble_eq_true rfl)) (sh_X2 d hd) (by decide) rfl lf_X2_37 ?_
  refine am_iload_n g dX2_firstOf_8 rfl ?_
  refine am_ishr g dX2_firstOf_9 ?_
  refine am_isub g dX2_firstOf_10 ?_
  exact am_ireturn g dX2_firstOf_11
def fX8_isSide (a1 : Int) (h : am_M) : Option (Int × am_M) := if a1 = 0 then some (1, h) else if a1 = 1 then some (1, h) else some (0, h)
set_option maxRecDepth 10000 in
theorem cX8_isSideC {D : va_G} {a : Nat → ClassId} {ad : Nat → Nat} (a1 : Int) (h : am_M) : am_C (EX D a ad) yX8_isSide cX8_isSide 1 (some .boolean) 1 [.inl a1] h am_ei (fX8_isSide a1 h) := by
  refine am_ofJ (L := [some (.inl a1)]) (by decide) rfl (Nat.le_of_ble_eq_true rfl) (fun G g => ?_)
  have g : am_Gd (EX D a ad) RX8 cX8_isSide 1 (some .boolean) 1 G := g
  unfold fX8_isSide
  refine am_iload_n g dX8_isSide_0 rfl ?_
  refine am_if_eq (tgt := 9) g dX8_isSide_1 (by decide) ?_ ?_
  · refine am_iconst g dX8_isSide_9 (am_il rfl) rfl ?_
    refine am_goto (tgt := 14) g dX8_isSide_10 (by decide) ?_
    exact am_zreturn g dX8_isSide_14 (by decide)
  · refine am_iload_n g dX8_isSide_4 rfl ?_
    refine am_iconst g dX8_isSide_5 (am_il rfl) rfl ?_
    refine am_icmp_ne (tgt := 13) g dX8_isSide_6 (by decide) ?_ ?_
    · refine am_iconst g dX8_isSide_13 (am_il rfl) rfl ?_
      exact am_zreturn g dX8_isSide_14 (by decide)
    · refine am_iconst g dX8_isSide_9 (am_il rfl) rfl ?_
      refine am_goto (tgt := 14) g dX8_isSide_10 (by decide) ?_
      exact am_zreturn g dX8_isSide_14 (by decide)
def fX2_standing_76 (l0 : Nat) (l3 : Int) (l4 : Int) (h : am_M) : Option (Int × am_M) := if l3 < (am_w (Int.tdiv (h 1 l0) 2)) then (if 0 ≤ (am_w ((am_w (2 * l3)) + l4)) ∧ (am_w ((am_w (2 * l3)) + l4)) < 16 then some (h 7 (16 * l0 + Int.toNat (am_w ((am_w (2 * l3)) + l4))), h) else none) else some ((-2), h)
set_option maxRecDepth 10000 in
theorem jX2_standing_76 {D : va_G} {a : Nat → ClassId} {ad : Nat → Nat} {G : am_G} (g : am_Gd (EX D a ad) RX2 cX2_standing 6 (some .int) 2 G) : ∀ (l0 : Nat), l0 < 4 → ∀ (l3 : Int), ∀ (l4 : Int), ∀ h : am_M, am_J (EX D a ad) G 6 am_ei 76 [some (.inr (some (10 + l0))), none, none, some (.inl l3), some (.inl l4), none] [] h (fX2_standing_76 l0 l3 l4 h) := by
  intro l0 hl0 l3 l4 h
  unfold fX2_standing_76
  refine am_iload_n g dX2_standing_76 rfl ?_
  refine am_aload_n g dX2_standing_77 rfl ?_
  refine am_geti (q := 8) (kd := 1) (ix := l0) g clX2 dX2_standing_78 (Nat.lt_of_lt_of_le (Nat.add_lt_add_left hl0 10) (Nat.le_of_ble_eq_true rfl)) (sh_X2 l0 hl0) (by decide) rfl lf_X2_37 ?_
  refine am_iconst g dX2_standing_81 (am_il rfl) rfl ?_
  refine am_idiv g dX2_standing_82 (by decide) ?_
  refine am_icmp_ge (tgt := 100) g dX2_standing_83 (by decide) ?_ ?_
  · refine am_bipush g dX2_standing_100 (am_il rfl) (am_bi rfl) ?_
    exact am_ireturn g dX2_standing_102
  · refine am_aload_n g dX2_standing_86 rfl ?_
    refine am_getr (q := 1) (a := 18 + l0) g clX2 dX2_standing_87 (Nat.lt_of_lt_of_le (Nat.add_lt_add_left hl0 10) (Nat.le_of_ble_eq_true rfl)) (sh_X2 l0 hl0) (by decide) rfl (Nat.lt_of_lt_of_le (Nat.add_lt_add_left hl0 18) (Nat.le_of_ble_eq_true rfl)) lf_X2_15 ?_
    refine am_iconst g dX2_standing_90 (am_il rfl) rfl ?_
    refine am_iload_n g dX2_standing_91 rfl ?_
    refine am_imul g dX2_standing_92 ?_
    refine am_iload g dX2_standing_93 rfl ?_
    refine am_iadd g dX2_standing_95 ?_
    refine am_iaload (ix := 16 * l0 + Int.toNat (am_w ((am_w (2 * l3)) + l4))) (nI := 16) g dX2_standing_96 (Nat.lt_of_lt_of_le (Nat.add_lt_add_left hl0 18) (Nat.le_of_ble_eq_true rfl)) (sh_X2_places l0 hl0) rfl rfl ?_
    refine am_goto (tgt := 102) g dX2_standing_97 (by decide) ?_
    exact am_ireturn g dX2_standing_102
def fX2_standing_26b (K26 : Nat → Int → Int → Int → am_M → Option (Int × am_M)) (l0 : Nat) (l3 : Int) (l4 : Int) (l5 : Int) (h : am_M) : Option (Int × am_M) := if l5 < 4 then (if l3 < (am_w (Int.tdiv (h 1 l0) 2)) then fX2_standing_76 l0 l3 l4 h else am_b (fX2_feeder l0 l3 l4 h) (fun v5 h6 => if 0 ≤ v5 ∧ v5 < 16 then if (h6 20 (16 * l0 + Int.toNat v5)) = 0 then some ((-2), h6) else if 0 ≤ v5 ∧ v5 < 16 then am_l (h6 21 (16 * l0 + Int.toNat v5)) (fun x7 => K26 l0 v5 x7 (am_w (l5 + 1)) h6) else none else none)) else fX2_standing_76 l0 l3 l4 h
def fX2_standing_26 : Nat → Int → Int → Int → am_M → Option (Int × am_M) := am_it (fun _ _ _ _ _ => none) (fX2_standing_26b) 400
set_option maxRecDepth 10000 in
theorem jX2_standing_26b {D : va_G} {a : Nat → ClassId} {ad : Nat → Nat} {G : am_G} (g : am_Gd (EX D a ad) RX2 cX2_standing 6 (some .int) 2 G) {K26 : Nat → Int → Int → Int → am_M → Option (Int × am_M)} (hK26 : ∀ (l0 : Nat), l0 < 4 → ∀ (l3 : Int), ∀ (l4 : Int), ∀ (l5 : Int), ∀ h : am_M, am_J (EX D a ad) G 6 am_ei 26 [some (.inr (some (10 + l0))), none, none, some (.inl l3), some (.inl l4), some (.inl l5)] [] h (K26 l0 l3 l4 l5 h)) : ∀ (l0 : Nat), l0 < 4 → ∀ (l3 : Int), ∀ (l4 : Int), ∀ (l5 : Int), ∀ h : am_M, am_J (EX D a ad) G 6 am_ei 26 [some (.inr (some (10 + l0))), none, none, some (.inl l3), some (.inl l4), some (.inl l5)] [] h (fX2_standing_26b K26 l0 l3 l4 l5 h) := by
  intro l0 hl0 l3 l4 l5 h
  unfold fX2_standing_26b
  refine am_iload g dX2_standing_26 rfl ?_
  refine am_iconst g dX2_standing_28 (am_il rfl) rfl ?_
  refine am_icmp_ge (tgt := 76) g dX2_standing_29 (by decide) ?_ ?_
  · refine am_drop 5 ?_
    exact (jX2_standing_76 g) l0 hl0 l3 l4 h
  · refine am_iload_n g dX2_standing_32 rfl ?_
    refine am_aload_n g dX2_standing_33 rfl ?_
    refine am_geti (q := 8) (kd := 1) (ix := l0) g clX2 dX2_standing_34 (Nat.lt_of_lt_of_le (Nat.add_lt_add_left hl0 10) (Nat.le_of_ble_eq_true rfl)) (sh_X2 l0 hl0) (by decide) rfl lf_X2_37 ?_
    refine am_iconst g dX2_standing_37 (am_il rfl) rfl ?_
    refine am_idiv g dX2_standing_38 (by decide) ?_
    refine am_icmp_lt (tgt := 76) g dX2_standing_39 (by decide) ?_ ?_
    · refine am_drop 5 ?_
      exact (jX2_standing_76 g) l0 hl0 l3 l4 h
    · refine am_aload_n g dX2_standing_42 rfl ?_
      refine am_iload_n g dX2_standing_43 rfl ?_
      refine am_iload g dX2_standing_44 rfl ?_
      refine am_Vi (as := [.inl l3, .inl l4]) (S := []) g (cX2_feederC l0 hl0 l3 l4 h) mi_X2_feeder lm_X2_65 clX2.1 (Nat.lt_of_lt_of_le (Nat.add_lt_add_left hl0 10) (Nat.le_of_ble_eq_true rfl)) (sh_X2 l0 hl0) dX2_standing_46 rfl (by decide) (Nat.le_of_ble_eq_true rfl) rfl (fun v5 h6 => ?_)
      refine am_istore_n g dX2_standing_49 (by decide) ?_
      refine am_aload_n g dX2_standing_50 rfl ?_
      refine am_getr (q := 3) (a := 26 + l0) g clX2 dX2_standing_51 (Nat.lt_of_lt_of_le (Nat.add_lt_add_left hl0 10) (Nat.le_of_ble_eq_true rfl)) (sh_X2 l0 hl0) (by decide) rfl (Nat.lt_of_lt_of_le (Nat.add_lt_add_left hl0 26) (Nat.le_of_ble_eq_true rfl)) lf_X2_22 ?_
      refine am_iload_n g dX2_standing_54 rfl ?_
      refine am_iaload (ix := 16 * l0 + Int.toNat v5) (nI := 16) g dX2_standing_55 (Nat.lt_of_lt_of_le (Nat.add_lt_add_left hl0 26) (Nat.le_of_ble_eq_true rfl)) (sh_X2_hows l0 hl0) rfl rfl ?_
      refine am_if_ne (tgt := 62) g dX2_standing_56 (by decide) ?_ ?_
      · refine am_aload_n g dX2_standing_62 rfl ?_
        refine am_getr (q := 4) (a := 30 + l0) g clX2 dX2_standing_63 (Nat.lt_of_lt_of_le (Nat.add_lt_add_left hl0 10) (Nat.le_of_ble_eq_true rfl)) (sh_X2 l0 hl0) (by decide) rfl (Nat.lt_of_lt_of_le (Nat.add_lt_add_left hl0 30) (Nat.le_of_ble_eq_true rfl)) lf_X2_25 ?_
        refine am_iload_n g dX2_standing_66 rfl ?_
        refine am_iaload (ix := 16 * l0 + Int.toNat v5) (nI := 16) g dX2_standing_67 (Nat.lt_of_lt_of_le (Nat.add_lt_add_left hl0 30) (Nat.le_of_ble_eq_true rfl)) (sh_X2_winners l0 hl0) rfl rfl ?_
        refine am_gv (fun x7 => ?_)
        refine am_istore g dX2_standing_68 (by decide) ?_
        refine am_iinc g dX2_standing_70 (by decide) rfl ?_
        refine am_goto (tgt := 26) g dX2_standing_73 (by decide) ?_
        exact hK26 l0 hl0 v5 x7 (am_w (l5 + 1)) h6
      · refine am_bipush g dX2_standing_59 (am_il rfl) (am_bi rfl) ?_
        exact am_ireturn g dX2_standing_61
theorem jX2_standing_26 {D : va_G} {a : Nat → ClassId} {ad : Nat → Nat} {G : am_G} (g : am_Gd (EX D a ad) RX2 cX2_standing 6 (some .int) 2 G) : ∀ (l0 : Nat), l0 < 4 → ∀ (l3 : Int), ∀ (l4 : Int), ∀ (l5 : Int), ∀ h : am_M, am_J (EX D a ad) G 6 am_ei 26 [some (.inr (some (10 + l0))), none, none, some (.inl l3), some (.inl l4), some (.inl l5)] [] h (fX2_standing_26 l0 l3 l4 l5 h) := by
  unfold fX2_standing_26
  generalize 400 = n
  induction n with
  | zero => intro l0 hl0 l3 l4 l5 h; exact am_jn
  | succ n ih => exact jX2_standing_26b g ih
def fX2_standing (d : Nat) (a1 : Int) (a2 : Int) (h : am_M) : Option (Int × am_M) := am_b (fX2_hasMatch d a1 h) (fun v1 h2 => if v1 = 0 then some ((-2), h2) else am_b (fX8_isSide a2 h2) (fun v3 h4 => if v3 = 0 then some ((-2), h4) else fX2_standing_26 d a1 a2 0 h4))
set_option maxRecDepth 10000 in
theorem cX2_standingC {D : va_G} {a : Nat → ClassId} {ad : Nat → Nat} (d : Nat) (hd : d < 4) (a1 : Int) (a2 : Int) (h : am_M) : am_C (EX D a ad) yX2_standing cX2_standing 6 (some .int) 2 [.inr (some (10 + d)), .inl a1, .inl a2] h am_ei (fX2_standing d a1 a2 h) := by
  refine am_ofJ (L := [some (.inr (some (10 + d))), some (.inl a1), some (.inl a2), none, none, none]) (by decide) rfl (Nat.le_of_ble_eq_true rfl) (fun G g => ?_)
  have g : am_Gd (EX D a ad) RX2 cX2_standing 6 (some .int) 2 G := g
  unfold fX2_standing
  refine am_aload_n g dX2_standing_0 rfl ?_
  refine am_iload_n g dX2_standing_1 rfl ?_
  refine am_Vi (as := [.inl a1]) (S := []) g (cX2_hasMatchC d hd a1 h) mi_X2_hasMatch lm_X2_58 clX2.1 (Nat.lt_of_lt_of_le (Nat.add_lt_add_left hd 10) (Nat.le_of_ble_eq_true rfl)) (sh_X2 d hd) dX2_standing_2 rfl (by decide) (Nat.le_of_ble_eq_true rfl) rfl (fun v1 h2 => ?_)
  refine am_if_eq (tgt := 15) g dX2_standing_5 (by decide) ?_ ?_
  · refine am_bipush g dX2_standing_15 (am_il rfl) (am_bi rfl) ?_
    exact am_ireturn g dX2_standing_17
  · refine am_iload_n g dX2_standing_8 rfl ?_
    refine am_SNi (as := [.inl a2]) (S := []) g (cX8_isSideC a2 h2) mi_X8_isSide ln_X2_62 dX2_standing_9 rfl (by decide) (Nat.le_of_ble_eq_true rfl) rfl (fun v3 h4 => ?_)
    refine am_if_ne (tgt := 18) g dX2_standing_12 (by decide) ?_ ?_
    · refine am_iload_n g dX2_standing_18 rfl ?_
      refine am_istore_n g dX2_standing_19 (by decide) ?_
      refine am_iload_n g dX2_standing_20 rfl ?_
      refine am_istore g dX2_standing_21 (by decide) ?_
      refine am_iconst g dX2_standing_23 (am_il rfl) rfl ?_
      refine am_istore g dX2_standing_24 (by decide) ?_
      refine am_drop 1 ?_
      refine am_drop 2 ?_
      exact (jX2_standing_26 g) d hd a1 a2 0 h4
    · refine am_bipush g dX2_standing_15 (am_il rfl) (am_bi rfl) ?_
      exact am_ireturn g dX2_standing_17
def fX2_isKnown (d : Nat) (a1 : Int) (h : am_M) : Option (Int × am_M) := am_b (fX2_standing d a1 0 h) (fun v1 h2 => if v1 = (-2) then some (0, h2) else am_b (fX2_standing d a1 1 h2) (fun v3 h4 => if v3 = (-2) then some (0, h4) else some (1, h4)))
set_option maxRecDepth 10000 in
theorem cX2_isKnownC {D : va_G} {a : Nat → ClassId} {ad : Nat → Nat} (d : Nat) (hd : d < 4) (a1 : Int) (h : am_M) : am_C (EX D a ad) yX2_isKnown cX2_isKnown 2 (some .boolean) 3 [.inr (some (10 + d)), .inl a1] h am_ei (fX2_isKnown d a1 h) := by
  refine am_ofJ (L := [some (.inr (some (10 + d))), some (.inl a1)]) (by decide) rfl (Nat.le_of_ble_eq_true rfl) (fun G g => ?_)
  have g : am_Gd (EX D a ad) RX2 cX2_isKnown 2 (some .boolean) 3 G := g
  unfold fX2_isKnown
  refine am_aload_n g dX2_isKnown_0 rfl ?_
  refine am_iload_n g dX2_isKnown_1 rfl ?_
  refine am_iconst g dX2_isKnown_2 (am_il rfl) rfl ?_
  refine am_Vi (as := [.inl a1, .inl 0]) (S := []) g (cX2_standingC d hd a1 0 h) mi_X2_standing lm_X2_69 clX2.1 (Nat.lt_of_lt_of_le (Nat.add_lt_add_left hd 10) (Nat.le_of_ble_eq_true rfl)) (sh_X2 d hd) dX2_isKnown_3 rfl (by decide) (Nat.le_of_ble_eq_true rfl) rfl (fun v1 h2 => ?_)
  refine am_bipush g dX2_isKnown_6 (am_il rfl) (am_bi rfl) ?_
  refine am_icmp_eq (tgt := 26) g dX2_isKnown_8 (by decide) ?_ ?_
  · refine am_iconst g dX2_isKnown_26 (am_il rfl) rfl ?_
    exact am_zreturn g dX2_isKnown_27 (by decide)
  · refine am_aload_n g dX2_isKnown_11 rfl ?_
    refine am_iload_n g dX2_isKnown_12 rfl ?_
    refine am_iconst g dX2_isKnown_13 (am_il rfl) rfl ?_
    refine am_Vi (as := [.inl a1, .inl 1]) (S := []) g (cX2_standingC d hd a1 1 h2) mi_X2_standing lm_X2_69 clX2.1 (Nat.lt_of_lt_of_le (Nat.add_lt_add_left hd 10) (Nat.le_of_ble_eq_true rfl)) (sh_X2 d hd) dX2_isKnown_14 rfl (by decide) (Nat.le_of_ble_eq_true rfl) rfl (fun v3 h4 => ?_)
    refine am_bipush g dX2_isKnown_17 (am_il rfl) (am_bi rfl) ?_
    refine am_icmp_eq (tgt := 26) g dX2_isKnown_19 (by decide) ?_ ?_
    · refine am_iconst g dX2_isKnown_26 (am_il rfl) rfl ?_
      exact am_zreturn g dX2_isKnown_27 (by decide)
    · refine am_iconst g dX2_isKnown_22 (am_il rfl) rfl ?_
      refine am_goto (tgt := 27) g dX2_isKnown_23 (by decide) ?_
      exact am_zreturn g dX2_isKnown_27 (by decide)
def fX2_sideOf (d : Nat) (a1 : Int) (a2 : Int) (h : am_M) : Option (Int × am_M) := am_b (fX2_standing d a1 0 h) (fun v1 h2 => if v1 = a2 then some (0, h2) else am_b (fX2_standing d a1 1 h2) (fun v3 h4 => if v3 = a2 then some (1, h4) else some ((-1), h4)))
set_option maxRecDepth 10000 in
theorem cX2_sideOfC {D : va_G} {a : Nat → ClassId} {ad : Nat → Nat} (d : Nat) (hd : d < 4) (a1 : Int) (a2 : Int) (h : am_M) : am_C (EX D a ad) yX2_sideOf cX2_sideOf 3 (some .int) 3 [.inr (some (10 + d)), .inl a1, .inl a2] h am_ei (fX2_sideOf d a1 a2 h) := by
  refine am_ofJ (L := [some (.inr (some (10 + d))), some (.inl a1), some (.inl a2)]) (by decide) rfl (Nat.le_of_ble_eq_true rfl) (fun G g => ?_)
  have g : am_Gd (EX D a ad) RX2 cX2_sideOf 3 (some .int) 3 G := g
  unfold fX2_sideOf
  refine am_aload_n g dX2_sideOf_0 rfl ?_
  refine am_iload_n g dX2_sideOf_1 rfl ?_
  refine am_iconst g dX2_sideOf_2 (am_il rfl) rfl ?_
  refine am_Vi (as := [.inl a1, .inl 0]) (S := []) g (cX2_standingC d hd a1 0 h) mi_X2_standing lm_X2_69 clX2.1 (Nat.lt_of_lt_of_le (Nat.add_lt_add_left hd 10) (Nat.le_of_ble_eq_true rfl)) (sh_X2 d hd) dX2_sideOf_3 rfl (by decide) (Nat.le_of_ble_eq_true rfl) rfl (fun v1 h2 => ?_)
  refine am_iload_n g dX2_sideOf_6 rfl ?_
  refine am_icmp_ne (tgt := 12) g dX2_sideOf_7 (by decide) ?_ ?_
  · refine am_aload_n g dX2_sideOf_12 rfl ?_
    refine am_iload_n g dX2_sideOf_13 rfl ?_
    refine am_iconst g dX2_sideOf_14 (am_il rfl) rfl ?_
    refine am_Vi (as := [.inl a1, .inl 1]) (S := []) g (cX2_standingC d hd a1 1 h2) mi_X2_standing lm_X2_69 clX2.1 (Nat.lt_of_lt_of_le (Nat.add_lt_add_left hd 10) (Nat.le_of_ble_eq_true rfl)) (sh_X2 d hd) dX2_sideOf_15 rfl (by decide) (Nat.le_of_ble_eq_true rfl) rfl (fun v3 h4 => ?_)
    refine am_iload_n g dX2_sideOf_18 rfl ?_
    refine am_icmp_ne (tgt := 26) g dX2_sideOf_19 (by decide) ?_ ?_
    · refine am_iconst g dX2_sideOf_26 (am_il rfl) rfl ?_
      exact am_ireturn g dX2_sideOf_27
    · refine am_iconst g dX2_sideOf_22 (am_il rfl) rfl ?_
      refine am_goto (tgt := 27) g dX2_sideOf_23 (by decide) ?_
      exact am_ireturn g dX2_sideOf_27
  · refine am_iconst g dX2_sideOf_10 (am_il rfl) rfl ?_
    exact am_ireturn g dX2_sideOf_11
def fX2_placeOf_11b (K11 : Nat → Int → Int → am_M → Option (Int × am_M)) (l0 : Nat) (l1 : Int) (l2 : Int) (h : am_M) : Option (Int × am_M) := if l2 < (h 1 l0) then (if 0 ≤ l2 ∧ l2 < 16 then if (h 7 (16 * l0 + Int.toNat l2)) = l1 then some (l2, h) else K11 l0 l1 (am_w (l2 + 1)) h else none) else some ((-1), h)
def fX2_placeOf_11 : Nat → Int → Int → am_M → Option (Int × am_M) := am_it (fun _ _ _ _ => none) (fX2_placeOf_11b) 400
set_option maxRecDepth 10000 in
theorem jX2_placeOf_11b {D : va_G} {a : Nat → ClassId} {ad : Nat → Nat} {G : am_G} (g : am_Gd (EX D a ad) RX2 cX2_placeOf 3 (some .int) 1 G) {K11 : Nat → Int → Int → am_M → Option (Int × am_M)} (hK11 : ∀ (l0 : Nat), l0 < 4 → ∀ (l1 : Int), ∀ (l2 : Int), ∀ h : am_M, am_J (EX D a ad) G 3 am_ei 11 [some (.inr (some (10 + l0))), some (.inl l1), some (.inl l2)] [] h (K11 l0 l1 l2 h)) : ∀ (l0 : Nat), l0 < 4 → ∀ (l1 : Int), ∀ (l2 : Int), ∀ h : am_M, am_J (EX D a ad) G 3 am_ei 11 [some (.inr (some (10 + l0))), some (.inl l1), some (.inl l2)] [] h (fX2_placeOf_11b K11 l0 l1 l2 h) := by
  intro l0 hl0 l1 l2 h
  unfold fX2_placeOf_11b
  refine am_iload_n g dX2_placeOf_11 rfl ?_
  refine am_aload_n g dX2_placeOf_12 rfl ?_
  refine am_geti (q := 8) (kd := 1) (ix := l0) g clX2 dX2_placeOf_13 (Nat.lt_of_lt_of_le (Nat.add_lt_add_left hl0 10) (Nat.le_of_ble_eq_true rfl)) (sh_X2 l0 hl0) (by decide) rfl lf_X2_37 ?_
  refine am_icmp_ge (tgt := 37) g dX2_placeOf_16 (by decide) ?_ ?_
  · refine am_iconst g dX2_placeOf_37 (am_il rfl) rfl ?_
    exact am_ireturn g dX2_placeOf_38
  · refine am_aload_n g dX2_placeOf_19 rfl ?_
    refine am_getr (q := 1) (a := 18 + l0) g clX2 dX2_placeOf_20 (Nat.lt_of_lt_of_le (Nat.add_lt_add_left hl0 10) (Nat.le_of_ble_eq_true rfl)) (sh_X2 l0 hl0) (by decide) rfl (Nat.lt_of_lt_of_le (Nat.add_lt_add_left hl0 18) (Nat.le_of_ble_eq_true rfl)) lf_X2_15 ?_
    refine am_iload_n g dX2_placeOf_23 rfl ?_
    refine am_iaload (ix := 16 * l0 + Int.toNat l2) (nI := 16) g dX2_placeOf_24 (Nat.lt_of_lt_of_le (Nat.add_lt_add_left hl0 18) (Nat.le_of_ble_eq_true rfl)) (sh_X2_places l0 hl0) rfl rfl ?_
    refine am_iload_n g dX2_placeOf_25 rfl ?_
    refine am_icmp_ne (tgt := 31) g dX2_placeOf_26 (by decide) ?_ ?_
    · refine am_iinc g dX2_placeOf_31 (by decide) rfl ?_
      refine am_goto (tgt := 11) g dX2_placeOf_34 (by decide) ?_
      exact hK11 l0 hl0 l1 (am_w (l2 + 1)) h
    · refine am_iload_n g dX2_placeOf_29 rfl ?_
      exact am_ireturn g dX2_placeOf_30
theorem jX2_placeOf_11 {D : va_G} {a : Nat → ClassId} {ad : Nat → Nat} {G : am_G} (g : am_Gd (EX D a ad) RX2 cX2_placeOf 3 (some .int) 1 G) : ∀ (l0 : Nat), l0 < 4 → ∀ (l1 : Int), ∀ (l2 : Int), ∀ h : am_M, am_J (EX D a ad) G 3 am_ei 11 [some (.inr (some (10 + l0))), some (.inl l1), some (.inl l2)] [] h (fX2_placeOf_11 l0 l1 l2 h) := by
  unfold fX2_placeOf_11
  generalize 400 = n
  induction n with
  | zero => intro l0 hl0 l1 l2 h; exact am_jn
  | succ n ih => exact jX2_placeOf_11b g ih
def fX2_placeOf (d : Nat) (a1 : Int) (h : am_M) : Option (Int × am_M) := if (h 5 d) = 0 then some ((-1), h) else fX2_placeOf_11 d a1 0 h
set_option maxRecDepth 10000 in
theorem cX2_placeOfC {D : va_G} {a : Nat → ClassId} {ad : Nat → Nat} (d : Nat) (hd : d < 4) (a1 : Int) (h : am_M) : am_C (EX D a ad) yX2_placeOf cX2_placeOf 3 (some .int) 1 [.inr (some (10 + d)), .inl a1] h am_ei (fX2_placeOf d a1 h) := by
  refine am_ofJ (L := [some (.inr (some (10 + d))), some (.inl a1), none]) (by decide) rfl (Nat.le_of_ble_eq_true rfl) (fun G g => ?_)
  have g : am_Gd (EX D a ad) RX2 cX2_placeOf 3 (some .int) 1 G := g
  unfold fX2_placeOf
  refine am_aload_n g dX2_placeOf_0 rfl ?_
  refine am_geti (q := 12) (kd := 5) (ix := d) g clX2 dX2_placeOf_1 (Nat.lt_of_lt_of_le (Nat.add_lt_add_left hd 10) (Nat.le_of_ble_eq_true rfl)) (sh_X2 d hd) (by decide) rfl lf_X2_50 ?_
  refine am_if_ne (tgt := 9) g dX2_placeOf_4 (by decide) ?_ ?_
  · refine am_iconst g dX2_placeOf_9 (am_il rfl) rfl ?_
    refine am_istore_n g dX2_placeOf_10 (by decide) ?_
    exact (jX2_placeOf_11 g) d hd a1 0 h
  · refine am_iconst g dX2_placeOf_7 (am_il rfl) rfl ?_
    exact am_ireturn g dX2_placeOf_8
def fX2_addPoint_62 (l0 : Nat) (l1 : Int) (s0 : Int) (s1 : Int) (s2 : Nat) (h : am_M) : Option (Unit × am_M) := if 0 ≤ s1 ∧ s1 < 160 then am_l (am_up h 22 (160 * s2 + Int.toNat s1) s0) (fun h4 => if 0 ≤ l1 ∧ l1 < 16 then if 0 ≤ l1 ∧ l1 < 16 then am_l (am_up h4 9 (16 * l0 + Int.toNat l1) (am_w ((h4 9 (16 * l0 + Int.toNat l1)) + 1))) (fun h5 => some ((), h5)) else none else none) else none
set_option maxRecDepth 10000 in
theorem jX2_addPoint_62 {D : va_G} {a : Nat → ClassId} {ad : Nat → Nat} {G : am_G} (g : am_Gd (EX D a ad) RX2 cX2_addPoint 6 none 1 G) : ∀ (l0 : Nat), l0 < 4 → ∀ (l1 : Int), ∀ (s0 : Int), ∀ (s1 : Int), ∀ (s2 : Nat), s2 < 4 → ∀ h : am_M, am_J (EX D a ad) G 6 am_ev 62 [some (.inr (some (10 + l0))), some (.inl l1), none, none, none, none] [.inl s0, .inl s1, .inr (some (42 + s2))] h (fX2_addPoint_62 l0 l1 s0 s1 s2 h) := by
  intro l0 hl0 l1 s0 s1 s2 hs2 h
  unfold fX2_addPoint_62
  refine am_iastore (ix := 160 * s2 + Int.toNat s1) (nI := 160) g dX2_addPoint_62 (Nat.lt_of_lt_of_le (Nat.add_lt_add_left hs2 42) (Nat.le_of_ble_eq_true rfl)) (sh_X2_pointBits s2 hs2) rfl rfl ?_
  refine am_gm (fun h4 => ?_)
  refine am_aload_n g dX2_addPoint_63 rfl ?_
  refine am_getr (q := 6) (a := 38 + l0) g clX2 dX2_addPoint_64 (Nat.lt_of_lt_of_le (Nat.add_lt_add_left hl0 10) (Nat.le_of_ble_eq_true rfl)) (sh_X2 l0 hl0) (by decide) rfl (Nat.lt_of_lt_of_le (Nat.add_lt_add_left hl0 38) (Nat.le_of_ble_eq_true rfl)) lf_X2_31 ?_
  refine am_iload_n g dX2_addPoint_67 rfl ?_
  refine am_dup2 g dX2_addPoint_68 ?_
  refine am_iaload (ix := 16 * l0 + Int.toNat l1) (nI := 16) g dX2_addPoint_69 (Nat.lt_of_lt_of_le (Nat.add_lt_add_left hl0 38) (Nat.le_of_ble_eq_true rfl)) (sh_X2_points l0 hl0) rfl rfl ?_
  refine am_iconst g dX2_addPoint_70 (am_il rfl) rfl ?_
  refine am_iadd g dX2_addPoint_71 ?_
  refine am_iastore (ix := 16 * l0 + Int.toNat l1) (nI := 16) g dX2_addPoint_72 (Nat.lt_of_lt_of_le (Nat.add_lt_add_left hl0 38) (Nat.le_of_ble_eq_true rfl)) (sh_X2_points l0 hl0) rfl rfl ?_
  refine am_gm (fun h5 => ?_)
  exact am_vreturn g dX2_addPoint_73
def fX2_addPoint (d : Nat) (a1 : Int) (a2 : Int) (h : am_M) : Option (Unit × am_M) := if 0 ≤ a1 ∧ a1 < 16 then am_l (h 9 (16 * d + Int.toNat a1)) (fun x1 => am_l (am_w ((am_w (a1 * 10)) + (am_w (Int.tdiv x1 32)))) (fun x2 => am_l (am_shl 1 (Int.tmod x1 32)) (fun x3 => if a2 = 1 then (if 0 ≤ x2 ∧ x2 < 160 then fX2_addPoint_62 d a1 (am_or (h 22 (160 * d + Int.toNat x2)) x3) x2 d h else none) else if 0 ≤ x2 ∧ x2 < 160 then fX2_addPoint_62 d a1 (am_and (h 22 (160 * d + Int.toNat x2)) (am_xor x3 (-1))) x2 d h else none))) else none
set_option maxRecDepth 10000 in
theorem cX2_addPointC {D : va_G} {a : Nat → ClassId} {ad : Nat → Nat} (d : Nat) (hd : d < 4) (a1 : Int) (a2 : Int) (h : am_M) : am_C (EX D a ad) yX2_addPoint cX2_addPoint 6 none 1 [.inr (some (10 + d)), .inl a1, .inl a2] h am_ev (fX2_addPoint d a1 a2 h) := by
  refine am_ofJ (L := [some (.inr (some (10 + d))), some (.inl a1), some (.inl a2), none, none, none]) (by decide) rfl (Nat.le_of_ble_eq_true rfl) (fun G g => ?_)
  have g : am_Gd (EX D a ad) RX2 cX2_addPoint 6 none 1 G := g
  unfold fX2_addPoint
  refine am_aload_n g dX2_addPoint_0 rfl ?_
  refine am_getr (q := 6) (a := 38 + d) g clX2 dX2_addPoint_1 (Nat.lt_of_lt_of_le (Nat.add_lt_add_left hd 10) (Nat.le_of_ble_eq_true rfl)) (sh_X2 d hd) (by decide) rfl (Nat.lt_of_lt_of_le (Nat.add_lt_add_left hd 38) (Nat.le_of_ble_eq_true rfl)) lf_X2_31 ?_
  refine am_iload_n g dX2_addPoint_4 rfl ?_
  refine am_iaload (ix := 16 * d + Int.toNat a1) (nI := 16) g dX2_addPoint_5 (Nat.lt_of_lt_of_le (Nat.add_lt_add_left hd 38) (Nat.le_of_ble_eq_true rfl)) (sh_X2_points d hd) rfl rfl ?_
  refine am_gv (fun x1 => ?_)
  refine am_istore_n g dX2_addPoint_6 (by decide) ?_
  refine am_iload_n g dX2_addPoint_7 rfl ?_
  refine am_bipush g dX2_addPoint_8 (am_il rfl) (am_bi rfl) ?_
  refine am_imul g dX2_addPoint_10 ?_
  refine am_iload_n g dX2_addPoint_11 rfl ?_
  refine am_bipush g dX2_addPoint_12 (am_il rfl) (am_bi rfl) ?_
  refine am_idiv g dX2_addPoint_14 (by decide) ?_
  refine am_iadd g dX2_addPoint_15 ?_
  refine am_gv (fun x2 => ?_)
  refine am_istore g dX2_addPoint_16 (by decide) ?_
  refine am_iconst g dX2_addPoint_18 (am_il rfl) rfl ?_
  refine am_iload_n g dX2_addPoint_19 rfl ?_
  refine am_bipush g dX2_addPoint_20 (am_il rfl) (am_bi rfl) ?_
  refine am_irem g dX2_addPoint_22 (by decide) ?_
  refine am_ishl g dX2_addPoint_23 ?_
  refine am_gv (fun x3 => ?_)
  refine am_istore g dX2_addPoint_24 (by decide) ?_
  refine am_aload_n g dX2_addPoint_26 rfl ?_
  refine am_getr (q := 7) (a := 42 + d) g clX2 dX2_addPoint_27 (Nat.lt_of_lt_of_le (Nat.add_lt_add_left hd 10) (Nat.le_of_ble_eq_true rfl)) (sh_X2 d hd) (by decide) rfl (Nat.lt_of_lt_of_le (Nat.add_lt_add_left hd 42) (Nat.le_of_ble_eq_true rfl)) lf_X2_34 ?_
  refine am_iload g dX2_addPoint_30 rfl ?_
  refine am_iload_n g dX2_addPoint_32 rfl ?_
  refine am_iconst g dX2_addPoint_33 (am_il rfl) rfl ?_
  refine am_icmp_ne (tgt := 50) g dX2_addPoint_34 (by decide) ?_ ?_
  · refine am_aload_n g dX2_addPoint_50 rfl ?_
    refine am_getr (q := 7) (a := 42 + d) g clX2 dX2_addPoint_51 (Nat.lt_of_lt_of_le (Nat.add_lt_add_left hd 10) (Nat.le_of_ble_eq_true rfl)) (sh_X2 d hd) (by decide) rfl (Nat.lt_of_lt_of_le (Nat.add_lt_add_left hd 42) (Nat.le_of_ble_eq_true rfl)) lf_X2_34 ?_
    refine am_iload g dX2_addPoint_54 rfl ?_
    refine am_iaload (ix := 160 * d + Int.toNat x2) (nI := 160) g dX2_addPoint_56 (Nat.lt_of_lt_of_le (Nat.add_lt_add_left hd 42) (Nat.le_of_ble_eq_true rfl)) (sh_X2_pointBits d hd) rfl rfl ?_
    refine am_iload g dX2_addPoint_57 rfl ?_
    refine am_iconst g dX2_addPoint_59 (am_il rfl) rfl ?_
    refine am_ixor g dX2_addPoint_60 ?_
    refine am_iand g dX2_addPoint_61 ?_
    refine am_drop 2 ?_
    refine am_drop 3 ?_
    refine am_drop 4 ?_
    refine am_drop 5 ?_
    exact (jX2_addPoint_62 g) d hd a1 (am_and (h 22 (160 * d + Int.toNat x2)) (am_xor x3 (-1))) x2 d hd h
  · refine am_aload_n g dX2_addPoint_37 rfl ?_
    refine am_getr (q := 7) (a := 42 + d) g clX2 dX2_addPoint_38 (Nat.lt_of_lt_of_le (Nat.add_lt_add_left hd 10) (Nat.le_of_ble_eq_true rfl)) (sh_X2 d hd) (by decide) rfl (Nat.lt_of_lt_of_le (Nat.add_lt_add_left hd 42) (Nat.le_of_ble_eq_true rfl)) lf_X2_34 ?_
    refine am_iload g dX2_addPoint_41 rfl ?_
    refine am_iaload (ix := 160 * d + Int.toNat x2) (nI := 160) g dX2_addPoint_43 (Nat.lt_of_lt_of_le (Nat.add_lt_add_left hd 42) (Nat.le_of_ble_eq_true rfl)) (sh_X2_pointBits d hd) rfl rfl ?_
    refine am_iload g dX2_addPoint_44 rfl ?_
    refine am_ior g dX2_addPoint_46 ?_
    refine am_goto (tgt := 62) g dX2_addPoint_47 (by decide) ?_
    refine am_drop 2 ?_
    refine am_drop 3 ?_
    refine am_drop 4 ?_
    refine am_drop 5 ?_
    exact (jX2_addPoint_62 g) d hd a1 (am_or (h 22 (160 * d + Int.toNat x2)) x3) x2 d hd h
def fX2_pointOf (d : Nat) (a1 : Int) (a2 : Int) (h : am_M) : Option (Int × am_M) := if 0 ≤ (am_w ((am_w (a1 * 10)) + (am_w (Int.tdiv a2 32)))) ∧ (am_w ((am_w (a1 * 10)) + (am_w (Int.tdiv a2 32)))) < 160 then some (am_and (am_ushr (h 22 (160 * d + Int.toNat (am_w ((am_w (a1 * 10)) + (am_w (Int.tdiv a2 32)))))) (Int.tmod a2 32)) 1, h) else none
set_option maxRecDepth 10000 in
theorem cX2_pointOfC {D : va_G} {a : Nat → ClassId} {ad : Nat → Nat} (d : Nat) (hd : d < 4) (a1 : Int) (a2 : Int) (h : am_M) : am_C (EX D a ad) yX2_pointOf cX2_pointOf 3 (some .int) 1 [.inr (some (10 + d)), .inl a1, .inl a2] h am_ei (fX2_pointOf d a1 a2 h) := by
  refine am_ofJ (L := [some (.inr (some (10 + d))), some (.inl a1), some (.inl a2)]) (by decide) rfl (Nat.le_of_ble_eq_true rfl) (fun G g => ?_)
  have g : am_Gd (EX D a ad) RX2 cX2_pointOf 3 (some .int) 1 G := g
  unfold fX2_pointOf
  refine am_aload_n g dX2_pointOf_0 rfl ?_
  refine am_getr (q := 7) (a := 42 + d) g clX2 dX2_pointOf_1 (Nat.lt_of_lt_of_le (Nat.add_lt_add_left hd 10) (Nat.le_of_ble_eq_true rfl)) (sh_X2 d hd) (by decide) rfl (Nat.lt_of_lt_of_le (Nat.add_lt_add_left hd 42) (Nat.le_of_ble_eq_true rfl)) lf_X2_34 ?_
  refine am_iload_n g dX2_pointOf_4 rfl ?_
  refine am_bipush g dX2_pointOf_5 (am_il rfl) (am_bi rfl) ?_
  refine am_imul g dX2_pointOf_7 ?_
  refine am_iload_n g dX2_pointOf_8 rfl ?_
  refine am_bipush g dX2_pointOf_9 (am_il rfl) (am_bi rfl) ?_
  refine am_idiv g dX2_pointOf_11 (by decide) ?_
  refine am_iadd g dX2_pointOf_12 ?_
  refine am_iaload (ix := 160 * d + Int.toNat (am_w ((am_w (a1 * 10)) + (am_w (Int.tdiv a2 32))))) (nI := 160) g dX2_pointOf_13 (Nat.lt_of_lt_of_le (Nat.add_lt_add_left hd 42) (Nat.le_of_ble_eq_true rfl)) (sh_X2_pointBits d hd) rfl rfl ?_
  refine am_iload_n g dX2_pointOf_14 rfl ?_
  refine am_bipush g dX2_pointOf_15 (am_il rfl) (am_bi rfl) ?_
  refine am_irem g dX2_pointOf_17 (by decide) ?_
  refine am_iushr g dX2_pointOf_18 ?_
  refine am_iconst g dX2_pointOf_19 (am_il rfl) rfl ?_
  refine am_iand g dX2_pointOf_20 ?_
  exact am_ireturn g dX2_pointOf_21
def fX2_reopen (d : Nat) (a1 : Int) (h : am_M) : Option (Unit × am_M) := if 0 ≤ a1 ∧ a1 < 16 then am_l (am_up h 20 (16 * d + Int.toNat a1) 0) (fun h1 => if 0 ≤ a1 ∧ a1 < 16 then am_l (am_up h1 10 (16 * d + Int.toNat a1) (-1)) (fun h2 => some ((), h2)) else none) else none
set_option maxRecDepth 10000 in
theorem cX2_reopenC {D : va_G} {a : Nat → ClassId} {ad : Nat → Nat} (d : Nat) (hd : d < 4) (a1 : Int) (h : am_M) : am_C (EX D a ad) yX2_reopen cX2_reopen 2 none 1 [.inr (some (10 + d)), .inl a1] h am_ev (fX2_reopen d a1 h) := by
  refine am_ofJ (L := [some (.inr (some (10 + d))), some (.inl a1)]) (by decide) rfl (Nat.le_of_ble_eq_true rfl) (fun G g => ?_)
  have g : am_Gd (EX D a ad) RX2 cX2_reopen 2 none 1 G := g
  unfold fX2_reopen
  refine am_aload_n g dX2_reopen_0 rfl ?_
  refine am_getr (q := 3) (a := 26 + d) g clX2 dX2_reopen_1 (Nat.lt_of_lt_of_le (Nat.add_lt_add_left hd 10) (Nat.le_of_ble_eq_true rfl)) (sh_X2 d hd) (by decide) rfl (Nat.lt_of_lt_of_le (Nat.add_lt_add_left hd 26) (Nat.le_of_ble_eq_true rfl)) lf_X2_22 ?_
  refine am_iload_n g dX2_reopen_4 rfl ?_
  refine am_iconst g dX2_reopen_5 (am_il rfl) rfl ?_
  refine am_iastore (ix := 16 * d + Int.toNat a1) (nI := 16) g dX2_reopen_6 (Nat.lt_of_lt_of_le (Nat.add_lt_add_left hd 26) (Nat.le_of_ble_eq_true rfl)) (sh_X2_hows d hd) rfl rfl ?_
  refine am_gm (fun h1 => ?_)
  refine am_aload_n g dX2_reopen_7 rfl ?_
  refine am_getr (q := 5) (a := 34 + d) g clX2 dX2_reopen_8 (Nat.lt_of_lt_of_le (Nat.add_lt_add_left hd 10) (Nat.le_of_ble_eq_true rfl)) (sh_X2 d hd) (by decide) rfl (Nat.lt_of_lt_of_le (Nat.add_lt_add_left hd 34) (Nat.le_of_ble_eq_true rfl)) lf_X2_28 ?_
  refine am_iload_n g dX2_reopen_11 rfl ?_
  refine am_iconst g dX2_reopen_12 (am_il rfl) rfl ?_
  refine am_iastore (ix := 16 * d + Int.toNat a1) (nI := 16) g dX2_reopen_13 (Nat.lt_of_lt_of_le (Nat.add_lt_add_left hd 34) (Nat.le_of_ble_eq_true rfl)) (sh_X2_realEnds d hd) rfl rfl ?_
  refine am_gm (fun h2 => ?_)
  exact am_vreturn g dX2_reopen_14
def fX2_nextGoesOn (d : Nat) (a1 : Int) (h : am_M) : Option (Int × am_M) := am_b (fX2_next d a1 h) (fun v1 h2 => if v1 < 0 then some (0, h2) else if 0 ≤ v1 ∧ v1 < 16 then if (h2 9 (16 * d + Int.toNat v1)) ≤ 0 then (if 0 ≤ v1 ∧ v1 < 16 then if (h2 20 (16 * d + Int.toNat v1)) = 0 then some (0, h2) else some (1, h2) else none) else some (1, h2) else none)
set_option maxRecDepth 10000 in
theorem cX2_nextGoesOnC {D : va_G} {a : Nat → ClassId} {ad : Nat → Nat} (d : Nat) (hd : d < 4) (a1 : Int) (h : am_M) : am_C (EX D a ad) yX2_nextGoesOn cX2_nextGoesOn 3 (some .boolean) 2 [.inr (some (10 + d)), .inl a1] h am_ei (fX2_nextGoesOn d a1 h) := by
  refine am_ofJ (L := [some (.inr (some (10 + d))), some (.inl a1), none]) (by decide) rfl (Nat.le_of_ble_eq_true rfl) (fun G g => ?_)
  have g : am_Gd (EX D a ad) RX2 cX2_nextGoesOn 3 (some .boolean) 2 G := g
  unfold fX2_nextGoesOn
  refine am_aload_n g dX2_nextGoesOn_0 rfl ?_
  refine am_iload_n g dX2_nextGoesOn_1 rfl ?_
  refine am_Vi (as := [.inl a1]) (S := []) g (cX2_nextC d hd a1 h) mi_X2_next lm_X2_72 clX2.1 (Nat.lt_of_lt_of_le (Nat.add_lt_add_left hd 10) (Nat.le_of_ble_eq_true rfl)) (sh_X2 d hd) dX2_nextGoesOn_2 rfl (by decide) (Nat.le_of_ble_eq_true rfl) rfl (fun v1 h2 => ?_)
  refine am_istore_n g dX2_nextGoesOn_5 (by decide) ?_
  refine am_iload_n g dX2_nextGoesOn_6 rfl ?_
  refine am_if_lt (tgt := 32) g dX2_nextGoesOn_7 (by decide) ?_ ?_
  · refine am_iconst g dX2_nextGoesOn_32 (am_il rfl) rfl ?_
    exact am_zreturn g dX2_nextGoesOn_33 (by decide)
  · refine am_aload_n g dX2_nextGoesOn_10 rfl ?_
    refine am_getr (q := 6) (a := 38 + d) g clX2 dX2_nextGoesOn_11 (Nat.lt_of_lt_of_le (Nat.add_lt_add_left hd 10) (Nat.le_of_ble_eq_true rfl)) (sh_X2 d hd) (by decide) rfl (Nat.lt_of_lt_of_le (Nat.add_lt_add_left hd 38) (Nat.le_of_ble_eq_true rfl)) lf_X2_31 ?_
    refine am_iload_n g dX2_nextGoesOn_14 rfl ?_
    refine am_iaload (ix := 16 * d + Int.toNat v1) (nI := 16) g dX2_nextGoesOn_15 (Nat.lt_of_lt_of_le (Nat.add_lt_add_left hd 38) (Nat.le_of_ble_eq_true rfl)) (sh_X2_points d hd) rfl rfl ?_
    refine am_if_gt (tgt := 28) g dX2_nextGoesOn_16 (by decide) ?_ ?_
    · refine am_iconst g dX2_nextGoesOn_28 (am_il rfl) rfl ?_
      refine am_goto (tgt := 33) g dX2_nextGoesOn_29 (by decide) ?_
      exact am_zreturn g dX2_nextGoesOn_33 (by decide)
    · refine am_aload_n g dX2_nextGoesOn_19 rfl ?_
      refine am_getr (q := 3) (a := 26 + d) g clX2 dX2_nextGoesOn_20 (Nat.lt_of_lt_of_le (Nat.add_lt_add_left hd 10) (Nat.le_of_ble_eq_true rfl)) (sh_X2 d hd) (by decide) rfl (Nat.lt_of_lt_of_le (Nat.add_lt_add_left hd 26) (Nat.le_of_ble_eq_true rfl)) lf_X2_22 ?_
      refine am_iload_n g dX2_nextGoesOn_23 rfl ?_
      refine am_iaload (ix := 16 * d + Int.toNat v1) (nI := 16) g dX2_nextGoesOn_24 (Nat.lt_of_lt_of_le (Nat.add_lt_add_left hd 26) (Nat.le_of_ble_eq_true rfl)) (sh_X2_hows d hd) rfl rfl ?_
      refine am_if_eq (tgt := 32) g dX2_nextGoesOn_25 (by decide) ?_ ?_
      · refine am_iconst g dX2_nextGoesOn_32 (am_il rfl) rfl ?_
        exact am_zreturn g dX2_nextGoesOn_33 (by decide)
      · refine am_iconst g dX2_nextGoesOn_28 (am_il rfl) rfl ?_
        refine am_goto (tgt := 33) g dX2_nextGoesOn_29 (by decide) ?_
        exact am_zreturn g dX2_nextGoesOn_33 (by decide)
def fX2_countEnded_24 (K5 : Nat → Int → Int → Int → am_M → Option (Int × am_M)) (l0 : Nat) (l2 : Int) (l3 : Int) (l4 : Int) (h : am_M) : Option (Int × am_M) := K5 l0 l2 l3 (am_w (l4 + 1)) h
set_option maxRecDepth 10000 in
theorem jX2_countEnded_24 {D : va_G} {a : Nat → ClassId} {ad : Nat → Nat} {G : am_G} (g : am_Gd (EX D a ad) RX2 cX2_countEnded 5 (some .int) 1 G) {K5 : Nat → Int → Int → Int → am_M → Option (Int × am_M)} (hK5 : ∀ (l0 : Nat), l0 < 4 → ∀ (l2 : Int), ∀ (l3 : Int), ∀ (l4 : Int), ∀ h : am_M, am_J (EX D a ad) G 5 am_ei 5 [some (.inr (some (10 + l0))), none, some (.inl l2), some (.inl l3), some (.inl l4)] [] h (K5 l0 l2 l3 l4 h)) : ∀ (l0 : Nat), l0 < 4 → ∀ (l2 : Int), ∀ (l3 : Int), ∀ (l4 : Int), ∀ h : am_M, am_J (EX D a ad) G 5 am_ei 24 [some (.inr (some (10 + l0))), none, some (.inl l2), some (.inl l3), some (.inl l4)] [] h (fX2_countEnded_24 K5 l0 l2 l3 l4 h) := by
  intro l0 hl0 l2 l3 l4 h
  unfold fX2_countEnded_24
  refine am_iinc g dX2_countEnded_24 (by decide) rfl ?_
  refine am_goto (tgt := 5) g dX2_countEnded_27 (by decide) ?_
  exact hK5 l0 hl0 l2 l3 (am_w (l4 + 1)) h
def fX2_countEnded_5b (K5 : Nat → Int → Int → Int → am_M → Option (Int × am_M)) (l0 : Nat) (l2 : Int) (l3 : Int) (l4 : Int) (h : am_M) : Option (Int × am_M) := if l4 < l2 then (if 0 ≤ l4 ∧ l4 < 16 then if (h 20 (16 * l0 + Int.toNat l4)) = 0 then (fX2_countEnded_24 K5) l0 l2 l3 l4 h else (fX2_countEnded_24 K5) l0 l2 (am_w (l3 + 1)) l4 h else none) else some (l3, h)
def fX2_countEnded_5 : Nat → Int → Int → Int → am_M → Option (Int × am_M) := am_it (fun _ _ _ _ _ => none) (fX2_countEnded_5b) 400
set_option maxRecDepth 10000 in
theorem jX2_countEnded_5b {D : va_G} {a : Nat → ClassId} {ad : Nat → Nat} {G : am_G} (g : am_Gd (EX D a ad) RX2 cX2_countEnded 5 (some .int) 1 G) {K5 : Nat → Int → Int → Int → am_M → Option (Int × am_M)} (hK5 : ∀ (l0 : Nat), l0 < 4 → ∀ (l2 : Int), ∀ (l3 : Int), ∀ (l4 : Int), ∀ h : am_M, am_J (EX D a ad) G 5 am_ei 5 [some (.inr (some (10 + l0))), none, some (.inl l2), some (.inl l3), some (.inl l4)] [] h (K5 l0 l2 l3 l4 h)) : ∀ (l0 : Nat), l0 < 4 → ∀ (l2 : Int), ∀ (l3 : Int), ∀ (l4 : Int), ∀ h : am_M, am_J (EX D a ad) G 5 am_ei 5 [some (.inr (some (10 + l0))), none, some (.inl l2), some (.inl l3), some (.inl l4)] [] h (fX2_countEnded_5b K5 l0 l2 l3 l4 h) := by
  intro l0 hl0 l2 l3 l4 h
  unfold fX2_countEnded_5b
  refine am_iload g dX2_countEnded_5 rfl ?_
  refine am_iload_n g dX2_countEnded_7 rfl ?_
  refine am_icmp_ge (tgt := 30) g dX2_countEnded_8 (by decide) ?_ ?_
  · refine am_iload_n g dX2_countEnded_30 rfl ?_
    exact am_ireturn g dX2_countEnded_31
  · refine am_aload_n g dX2_countEnded_11 rfl ?_
    refine am_getr (q := 3) (a := 26 + l0) g clX2 dX2_countEnded_12 (Nat.lt_of_lt_of_le (Nat.add_lt_add_left hl0 10) (Nat.le_of_ble_eq_true rfl)) (sh_X2 l0 hl0) (by decide) rfl (Nat.lt_of_lt_of_le (Nat.add_lt_add_left hl0 26) (Nat.le_of_ble_eq_true rfl)) lf_X2_22 ?_
    refine am_iload g dX2_countEnded_15 rfl ?_
    refine am_iaload (ix := 16 * l0 + Int.toNat l4) (nI := 16) g dX2_countEnded_17 (Nat.lt_of_lt_of_le (Nat.add_lt_add_left hl0 26) (Nat.le_of_ble_eq_true rfl)) (sh_X2_hows l0 hl0) rfl rfl ?_
    refine am_if_eq (tgt := 24) g dX2_countEnded_18 (by decide) ?_ ?_
    · exact (jX2_countEnded_24 g hK5) l0 hl0 l2 l3 l4 h
    · refine am_iinc g dX2_countEnded_21 (by decide) rfl ?_
      exact (jX2_countEnded_24 g hK5) l0 hl0 l2 (am_w (l3 + 1)) l4 h
theorem jX2_countEnded_5 {D : va_G} {a : Nat → ClassId} {ad : Nat → Nat} {G : am_G} (g : am_Gd (EX D a ad) RX2 cX2_countEnded 5 (some .int) 1 G) : ∀ (l0 : Nat), l0 < 4 → ∀ (l2 : Int), ∀ (l3 : Int), ∀ (l4 : Int), ∀ h : am_M, am_J (EX D a ad) G 5 am_ei 5 [some (.inr (some (10 + l0))), none, some (.inl l2), some (.inl l3), some (.inl l4)] [] h (fX2_countEnded_5 l0 l2 l3 l4 h) := by
  unfold fX2_countEnded_5
  generalize 400 = n
  induction n with
  | zero => intro l0 hl0 l2 l3 l4 h; exact am_jn
  | succ n ih => exact jX2_countEnded_5b g ih
def fX2_countEnded (d : Nat) (a1 : Int) (a2 : Int) (h : am_M) : Option (Int × am_M) := fX2_countEnded_5 d a2 0 a1 h
set_option maxRecDepth 10000 in
theorem cX2_countEndedC {D : va_G} {a : Nat → ClassId} {ad : Nat → Nat} (d : Nat) (hd : d < 4) (a1 : Int) (a2 : Int) (h : am_M) : am_C (EX D a ad) yX2_countEnded cX2_countEnded 5 (some .int) 1 [.inr (some (10 + d)), .inl a1, .inl a2] h am_ei (fX2_countEnded d a1 a2 h) := by
  refine am_ofJ (L := [some (.inr (some (10 + d))), some (.inl a1), some (.inl a2), none, none]) (by decide) rfl (Nat.le_of_ble_eq_true rfl) (fun G g => ?_)
  have g : am_Gd (EX D a ad) RX2 cX2_countEnded 5 (some .int) 1 G := g
  unfold fX2_countEnded
  refine am_iconst g dX2_countEnded_0 (am_il rfl) rfl ?_
  refine am_istore_n g dX2_countEnded_1 (by decide) ?_
  refine am_iload_n g dX2_countEnded_2 rfl ?_
  refine am_istore g dX2_countEnded_3 (by decide) ?_
  refine am_drop 1 ?_
  exact (jX2_countEnded_5 g) d hd a2 0 a1 h
