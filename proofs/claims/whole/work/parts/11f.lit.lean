def fX9_time (a1 : Int) (a2 : Int) (a3 : Int) (h : am_M) : Option (Int × am_M) := am_b (fX9_isSlot a1 a2 h) (fun v1 h2 => if v1 = 0 then some ((-2), h2) else am_b (fX9_in a3 0 1 h2) (fun v3 h4 => if v3 = 0 then some ((-2), h4) else am_b (fX9_lay_ h4) (fun _ h5 => if 0 ≤ (am_w ((am_w (6 * a1)) + a2)) ∧ (am_w ((am_w (6 * a1)) + a2)) < 36 then if (h5 52 (Int.toNat (am_w ((am_w (6 * a1)) + a2)))) = 0 then some ((-1), h5) else if a3 = 0 then (if 0 ≤ (am_w ((am_w (6 * a1)) + a2)) ∧ (am_w ((am_w (6 * a1)) + a2)) < 36 then some (h5 42 (Int.toNat (am_w ((am_w (6 * a1)) + a2))), h5) else none) else if 0 ≤ (am_w ((am_w (6 * a1)) + a2)) ∧ (am_w ((am_w (6 * a1)) + a2)) < 36 then some (h5 43 (Int.toNat (am_w ((am_w (6 * a1)) + a2))), h5) else none else none)))
set_option maxRecDepth 10000 in
theorem cX9_timeC {D : va_G} {a : Nat → ClassId} {ad : Nat → Nat} (a1 : Int) (a2 : Int) (a3 : Int) (h : am_M) : am_C (EM D a ad) yX9_time cX9_time 4 (some .int) 45 [.inr (some 0), .inl a1, .inl a2, .inl a3] h am_ei (fX9_time a1 a2 a3 h) := by
  refine am_ofJ (L := [some (.inr (some 0)), some (.inl a1), some (.inl a2), some (.inl a3)]) (by decide) rfl (Nat.le_of_ble_eq_true rfl) (fun G g => ?_)
  have g : am_Gd (EM D a ad) RX9 cX9_time 4 (some .int) 45 G := g
  unfold fX9_time
  refine am_aload_n g dX9_time_0 rfl ?_
  refine am_iload_n g dX9_time_1 rfl ?_
  refine am_iload_n g dX9_time_2 rfl ?_
  refine am_Vi (as := [.inl a1, .inl a2]) (S := []) g (cX9_isSlotC a1 a2 h) mi_X9_isSlot lm_X9_250 clX9.1 (Nat.le_of_ble_eq_true rfl) rfl dX9_time_3 rfl (by decide) (Nat.le_of_ble_eq_true rfl) rfl (fun v1 h2 => ?_)
  refine am_if_eq (tgt := 18) g dX9_time_6 (by decide) ?_ ?_
  · refine am_bipush g dX9_time_18 (am_il rfl) (am_bi rfl) ?_
    exact am_ireturn g dX9_time_20
  · refine am_iload_n g dX9_time_9 rfl ?_
    refine am_iconst g dX9_time_10 (am_il rfl) rfl ?_
    refine am_iconst g dX9_time_11 (am_il rfl) rfl ?_
    refine am_Si (as := [.inl a3, .inl 0, .inl 1]) (S := []) g (cX9_inC a3 0 1 h2) mi_X9_in lm_X9_111 dX9_time_12 rfl (by decide) (Nat.le_of_ble_eq_true rfl) rfl (fun v3 h4 => ?_)
    refine am_if_ne (tgt := 21) g dX9_time_15 (by decide) ?_ ?_
    · refine am_aload_n g dX9_time_21 rfl ?_
      refine am_Vv (as := []) (S := []) g (cX9_lay_C h4) mi_X9_lay_ lm_X9_276 clX9.1 (Nat.le_of_ble_eq_true rfl) rfl dX9_time_22 rfl (by decide) (Nat.le_of_ble_eq_true rfl) rfl (fun _ h5 => ?_)
      refine am_aload_n g dX9_time_25 rfl ?_
      refine am_getr (q := 33) (a := 28) g clX9 dX9_time_26 (Nat.le_of_ble_eq_true rfl) rfl (by decide) rfl (Nat.le_of_ble_eq_true rfl) lf_X9_93 ?_
      refine am_bipush g dX9_time_29 (am_il rfl) (am_bi rfl) ?_
      refine am_iload_n g dX9_time_31 rfl ?_
      refine am_imul g dX9_time_32 ?_
      refine am_iload_n g dX9_time_33 rfl ?_
      refine am_iadd g dX9_time_34 ?_
      refine am_zaload (ix := Int.toNat (am_w ((am_w (6 * a1)) + a2))) (nI := 36) g dX9_time_35 (Nat.le_of_ble_eq_true rfl) rfl rfl (Nat.zero_add _) ?_
      refine am_if_ne (tgt := 41) g dX9_time_36 (by decide) ?_ ?_
      · refine am_iload_n g dX9_time_41 rfl ?_
        refine am_if_ne (tgt := 59) g dX9_time_42 (by decide) ?_ ?_
        · refine am_aload_n g dX9_time_59 rfl ?_
          refine am_getr (q := 35) (a := 30) g clX9 dX9_time_60 (Nat.le_of_ble_eq_true rfl) rfl (by decide) rfl (Nat.le_of_ble_eq_true rfl) lf_X9_99 ?_
          refine am_bipush g dX9_time_63 (am_il rfl) (am_bi rfl) ?_
          refine am_iload_n g dX9_time_65 rfl ?_
          refine am_imul g dX9_time_66 ?_
          refine am_iload_n g dX9_time_67 rfl ?_
          refine am_iadd g dX9_time_68 ?_
          refine am_iaload (ix := Int.toNat (am_w ((am_w (6 * a1)) + a2))) (nI := 36) g dX9_time_69 (Nat.le_of_ble_eq_true rfl) rfl rfl (Nat.zero_add _) ?_
          exact am_ireturn g dX9_time_70
        · refine am_aload_n g dX9_time_45 rfl ?_
          refine am_getr (q := 34) (a := 29) g clX9 dX9_time_46 (Nat.le_of_ble_eq_true rfl) rfl (by decide) rfl (Nat.le_of_ble_eq_true rfl) lf_X9_96 ?_
          refine am_bipush g dX9_time_49 (am_il rfl) (am_bi rfl) ?_
          refine am_iload_n g dX9_time_51 rfl ?_
          refine am_imul g dX9_time_52 ?_
          refine am_iload_n g dX9_time_53 rfl ?_
          refine am_iadd g dX9_time_54 ?_
          refine am_iaload (ix := Int.toNat (am_w ((am_w (6 * a1)) + a2))) (nI := 36) g dX9_time_55 (Nat.le_of_ble_eq_true rfl) rfl rfl (Nat.zero_add _) ?_
          refine am_goto (tgt := 70) g dX9_time_56 (by decide) ?_
          exact am_ireturn g dX9_time_70
      · refine am_iconst g dX9_time_39 (am_il rfl) rfl ?_
        exact am_ireturn g dX9_time_40
    · refine am_bipush g dX9_time_18 (am_il rfl) (am_bi rfl) ?_
      exact am_ireturn g dX9_time_20
def fX9_over (a1 : Int) (a2 : Int) (h : am_M) : Option (Int × am_M) := am_b (fX9_isMatch a1 h) (fun v1 h2 => if v1 = 0 then some ((-1), h2) else am_b (fX9_isMinute a2 h2) (fun v3 h4 => if v3 = 0 then some ((-1), h4) else am_b (fX9_isEnded a1 h4) (fun v5 h6 => if v5 = 0 then some ((-6), h6) else if 0 ≤ a1 ∧ a1 < 64 then am_l (am_up h6 10 (Int.toNat a1) a2) (fun h7 => some (1, h7)) else none)))
set_option maxRecDepth 10000 in
theorem cX9_overC {D : va_G} {a : Nat → ClassId} {ad : Nat → Nat} (a1 : Int) (a2 : Int) (h : am_M) : am_C (EM D a ad) yX9_over cX9_over 3 (some .int) 41 [.inr (some 0), .inl a1, .inl a2] h am_ei (fX9_over a1 a2 h) := by
  refine am_ofJ (L := [some (.inr (some 0)), some (.inl a1), some (.inl a2)]) (by decide) rfl (Nat.le_of_ble_eq_true rfl) (fun G g => ?_)
  have g : am_Gd (EM D a ad) RX9 cX9_over 3 (some .int) 41 G := g
  unfold fX9_over
  refine am_aload_n g dX9_over_0 rfl ?_
  refine am_iload_n g dX9_over_1 rfl ?_
  refine am_Vi (as := [.inl a1]) (S := []) g (cX9_isMatchC a1 h) mi_X9_isMatch lm_X9_191 clX9.1 (Nat.le_of_ble_eq_true rfl) rfl dX9_over_2 rfl (by decide) (Nat.le_of_ble_eq_true rfl) rfl (fun v1 h2 => ?_)
  refine am_if_eq (tgt := 15) g dX9_over_5 (by decide) ?_ ?_
  · refine am_iconst g dX9_over_15 (am_il rfl) rfl ?_
    exact am_ireturn g dX9_over_16
  · refine am_iload_n g dX9_over_8 rfl ?_
    refine am_Si (as := [.inl a2]) (S := []) g (cX9_isMinuteC a2 h2) mi_X9_isMinute lm_X9_237 dX9_over_9 rfl (by decide) (Nat.le_of_ble_eq_true rfl) rfl (fun v3 h4 => ?_)
    refine am_if_ne (tgt := 17) g dX9_over_12 (by decide) ?_ ?_
    · refine am_aload_n g dX9_over_17 rfl ?_
      refine am_iload_n g dX9_over_18 rfl ?_
      refine am_Vi (as := [.inl a1]) (S := []) g (cX9_isEndedC a1 h4) mi_X9_isEnded lm_X9_161 clX9.1 (Nat.le_of_ble_eq_true rfl) rfl dX9_over_19 rfl (by decide) (Nat.le_of_ble_eq_true rfl) rfl (fun v5 h6 => ?_)
      refine am_if_ne (tgt := 28) g dX9_over_22 (by decide) ?_ ?_
      · refine am_aload_n g dX9_over_28 rfl ?_
        refine am_getr (q := 13) (a := 14) g clX9 dX9_over_29 (Nat.le_of_ble_eq_true rfl) rfl (by decide) rfl (Nat.le_of_ble_eq_true rfl) lf_X9_51 ?_
        refine am_iload_n g dX9_over_32 rfl ?_
        refine am_iload_n g dX9_over_33 rfl ?_
        refine am_iastore (ix := Int.toNat a1) (nI := 64) g dX9_over_34 (Nat.le_of_ble_eq_true rfl) rfl rfl (Nat.zero_add _) ?_
        refine am_gm (fun h7 => ?_)
        refine am_iconst g dX9_over_35 (am_il rfl) rfl ?_
        exact am_ireturn g dX9_over_36
      · refine am_bipush g dX9_over_25 (am_il rfl) (am_bi rfl) ?_
        exact am_ireturn g dX9_over_27
    · refine am_iconst g dX9_over_15 (am_il rfl) rfl ?_
      exact am_ireturn g dX9_over_16
def fX9_end (a1 : Int) (h : am_M) : Option (Int × am_M) := am_b (fX9_isMatch a1 h) (fun v1 h2 => if v1 = 0 then some ((-1), h2) else am_b (fX9_isEnded a1 h2) (fun v3 h4 => if v3 = 0 then some ((-1), h4) else if 0 ≤ a1 ∧ a1 < 64 then some (h4 10 (Int.toNat a1), h4) else none))
set_option maxRecDepth 10000 in
theorem cX9_endC {D : va_G} {a : Nat → ClassId} {ad : Nat → Nat} (a1 : Int) (h : am_M) : am_C (EM D a ad) yX9_end cX9_end 2 (some .int) 41 [.inr (some 0), .inl a1] h am_ei (fX9_end a1 h) := by
  refine am_ofJ (L := [some (.inr (some 0)), some (.inl a1)]) (by decide) rfl (Nat.le_of_ble_eq_true rfl) (fun G g => ?_)
  have g : am_Gd (EM D a ad) RX9 cX9_end 2 (some .int) 41 G := g
  unfold fX9_end
  refine am_aload_n g dX9_end_0 rfl ?_
  refine am_iload_n g dX9_end_1 rfl ?_
  refine am_Vi (as := [.inl a1]) (S := []) g (cX9_isMatchC a1 h) mi_X9_isMatch lm_X9_191 clX9.1 (Nat.le_of_ble_eq_true rfl) rfl dX9_end_2 rfl (by decide) (Nat.le_of_ble_eq_true rfl) rfl (fun v1 h2 => ?_)
  refine am_if_eq (tgt := 25) g dX9_end_5 (by decide) ?_ ?_
  · refine am_iconst g dX9_end_25 (am_il rfl) rfl ?_
    exact am_ireturn g dX9_end_26
  · refine am_aload_n g dX9_end_8 rfl ?_
    refine am_iload_n g dX9_end_9 rfl ?_
    refine am_Vi (as := [.inl a1]) (S := []) g (cX9_isEndedC a1 h2) mi_X9_isEnded lm_X9_161 clX9.1 (Nat.le_of_ble_eq_true rfl) rfl dX9_end_10 rfl (by decide) (Nat.le_of_ble_eq_true rfl) rfl (fun v3 h4 => ?_)
    refine am_if_eq (tgt := 25) g dX9_end_13 (by decide) ?_ ?_
    · refine am_iconst g dX9_end_25 (am_il rfl) rfl ?_
      exact am_ireturn g dX9_end_26
    · refine am_aload_n g dX9_end_16 rfl ?_
      refine am_getr (q := 13) (a := 14) g clX9 dX9_end_17 (Nat.le_of_ble_eq_true rfl) rfl (by decide) rfl (Nat.le_of_ble_eq_true rfl) lf_X9_51 ?_
      refine am_iload_n g dX9_end_20 rfl ?_
      refine am_iaload (ix := Int.toNat a1) (nI := 64) g dX9_end_21 (Nat.le_of_ble_eq_true rfl) rfl rfl (Nat.zero_add _) ?_
      refine am_goto (tgt := 26) g dX9_end_22 (by decide) ?_
      exact am_ireturn g dX9_end_26
def fX9_isRested (a1 : Int) (a2 : Int) (h : am_M) : Option (Int × am_M) := am_b (fX9_lastEnd a1 h) (fun v1 h2 => if v1 < 0 then some (1, h2) else if a2 < (am_w (v1 + (h2 18 0))) then some (0, h2) else some (1, h2))
set_option maxRecDepth 10000 in
theorem cX9_isRestedC {D : va_G} {a : Nat → ClassId} {ad : Nat → Nat} (a1 : Int) (a2 : Int) (h : am_M) : am_C (EM D a ad) yX9_isRested cX9_isRested 4 (some .boolean) 42 [.inr (some 0), .inl a1, .inl a2] h am_ei (fX9_isRested a1 a2 h) := by
  refine am_ofJ (L := [some (.inr (some 0)), some (.inl a1), some (.inl a2), none]) (by decide) rfl (Nat.le_of_ble_eq_true rfl) (fun G g => ?_)
  have g : am_Gd (EM D a ad) RX9 cX9_isRested 4 (some .boolean) 42 G := g
  unfold fX9_isRested
  refine am_aload_n g dX9_isRested_0 rfl ?_
  refine am_iload_n g dX9_isRested_1 rfl ?_
  refine am_Vi (as := [.inl a1]) (S := []) g (cX9_lastEndC a1 h) mi_X9_lastEnd lm_X9_273 clX9.1 (Nat.le_of_ble_eq_true rfl) rfl dX9_isRested_2 rfl (by decide) (Nat.le_of_ble_eq_true rfl) rfl (fun v1 h2 => ?_)
  refine am_istore_n g dX9_isRested_5 (by decide) ?_
  refine am_iload_n g dX9_isRested_6 rfl ?_
  refine am_if_lt (tgt := 22) g dX9_isRested_7 (by decide) ?_ ?_
  · refine am_iconst g dX9_isRested_22 (am_il rfl) rfl ?_
    refine am_goto (tgt := 27) g dX9_isRested_23 (by decide) ?_
    exact am_zreturn g dX9_isRested_27 (by decide)
  · refine am_iload_n g dX9_isRested_10 rfl ?_
    refine am_iload_n g dX9_isRested_11 rfl ?_
    refine am_aload_n g dX9_isRested_12 rfl ?_
    refine am_getr (q := 21) (a := 22) g clX9 dX9_isRested_13 (Nat.le_of_ble_eq_true rfl) rfl (by decide) rfl (Nat.le_of_ble_eq_true rfl) lf_X9_75 ?_
    refine am_iconst g dX9_isRested_16 (am_il rfl) rfl ?_
    refine am_ialoadC (ix := 0) (nI := 4) g dX9_isRested_17 (Nat.le_of_ble_eq_true rfl) rfl rfl rfl rfl ?_
    refine am_iadd g dX9_isRested_18 ?_
    refine am_icmp_lt (tgt := 26) g dX9_isRested_19 (by decide) ?_ ?_
    · refine am_iconst g dX9_isRested_26 (am_il rfl) rfl ?_
      exact am_zreturn g dX9_isRested_27 (by decide)
    · refine am_iconst g dX9_isRested_22 (am_il rfl) rfl ?_
      refine am_goto (tgt := 27) g dX9_isRested_23 (by decide) ?_
      exact am_zreturn g dX9_isRested_27 (by decide)
def fX9_why (a1 : Int) (a2 : Int) (h : am_M) : Option (Int × am_M) := am_b (fX9_isMatch a1 h) (fun v1 h2 => if v1 = 0 then some (1, h2) else am_b (fX9_sideOf 8 a1 0 h2) (fun v3 h4 => if v3 = (-2) then some (2, h4) else am_b (fX9_sideOf 8 a1 1 h4) (fun v5 h6 => if v5 = (-2) then some (2, h6) else am_b (fX9_isEnded a1 h6) (fun v7 h8 => if v7 = 0 then (if 0 ≤ a1 ∧ a1 < 64 then if (h8 9 (Int.toNat a1)) ≤ 0 then (am_b (fX9_sideOf 8 a1 0 h8) (fun v9 h10 => am_b (fX9_isRested v9 a2 h10) (fun v11 h12 => if v11 = 0 then some (5, h12) else am_b (fX9_sideOf 8 a1 1 h12) (fun v13 h14 => am_b (fX9_isRested v13 a2 h14) (fun v15 h16 => if v15 = 0 then some (6, h16) else some (0, h16)))))) else some (4, h8) else none) else some (3, h8)))))
set_option maxRecDepth 10000 in
theorem cX9_whyC {D : va_G} {a : Nat → ClassId} {ad : Nat → Nat} (a1 : Int) (a2 : Int) (h : am_M) : am_C (EM D a ad) yX9_why cX9_why 3 (some .int) 43 [.inr (some 0), .inl a1, .inl a2] h am_ei (fX9_why a1 a2 h) := by
  refine am_ofJ (L := [some (.inr (some 0)), some (.inl a1), some (.inl a2)]) (by decide) rfl (Nat.le_of_ble_eq_true rfl) (fun G g => ?_)
  have g : am_Gd (EM D a ad) RX9 cX9_why 3 (some .int) 43 G := g
  unfold fX9_why
  refine am_aload_n g dX9_why_0 rfl ?_
  refine am_iload_n g dX9_why_1 rfl ?_
  refine am_Vi (as := [.inl a1]) (S := []) g (cX9_isMatchC a1 h) mi_X9_isMatch lm_X9_191 clX9.1 (Nat.le_of_ble_eq_true rfl) rfl dX9_why_2 rfl (by decide) (Nat.le_of_ble_eq_true rfl) rfl (fun v1 h2 => ?_)
  refine am_if_ne (tgt := 10) g dX9_why_5 (by decide) ?_ ?_
  · refine am_aload_n g dX9_why_10 rfl ?_
    refine am_iload_n g dX9_why_11 rfl ?_
    refine am_iconst g dX9_why_12 (am_il rfl) rfl ?_
    refine am_Vi (as := [.inl a1, .inl 0]) (S := []) g (cX9_sideOfC a1 0 h2) mi_X9_sideOf lm_X9_173 clX9.1 (Nat.le_of_ble_eq_true rfl) rfl dX9_why_13 rfl (by decide) (Nat.le_of_ble_eq_true rfl) rfl (fun v3 h4 => ?_)
    refine am_bipush g dX9_why_16 (am_il rfl) (am_bi rfl) ?_
    refine am_icmp_eq (tgt := 32) g dX9_why_18 (by decide) ?_ ?_
    · refine am_iconst g dX9_why_32 (am_il rfl) rfl ?_
      exact am_ireturn g dX9_why_33
    · refine am_aload_n g dX9_why_21 rfl ?_
      refine am_iload_n g dX9_why_22 rfl ?_
      refine am_iconst g dX9_why_23 (am_il rfl) rfl ?_
      refine am_Vi (as := [.inl a1, .inl 1]) (S := []) g (cX9_sideOfC a1 1 h4) mi_X9_sideOf lm_X9_173 clX9.1 (Nat.le_of_ble_eq_true rfl) rfl dX9_why_24 rfl (by decide) (Nat.le_of_ble_eq_true rfl) rfl (fun v5 h6 => ?_)
      refine am_bipush g dX9_why_27 (am_il rfl) (am_bi rfl) ?_
      refine am_icmp_ne (tgt := 34) g dX9_why_29 (by decide) ?_ ?_
      · refine am_aload_n g dX9_why_34 rfl ?_
        refine am_iload_n g dX9_why_35 rfl ?_
        refine am_Vi (as := [.inl a1]) (S := []) g (cX9_isEndedC a1 h6) mi_X9_isEnded lm_X9_161 clX9.1 (Nat.le_of_ble_eq_true rfl) rfl dX9_why_36 rfl (by decide) (Nat.le_of_ble_eq_true rfl) rfl (fun v7 h8 => ?_)
        refine am_if_eq (tgt := 44) g dX9_why_39 (by decide) ?_ ?_
        · refine am_aload_n g dX9_why_44 rfl ?_
          refine am_getr (q := 9) (a := 10) g clX9 dX9_why_45 (Nat.le_of_ble_eq_true rfl) rfl (by decide) rfl (Nat.le_of_ble_eq_true rfl) lf_X9_38 ?_
          refine am_iload_n g dX9_why_48 rfl ?_
          refine am_iaload (ix := Int.toNat a1) (nI := 64) g dX9_why_49 (Nat.le_of_ble_eq_true rfl) rfl rfl (Nat.zero_add _) ?_
          refine am_if_le (tgt := 55) g dX9_why_50 (by decide) ?_ ?_
          · refine am_aload_n g dX9_why_55 rfl ?_
            refine am_aload_n g dX9_why_56 rfl ?_
            refine am_iload_n g dX9_why_57 rfl ?_
            refine am_iconst g dX9_why_58 (am_il rfl) rfl ?_
            refine am_Vi (as := [.inl a1, .inl 0]) (S := [.inr (some 0)]) g (cX9_sideOfC a1 0 h8) mi_X9_sideOf lm_X9_173 clX9.1 (Nat.le_of_ble_eq_true rfl) rfl dX9_why_59 rfl (by decide) (Nat.le_of_ble_eq_true rfl) rfl (fun v9 h10 => ?_)
            refine am_iload_n g dX9_why_62 rfl ?_
            refine am_Vi (as := [.inl v9, .inl a2]) (S := []) g (cX9_isRestedC v9 a2 h10) mi_X9_isRested lm_X9_279 clX9.1 (Nat.le_of_ble_eq_true rfl) rfl dX9_why_63 rfl (by decide) (Nat.le_of_ble_eq_true rfl) rfl (fun v11 h12 => ?_)
            refine am_if_ne (tgt := 71) g dX9_why_66 (by decide) ?_ ?_
            · refine am_aload_n g dX9_why_71 rfl ?_
              refine am_aload_n g dX9_why_72 rfl ?_
              refine am_iload_n g dX9_why_73 rfl ?_
              refine am_iconst g dX9_why_74 (am_il rfl) rfl ?_
              refine am_Vi (as := [.inl a1, .inl 1]) (S := [.inr (some 0)]) g (cX9_sideOfC a1 1 h12) mi_X9_sideOf lm_X9_173 clX9.1 (Nat.le_of_ble_eq_true rfl) rfl dX9_why_75 rfl (by decide) (Nat.le_of_ble_eq_true rfl) rfl (fun v13 h14 => ?_)
              refine am_iload_n g dX9_why_78 rfl ?_
              refine am_Vi (as := [.inl v13, .inl a2]) (S := []) g (cX9_isRestedC v13 a2 h14) mi_X9_isRested lm_X9_279 clX9.1 (Nat.le_of_ble_eq_true rfl) rfl dX9_why_79 rfl (by decide) (Nat.le_of_ble_eq_true rfl) rfl (fun v15 h16 => ?_)
              refine am_if_eq (tgt := 89) g dX9_why_82 (by decide) ?_ ?_
              · refine am_bipush g dX9_why_89 (am_il rfl) (am_bi rfl) ?_
                exact am_ireturn g dX9_why_91
              · refine am_iconst g dX9_why_85 (am_il rfl) rfl ?_
                refine am_goto (tgt := 91) g dX9_why_86 (by decide) ?_
                exact am_ireturn g dX9_why_91
            · refine am_iconst g dX9_why_69 (am_il rfl) rfl ?_
              exact am_ireturn g dX9_why_70
          · refine am_iconst g dX9_why_53 (am_il rfl) rfl ?_
            exact am_ireturn g dX9_why_54
        · refine am_iconst g dX9_why_42 (am_il rfl) rfl ?_
          exact am_ireturn g dX9_why_43
      · refine am_iconst g dX9_why_32 (am_il rfl) rfl ?_
        exact am_ireturn g dX9_why_33
  · refine am_iconst g dX9_why_8 (am_il rfl) rfl ?_
    exact am_ireturn g dX9_why_9
def fX9_worth (a1 : Int) (a2 : Int) (h : am_M) : Option (Int × am_M) := am_b (fX9_isAnyMatch a1 h) (fun v1 h2 => if v1 = 0 then some ((-1), h2) else am_b (fX9_in a2 0 999 h2) (fun v3 h4 => if v3 = 0 then some ((-1), h4) else if 0 ≤ a1 ∧ a1 < 64 then am_l (am_up h4 11 (Int.toNat a1) a2) (fun h5 => some (1, h5)) else none))
set_option maxRecDepth 10000 in
theorem cX9_worthC {D : va_G} {a : Nat → ClassId} {ad : Nat → Nat} (a1 : Int) (a2 : Int) (h : am_M) : am_C (EM D a ad) yX9_worth cX9_worth 3 (some .int) 3 [.inr (some 0), .inl a1, .inl a2] h am_ei (fX9_worth a1 a2 h) := by
  refine am_ofJ (L := [some (.inr (some 0)), some (.inl a1), some (.inl a2)]) (by decide) rfl (Nat.le_of_ble_eq_true rfl) (fun G g => ?_)
  have g : am_Gd (EM D a ad) RX9 cX9_worth 3 (some .int) 3 G := g
  unfold fX9_worth
  refine am_iload_n g dX9_worth_0 rfl ?_
  refine am_Si (as := [.inl a1]) (S := []) g (cX9_isAnyMatchC a1 h) mi_X9_isAnyMatch lm_X9_244 dX9_worth_1 rfl (by decide) (Nat.le_of_ble_eq_true rfl) rfl (fun v1 h2 => ?_)
  refine am_if_eq (tgt := 18) g dX9_worth_4 (by decide) ?_ ?_
  · refine am_iconst g dX9_worth_18 (am_il rfl) rfl ?_
    exact am_ireturn g dX9_worth_19
  · refine am_iload_n g dX9_worth_7 rfl ?_
    refine am_iconst g dX9_worth_8 (am_il rfl) rfl ?_
    refine am_sipush g dX9_worth_9 (am_il rfl) (am_si rfl) ?_
    refine am_Si (as := [.inl a2, .inl 0, .inl 999]) (S := []) g (cX9_inC a2 0 999 h2) mi_X9_in lm_X9_111 dX9_worth_12 rfl (by decide) (Nat.le_of_ble_eq_true rfl) rfl (fun v3 h4 => ?_)
    refine am_if_ne (tgt := 20) g dX9_worth_15 (by decide) ?_ ?_
    · refine am_aload_n g dX9_worth_20 rfl ?_
      refine am_getr (q := 14) (a := 15) g clX9 dX9_worth_21 (Nat.le_of_ble_eq_true rfl) rfl (by decide) rfl (Nat.le_of_ble_eq_true rfl) lf_X9_54 ?_
      refine am_iload_n g dX9_worth_24 rfl ?_
      refine am_iload_n g dX9_worth_25 rfl ?_
      refine am_iastore (ix := Int.toNat a1) (nI := 64) g dX9_worth_26 (Nat.le_of_ble_eq_true rfl) rfl rfl (Nat.zero_add _) ?_
      refine am_gm (fun h5 => ?_)
      refine am_iconst g dX9_worth_27 (am_il rfl) rfl ?_
      exact am_ireturn g dX9_worth_28
    · refine am_iconst g dX9_worth_18 (am_il rfl) rfl ?_
      exact am_ireturn g dX9_worth_19
def fX9_nextCourt_40 (K4 : Int → Int → am_M → Option (Int × am_M)) (l1 : Int) (l2 : Int) (h : am_M) : Option (Int × am_M) := K4 l1 (am_w (l2 + 1)) h
set_option maxRecDepth 10000 in
theorem jX9_nextCourt_40 {D : va_G} {a : Nat → ClassId} {ad : Nat → Nat} {G : am_G} (g : am_Gd (EM D a ad) RX9 cX9_nextCourt 3 (some .int) 1 G) {K4 : Int → Int → am_M → Option (Int × am_M)} (hK4 : ∀ (l1 : Int), ∀ (l2 : Int), ∀ h : am_M, am_J (EM D a ad) G 3 am_ei 4 [some (.inr (some 0)), some (.inl l1), some (.inl l2)] [] h (K4 l1 l2 h)) : ∀ (l1 : Int), ∀ (l2 : Int), ∀ h : am_M, am_J (EM D a ad) G 3 am_ei 40 [some (.inr (some 0)), some (.inl l1), some (.inl l2)] [] h (fX9_nextCourt_40 K4 l1 l2 h) := by
  intro l1 l2 h
  unfold fX9_nextCourt_40
  refine am_iinc g dX9_nextCourt_40 (by decide) rfl ?_
  refine am_goto (tgt := 4) g dX9_nextCourt_43 (by decide) ?_
  exact hK4 l1 (am_w (l2 + 1)) h
def fX9_nextCourt_38 (K40 : Int → Int → am_M → Option (Int × am_M)) (l2 : Int) (h : am_M) : Option (Int × am_M) := K40 l2 l2 h
set_option maxRecDepth 10000 in
theorem jX9_nextCourt_38 {D : va_G} {a : Nat → ClassId} {ad : Nat → Nat} {G : am_G} (g : am_Gd (EM D a ad) RX9 cX9_nextCourt 3 (some .int) 1 G) {K40 : Int → Int → am_M → Option (Int × am_M)} (hK40 : ∀ (l1 : Int), ∀ (l2 : Int), ∀ h : am_M, am_J (EM D a ad) G 3 am_ei 40 [some (.inr (some 0)), some (.inl l1), some (.inl l2)] [] h (K40 l1 l2 h)) : ∀ (l2 : Int), ∀ h : am_M, am_J (EM D a ad) G 3 am_ei 38 [some (.inr (some 0)), none, some (.inl l2)] [] h (fX9_nextCourt_38 K40 l2 h) := by
  intro l2 h
  unfold fX9_nextCourt_38
  refine am_iload_n g dX9_nextCourt_38 rfl ?_
  refine am_istore_n g dX9_nextCourt_39 (by decide) ?_
  exact hK40 l2 l2 h
def fX9_nextCourt_4b (K4 : Int → Int → am_M → Option (Int × am_M)) (l1 : Int) (l2 : Int) (h : am_M) : Option (Int × am_M) := if l2 < 6 then (if 0 ≤ l2 ∧ l2 < 6 then if (h 50 (Int.toNat l2)) = 0 then (if l1 < 0 then (fX9_nextCourt_38 (fX9_nextCourt_40 K4)) l2 h else if 0 ≤ l2 ∧ l2 < 6 then if 0 ≤ l1 ∧ l1 < 6 then if (h 14 (Int.toNat l2)) ≤ (h 14 (Int.toNat l1)) then (fX9_nextCourt_40 K4) l1 l2 h else (fX9_nextCourt_38 (fX9_nextCourt_40 K4)) l2 h else none else none) else (fX9_nextCourt_40 K4) l1 l2 h else none) else some (l1, h)
def fX9_nextCourt_4 : Int → Int → am_M → Option (Int × am_M) := am_it (fun _ _ _ => none) (fX9_nextCourt_4b) 400
set_option maxRecDepth 10000 in
theorem jX9_nextCourt_4b {D : va_G} {a : Nat → ClassId} {ad : Nat → Nat} {G : am_G} (g : am_Gd (EM D a ad) RX9 cX9_nextCourt 3 (some .int) 1 G) {K4 : Int → Int → am_M → Option (Int × am_M)} (hK4 : ∀ (l1 : Int), ∀ (l2 : Int), ∀ h : am_M, am_J (EM D a ad) G 3 am_ei 4 [some (.inr (some 0)), some (.inl l1), some (.inl l2)] [] h (K4 l1 l2 h)) : ∀ (l1 : Int), ∀ (l2 : Int), ∀ h : am_M, am_J (EM D a ad) G 3 am_ei 4 [some (.inr (some 0)), some (.inl l1), some (.inl l2)] [] h (fX9_nextCourt_4b K4 l1 l2 h) := by
  intro l1 l2 h
  unfold fX9_nextCourt_4b
  refine am_iload_n g dX9_nextCourt_4 rfl ?_
  refine am_bipush g dX9_nextCourt_5 (am_il rfl) (am_bi rfl) ?_
  refine am_icmp_ge (tgt := 46) g dX9_nextCourt_7 (by decide) ?_ ?_
  · refine am_iload_n g dX9_nextCourt_46 rfl ?_
    exact am_ireturn g dX9_nextCourt_47
  · refine am_aload_n g dX9_nextCourt_10 rfl ?_
    refine am_getr (q := 38) (a := 33) g clX9 dX9_nextCourt_11 (Nat.le_of_ble_eq_true rfl) rfl (by decide) rfl (Nat.le_of_ble_eq_true rfl) lf_X9_108 ?_
    refine am_iload_n g dX9_nextCourt_14 rfl ?_
    refine am_zaload (ix := Int.toNat l2) (nI := 6) g dX9_nextCourt_15 (Nat.le_of_ble_eq_true rfl) rfl rfl (Nat.zero_add _) ?_
    refine am_if_ne (tgt := 40) g dX9_nextCourt_16 (by decide) ?_ ?_
    · exact (jX9_nextCourt_40 g hK4) l1 l2 h
    · refine am_iload_n g dX9_nextCourt_19 rfl ?_
      refine am_if_lt (tgt := 38) g dX9_nextCourt_20 (by decide) ?_ ?_
      · refine am_drop 1 ?_
        exact (jX9_nextCourt_38 g (jX9_nextCourt_40 g hK4)) l2 h
      · refine am_aload_n g dX9_nextCourt_23 rfl ?_
        refine am_getr (q := 17) (a := 18) g clX9 dX9_nextCourt_24 (Nat.le_of_ble_eq_true rfl) rfl (by decide) rfl (Nat.le_of_ble_eq_true rfl) lf_X9_63 ?_
        refine am_iload_n g dX9_nextCourt_27 rfl ?_
        refine am_iaload (ix := Int.toNat l2) (nI := 6) g dX9_nextCourt_28 (Nat.le_of_ble_eq_true rfl) rfl rfl (Nat.zero_add _) ?_
        refine am_aload_n g dX9_nextCourt_29 rfl ?_
        refine am_getr (q := 17) (a := 18) g clX9 dX9_nextCourt_30 (Nat.le_of_ble_eq_true rfl) rfl (by decide) rfl (Nat.le_of_ble_eq_true rfl) lf_X9_63 ?_
        refine am_iload_n g dX9_nextCourt_33 rfl ?_
        refine am_iaload (ix := Int.toNat l1) (nI := 6) g dX9_nextCourt_34 (Nat.le_of_ble_eq_true rfl) rfl rfl (Nat.zero_add _) ?_
        refine am_icmp_le (tgt := 40) g dX9_nextCourt_35 (by decide) ?_ ?_
        · exact (jX9_nextCourt_40 g hK4) l1 l2 h
        · refine am_drop 1 ?_
          exact (jX9_nextCourt_38 g (jX9_nextCourt_40 g hK4)) l2 h
theorem jX9_nextCourt_4 {D : va_G} {a : Nat → ClassId} {ad : Nat → Nat} {G : am_G} (g : am_Gd (EM D a ad) RX9 cX9_nextCourt 3 (some .int) 1 G) : ∀ (l1 : Int), ∀ (l2 : Int), ∀ h : am_M, am_J (EM D a ad) G 3 am_ei 4 [some (.inr (some 0)), some (.inl l1), some (.inl l2)] [] h (fX9_nextCourt_4 l1 l2 h) := by
  unfold fX9_nextCourt_4
  generalize 400 = n
  induction n with
  | zero => intro l1 l2 h; exact am_jn
  | succ n ih => exact jX9_nextCourt_4b g ih
def fX9_nextCourt (h : am_M) : Option (Int × am_M) := fX9_nextCourt_4 (-1) 0 h
set_option maxRecDepth 10000 in
theorem cX9_nextCourtC {D : va_G} {a : Nat → ClassId} {ad : Nat → Nat}  (h : am_M) : am_C (EM D a ad) yX9_nextCourt cX9_nextCourt 3 (some .int) 1 [.inr (some 0)] h am_ei (fX9_nextCourt h) := by
  refine am_ofJ (L := [some (.inr (some 0)), none, none]) (by decide) rfl (Nat.le_of_ble_eq_true rfl) (fun G g => ?_)
  have g : am_Gd (EM D a ad) RX9 cX9_nextCourt 3 (some .int) 1 G := g
  unfold fX9_nextCourt
  refine am_iconst g dX9_nextCourt_0 (am_il rfl) rfl ?_
  refine am_istore_n g dX9_nextCourt_1 (by decide) ?_
  refine am_iconst g dX9_nextCourt_2 (am_il rfl) rfl ?_
  refine am_istore_n g dX9_nextCourt_3 (by decide) ?_
  exact (jX9_nextCourt_4 g) (-1) 0 h
def fX9_nextMatch_40 (K4 : Int → Int → am_M → Option (Int × am_M)) (l1 : Int) (l2 : Int) (h : am_M) : Option (Int × am_M) := K4 l1 (am_w (l2 + 1)) h
set_option maxRecDepth 10000 in
theorem jX9_nextMatch_40 {D : va_G} {a : Nat → ClassId} {ad : Nat → Nat} {G : am_G} (g : am_Gd (EM D a ad) RX9 cX9_nextMatch 3 (some .int) 1 G) {K4 : Int → Int → am_M → Option (Int × am_M)} (hK4 : ∀ (l1 : Int), ∀ (l2 : Int), ∀ h : am_M, am_J (EM D a ad) G 3 am_ei 4 [some (.inr (some 0)), some (.inl l1), some (.inl l2)] [] h (K4 l1 l2 h)) : ∀ (l1 : Int), ∀ (l2 : Int), ∀ h : am_M, am_J (EM D a ad) G 3 am_ei 40 [some (.inr (some 0)), some (.inl l1), some (.inl l2)] [] h (fX9_nextMatch_40 K4 l1 l2 h) := by
  intro l1 l2 h
  unfold fX9_nextMatch_40
  refine am_iinc g dX9_nextMatch_40 (by decide) rfl ?_
  refine am_goto (tgt := 4) g dX9_nextMatch_43 (by decide) ?_
  exact hK4 l1 (am_w (l2 + 1)) h
def fX9_nextMatch_38 (K40 : Int → Int → am_M → Option (Int × am_M)) (l2 : Int) (h : am_M) : Option (Int × am_M) := K40 l2 l2 h
set_option maxRecDepth 10000 in
theorem jX9_nextMatch_38 {D : va_G} {a : Nat → ClassId} {ad : Nat → Nat} {G : am_G} (g : am_Gd (EM D a ad) RX9 cX9_nextMatch 3 (some .int) 1 G) {K40 : Int → Int → am_M → Option (Int × am_M)} (hK40 : ∀ (l1 : Int), ∀ (l2 : Int), ∀ h : am_M, am_J (EM D a ad) G 3 am_ei 40 [some (.inr (some 0)), some (.inl l1), some (.inl l2)] [] h (K40 l1 l2 h)) : ∀ (l2 : Int), ∀ h : am_M, am_J (EM D a ad) G 3 am_ei 38 [some (.inr (some 0)), none, some (.inl l2)] [] h (fX9_nextMatch_38 K40 l2 h) := by
  intro l2 h
  unfold fX9_nextMatch_38
  refine am_iload_n g dX9_nextMatch_38 rfl ?_
  refine am_istore_n g dX9_nextMatch_39 (by decide) ?_
  exact hK40 l2 l2 h
def fX9_nextMatch_4b (K4 : Int → Int → am_M → Option (Int × am_M)) (l1 : Int) (l2 : Int) (h : am_M) : Option (Int × am_M) := if l2 < 64 then (if 0 ≤ l2 ∧ l2 < 64 then if (h 48 (Int.toNat l2)) = 0 then (if l1 < 0 then (fX9_nextMatch_38 (fX9_nextMatch_40 K4)) l2 h else if 0 ≤ l2 ∧ l2 < 64 then if 0 ≤ l1 ∧ l1 < 64 then if (h 11 (Int.toNat l2)) ≤ (h 11 (Int.toNat l1)) then (fX9_nextMatch_40 K4) l1 l2 h else (fX9_nextMatch_38 (fX9_nextMatch_40 K4)) l2 h else none else none) else (fX9_nextMatch_40 K4) l1 l2 h else none) else some (l1, h)
def fX9_nextMatch_4 : Int → Int → am_M → Option (Int × am_M) := am_it (fun _ _ _ => none) (fX9_nextMatch_4b) 400
set_option maxRecDepth 10000 in
theorem jX9_nextMatch_4b {D : va_G} {a : Nat → ClassId} {ad : Nat → Nat} {G : am_G} (g : am_Gd (EM D a ad) RX9 cX9_nextMatch 3 (some .int) 1 G) {K4 : Int → Int → am_M → Option (Int × am_M)} (hK4 : ∀ (l1 : Int), ∀ (l2 : Int), ∀ h : am_M, am_J (EM D a ad) G 3 am_ei 4 [some (.inr (some 0)), some (.inl l1), some (.inl l2)] [] h (K4 l1 l2 h)) : ∀ (l1 : Int), ∀ (l2 : Int), ∀ h : am_M, am_J (EM D a ad) G 3 am_ei 4 [some (.inr (some 0)), some (.inl l1), some (.inl l2)] [] h (fX9_nextMatch_4b K4 l1 l2 h) := by
  intro l1 l2 h
  unfold fX9_nextMatch_4b
  refine am_iload_n g dX9_nextMatch_4 rfl ?_
  refine am_bipush g dX9_nextMatch_5 (am_il rfl) (am_bi rfl) ?_
  refine am_icmp_ge (tgt := 46) g dX9_nextMatch_7 (by decide) ?_ ?_
  · refine am_iload_n g dX9_nextMatch_46 rfl ?_
    exact am_ireturn g dX9_nextMatch_47
  · refine am_aload_n g dX9_nextMatch_10 rfl ?_
    refine am_getr (q := 37) (a := 32) g clX9 dX9_nextMatch_11 (Nat.le_of_ble_eq_true rfl) rfl (by decide) rfl (Nat.le_of_ble_eq_true rfl) lf_X9_105 ?_
    refine am_iload_n g dX9_nextMatch_14 rfl ?_
    refine am_zaload (ix := Int.toNat l2) (nI := 64) g dX9_nextMatch_15 (Nat.le_of_ble_eq_true rfl) rfl rfl (Nat.zero_add _) ?_
    refine am_if_ne (tgt := 40) g dX9_nextMatch_16 (by decide) ?_ ?_
    · exact (jX9_nextMatch_40 g hK4) l1 l2 h
    · refine am_iload_n g dX9_nextMatch_19 rfl ?_
      refine am_if_lt (tgt := 38) g dX9_nextMatch_20 (by decide) ?_ ?_
      · refine am_drop 1 ?_
        exact (jX9_nextMatch_38 g (jX9_nextMatch_40 g hK4)) l2 h
      · refine am_aload_n g dX9_nextMatch_23 rfl ?_
        refine am_getr (q := 14) (a := 15) g clX9 dX9_nextMatch_24 (Nat.le_of_ble_eq_true rfl) rfl (by decide) rfl (Nat.le_of_ble_eq_true rfl) lf_X9_54 ?_
        refine am_iload_n g dX9_nextMatch_27 rfl ?_
        refine am_iaload (ix := Int.toNat l2) (nI := 64) g dX9_nextMatch_28 (Nat.le_of_ble_eq_true rfl) rfl rfl (Nat.zero_add _) ?_
        refine am_aload_n g dX9_nextMatch_29 rfl ?_
        refine am_getr (q := 14) (a := 15) g clX9 dX9_nextMatch_30 (Nat.le_of_ble_eq_true rfl) rfl (by decide) rfl (Nat.le_of_ble_eq_true rfl) lf_X9_54 ?_
        refine am_iload_n g dX9_nextMatch_33 rfl ?_
        refine am_iaload (ix := Int.toNat l1) (nI := 64) g dX9_nextMatch_34 (Nat.le_of_ble_eq_true rfl) rfl rfl (Nat.zero_add _) ?_
        refine am_icmp_le (tgt := 40) g dX9_nextMatch_35 (by decide) ?_ ?_
        · exact (jX9_nextMatch_40 g hK4) l1 l2 h
        · refine am_drop 1 ?_
          exact (jX9_nextMatch_38 g (jX9_nextMatch_40 g hK4)) l2 h
theorem jX9_nextMatch_4 {D : va_G} {a : Nat → ClassId} {ad : Nat → Nat} {G : am_G} (g : am_Gd (EM D a ad) RX9 cX9_nextMatch 3 (some .int) 1 G) : ∀ (l1 : Int), ∀ (l2 : Int), ∀ h : am_M, am_J (EM D a ad) G 3 am_ei 4 [some (.inr (some 0)), some (.inl l1), some (.inl l2)] [] h (fX9_nextMatch_4 l1 l2 h) := by
  unfold fX9_nextMatch_4
  generalize 400 = n
  induction n with
  | zero => intro l1 l2 h; exact am_jn
  | succ n ih => exact jX9_nextMatch_4b g ih
def fX9_nextMatch (h : am_M) : Option (Int × am_M) := fX9_nextMatch_4 (-1) 0 h
set_option maxRecDepth 10000 in
theorem cX9_nextMatchC {D : va_G} {a : Nat → ClassId} {ad : Nat → Nat}  (h : am_M) : am_C (EM D a ad) yX9_nextMatch cX9_nextMatch 3 (some .int) 1 [.inr (some 0)] h am_ei (fX9_nextMatch h) := by
  refine am_ofJ (L := [some (.inr (some 0)), none, none]) (by decide) rfl (Nat.le_of_ble_eq_true rfl) (fun G g => ?_)
  have g : am_Gd (EM D a ad) RX9 cX9_nextMatch 3 (some .int) 1 G := g
  unfold fX9_nextMatch
  refine am_iconst g dX9_nextMatch_0 (am_il rfl) rfl ?_
  refine am_istore_n g dX9_nextMatch_1 (by decide) ?_
  refine am_iconst g dX9_nextMatch_2 (am_il rfl) rfl ?_
  refine am_istore_n g dX9_nextMatch_3 (by decide) ?_
  exact (jX9_nextMatch_4 g) (-1) 0 h
def fX9_fitted_205 (K110 : Int → Int → am_M → Option (Int × am_M)) (l1 : Int) (h : am_M) : Option (Int × am_M) := am_b (fX9_nextMatch h) (fun v8 h9 => K110 l1 v8 h9)
set_option maxRecDepth 10000 in
theorem jX9_fitted_205 {D : va_G} {a : Nat → ClassId} {ad : Nat → Nat} {G : am_G} (g : am_Gd (EM D a ad) RX9 cX9_fitted 5 (some .int) 44 G) {K110 : Int → Int → am_M → Option (Int × am_M)} (hK110 : ∀ (l1 : Int), ∀ (l3 : Int), ∀ h : am_M, am_J (EM D a ad) G 5 am_ei 110 [some (.inr (some 0)), some (.inl l1), none, some (.inl l3), none] [] h (K110 l1 l3 h)) : ∀ (l1 : Int), ∀ h : am_M, am_J (EM D a ad) G 5 am_ei 205 [some (.inr (some 0)), some (.inl l1), none, none, none] [] h (fX9_fitted_205 K110 l1 h) := by
  intro l1 h
  unfold fX9_fitted_205
  refine am_aload_n g dX9_fitted_205 rfl ?_
  refine am_Vi (as := []) (S := []) g (cX9_nextMatchC h) mi_X9_nextMatch lm_X9_285 clX9.1 (Nat.le_of_ble_eq_true rfl) rfl dX9_fitted_206 rfl (by decide) (Nat.le_of_ble_eq_true rfl) rfl (fun v8 h9 => ?_)
  refine am_istore_n g dX9_fitted_209 (by decide) ?_
  refine am_goto (tgt := 110) g dX9_fitted_210 (by decide) ?_
  exact hK110 l1 v8 h9
def fX9_fitted_110b (K110 : Int → Int → am_M → Option (Int × am_M)) (l1 : Int) (l3 : Int) (h : am_M) : Option (Int × am_M) := if l3 < 0 then some ((-1), h) else if 0 ≤ l3 ∧ l3 < 64 then am_l (am_up h 48 (Int.toNat l3) 1) (fun h5 => am_b (fX9_sideOf 8 l3 0 h5) (fun v6 h7 => if 0 ≤ v6 ∧ v6 < 40 then if (h7 49 (Int.toNat v6)) = 0 then (am_b (fX9_sideOf 8 l3 1 h7) (fun v10 h11 => if 0 ≤ v10 ∧ v10 < 40 then if (h11 49 (Int.toNat v10)) = 0 then (am_b (fX9_nextCourt h11) (fun v12 h13 => if v12 < 0 then some ((-1), h13) else if 0 ≤ v12 ∧ v12 < 6 then am_l (am_up h13 50 (Int.toNat v12) 1) (fun h14 => am_b (fX9_sideOf 8 l3 0 h14) (fun v15 h16 => if 0 ≤ v15 ∧ v15 < 40 then am_l (am_up h16 49 (Int.toNat v15) 1) (fun h17 => am_b (fX9_sideOf 8 l3 1 h17) (fun v18 h19 => if 0 ≤ v18 ∧ v18 < 40 then am_l (am_up h19 49 (Int.toNat v18) 1) (fun h20 => if v12 = l1 then some (l3, h20) else (fX9_fitted_205 K110) l1 h20) else none)) else none)) else none)) else (fX9_fitted_205 K110) l1 h11 else none)) else (fX9_fitted_205 K110) l1 h7 else none)) else none
def fX9_fitted_110 : Int → Int → am_M → Option (Int × am_M) := am_it (fun _ _ _ => none) (fX9_fitted_110b) 400
set_option maxRecDepth 10000 in
theorem jX9_fitted_110b {D : va_G} {a : Nat → ClassId} {ad : Nat → Nat} {G : am_G} (g : am_Gd (EM D a ad) RX9 cX9_fitted 5 (some .int) 44 G) {K110 : Int → Int → am_M → Option (Int × am_M)} (hK110 : ∀ (l1 : Int), ∀ (l3 : Int), ∀ h : am_M, am_J (EM D a ad) G 5 am_ei 110 [some (.inr (some 0)), some (.inl l1), none, some (.inl l3), none] [] h (K110 l1 l3 h)) : ∀ (l1 : Int), ∀ (l3 : Int), ∀ h : am_M, am_J (EM D a ad) G 5 am_ei 110 [some (.inr (some 0)), some (.inl l1), none, some (.inl l3), none] [] h (fX9_fitted_110b K110 l1 l3 h) := by
  intro l1 l3 h
  unfold fX9_fitted_110b
  refine am_iload_n g dX9_fitted_110 rfl ?_
  refine am_if_lt (tgt := 213) g dX9_fitted_111 (by decide) ?_ ?_
  · refine am_iconst g dX9_fitted_213 (am_il rfl) rfl ?_
    exact am_ireturn g dX9_fitted_214
  · refine am_aload_n g dX9_fitted_114 rfl ?_
    refine am_getr (q := 37) (a := 32) g clX9 dX9_fitted_115 (Nat.le_of_ble_eq_true rfl) rfl (by decide) rfl (Nat.le_of_ble_eq_true rfl) lf_X9_105 ?_
    refine am_iload_n g dX9_fitted_118 rfl ?_
    refine am_iconst g dX9_fitted_119 (am_il rfl) rfl ?_
    refine am_zastoreB (ix := Int.toNat l3) (nI := 64) g dX9_fitted_120 (Nat.le_of_ble_eq_true rfl) rfl rfl (Nat.zero_add _) (by decide) ?_
    refine am_gm (fun h5 => ?_)
    refine am_aload_n g dX9_fitted_121 rfl ?_
    refine am_getr (q := 36) (a := 31) g clX9 dX9_fitted_122 (Nat.le_of_ble_eq_true rfl) rfl (by decide) rfl (Nat.le_of_ble_eq_true rfl) lf_X9_102 ?_
    refine am_aload_n g dX9_fitted_125 rfl ?_
    refine am_iload_n g dX9_fitted_126 rfl ?_
    refine am_iconst g dX9_fitted_127 (am_il rfl) rfl ?_
    refine am_Vi (as := [.inl l3, .inl 0]) (S := [.inr (some 31)]) g (cX9_sideOfC l3 0 h5) mi_X9_sideOf lm_X9_173 clX9.1 (Nat.le_of_ble_eq_true rfl) rfl dX9_fitted_128 rfl (by decide) (Nat.le_of_ble_eq_true rfl) rfl (fun v6 h7 => ?_)
    refine am_zaload (ix := Int.toNat v6) (nI := 40) g dX9_fitted_131 (Nat.le_of_ble_eq_true rfl) rfl rfl (Nat.zero_add _) ?_
    refine am_if_ne (tgt := 205) g dX9_fitted_132 (by decide) ?_ ?_
    · refine am_drop 3 ?_
      exact (jX9_fitted_205 g hK110) l1 h7
    · refine am_aload_n g dX9_fitted_135 rfl ?_
      refine am_getr (q := 36) (a := 31) g clX9 dX9_fitted_136 (Nat.le_of_ble_eq_true rfl) rfl (by decide) rfl (Nat.le_of_ble_eq_true rfl) lf_X9_102 ?_
      refine am_aload_n g dX9_fitted_139 rfl ?_
      refine am_iload_n g dX9_fitted_140 rfl ?_
      refine am_iconst g dX9_fitted_141 (am_il rfl) rfl ?_
      refine am_Vi (as := [.inl l3, .inl 1]) (S := [.inr (some 31)]) g (cX9_sideOfC l3 1 h7) mi_X9_sideOf lm_X9_173 clX9.1 (Nat.le_of_ble_eq_true rfl) rfl dX9_fitted_142 rfl (by decide) (Nat.le_of_ble_eq_true rfl) rfl (fun v10 h11 => ?_)
      refine am_zaload (ix := Int.toNat v10) (nI := 40) g dX9_fitted_145 (Nat.le_of_ble_eq_true rfl) rfl rfl (Nat.zero_add _) ?_
      refine am_if_eq (tgt := 152) g dX9_fitted_146 (by decide) ?_ ?_
      · refine am_aload_n g dX9_fitted_152 rfl ?_
        refine am_Vi (as := []) (S := []) g (cX9_nextCourtC h11) mi_X9_nextCourt lm_X9_288 clX9.1 (Nat.le_of_ble_eq_true rfl) rfl dX9_fitted_153 rfl (by decide) (Nat.le_of_ble_eq_true rfl) rfl (fun v12 h13 => ?_)
        refine am_istore g dX9_fitted_156 (by decide) ?_
        refine am_iload g dX9_fitted_158 rfl ?_
        refine am_if_ge (tgt := 165) g dX9_fitted_160 (by decide) ?_ ?_
        · refine am_aload_n g dX9_fitted_165 rfl ?_
          refine am_getr (q := 38) (a := 33) g clX9 dX9_fitted_166 (Nat.le_of_ble_eq_true rfl) rfl (by decide) rfl (Nat.le_of_ble_eq_true rfl) lf_X9_108 ?_
          refine am_iload g dX9_fitted_169 rfl ?_
          refine am_iconst g dX9_fitted_171 (am_il rfl) rfl ?_
          refine am_zastoreB (ix := Int.toNat v12) (nI := 6) g dX9_fitted_172 (Nat.le_of_ble_eq_true rfl) rfl rfl (Nat.zero_add _) (by decide) ?_
          refine am_gm (fun h14 => ?_)
          refine am_aload_n g dX9_fitted_173 rfl ?_
          refine am_getr (q := 36) (a := 31) g clX9 dX9_fitted_174 (Nat.le_of_ble_eq_true rfl) rfl (by decide) rfl (Nat.le_of_ble_eq_true rfl) lf_X9_102 ?_
          refine am_aload_n g dX9_fitted_177 rfl ?_
          refine am_iload_n g dX9_fitted_178 rfl ?_
          refine am_iconst g dX9_fitted_179 (am_il rfl) rfl ?_
          refine am_Vi (as := [.inl l3, .inl 0]) (S := [.inr (some 31)]) g (cX9_sideOfC l3 0 h14) mi_X9_sideOf lm_X9_173 clX9.1 (Nat.le_of_ble_eq_true rfl) rfl dX9_fitted_180 rfl (by decide) (Nat.le_of_ble_eq_true rfl) rfl (fun v15 h16 => ?_)
          refine am_iconst g dX9_fitted_183 (am_il rfl) rfl ?_
          refine am_zastoreB (ix := Int.toNat v15) (nI := 40) g dX9_fitted_184 (Nat.le_of_ble_eq_true rfl) rfl rfl (Nat.zero_add _) (by decide) ?_
          refine am_gm (fun h17 => ?_)
          refine am_aload_n g dX9_fitted_185 rfl ?_
          refine am_getr (q := 36) (a := 31) g clX9 dX9_fitted_186 (Nat.le_of_ble_eq_true rfl) rfl (by decide) rfl (Nat.le_of_ble_eq_true rfl) lf_X9_102 ?_
          refine am_aload_n g dX9_fitted_189 rfl ?_
          refine am_iload_n g dX9_fitted_190 rfl ?_
          refine am_iconst g dX9_fitted_191 (am_il rfl) rfl ?_
          refine am_Vi (as := [.inl l3, .inl 1]) (S := [.inr (some 31)]) g (cX9_sideOfC l3 1 h17) mi_X9_sideOf lm_X9_173 clX9.1 (Nat.le_of_ble_eq_true rfl) rfl dX9_fitted_192 rfl (by decide) (Nat.le_of_ble_eq_true rfl) rfl (fun v18 h19 => ?_)
          refine am_iconst g dX9_fitted_195 (am_il rfl) rfl ?_
          refine am_zastoreB (ix := Int.toNat v18) (nI := 40) g dX9_fitted_196 (Nat.le_of_ble_eq_true rfl) rfl rfl (Nat.zero_add _) (by decide) ?_
          refine am_gm (fun h20 => ?_)
          refine am_iload g dX9_fitted_197 rfl ?_
          refine am_iload_n g dX9_fitted_199 rfl ?_
          refine am_icmp_ne (tgt := 205) g dX9_fitted_200 (by decide) ?_ ?_
          · refine am_drop 3 ?_
            refine am_drop 4 ?_
            exact (jX9_fitted_205 g hK110) l1 h20
          · refine am_iload_n g dX9_fitted_203 rfl ?_
            exact am_ireturn g dX9_fitted_204
        · refine am_iconst g dX9_fitted_163 (am_il rfl) rfl ?_
          exact am_ireturn g dX9_fitted_164
      · refine am_goto (tgt := 205) g dX9_fitted_149 (by decide) ?_
        refine am_drop 3 ?_
        exact (jX9_fitted_205 g hK110) l1 h11
theorem jX9_fitted_110 {D : va_G} {a : Nat → ClassId} {ad : Nat → Nat} {G : am_G} (g : am_Gd (EM D a ad) RX9 cX9_fitted 5 (some .int) 44 G) : ∀ (l1 : Int), ∀ (l3 : Int), ∀ h : am_M, am_J (EM D a ad) G 5 am_ei 110 [some (.inr (some 0)), some (.inl l1), none, some (.inl l3), none] [] h (fX9_fitted_110 l1 l3 h) := by
  unfold fX9_fitted_110
  generalize 400 = n
  induction n with
  | zero => intro l1 l3 h; exact am_jn
  | succ n ih => exact jX9_fitted_110b g ih
def fX9_fitted_105 (l1 : Int) (h : am_M) : Option (Int × am_M) := am_b (fX9_nextMatch h) (fun v3 h4 => fX9_fitted_110 l1 v3 h4)
set_option maxRecDepth 10000 in
theorem jX9_fitted_105 {D : va_G} {a : Nat → ClassId} {ad : Nat → Nat} {G : am_G} (g : am_Gd (EM D a ad) RX9 cX9_fitted 5 (some .int) 44 G) : ∀ (l1 : Int), ∀ h : am_M, am_J (EM D a ad) G 5 am_ei 105 [some (.inr (some 0)), some (.inl l1), none, none, none] [] h (fX9_fitted_105 l1 h) := by
  intro l1 h
  unfold fX9_fitted_105
  refine am_aload_n g dX9_fitted_105 rfl ?_
  refine am_Vi (as := []) (S := []) g (cX9_nextMatchC h) mi_X9_nextMatch lm_X9_285 clX9.1 (Nat.le_of_ble_eq_true rfl) rfl dX9_fitted_106 rfl (by decide) (Nat.le_of_ble_eq_true rfl) rfl (fun v3 h4 => ?_)
  refine am_istore_n g dX9_fitted_109 (by decide) ?_
  exact (jX9_fitted_110 g) l1 v3 h4
def fX9_fitted_97 (K98 : Int → Int → Int → Int → am_M → Option (Int × am_M)) (l1 : Int) (l3 : Int) (s0 : Int) (h : am_M) : Option (Int × am_M) := K98 l1 l3 0 s0 h
set_option maxRecDepth 10000 in
theorem jX9_fitted_97 {D : va_G} {a : Nat → ClassId} {ad : Nat → Nat} {G : am_G} (g : am_Gd (EM D a ad) RX9 cX9_fitted 5 (some .int) 44 G) {K98 : Int → Int → Int → Int → am_M → Option (Int × am_M)} (hK98 : ∀ (l1 : Int), ∀ (l3 : Int), ∀ (s0 : Int), ∀ (s1 : Int), ∀ h : am_M, am_J (EM D a ad) G 5 am_ei 98 [some (.inr (some 0)), some (.inl l1), none, some (.inl l3), none] [.inl s0, .inl s1, .inr (some 33)] h (K98 l1 l3 s0 s1 h)) : ∀ (l1 : Int), ∀ (l3 : Int), ∀ (s0 : Int), ∀ h : am_M, am_J (EM D a ad) G 5 am_ei 97 [some (.inr (some 0)), some (.inl l1), none, some (.inl l3), none] [.inl s0, .inr (some 33)] h (fX9_fitted_97 K98 l1 l3 s0 h) := by
  intro l1 l3 s0 h
  unfold fX9_fitted_97
  refine am_iconst g dX9_fitted_97 (am_il rfl) rfl ?_
  exact hK98 l1 l3 0 s0 h
def fX9_fitted_98 (K66 : Int → Int → am_M → Option (Int × am_M)) (l1 : Int) (l3 : Int) (s0 : Int) (s1 : Int) (h : am_M) : Option (Int × am_M) := if s0 = 0 ∨ s0 = 1 then if 0 ≤ s1 ∧ s1 < 6 then am_l (am_up h 50 (Int.toNat s1) s0) (fun h21 => K66 l1 (am_w (l3 + 1)) h21) else none else none
set_option maxRecDepth 10000 in
theorem jX9_fitted_98 {D : va_G} {a : Nat → ClassId} {ad : Nat → Nat} {G : am_G} (g : am_Gd (EM D a ad) RX9 cX9_fitted 5 (some .int) 44 G) {K66 : Int → Int → am_M → Option (Int × am_M)} (hK66 : ∀ (l1 : Int), ∀ (l3 : Int), ∀ h : am_M, am_J (EM D a ad) G 5 am_ei 66 [some (.inr (some 0)), some (.inl l1), none, some (.inl l3), none] [] h (K66 l1 l3 h)) : ∀ (l1 : Int), ∀ (l3 : Int), ∀ (s0 : Int), ∀ (s1 : Int), ∀ h : am_M, am_J (EM D a ad) G 5 am_ei 98 [some (.inr (some 0)), some (.inl l1), none, some (.inl l3), none] [.inl s0, .inl s1, .inr (some 33)] h (fX9_fitted_98 K66 l1 l3 s0 s1 h) := by
  intro l1 l3 s0 s1 h
  unfold fX9_fitted_98
  refine am_zastore (ix := Int.toNat s1) (nI := 6) g dX9_fitted_98 (Nat.le_of_ble_eq_true rfl) rfl rfl (Nat.zero_add _) ?_
  refine am_gm (fun h21 => ?_)
  refine am_iinc g dX9_fitted_99 (by decide) rfl ?_
  refine am_goto (tgt := 66) g dX9_fitted_102 (by decide) ?_
  exact hK66 l1 (am_w (l3 + 1)) h21
def fX9_fitted_66b (K66 : Int → Int → am_M → Option (Int × am_M)) (l1 : Int) (l3 : Int) (h : am_M) : Option (Int × am_M) := if l3 < 6 then (if (h 19 0) = 0 then (fX9_fitted_97 (fX9_fitted_98 K66)) l1 l3 l3 h else if 0 ≤ l3 ∧ l3 < 6 then if (h 12 (Int.toNat l3)) = 0 then (fX9_fitted_98 K66) l1 l3 1 l3 h else (fX9_fitted_97 (fX9_fitted_98 K66)) l1 l3 l3 h else none) else fX9_fitted_105 l1 h
def fX9_fitted_66 : Int → Int → am_M → Option (Int × am_M) := am_it (fun _ _ _ => none) (fX9_fitted_66b) 400
set_option maxRecDepth 10000 in
theorem jX9_fitted_66b {D : va_G} {a : Nat → ClassId} {ad : Nat → Nat} {G : am_G} (g : am_Gd (EM D a ad) RX9 cX9_fitted 5 (some .int) 44 G) {K66 : Int → Int → am_M → Option (Int × am_M)} (hK66 : ∀ (l1 : Int), ∀ (l3 : Int), ∀ h : am_M, am_J (EM D a ad) G 5 am_ei 66 [some (.inr (some 0)), some (.inl l1), none, some (.inl l3), none] [] h (K66 l1 l3 h)) : ∀ (l1 : Int), ∀ (l3 : Int), ∀ h : am_M, am_J (EM D a ad) G 5 am_ei 66 [some (.inr (some 0)), some (.inl l1), none, some (.inl l3), none] [] h (fX9_fitted_66b K66 l1 l3 h) := by
  intro l1 l3 h
  unfold fX9_fitted_66b
  refine am_iload_n g dX9_fitted_66 rfl ?_
  refine am_bipush g dX9_fitted_67 (am_il rfl) (am_bi rfl) ?_
  refine am_icmp_ge (tgt := 105) g dX9_fitted_69 (by decide) ?_ ?_
  · refine am_drop 3 ?_
    exact (jX9_fitted_105 g) l1 h
  · refine am_aload_n g dX9_fitted_72 rfl ?_
    refine am_getr (q := 38) (a := 33) g clX9 dX9_fitted_73 (Nat.le_of_ble_eq_true rfl) rfl (by decide) rfl (Nat.le_of_ble_eq_true rfl) lf_X9_108 ?_
    refine am_iload_n g dX9_fitted_76 rfl ?_
    refine am_aload_n g dX9_fitted_77 rfl ?_
    refine am_geti (q := 22) (kd := 19) (ix := 0) g clX9 dX9_fitted_78 (Nat.le_of_ble_eq_true rfl) rfl (by decide) rfl lf_X9_240 ?_
    refine am_if_eq (tgt := 97) g dX9_fitted_81 (by decide) ?_ ?_
    · exact (jX9_fitted_97 g (jX9_fitted_98 g hK66)) l1 l3 l3 h
    · refine am_aload_n g dX9_fitted_84 rfl ?_
      refine am_getr (q := 15) (a := 16) g clX9 dX9_fitted_85 (Nat.le_of_ble_eq_true rfl) rfl (by decide) rfl (Nat.le_of_ble_eq_true rfl) lf_X9_57 ?_
      refine am_iload_n g dX9_fitted_88 rfl ?_
      refine am_zaload (ix := Int.toNat l3) (nI := 6) g dX9_fitted_89 (Nat.le_of_ble_eq_true rfl) rfl rfl (Nat.zero_add _) ?_
      refine am_if_ne (tgt := 97) g dX9_fitted_90 (by decide) ?_ ?_
      · exact (jX9_fitted_97 g (jX9_fitted_98 g hK66)) l1 l3 l3 h
      · refine am_iconst g dX9_fitted_93 (am_il rfl) rfl ?_
        refine am_goto (tgt := 98) g dX9_fitted_94 (by decide) ?_
        exact (jX9_fitted_98 g hK66) l1 l3 1 l3 h
theorem jX9_fitted_66 {D : va_G} {a : Nat → ClassId} {ad : Nat → Nat} {G : am_G} (g : am_Gd (EM D a ad) RX9 cX9_fitted 5 (some .int) 44 G) : ∀ (l1 : Int), ∀ (l3 : Int), ∀ h : am_M, am_J (EM D a ad) G 5 am_ei 66 [some (.inr (some 0)), some (.inl l1), none, some (.inl l3), none] [] h (fX9_fitted_66 l1 l3 h) := by
  unfold fX9_fitted_66
  generalize 400 = n
  induction n with
  | zero => intro l1 l3 h; exact am_jn
  | succ n ih => exact jX9_fitted_66b g ih
def fX9_fitted_64 (l1 : Int) (h : am_M) : Option (Int × am_M) := fX9_fitted_66 l1 0 h
set_option maxRecDepth 10000 in
theorem jX9_fitted_64 {D : va_G} {a : Nat → ClassId} {ad : Nat → Nat} {G : am_G} (g : am_Gd (EM D a ad) RX9 cX9_fitted 5 (some .int) 44 G) : ∀ (l1 : Int), ∀ h : am_M, am_J (EM D a ad) G 5 am_ei 64 [some (.inr (some 0)), some (.inl l1), none, none, none] [] h (fX9_fitted_64 l1 h) := by
  intro l1 h
  unfold fX9_fitted_64
  refine am_iconst g dX9_fitted_64 (am_il rfl) rfl ?_
  refine am_istore_n g dX9_fitted_65 (by decide) ?_
  exact (jX9_fitted_66 g) l1 0 h
def fX9_fitted_57 (K32 : Int → Int → Int → am_M → Option (Int × am_M)) (l1 : Int) (l2 : Int) (l3 : Int) (s0 : Int) (s1 : Int) (h : am_M) : Option (Int × am_M) := if s0 = 0 ∨ s0 = 1 then if 0 ≤ s1 ∧ s1 < 64 then am_l (am_up h 48 (Int.toNat s1) s0) (fun h24 => K32 l1 l2 (am_w (l3 + 1)) h24) else none else none
set_option maxRecDepth 10000 in
theorem jX9_fitted_57 {D : va_G} {a : Nat → ClassId} {ad : Nat → Nat} {G : am_G} (g : am_Gd (EM D a ad) RX9 cX9_fitted 5 (some .int) 44 G) {K32 : Int → Int → Int → am_M → Option (Int × am_M)} (hK32 : ∀ (l1 : Int), ∀ (l2 : Int), ∀ (l3 : Int), ∀ h : am_M, am_J (EM D a ad) G 5 am_ei 32 [some (.inr (some 0)), some (.inl l1), some (.inl l2), some (.inl l3), none] [] h (K32 l1 l2 l3 h)) : ∀ (l1 : Int), ∀ (l2 : Int), ∀ (l3 : Int), ∀ (s0 : Int), ∀ (s1 : Int), ∀ h : am_M, am_J (EM D a ad) G 5 am_ei 57 [some (.inr (some 0)), some (.inl l1), some (.inl l2), some (.inl l3), none] [.inl s0, .inl s1, .inr (some 32)] h (fX9_fitted_57 K32 l1 l2 l3 s0 s1 h) := by
  intro l1 l2 l3 s0 s1 h
  unfold fX9_fitted_57
  refine am_zastore (ix := Int.toNat s1) (nI := 64) g dX9_fitted_57 (Nat.le_of_ble_eq_true rfl) rfl rfl (Nat.zero_add _) ?_
  refine am_gm (fun h24 => ?_)
  refine am_iinc g dX9_fitted_58 (by decide) rfl ?_
  refine am_goto (tgt := 32) g dX9_fitted_61 (by decide) ?_
  exact hK32 l1 l2 (am_w (l3 + 1)) h24
def fX9_fitted_32b (K32 : Int → Int → Int → am_M → Option (Int × am_M)) (l1 : Int) (l2 : Int) (l3 : Int) (h : am_M) : Option (Int × am_M) := if l3 < 64 then (am_b (fX9_why l3 l2 h) (fun v22 h23 => if v22 = 0 then (fX9_fitted_57 K32) l1 l2 l3 0 l3 h23 else (fX9_fitted_57 K32) l1 l2 l3 1 l3 h23)) else fX9_fitted_64 l1 h
def fX9_fitted_32 : Int → Int → Int → am_M → Option (Int × am_M) := am_it (fun _ _ _ _ => none) (fX9_fitted_32b) 400
set_option maxRecDepth 10000 in
theorem jX9_fitted_32b {D : va_G} {a : Nat → ClassId} {ad : Nat → Nat} {G : am_G} (g : am_Gd (EM D a ad) RX9 cX9_fitted 5 (some .int) 44 G) {K32 : Int → Int → Int → am_M → Option (Int × am_M)} (hK32 : ∀ (l1 : Int), ∀ (l2 : Int), ∀ (l3 : Int), ∀ h : am_M, am_J (EM D a ad) G 5 am_ei 32 [some (.inr (some 0)), some (.inl l1), some (.inl l2), some (.inl l3), none] [] h (K32 l1 l2 l3 h)) : ∀ (l1 : Int), ∀ (l2 : Int), ∀ (l3 : Int), ∀ h : am_M, am_J (EM D a ad) G 5 am_ei 32 [some (.inr (some 0)), some (.inl l1), some (.inl l2), some (.inl l3), none] [] h (fX9_fitted_32b K32 l1 l2 l3 h) := by
  intro l1 l2 l3 h
  unfold fX9_fitted_32b
  refine am_iload_n g dX9_fitted_32 rfl ?_
  refine am_bipush g dX9_fitted_33 (am_il rfl) (am_bi rfl) ?_
  refine am_icmp_ge (tgt := 64) g dX9_fitted_35 (by decide) ?_ ?_
  · refine am_drop 2 ?_
    refine am_drop 3 ?_
    exact (jX9_fitted_64 g) l1 h
  · refine am_aload_n g dX9_fitted_38 rfl ?_
    refine am_getr (q := 37) (a := 32) g clX9 dX9_fitted_39 (Nat.le_of_ble_eq_true rfl) rfl (by decide) rfl (Nat.le_of_ble_eq_true rfl) lf_X9_105 ?_
    refine am_iload_n g dX9_fitted_42 rfl ?_
    refine am_aload_n g dX9_fitted_43 rfl ?_
    refine am_iload_n g dX9_fitted_44 rfl ?_
    refine am_iload_n g dX9_fitted_45 rfl ?_
    refine am_Vi (as := [.inl l3, .inl l2]) (S := [.inl l3, .inr (some 32)]) g (cX9_whyC l3 l2 h) mi_X9_why lm_X9_282 clX9.1 (Nat.le_of_ble_eq_true rfl) rfl dX9_fitted_46 rfl (by decide) (Nat.le_of_ble_eq_true rfl) rfl (fun v22 h23 => ?_)
    refine am_if_eq (tgt := 56) g dX9_fitted_49 (by decide) ?_ ?_
    · refine am_iconst g dX9_fitted_56 (am_il rfl) rfl ?_
      exact (jX9_fitted_57 g hK32) l1 l2 l3 0 l3 h23
    · refine am_iconst g dX9_fitted_52 (am_il rfl) rfl ?_
      refine am_goto (tgt := 57) g dX9_fitted_53 (by decide) ?_
      exact (jX9_fitted_57 g hK32) l1 l2 l3 1 l3 h23
theorem jX9_fitted_32 {D : va_G} {a : Nat → ClassId} {ad : Nat → Nat} {G : am_G} (g : am_Gd (EM D a ad) RX9 cX9_fitted 5 (some .int) 44 G) : ∀ (l1 : Int), ∀ (l2 : Int), ∀ (l3 : Int), ∀ h : am_M, am_J (EM D a ad) G 5 am_ei 32 [some (.inr (some 0)), some (.inl l1), some (.inl l2), some (.inl l3), none] [] h (fX9_fitted_32 l1 l2 l3 h) := by
  unfold fX9_fitted_32
  generalize 400 = n
  induction n with
  | zero => intro l1 l2 l3 h; exact am_jn
  | succ n ih => exact jX9_fitted_32b g ih
def fX9_fitted_30 (l1 : Int) (l2 : Int) (h : am_M) : Option (Int × am_M) := fX9_fitted_32 l1 l2 0 h
set_option maxRecDepth 10000 in
theorem jX9_fitted_30 {D : va_G} {a : Nat → ClassId} {ad : Nat → Nat} {G : am_G} (g : am_Gd (EM D a ad) RX9 cX9_fitted 5 (some .int) 44 G) : ∀ (l1 : Int), ∀ (l2 : Int), ∀ h : am_M, am_J (EM D a ad) G 5 am_ei 30 [some (.inr (some 0)), some (.inl l1), some (.inl l2), none, none] [] h (fX9_fitted_30 l1 l2 h) := by
  intro l1 l2 h
  unfold fX9_fitted_30
  refine am_iconst g dX9_fitted_30 (am_il rfl) rfl ?_
  refine am_istore_n g dX9_fitted_31 (by decide) ?_
  exact (jX9_fitted_32 g) l1 l2 0 h
def fX9_fitted_11b (K11 : Int → Int → Int → am_M → Option (Int × am_M)) (l1 : Int) (l2 : Int) (l3 : Int) (h : am_M) : Option (Int × am_M) := if l3 < 40 then (if 0 ≤ l3 ∧ l3 < 40 then am_l (am_up h 49 (Int.toNat l3) 0) (fun h25 => K11 l1 l2 (am_w (l3 + 1)) h25) else none) else fX9_fitted_30 l1 l2 h
def fX9_fitted_11 : Int → Int → Int → am_M → Option (Int × am_M) := am_it (fun _ _ _ _ => none) (fX9_fitted_11b) 400
set_option maxRecDepth 10000 in
theorem jX9_fitted_11b {D : va_G} {a : Nat → ClassId} {ad : Nat → Nat} {G : am_G} (g : am_Gd (EM D a ad) RX9 cX9_fitted 5 (some .int) 44 G) {K11 : Int → Int → Int → am_M → Option (Int × am_M)} (hK11 : ∀ (l1 : Int), ∀ (l2 : Int), ∀ (l3 : Int), ∀ h : am_M, am_J (EM D a ad) G 5 am_ei 11 [some (.inr (some 0)), some (.inl l1), some (.inl l2), some (.inl l3), none] [] h (K11 l1 l2 l3 h)) : ∀ (l1 : Int), ∀ (l2 : Int), ∀ (l3 : Int), ∀ h : am_M, am_J (EM D a ad) G 5 am_ei 11 [some (.inr (some 0)), some (.inl l1), some (.inl l2), some (.inl l3), none] [] h (fX9_fitted_11b K11 l1 l2 l3 h) := by
  intro l1 l2 l3 h
  unfold fX9_fitted_11b
  refine am_iload_n g dX9_fitted_11 rfl ?_
  refine am_bipush g dX9_fitted_12 (am_il rfl) (am_bi rfl) ?_
  refine am_icmp_ge (tgt := 30) g dX9_fitted_14 (by decide) ?_ ?_
  · refine am_drop 3 ?_
    exact (jX9_fitted_30 g) l1 l2 h
  · refine am_aload_n g dX9_fitted_17 rfl ?_
    refine am_getr (q := 36) (a := 31) g clX9 dX9_fitted_18 (Nat.le_of_ble_eq_true rfl) rfl (by decide) rfl (Nat.le_of_ble_eq_true rfl) lf_X9_102 ?_
    refine am_iload_n g dX9_fitted_21 rfl ?_
    refine am_iconst g dX9_fitted_22 (am_il rfl) rfl ?_
    refine am_zastoreB (ix := Int.toNat l3) (nI := 40) g dX9_fitted_23 (Nat.le_of_ble_eq_true rfl) rfl rfl (Nat.zero_add _) (by decide) ?_
    refine am_gm (fun h25 => ?_)
    refine am_iinc g dX9_fitted_24 (by decide) rfl ?_
    refine am_goto (tgt := 11) g dX9_fitted_27 (by decide) ?_
    exact hK11 l1 l2 (am_w (l3 + 1)) h25
theorem jX9_fitted_11 {D : va_G} {a : Nat → ClassId} {ad : Nat → Nat} {G : am_G} (g : am_Gd (EM D a ad) RX9 cX9_fitted 5 (some .int) 44 G) : ∀ (l1 : Int), ∀ (l2 : Int), ∀ (l3 : Int), ∀ h : am_M, am_J (EM D a ad) G 5 am_ei 11 [some (.inr (some 0)), some (.inl l1), some (.inl l2), some (.inl l3), none] [] h (fX9_fitted_11 l1 l2 l3 h) := by
  unfold fX9_fitted_11
  generalize 400 = n
  induction n with
  | zero => intro l1 l2 l3 h; exact am_jn
  | succ n ih => exact jX9_fitted_11b g ih
def fX9_fitted (a1 : Int) (a2 : Int) (h : am_M) : Option (Int × am_M) := am_b (fX9_isCourt a1 h) (fun v1 h2 => if v1 = 0 then some ((-1), h2) else fX9_fitted_11 a1 a2 0 h2)
set_option maxRecDepth 10000 in
theorem cX9_fittedC {D : va_G} {a : Nat → ClassId} {ad : Nat → Nat} (a1 : Int) (a2 : Int) (h : am_M) : am_C (EM D a ad) yX9_fitted cX9_fitted 5 (some .int) 44 [.inr (some 0), .inl a1, .inl a2] h am_ei (fX9_fitted a1 a2 h) := by
  refine am_ofJ (L := [some (.inr (some 0)), some (.inl a1), some (.inl a2), none, none]) (by decide) rfl (Nat.le_of_ble_eq_true rfl) (fun G g => ?_)
  have g : am_Gd (EM D a ad) RX9 cX9_fitted 5 (some .int) 44 G := g
  unfold fX9_fitted
  refine am_iload_n g dX9_fitted_0 rfl ?_
  refine am_Si (as := [.inl a1]) (S := []) g (cX9_isCourtC a1 h) mi_X9_isCourt lm_X9_234 dX9_fitted_1 rfl (by decide) (Nat.le_of_ble_eq_true rfl) rfl (fun v1 h2 => ?_)
  refine am_if_ne (tgt := 9) g dX9_fitted_4 (by decide) ?_ ?_
  · refine am_iconst g dX9_fitted_9 (am_il rfl) rfl ?_
    refine am_istore_n g dX9_fitted_10 (by decide) ?_
    exact (jX9_fitted_11 g) a1 a2 0 h2
  · refine am_iconst g dX9_fitted_7 (am_il rfl) rfl ?_
    exact am_ireturn g dX9_fitted_8
