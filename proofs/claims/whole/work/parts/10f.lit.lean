def fX8_stands (a1 : Int) (h : am_M) : Option (Int × am_M) := am_b (fX0_laidWith a1 h) (fun v1 h2 => am_on v1 10 4 (some ((-1), h2)) (fun d3 => am_b (fX8_numberOf a1 h2) (fun v4 h5 => if 0 ≤ v4 ∧ v4 < 16 then if (h5 20 (16 * d3 + Int.toNat v4)) = 0 then (am_b (fX2_isKnown d3 v4 h5) (fun v6 h7 => if v6 = 0 then some (0, h7) else if 0 ≤ v4 ∧ v4 < 16 then if (h7 9 (16 * d3 + Int.toNat v4)) = 0 then some (1, h7) else some (2, h7) else none)) else if 0 ≤ v4 ∧ v4 < 16 then some (h5 20 (16 * d3 + Int.toNat v4), h5) else none else none)))
set_option maxRecDepth 10000 in
theorem cX8_standsC {D : va_G} {a : Nat → ClassId} {ad : Nat → Nat} (a1 : Int) (h : am_M) : am_C (EX D a ad) yX8_stands cX8_stands 4 (some .int) 4 [.inr (some 0), .inl a1] h am_ei (fX8_stands a1 h) := by
  refine am_ofJ (L := [some (.inr (some 0)), some (.inl a1), none, none]) (by decide) rfl (Nat.le_of_ble_eq_true rfl) (fun G g => ?_)
  have g : am_Gd (EX D a ad) RX8 cX8_stands 4 (some .int) 4 G := g
  unfold fX8_stands
  refine am_aload_n g dX8_stands_0 rfl ?_
  refine am_getr (q := 0) (a := 1) g clX8 dX8_stands_1 (Nat.le_of_ble_eq_true rfl) rfl (by decide) rfl (Nat.le_of_ble_eq_true rfl) lf_X8_10 ?_
  refine am_iload_n g dX8_stands_4 rfl ?_
  refine am_Vr (as := [.inl a1]) (S := []) g (cX0_laidWithC a1 h) mi_X0_laidWith lm_X8_129 clX0.1 (Nat.le_of_ble_eq_true rfl) rfl dX8_stands_5 rfl (by decide) (Nat.le_of_ble_eq_true rfl) rfl (fun v1 h2 => ?_)
  refine am_astore_n g dX8_stands_8 (by decide) ?_
  refine am_aload_n g dX8_stands_9 rfl ?_
  refine am_iononnull (b := 10) (n := 4) (Lf := fun r_ => [some (.inr (some 0)), some (.inl a1), some (.inr r_), none]) (tgt := 15) g dX8_stands_10 (by decide) (fun d3 hd3 => ?_) ?_
  · refine am_iload_n g dX8_stands_15 rfl ?_
    refine am_Si (as := [.inl a1]) (S := []) g (cX8_numberOfC a1 h2) mi_X8_numberOf lm_X8_135 dX8_stands_16 rfl (by decide) (Nat.le_of_ble_eq_true rfl) rfl (fun v4 h5 => ?_)
    refine am_istore_n g dX8_stands_19 (by decide) ?_
    refine am_aload_n g dX8_stands_20 rfl ?_
    refine am_getr (q := 3) (a := 26 + d3) g clX2 dX8_stands_21 (Nat.lt_of_lt_of_le (Nat.add_lt_add_left hd3 10) (Nat.le_of_ble_eq_true rfl)) (sh_X2 d3 hd3) (by decide) rfl (Nat.lt_of_lt_of_le (Nat.add_lt_add_left hd3 26) (Nat.le_of_ble_eq_true rfl)) lf_X8_162 ?_
    refine am_iload_n g dX8_stands_24 rfl ?_
    refine am_iaload (ix := 16 * d3 + Int.toNat v4) (nI := 16) g dX8_stands_25 (Nat.lt_of_lt_of_le (Nat.add_lt_add_left hd3 26) (Nat.le_of_ble_eq_true rfl)) (sh_X2_hows d3 hd3) rfl rfl ?_
    refine am_if_eq (tgt := 36) g dX8_stands_26 (by decide) ?_ ?_
    · refine am_aload_n g dX8_stands_36 rfl ?_
      refine am_iload_n g dX8_stands_37 rfl ?_
      refine am_Vi (as := [.inl v4]) (S := []) g (cX2_isKnownC d3 hd3 v4 h5) mi_X2_isKnown lm_X8_188 clX2.1 (Nat.lt_of_lt_of_le (Nat.add_lt_add_left hd3 10) (Nat.le_of_ble_eq_true rfl)) (sh_X2 d3 hd3) dX8_stands_38 rfl (by decide) (Nat.le_of_ble_eq_true rfl) rfl (fun v6 h7 => ?_)
      refine am_if_ne (tgt := 46) g dX8_stands_41 (by decide) ?_ ?_
      · refine am_aload_n g dX8_stands_46 rfl ?_
        refine am_getr (q := 6) (a := 38 + d3) g clX2 dX8_stands_47 (Nat.lt_of_lt_of_le (Nat.add_lt_add_left hd3 10) (Nat.le_of_ble_eq_true rfl)) (sh_X2 d3 hd3) (by decide) rfl (Nat.lt_of_lt_of_le (Nat.add_lt_add_left hd3 38) (Nat.le_of_ble_eq_true rfl)) lf_X8_145 ?_
        refine am_iload_n g dX8_stands_50 rfl ?_
        refine am_iaload (ix := 16 * d3 + Int.toNat v4) (nI := 16) g dX8_stands_51 (Nat.lt_of_lt_of_le (Nat.add_lt_add_left hd3 38) (Nat.le_of_ble_eq_true rfl)) (sh_X2_points d3 hd3) rfl rfl ?_
        refine am_if_ne (tgt := 59) g dX8_stands_52 (by decide) ?_ ?_
        · refine am_iconst g dX8_stands_59 (am_il rfl) rfl ?_
          exact am_ireturn g dX8_stands_60
        · refine am_iconst g dX8_stands_55 (am_il rfl) rfl ?_
          refine am_goto (tgt := 60) g dX8_stands_56 (by decide) ?_
          exact am_ireturn g dX8_stands_60
      · refine am_iconst g dX8_stands_44 (am_il rfl) rfl ?_
        exact am_ireturn g dX8_stands_45
    · refine am_aload_n g dX8_stands_29 rfl ?_
      refine am_getr (q := 3) (a := 26 + d3) g clX2 dX8_stands_30 (Nat.lt_of_lt_of_le (Nat.add_lt_add_left hd3 10) (Nat.le_of_ble_eq_true rfl)) (sh_X2 d3 hd3) (by decide) rfl (Nat.lt_of_lt_of_le (Nat.add_lt_add_left hd3 26) (Nat.le_of_ble_eq_true rfl)) lf_X8_162 ?_
      refine am_iload_n g dX8_stands_33 rfl ?_
      refine am_iaload (ix := 16 * d3 + Int.toNat v4) (nI := 16) g dX8_stands_34 (Nat.lt_of_lt_of_le (Nat.add_lt_add_left hd3 26) (Nat.le_of_ble_eq_true rfl)) (sh_X2_hows d3 hd3) rfl rfl ?_
      exact am_ireturn g dX8_stands_35
  · refine am_iconst g dX8_stands_13 (am_il rfl) rfl ?_
    exact am_ireturn g dX8_stands_14
def fX8_winner (a1 : Int) (h : am_M) : Option (Int × am_M) := am_b (fX0_laidWith a1 h) (fun v1 h2 => am_on v1 10 4 (some ((-1), h2)) (fun d3 => am_b (fX8_numberOf a1 h2) (fun v4 h5 => if 0 ≤ v4 ∧ v4 < 16 then if (h5 20 (16 * d3 + Int.toNat v4)) = 0 then some ((-1), h5) else am_b (fX8_numberOf a1 h5) (fun v6 h7 => if 0 ≤ v6 ∧ v6 < 16 then some (h7 21 (16 * d3 + Int.toNat v6), h7) else none) else none)))
set_option maxRecDepth 10000 in
theorem cX8_winnerC {D : va_G} {a : Nat → ClassId} {ad : Nat → Nat} (a1 : Int) (h : am_M) : am_C (EX D a ad) yX8_winner cX8_winner 3 (some .int) 3 [.inr (some 0), .inl a1] h am_ei (fX8_winner a1 h) := by
  refine am_ofJ (L := [some (.inr (some 0)), some (.inl a1), none]) (by decide) rfl (Nat.le_of_ble_eq_true rfl) (fun G g => ?_)
  have g : am_Gd (EX D a ad) RX8 cX8_winner 3 (some .int) 3 G := g
  unfold fX8_winner
  refine am_aload_n g dX8_winner_0 rfl ?_
  refine am_getr (q := 0) (a := 1) g clX8 dX8_winner_1 (Nat.le_of_ble_eq_true rfl) rfl (by decide) rfl (Nat.le_of_ble_eq_true rfl) lf_X8_10 ?_
  refine am_iload_n g dX8_winner_4 rfl ?_
  refine am_Vr (as := [.inl a1]) (S := []) g (cX0_laidWithC a1 h) mi_X0_laidWith lm_X8_129 clX0.1 (Nat.le_of_ble_eq_true rfl) rfl dX8_winner_5 rfl (by decide) (Nat.le_of_ble_eq_true rfl) rfl (fun v1 h2 => ?_)
  refine am_astore_n g dX8_winner_8 (by decide) ?_
  refine am_aload_n g dX8_winner_9 rfl ?_
  refine am_ionull (b := 10) (n := 4) (Lf := fun r_ => [some (.inr (some 0)), some (.inl a1), some (.inr r_)]) (tgt := 25) g dX8_winner_10 (by decide) ?_ (fun d3 hd3 => ?_)
  · refine am_iconst g dX8_winner_25 (am_il rfl) rfl ?_
    exact am_ireturn g dX8_winner_26
  · refine am_aload_n g dX8_winner_13 rfl ?_
    refine am_getr (q := 3) (a := 26 + d3) g clX2 dX8_winner_14 (Nat.lt_of_lt_of_le (Nat.add_lt_add_left hd3 10) (Nat.le_of_ble_eq_true rfl)) (sh_X2 d3 hd3) (by decide) rfl (Nat.lt_of_lt_of_le (Nat.add_lt_add_left hd3 26) (Nat.le_of_ble_eq_true rfl)) lf_X8_162 ?_
    refine am_iload_n g dX8_winner_17 rfl ?_
    refine am_Si (as := [.inl a1]) (S := [.inr (some (26 + d3))]) g (cX8_numberOfC a1 h2) mi_X8_numberOf lm_X8_135 dX8_winner_18 rfl (by decide) (Nat.le_of_ble_eq_true rfl) rfl (fun v4 h5 => ?_)
    refine am_iaload (ix := 16 * d3 + Int.toNat v4) (nI := 16) g dX8_winner_21 (Nat.lt_of_lt_of_le (Nat.add_lt_add_left hd3 26) (Nat.le_of_ble_eq_true rfl)) (sh_X2_hows d3 hd3) rfl rfl ?_
    refine am_if_ne (tgt := 27) g dX8_winner_22 (by decide) ?_ ?_
    · refine am_aload_n g dX8_winner_27 rfl ?_
      refine am_getr (q := 4) (a := 30 + d3) g clX2 dX8_winner_28 (Nat.lt_of_lt_of_le (Nat.add_lt_add_left hd3 10) (Nat.le_of_ble_eq_true rfl)) (sh_X2 d3 hd3) (by decide) rfl (Nat.lt_of_lt_of_le (Nat.add_lt_add_left hd3 30) (Nat.le_of_ble_eq_true rfl)) lf_X8_191 ?_
      refine am_iload_n g dX8_winner_31 rfl ?_
      refine am_Si (as := [.inl a1]) (S := [.inr (some (30 + d3))]) g (cX8_numberOfC a1 h5) mi_X8_numberOf lm_X8_135 dX8_winner_32 rfl (by decide) (Nat.le_of_ble_eq_true rfl) rfl (fun v6 h7 => ?_)
      refine am_iaload (ix := 16 * d3 + Int.toNat v6) (nI := 16) g dX8_winner_35 (Nat.lt_of_lt_of_le (Nat.add_lt_add_left hd3 30) (Nat.le_of_ble_eq_true rfl)) (sh_X2_winners d3 hd3) rfl rfl ?_
      exact am_ireturn g dX8_winner_36
    · refine am_iconst g dX8_winner_25 (am_il rfl) rfl ?_
      exact am_ireturn g dX8_winner_26
def fX8_met (a1 : Int) (a2 : Int) (a3 : Int) (h : am_M) : Option (Int × am_M) := am_b (fX0_findDraw a1 h) (fun v1 h2 => am_on v1 10 4 (some ((-1), h2)) (fun d3 => am_b (fX8_isPlayer a2 h2) (fun v4 h5 => if v4 = 0 then some ((-1), h5) else if a3 < 0 then some ((-1), h5) else am_b (fX2_opponent d3 a2 a3 h5) (fun v6 h7 => some (v6, h7)))))
set_option maxRecDepth 10000 in
theorem cX8_metC {D : va_G} {a : Nat → ClassId} {ad : Nat → Nat} (a1 : Int) (a2 : Int) (a3 : Int) (h : am_M) : am_C (EX D a ad) yX8_met cX8_met 5 (some .int) 5 [.inr (some 0), .inl a1, .inl a2, .inl a3] h am_ei (fX8_met a1 a2 a3 h) := by
  refine am_ofJ (L := [some (.inr (some 0)), some (.inl a1), some (.inl a2), some (.inl a3), none]) (by decide) rfl (Nat.le_of_ble_eq_true rfl) (fun G g => ?_)
  have g : am_Gd (EX D a ad) RX8 cX8_met 5 (some .int) 5 G := g
  unfold fX8_met
  refine am_aload_n g dX8_met_0 rfl ?_
  refine am_getr (q := 0) (a := 1) g clX8 dX8_met_1 (Nat.le_of_ble_eq_true rfl) rfl (by decide) rfl (Nat.le_of_ble_eq_true rfl) lf_X8_10 ?_
  refine am_iload_n g dX8_met_4 rfl ?_
  refine am_Vr (as := [.inl a1]) (S := []) g (cX0_findDrawC a1 h) mi_X0_findDraw lm_X8_75 clX0.1 (Nat.le_of_ble_eq_true rfl) rfl dX8_met_5 rfl (by decide) (Nat.le_of_ble_eq_true rfl) rfl (fun v1 h2 => ?_)
  refine am_astore g dX8_met_8 (by decide) ?_
  refine am_aload g dX8_met_10 rfl ?_
  refine am_ionull (b := 10) (n := 4) (Lf := fun r_ => [some (.inr (some 0)), some (.inl a1), some (.inl a2), some (.inl a3), some (.inr r_)]) (tgt := 26) g dX8_met_12 (by decide) ?_ (fun d3 hd3 => ?_)
  · refine am_iconst g dX8_met_26 (am_il rfl) rfl ?_
    exact am_ireturn g dX8_met_27
  · refine am_iload_n g dX8_met_15 rfl ?_
    refine am_Si (as := [.inl a2]) (S := []) g (cX8_isPlayerC a2 h2) mi_X8_isPlayer lm_X8_51 dX8_met_16 rfl (by decide) (Nat.le_of_ble_eq_true rfl) rfl (fun v4 h5 => ?_)
    refine am_if_eq (tgt := 26) g dX8_met_19 (by decide) ?_ ?_
    · refine am_iconst g dX8_met_26 (am_il rfl) rfl ?_
      exact am_ireturn g dX8_met_27
    · refine am_iload_n g dX8_met_22 rfl ?_
      refine am_if_ge (tgt := 28) g dX8_met_23 (by decide) ?_ ?_
      · refine am_aload g dX8_met_28 rfl ?_
        refine am_iload_n g dX8_met_30 rfl ?_
        refine am_iload_n g dX8_met_31 rfl ?_
        refine am_Vi (as := [.inl a2, .inl a3]) (S := []) g (cX2_opponentC d3 hd3 a2 a3 h5) mi_X2_opponent lm_X8_194 clX2.1 (Nat.lt_of_lt_of_le (Nat.add_lt_add_left hd3 10) (Nat.le_of_ble_eq_true rfl)) (sh_X2 d3 hd3) dX8_met_32 rfl (by decide) (Nat.le_of_ble_eq_true rfl) rfl (fun v6 h7 => ?_)
        exact am_ireturn g dX8_met_35
      · refine am_iconst g dX8_met_26 (am_il rfl) rfl ?_
        exact am_ireturn g dX8_met_27
def fX8_meeting (a1 : Int) (a2 : Int) (a3 : Int) (h : am_M) : Option (Int × am_M) := am_b (fX0_findDraw a1 h) (fun v1 h2 => am_on v1 10 4 (some ((-1), h2)) (fun d3 => am_b (fX8_isPlayer a2 h2) (fun v4 h5 => if v4 = 0 then some ((-1), h5) else am_b (fX8_isPlayer a3 h5) (fun v6 h7 => if v6 = 0 then some ((-1), h7) else if a2 = a3 then some ((-1), h7) else am_b (fX2_placeOf d3 a2 h7) (fun v8 h9 => am_b (fX2_placeOf d3 a3 h9) (fun v10 h11 => if v8 < 0 then some ((-1), h11) else if v10 < 0 then some ((-1), h11) else am_b (fX2_commonRound d3 v8 v10 h11) (fun v12 h13 => am_b (fX2_isOutAhead d3 a2 v12 h13) (fun v14 h15 => if v14 = 0 then (am_b (fX2_isOutAhead d3 a3 v12 h15) (fun v16 h17 => if v16 = 0 then some (v12, h17) else some ((-1), h17))) else some ((-1), h15)))))))))
set_option maxRecDepth 10000 in
theorem cX8_meetingC {D : va_G} {a : Nat → ClassId} {ad : Nat → Nat} (a1 : Int) (a2 : Int) (a3 : Int) (h : am_M) : am_C (EX D a ad) yX8_meeting cX8_meeting 8 (some .int) 4 [.inr (some 0), .inl a1, .inl a2, .inl a3] h am_ei (fX8_meeting a1 a2 a3 h) := by
  refine am_ofJ (L := [some (.inr (some 0)), some (.inl a1), some (.inl a2), some (.inl a3), none, none, none, none]) (by decide) rfl (Nat.le_of_ble_eq_true rfl) (fun G g => ?_)
  have g : am_Gd (EX D a ad) RX8 cX8_meeting 8 (some .int) 4 G := g
  unfold fX8_meeting
  refine am_aload_n g dX8_meeting_0 rfl ?_
  refine am_getr (q := 0) (a := 1) g clX8 dX8_meeting_1 (Nat.le_of_ble_eq_true rfl) rfl (by decide) rfl (Nat.le_of_ble_eq_true rfl) lf_X8_10 ?_
  refine am_iload_n g dX8_meeting_4 rfl ?_
  refine am_Vr (as := [.inl a1]) (S := []) g (cX0_findDrawC a1 h) mi_X0_findDraw lm_X8_75 clX0.1 (Nat.le_of_ble_eq_true rfl) rfl dX8_meeting_5 rfl (by decide) (Nat.le_of_ble_eq_true rfl) rfl (fun v1 h2 => ?_)
  refine am_astore g dX8_meeting_8 (by decide) ?_
  refine am_aload g dX8_meeting_10 rfl ?_
  refine am_ionull (b := 10) (n := 4) (Lf := fun r_ => [some (.inr (some 0)), some (.inl a1), some (.inl a2), some (.inl a3), some (.inr r_), none, none, none]) (tgt := 34) g dX8_meeting_12 (by decide) ?_ (fun d3 hd3 => ?_)
  · refine am_iconst g dX8_meeting_34 (am_il rfl) rfl ?_
    exact am_ireturn g dX8_meeting_35
  · refine am_iload_n g dX8_meeting_15 rfl ?_
    refine am_Si (as := [.inl a2]) (S := []) g (cX8_isPlayerC a2 h2) mi_X8_isPlayer lm_X8_51 dX8_meeting_16 rfl (by decide) (Nat.le_of_ble_eq_true rfl) rfl (fun v4 h5 => ?_)
    refine am_if_eq (tgt := 34) g dX8_meeting_19 (by decide) ?_ ?_
    · refine am_iconst g dX8_meeting_34 (am_il rfl) rfl ?_
      exact am_ireturn g dX8_meeting_35
    · refine am_iload_n g dX8_meeting_22 rfl ?_
      refine am_Si (as := [.inl a3]) (S := []) g (cX8_isPlayerC a3 h5) mi_X8_isPlayer lm_X8_51 dX8_meeting_23 rfl (by decide) (Nat.le_of_ble_eq_true rfl) rfl (fun v6 h7 => ?_)
      refine am_if_eq (tgt := 34) g dX8_meeting_26 (by decide) ?_ ?_
      · refine am_iconst g dX8_meeting_34 (am_il rfl) rfl ?_
        exact am_ireturn g dX8_meeting_35
      · refine am_iload_n g dX8_meeting_29 rfl ?_
        refine am_iload_n g dX8_meeting_30 rfl ?_
        refine am_icmp_ne (tgt := 36) g dX8_meeting_31 (by decide) ?_ ?_
        · refine am_aload g dX8_meeting_36 rfl ?_
          refine am_iload_n g dX8_meeting_38 rfl ?_
          refine am_Vi (as := [.inl a2]) (S := []) g (cX2_placeOfC d3 hd3 a2 h7) mi_X2_placeOf lm_X8_122 clX2.1 (Nat.lt_of_lt_of_le (Nat.add_lt_add_left hd3 10) (Nat.le_of_ble_eq_true rfl)) (sh_X2 d3 hd3) dX8_meeting_39 rfl (by decide) (Nat.le_of_ble_eq_true rfl) rfl (fun v8 h9 => ?_)
          refine am_istore g dX8_meeting_42 (by decide) ?_
          refine am_aload g dX8_meeting_44 rfl ?_
          refine am_iload_n g dX8_meeting_46 rfl ?_
          refine am_Vi (as := [.inl a3]) (S := []) g (cX2_placeOfC d3 hd3 a3 h9) mi_X2_placeOf lm_X8_122 clX2.1 (Nat.lt_of_lt_of_le (Nat.add_lt_add_left hd3 10) (Nat.le_of_ble_eq_true rfl)) (sh_X2 d3 hd3) dX8_meeting_47 rfl (by decide) (Nat.le_of_ble_eq_true rfl) rfl (fun v10 h11 => ?_)
          refine am_istore g dX8_meeting_50 (by decide) ?_
          refine am_iload g dX8_meeting_52 rfl ?_
          refine am_if_lt (tgt := 62) g dX8_meeting_54 (by decide) ?_ ?_
          · refine am_iconst g dX8_meeting_62 (am_il rfl) rfl ?_
            exact am_ireturn g dX8_meeting_63
          · refine am_iload g dX8_meeting_57 rfl ?_
            refine am_if_ge (tgt := 64) g dX8_meeting_59 (by decide) ?_ ?_
            · refine am_aload g dX8_meeting_64 rfl ?_
              refine am_iload g dX8_meeting_66 rfl ?_
              refine am_iload g dX8_meeting_68 rfl ?_
              refine am_Vi (as := [.inl v8, .inl v10]) (S := []) g (cX2_commonRoundC d3 hd3 v8 v10 h11) mi_X2_commonRound lm_X8_197 clX2.1 (Nat.lt_of_lt_of_le (Nat.add_lt_add_left hd3 10) (Nat.le_of_ble_eq_true rfl)) (sh_X2 d3 hd3) dX8_meeting_70 rfl (by decide) (Nat.le_of_ble_eq_true rfl) rfl (fun v12 h13 => ?_)
              refine am_istore g dX8_meeting_73 (by decide) ?_
              refine am_aload g dX8_meeting_75 rfl ?_
              refine am_iload_n g dX8_meeting_77 rfl ?_
              refine am_iload g dX8_meeting_78 rfl ?_
              refine am_Vi (as := [.inl a2, .inl v12]) (S := []) g (cX2_isOutAheadC d3 hd3 a2 v12 h13) mi_X2_isOutAhead lm_X8_200 clX2.1 (Nat.lt_of_lt_of_le (Nat.add_lt_add_left hd3 10) (Nat.le_of_ble_eq_true rfl)) (sh_X2 d3 hd3) dX8_meeting_80 rfl (by decide) (Nat.le_of_ble_eq_true rfl) rfl (fun v14 h15 => ?_)
              refine am_if_ne (tgt := 97) g dX8_meeting_83 (by decide) ?_ ?_
              · refine am_iconst g dX8_meeting_97 (am_il rfl) rfl ?_
                exact am_ireturn g dX8_meeting_98
              · refine am_aload g dX8_meeting_86 rfl ?_
                refine am_iload_n g dX8_meeting_88 rfl ?_
                refine am_iload g dX8_meeting_89 rfl ?_
                refine am_Vi (as := [.inl a3, .inl v12]) (S := []) g (cX2_isOutAheadC d3 hd3 a3 v12 h15) mi_X2_isOutAhead lm_X8_200 clX2.1 (Nat.lt_of_lt_of_le (Nat.add_lt_add_left hd3 10) (Nat.le_of_ble_eq_true rfl)) (sh_X2 d3 hd3) dX8_meeting_91 rfl (by decide) (Nat.le_of_ble_eq_true rfl) rfl (fun v16 h17 => ?_)
                refine am_if_eq (tgt := 99) g dX8_meeting_94 (by decide) ?_ ?_
                · refine am_iload g dX8_meeting_99 rfl ?_
                  exact am_ireturn g dX8_meeting_101
                · refine am_iconst g dX8_meeting_97 (am_il rfl) rfl ?_
                  exact am_ireturn g dX8_meeting_98
            · refine am_iconst g dX8_meeting_62 (am_il rfl) rfl ?_
              exact am_ireturn g dX8_meeting_63
        · refine am_iconst g dX8_meeting_34 (am_il rfl) rfl ?_
          exact am_ireturn g dX8_meeting_35
def fX8_isMinute (a1 : Int) (h : am_M) : Option (Int × am_M) := if a1 < 0 then some (0, h) else if a1 ≤ 100000 then some (1, h) else some (0, h)
set_option maxRecDepth 10000 in
theorem cX8_isMinuteC {D : va_G} {a : Nat → ClassId} {ad : Nat → Nat} (a1 : Int) (h : am_M) : am_C (EX D a ad) yX8_isMinute cX8_isMinute 1 (some .boolean) 1 [.inl a1] h am_ei (fX8_isMinute a1 h) := by
  refine am_ofJ (L := [some (.inl a1)]) (by decide) rfl (Nat.le_of_ble_eq_true rfl) (fun G g => ?_)
  have g : am_Gd (EX D a ad) RX8 cX8_isMinute 1 (some .boolean) 1 G := g
  unfold fX8_isMinute
  refine am_iload_n g dX8_isMinute_0 rfl ?_
  refine am_if_lt (tgt := 14) g dX8_isMinute_1 (by decide) ?_ ?_
  · refine am_iconst g dX8_isMinute_14 (am_il rfl) rfl ?_
    exact am_zreturn g dX8_isMinute_15 (by decide)
  · refine am_iload_n g dX8_isMinute_4 rfl ?_
    refine am_ldc (n := 100000) g dX8_isMinute_5 (am_il rfl) lc_X8_225 rfl ?_
    refine am_icmp_gt (tgt := 14) g dX8_isMinute_7 (by decide) ?_ ?_
    · refine am_iconst g dX8_isMinute_14 (am_il rfl) rfl ?_
      exact am_zreturn g dX8_isMinute_15 (by decide)
    · refine am_iconst g dX8_isMinute_10 (am_il rfl) rfl ?_
      refine am_goto (tgt := 15) g dX8_isMinute_11 (by decide) ?_
      exact am_zreturn g dX8_isMinute_15 (by decide)
def fX8_court (a1 : Int) (a2 : Int) (a3 : Int) (a4 : Int) (a5 : Int) (h : am_M) : Option (Int × am_M) := am_b (fX0_findCourt a1 h) (fun v1 h2 => am_on v1 46 6 (some ((-1), h2)) (fun d3 => if a4 < 0 then some ((-1), h2) else if a4 ≤ 99 then (am_b (fX8_isMinute a5 h2) (fun v4 h5 => if v4 = 0 then some ((-1), h5) else if a2 = 0 ∨ a2 = 1 then am_l (am_up h5 12 d3 a2) (fun h6 => if a3 = 0 ∨ a3 = 1 then am_l (am_up h6 13 d3 a3) (fun h7 => am_l (am_up h7 14 d3 a4) (fun h8 => am_l (am_up h8 15 d3 a5) (fun h9 => some (1, h9)))) else none) else none)) else some ((-1), h2)))
set_option maxRecDepth 10000 in
theorem cX8_courtC {D : va_G} {a : Nat → ClassId} {ad : Nat → Nat} (a1 : Int) (a2 : Int) (a3 : Int) (a4 : Int) (a5 : Int) (h : am_M) : am_C (EX D a ad) yX8_court cX8_court 7 (some .int) 2 [.inr (some 0), .inl a1, .inl a2, .inl a3, .inl a4, .inl a5] h am_ei (fX8_court a1 a2 a3 a4 a5 h) := by
  refine am_ofJ (L := [some (.inr (some 0)), some (.inl a1), some (.inl a2), some (.inl a3), some (.inl a4), some (.inl a5), none]) (by decide) rfl (Nat.le_of_ble_eq_true rfl) (fun G g => ?_)
  have g : am_Gd (EX D a ad) RX8 cX8_court 7 (some .int) 2 G := g
  unfold fX8_court
  refine am_aload_n g dX8_court_0 rfl ?_
  refine am_getr (q := 0) (a := 1) g clX8 dX8_court_1 (Nat.le_of_ble_eq_true rfl) rfl (by decide) rfl (Nat.le_of_ble_eq_true rfl) lf_X8_10 ?_
  refine am_iload_n g dX8_court_4 rfl ?_
  refine am_Vr (as := [.inl a1]) (S := []) g (cX0_findCourtC a1 h) mi_X0_findCourt lm_X8_204 clX0.1 (Nat.le_of_ble_eq_true rfl) rfl dX8_court_5 rfl (by decide) (Nat.le_of_ble_eq_true rfl) rfl (fun v1 h2 => ?_)
  refine am_astore g dX8_court_8 (by decide) ?_
  refine am_aload g dX8_court_10 rfl ?_
  refine am_ionull (b := 46) (n := 6) (Lf := fun r_ => [some (.inr (some 0)), some (.inl a1), some (.inl a2), some (.inl a3), some (.inl a4), some (.inl a5), some (.inr r_)]) (tgt := 35) g dX8_court_12 (by decide) ?_ (fun d3 hd3 => ?_)
  · refine am_iconst g dX8_court_35 (am_il rfl) rfl ?_
    exact am_ireturn g dX8_court_36
  · refine am_iload g dX8_court_15 rfl ?_
    refine am_if_lt (tgt := 35) g dX8_court_17 (by decide) ?_ ?_
    · refine am_iconst g dX8_court_35 (am_il rfl) rfl ?_
      exact am_ireturn g dX8_court_36
    · refine am_iload g dX8_court_20 rfl ?_
      refine am_bipush g dX8_court_22 (am_il rfl) (am_bi rfl) ?_
      refine am_icmp_gt (tgt := 35) g dX8_court_24 (by decide) ?_ ?_
      · refine am_iconst g dX8_court_35 (am_il rfl) rfl ?_
        exact am_ireturn g dX8_court_36
      · refine am_iload g dX8_court_27 rfl ?_
        refine am_Si (as := [.inl a5]) (S := []) g (cX8_isMinuteC a5 h2) mi_X8_isMinute lm_X8_208 dX8_court_29 rfl (by decide) (Nat.le_of_ble_eq_true rfl) rfl (fun v4 h5 => ?_)
        refine am_if_ne (tgt := 37) g dX8_court_32 (by decide) ?_ ?_
        · refine am_aload g dX8_court_37 rfl ?_
          refine am_iload_n g dX8_court_39 rfl ?_
          refine am_putz (q := 2) (kd := 12) (ix := d3) g clX1 dX8_court_40 (Nat.lt_of_lt_of_le (Nat.add_lt_add_left hd3 46) (Nat.le_of_ble_eq_true rfl)) (sh_X1 d3 hd3) (by decide) rfl lf_X8_211 rfl rfl ?_
          refine am_gm (fun h6 => ?_)
          refine am_aload g dX8_court_43 rfl ?_
          refine am_iload_n g dX8_court_45 rfl ?_
          refine am_putz (q := 3) (kd := 13) (ix := d3) g clX1 dX8_court_46 (Nat.lt_of_lt_of_le (Nat.add_lt_add_left hd3 46) (Nat.le_of_ble_eq_true rfl)) (sh_X1 d3 hd3) (by decide) rfl lf_X8_216 rfl rfl ?_
          refine am_gm (fun h7 => ?_)
          refine am_aload g dX8_court_49 rfl ?_
          refine am_iload g dX8_court_51 rfl ?_
          refine am_puti (q := 4) (kd := 14) (ix := d3) g clX1 dX8_court_53 (Nat.lt_of_lt_of_le (Nat.add_lt_add_left hd3 46) (Nat.le_of_ble_eq_true rfl)) (sh_X1 d3 hd3) (by decide) rfl lf_X8_219 rfl rfl ?_
          refine am_gm (fun h8 => ?_)
          refine am_aload g dX8_court_56 rfl ?_
          refine am_iload g dX8_court_58 rfl ?_
          refine am_puti (q := 5) (kd := 15) (ix := d3) g clX1 dX8_court_60 (Nat.lt_of_lt_of_le (Nat.add_lt_add_left hd3 46) (Nat.le_of_ble_eq_true rfl)) (sh_X1 d3 hd3) (by decide) rfl lf_X8_222 rfl rfl ?_
          refine am_gm (fun h9 => ?_)
          refine am_iconst g dX8_court_63 (am_il rfl) rfl ?_
          exact am_ireturn g dX8_court_64
        · refine am_iconst g dX8_court_35 (am_il rfl) rfl ?_
          exact am_ireturn g dX8_court_36
def fX8_rule_29 (l1 : Int) (l2 : Int) (s0 : Int) (s1 : Int) (h : am_M) : Option (Int × am_M) := if s1 ≤ s0 then (if 0 ≤ l1 ∧ l1 < 4 then am_l (h 18 (Int.toNat l1)) (fun x1 => if 0 ≤ l1 ∧ l1 < 4 then am_l (am_up h 18 (Int.toNat l1) l2) (fun h2 => some (x1, h2)) else none) else none) else some ((-1), h)
set_option maxRecDepth 10000 in
theorem jX8_rule_29 {D : va_G} {a : Nat → ClassId} {ad : Nat → Nat} {G : am_G} (g : am_Gd (EX D a ad) RX8 cX8_rule 4 (some .int) 1 G) : ∀ (l1 : Int), ∀ (l2 : Int), ∀ (s0 : Int), ∀ (s1 : Int), ∀ h : am_M, am_J (EX D a ad) G 4 am_ei 29 [some (.inr (some 0)), some (.inl l1), some (.inl l2), none] [.inl s0, .inl s1] h (fX8_rule_29 l1 l2 s0 s1 h) := by
  intro l1 l2 s0 s1 h
  unfold fX8_rule_29
  refine am_icmp_le (tgt := 34) g dX8_rule_29 (by decide) ?_ ?_
  · refine am_aload_n g dX8_rule_34 rfl ?_
    refine am_getr (q := 0) (a := 1) g clX8 dX8_rule_35 (Nat.le_of_ble_eq_true rfl) rfl (by decide) rfl (Nat.le_of_ble_eq_true rfl) lf_X8_10 ?_
    refine am_getr (q := 3) (a := 5) g clX0 dX8_rule_38 (Nat.le_of_ble_eq_true rfl) rfl (by decide) rfl (Nat.le_of_ble_eq_true rfl) lf_X8_226 ?_
    refine am_iload_n g dX8_rule_41 rfl ?_
    refine am_iaload (ix := Int.toNat l1) (nI := 4) g dX8_rule_42 (Nat.le_of_ble_eq_true rfl) rfl rfl (Nat.zero_add _) ?_
    refine am_gv (fun x1 => ?_)
    refine am_istore_n g dX8_rule_43 (by decide) ?_
    refine am_aload_n g dX8_rule_44 rfl ?_
    refine am_getr (q := 0) (a := 1) g clX8 dX8_rule_45 (Nat.le_of_ble_eq_true rfl) rfl (by decide) rfl (Nat.le_of_ble_eq_true rfl) lf_X8_10 ?_
    refine am_getr (q := 3) (a := 5) g clX0 dX8_rule_48 (Nat.le_of_ble_eq_true rfl) rfl (by decide) rfl (Nat.le_of_ble_eq_true rfl) lf_X8_226 ?_
    refine am_iload_n g dX8_rule_51 rfl ?_
    refine am_iload_n g dX8_rule_52 rfl ?_
    refine am_iastore (ix := Int.toNat l1) (nI := 4) g dX8_rule_53 (Nat.le_of_ble_eq_true rfl) rfl rfl (Nat.zero_add _) ?_
    refine am_gm (fun h2 => ?_)
    refine am_iload_n g dX8_rule_54 rfl ?_
    exact am_ireturn g dX8_rule_55
  · refine am_iconst g dX8_rule_32 (am_il rfl) rfl ?_
    exact am_ireturn g dX8_rule_33
def fX8_rule (a1 : Int) (a2 : Int) (h : am_M) : Option (Int × am_M) := if a1 < 0 then some ((-1), h) else if a1 < 4 then (if a2 < 0 then some ((-1), h) else if a1 = 3 then fX8_rule_29 a1 a2 100000 a2 h else fX8_rule_29 a1 a2 2000 a2 h) else some ((-1), h)
set_option maxRecDepth 10000 in
theorem cX8_ruleC {D : va_G} {a : Nat → ClassId} {ad : Nat → Nat} (a1 : Int) (a2 : Int) (h : am_M) : am_C (EX D a ad) yX8_rule cX8_rule 4 (some .int) 1 [.inr (some 0), .inl a1, .inl a2] h am_ei (fX8_rule a1 a2 h) := by
  refine am_ofJ (L := [some (.inr (some 0)), some (.inl a1), some (.inl a2), none]) (by decide) rfl (Nat.le_of_ble_eq_true rfl) (fun G g => ?_)
  have g : am_Gd (EX D a ad) RX8 cX8_rule 4 (some .int) 1 G := g
  unfold fX8_rule
  refine am_iload_n g dX8_rule_0 rfl ?_
  refine am_if_lt (tgt := 9) g dX8_rule_1 (by decide) ?_ ?_
  · refine am_iconst g dX8_rule_9 (am_il rfl) rfl ?_
    exact am_ireturn g dX8_rule_10
  · refine am_iload_n g dX8_rule_4 rfl ?_
    refine am_iconst g dX8_rule_5 (am_il rfl) rfl ?_
    refine am_icmp_lt (tgt := 11) g dX8_rule_6 (by decide) ?_ ?_
    · refine am_iload_n g dX8_rule_11 rfl ?_
      refine am_if_lt (tgt := 32) g dX8_rule_12 (by decide) ?_ ?_
      · refine am_iconst g dX8_rule_32 (am_il rfl) rfl ?_
        exact am_ireturn g dX8_rule_33
      · refine am_iload_n g dX8_rule_15 rfl ?_
        refine am_iload_n g dX8_rule_16 rfl ?_
        refine am_iconst g dX8_rule_17 (am_il rfl) rfl ?_
        refine am_icmp_ne (tgt := 26) g dX8_rule_18 (by decide) ?_ ?_
        · refine am_sipush g dX8_rule_26 (am_il rfl) (am_si rfl) ?_
          exact (jX8_rule_29 g) a1 a2 2000 a2 h
        · refine am_ldc (n := 100000) g dX8_rule_21 (am_il rfl) lc_X8_225 rfl ?_
          refine am_goto (tgt := 29) g dX8_rule_23 (by decide) ?_
          exact (jX8_rule_29 g) a1 a2 100000 a2 h
    · refine am_iconst g dX8_rule_9 (am_il rfl) rfl ?_
      exact am_ireturn g dX8_rule_10
def fX8_rain_16 (l1 : Int) (s0 : Int) (h : am_M) : Option (Int × am_M) := if l1 = 0 ∨ l1 = 1 then am_l (am_up h 19 0 l1) (fun h1 => if s0 = 0 ∨ s0 = 1 then some (s0, h1) else none) else none
set_option maxRecDepth 10000 in
theorem jX8_rain_16 {D : va_G} {a : Nat → ClassId} {ad : Nat → Nat} {G : am_G} (g : am_Gd (EX D a ad) RX8 cX8_rain 3 (some .boolean) 1 G) : ∀ (l1 : Int), ∀ (s0 : Int), ∀ h : am_M, am_J (EX D a ad) G 3 am_ei 16 [some (.inr (some 0)), some (.inl l1), none] [.inl s0] h (fX8_rain_16 l1 s0 h) := by
  intro l1 s0 h
  unfold fX8_rain_16
  refine am_istore_n g dX8_rain_16 (by decide) ?_
  refine am_aload_n g dX8_rain_17 rfl ?_
  refine am_getr (q := 0) (a := 1) g clX8 dX8_rain_18 (Nat.le_of_ble_eq_true rfl) rfl (by decide) rfl (Nat.le_of_ble_eq_true rfl) lf_X8_10 ?_
  refine am_iload_n g dX8_rain_21 rfl ?_
  refine am_putz (q := 5) (kd := 19) (ix := 0) g clX0 dX8_rain_22 (Nat.le_of_ble_eq_true rfl) rfl (by decide) rfl lf_X8_229 rfl rfl ?_
  refine am_gm (fun h1 => ?_)
  refine am_iload_n g dX8_rain_25 rfl ?_
  exact am_zreturnG g dX8_rain_26
def fX8_rain (a1 : Int) (h : am_M) : Option (Int × am_M) := if (h 19 0) = a1 then fX8_rain_16 a1 0 h else fX8_rain_16 a1 1 h
set_option maxRecDepth 10000 in
theorem cX8_rainC {D : va_G} {a : Nat → ClassId} {ad : Nat → Nat} (a1 : Int) (h : am_M) : am_C (EX D a ad) yX8_rain cX8_rain 3 (some .boolean) 1 [.inr (some 0), .inl a1] h am_ei (fX8_rain a1 h) := by
  refine am_ofJ (L := [some (.inr (some 0)), some (.inl a1), none]) (by decide) rfl (Nat.le_of_ble_eq_true rfl) (fun G g => ?_)
  have g : am_Gd (EX D a ad) RX8 cX8_rain 3 (some .boolean) 1 G := g
  unfold fX8_rain
  refine am_aload_n g dX8_rain_0 rfl ?_
  refine am_getr (q := 0) (a := 1) g clX8 dX8_rain_1 (Nat.le_of_ble_eq_true rfl) rfl (by decide) rfl (Nat.le_of_ble_eq_true rfl) lf_X8_10 ?_
  refine am_geti (q := 5) (kd := 19) (ix := 0) g clX0 dX8_rain_4 (Nat.le_of_ble_eq_true rfl) rfl (by decide) rfl lf_X8_229 ?_
  refine am_iload_n g dX8_rain_7 rfl ?_
  refine am_icmp_eq (tgt := 15) g dX8_rain_8 (by decide) ?_ ?_
  · refine am_iconst g dX8_rain_15 (am_il rfl) rfl ?_
    exact (jX8_rain_16 g) a1 0 h
  · refine am_iconst g dX8_rain_11 (am_il rfl) rfl ?_
    refine am_goto (tgt := 16) g dX8_rain_12 (by decide) ?_
    exact (jX8_rain_16 g) a1 1 h
def fX8_isMatchCode (a1 : Int) (h : am_M) : Option (Int × am_M) := if a1 < 0 then some (0, h) else if a1 < 64 then (am_b (fX8_numberOf a1 h) (fun v1 h2 => if v1 = 15 then some (0, h2) else some (1, h2))) else some (0, h)
set_option maxRecDepth 10000 in
theorem cX8_isMatchCodeC {D : va_G} {a : Nat → ClassId} {ad : Nat → Nat} (a1 : Int) (h : am_M) : am_C (EX D a ad) yX8_isMatchCode cX8_isMatchCode 1 (some .boolean) 2 [.inl a1] h am_ei (fX8_isMatchCode a1 h) := by
  refine am_ofJ (L := [some (.inl a1)]) (by decide) rfl (Nat.le_of_ble_eq_true rfl) (fun G g => ?_)
  have g : am_Gd (EX D a ad) RX8 cX8_isMatchCode 1 (some .boolean) 2 G := g
  unfold fX8_isMatchCode
  refine am_iload_n g dX8_isMatchCode_0 rfl ?_
  refine am_if_lt (tgt := 23) g dX8_isMatchCode_1 (by decide) ?_ ?_
  · refine am_iconst g dX8_isMatchCode_23 (am_il rfl) rfl ?_
    exact am_zreturn g dX8_isMatchCode_24 (by decide)
  · refine am_iload_n g dX8_isMatchCode_4 rfl ?_
    refine am_bipush g dX8_isMatchCode_5 (am_il rfl) (am_bi rfl) ?_
    refine am_icmp_ge (tgt := 23) g dX8_isMatchCode_7 (by decide) ?_ ?_
    · refine am_iconst g dX8_isMatchCode_23 (am_il rfl) rfl ?_
      exact am_zreturn g dX8_isMatchCode_24 (by decide)
    · refine am_iload_n g dX8_isMatchCode_10 rfl ?_
      refine am_Si (as := [.inl a1]) (S := []) g (cX8_numberOfC a1 h) mi_X8_numberOf lm_X8_135 dX8_isMatchCode_11 rfl (by decide) (Nat.le_of_ble_eq_true rfl) rfl (fun v1 h2 => ?_)
      refine am_bipush g dX8_isMatchCode_14 (am_il rfl) (am_bi rfl) ?_
      refine am_icmp_eq (tgt := 23) g dX8_isMatchCode_16 (by decide) ?_ ?_
      · refine am_iconst g dX8_isMatchCode_23 (am_il rfl) rfl ?_
        exact am_zreturn g dX8_isMatchCode_24 (by decide)
      · refine am_iconst g dX8_isMatchCode_19 (am_il rfl) rfl ?_
        refine am_goto (tgt := 24) g dX8_isMatchCode_20 (by decide) ?_
        exact am_zreturn g dX8_isMatchCode_24 (by decide)
def fX8_slot (a1 : Int) (a2 : Int) (h : am_M) : Option (Int × am_M) := am_b (fX0_findCourt a1 h) (fun v1 h2 => am_on v1 46 6 (some ((-1), h2)) (fun d3 => am_b (fX8_isMatchCode a2 h2) (fun v4 h5 => if v4 = 0 then some ((-1), h5) else am_b (fX1_addSlot d3 a2 h5) (fun v6 h7 => some (v6, h7)))))
set_option maxRecDepth 10000 in
theorem cX8_slotC {D : va_G} {a : Nat → ClassId} {ad : Nat → Nat} (a1 : Int) (a2 : Int) (h : am_M) : am_C (EX D a ad) yX8_slot cX8_slot 4 (some .int) 3 [.inr (some 0), .inl a1, .inl a2] h am_ei (fX8_slot a1 a2 h) := by
  refine am_ofJ (L := [some (.inr (some 0)), some (.inl a1), some (.inl a2), none]) (by decide) rfl (Nat.le_of_ble_eq_true rfl) (fun G g => ?_)
  have g : am_Gd (EX D a ad) RX8 cX8_slot 4 (some .int) 3 G := g
  unfold fX8_slot
  refine am_aload_n g dX8_slot_0 rfl ?_
  refine am_getr (q := 0) (a := 1) g clX8 dX8_slot_1 (Nat.le_of_ble_eq_true rfl) rfl (by decide) rfl (Nat.le_of_ble_eq_true rfl) lf_X8_10 ?_
  refine am_iload_n g dX8_slot_4 rfl ?_
  refine am_Vr (as := [.inl a1]) (S := []) g (cX0_findCourtC a1 h) mi_X0_findCourt lm_X8_204 clX0.1 (Nat.le_of_ble_eq_true rfl) rfl dX8_slot_5 rfl (by decide) (Nat.le_of_ble_eq_true rfl) rfl (fun v1 h2 => ?_)
  refine am_astore_n g dX8_slot_8 (by decide) ?_
  refine am_aload_n g dX8_slot_9 rfl ?_
  refine am_ionull (b := 46) (n := 6) (Lf := fun r_ => [some (.inr (some 0)), some (.inl a1), some (.inl a2), some (.inr r_)]) (tgt := 20) g dX8_slot_10 (by decide) ?_ (fun d3 hd3 => ?_)
  · refine am_iconst g dX8_slot_20 (am_il rfl) rfl ?_
    exact am_ireturn g dX8_slot_21
  · refine am_iload_n g dX8_slot_13 rfl ?_
    refine am_Si (as := [.inl a2]) (S := []) g (cX8_isMatchCodeC a2 h2) mi_X8_isMatchCode lm_X8_232 dX8_slot_14 rfl (by decide) (Nat.le_of_ble_eq_true rfl) rfl (fun v4 h5 => ?_)
    refine am_if_ne (tgt := 22) g dX8_slot_17 (by decide) ?_ ?_
    · refine am_aload_n g dX8_slot_22 rfl ?_
      refine am_iload_n g dX8_slot_23 rfl ?_
      refine am_Vi (as := [.inl a2]) (S := []) g (cX1_addSlotC d3 hd3 a2 h5) mi_X1_addSlot lm_X8_235 clX1.1 (Nat.lt_of_lt_of_le (Nat.add_lt_add_left hd3 46) (Nat.le_of_ble_eq_true rfl)) (sh_X1 d3 hd3) dX8_slot_24 rfl (by decide) (Nat.le_of_ble_eq_true rfl) rfl (fun v6 h7 => ?_)
      exact am_ireturn g dX8_slot_27
    · refine am_iconst g dX8_slot_20 (am_il rfl) rfl ?_
      exact am_ireturn g dX8_slot_21
def fX8_gap (a1 : Int) (a2 : Int) (h : am_M) : Option (Int × am_M) := am_b (fX0_findCourt a1 h) (fun v1 h2 => am_on v1 46 6 (some ((-1), h2)) (fun d3 => if a2 < 1 then some ((-1), h2) else if a2 ≤ 1000 then am_b (fX1_addSlot d3 (am_w (-a2)) h2) (fun v4 h5 => some (v4, h5)) else some ((-1), h2)))
set_option maxRecDepth 10000 in
theorem cX8_gapC {D : va_G} {a : Nat → ClassId} {ad : Nat → Nat} (a1 : Int) (a2 : Int) (h : am_M) : am_C (EX D a ad) yX8_gap cX8_gap 4 (some .int) 2 [.inr (some 0), .inl a1, .inl a2] h am_ei (fX8_gap a1 a2 h) := by
  refine am_ofJ (L := [some (.inr (some 0)), some (.inl a1), some (.inl a2), none]) (by decide) rfl (Nat.le_of_ble_eq_true rfl) (fun G g => ?_)
  have g : am_Gd (EX D a ad) RX8 cX8_gap 4 (some .int) 2 G := g
  unfold fX8_gap
  refine am_aload_n g dX8_gap_0 rfl ?_
  refine am_getr (q := 0) (a := 1) g clX8 dX8_gap_1 (Nat.le_of_ble_eq_true rfl) rfl (by decide) rfl (Nat.le_of_ble_eq_true rfl) lf_X8_10 ?_
  refine am_iload_n g dX8_gap_4 rfl ?_
  refine am_Vr (as := [.inl a1]) (S := []) g (cX0_findCourtC a1 h) mi_X0_findCourt lm_X8_204 clX0.1 (Nat.le_of_ble_eq_true rfl) rfl dX8_gap_5 rfl (by decide) (Nat.le_of_ble_eq_true rfl) rfl (fun v1 h2 => ?_)
  refine am_astore_n g dX8_gap_8 (by decide) ?_
  refine am_aload_n g dX8_gap_9 rfl ?_
  refine am_ionull (b := 46) (n := 6) (Lf := fun r_ => [some (.inr (some 0)), some (.inl a1), some (.inl a2), some (.inr r_)]) (tgt := 25) g dX8_gap_10 (by decide) ?_ (fun d3 hd3 => ?_)
  · refine am_iconst g dX8_gap_25 (am_il rfl) rfl ?_
    exact am_ireturn g dX8_gap_26
  · refine am_iload_n g dX8_gap_13 rfl ?_
    refine am_iconst g dX8_gap_14 (am_il rfl) rfl ?_
    refine am_icmp_lt (tgt := 25) g dX8_gap_15 (by decide) ?_ ?_
    · refine am_iconst g dX8_gap_25 (am_il rfl) rfl ?_
      exact am_ireturn g dX8_gap_26
    · refine am_iload_n g dX8_gap_18 rfl ?_
      refine am_sipush g dX8_gap_19 (am_il rfl) (am_si rfl) ?_
      refine am_icmp_le (tgt := 27) g dX8_gap_22 (by decide) ?_ ?_
      · refine am_aload_n g dX8_gap_27 rfl ?_
        refine am_iload_n g dX8_gap_28 rfl ?_
        refine am_ineg g dX8_gap_29 ?_
        refine am_Vi (as := [.inl (am_w (-a2))]) (S := []) g (cX1_addSlotC d3 hd3 (am_w (-a2)) h2) mi_X1_addSlot lm_X8_235 clX1.1 (Nat.lt_of_lt_of_le (Nat.add_lt_add_left hd3 46) (Nat.le_of_ble_eq_true rfl)) (sh_X1 d3 hd3) dX8_gap_30 rfl (by decide) (Nat.le_of_ble_eq_true rfl) rfl (fun v4 h5 => ?_)
        exact am_ireturn g dX8_gap_33
      · refine am_iconst g dX8_gap_25 (am_il rfl) rfl ?_
        exact am_ireturn g dX8_gap_26
def fX8_drop (a1 : Int) (a2 : Int) (h : am_M) : Option (Int × am_M) := am_b (fX0_findCourt a1 h) (fun v1 h2 => am_on v1 46 6 (some ((-1), h2)) (fun d3 => am_b (fX1_hasSlot d3 a2 h2) (fun v4 h5 => if v4 = 0 then some ((-1), h5) else am_b (fX1_removeSlot d3 a2 h5) (fun _ h6 => some (h6 16 d3, h6)))))
set_option maxRecDepth 10000 in
theorem cX8_dropC {D : va_G} {a : Nat → ClassId} {ad : Nat → Nat} (a1 : Int) (a2 : Int) (h : am_M) : am_C (EX D a ad) yX8_drop cX8_drop 4 (some .int) 2 [.inr (some 0), .inl a1, .inl a2] h am_ei (fX8_drop a1 a2 h) := by
  refine am_ofJ (L := [some (.inr (some 0)), some (.inl a1), some (.inl a2), none]) (by decide) rfl (Nat.le_of_ble_eq_true rfl) (fun G g => ?_)
  have g : am_Gd (EX D a ad) RX8 cX8_drop 4 (some .int) 2 G := g
  unfold fX8_drop
  refine am_aload_n g dX8_drop_0 rfl ?_
  refine am_getr (q := 0) (a := 1) g clX8 dX8_drop_1 (Nat.le_of_ble_eq_true rfl) rfl (by decide) rfl (Nat.le_of_ble_eq_true rfl) lf_X8_10 ?_
  refine am_iload_n g dX8_drop_4 rfl ?_
  refine am_Vr (as := [.inl a1]) (S := []) g (cX0_findCourtC a1 h) mi_X0_findCourt lm_X8_204 clX0.1 (Nat.le_of_ble_eq_true rfl) rfl dX8_drop_5 rfl (by decide) (Nat.le_of_ble_eq_true rfl) rfl (fun v1 h2 => ?_)
  refine am_astore_n g dX8_drop_8 (by decide) ?_
  refine am_aload_n g dX8_drop_9 rfl ?_
  refine am_ionull (b := 46) (n := 6) (Lf := fun r_ => [some (.inr (some 0)), some (.inl a1), some (.inl a2), some (.inr r_)]) (tgt := 21) g dX8_drop_10 (by decide) ?_ (fun d3 hd3 => ?_)
  · refine am_iconst g dX8_drop_21 (am_il rfl) rfl ?_
    exact am_ireturn g dX8_drop_22
  · refine am_aload_n g dX8_drop_13 rfl ?_
    refine am_iload_n g dX8_drop_14 rfl ?_
    refine am_Vi (as := [.inl a2]) (S := []) g (cX1_hasSlotC d3 hd3 a2 h2) mi_X1_hasSlot lm_X8_238 clX1.1 (Nat.lt_of_lt_of_le (Nat.add_lt_add_left hd3 46) (Nat.le_of_ble_eq_true rfl)) (sh_X1 d3 hd3) dX8_drop_15 rfl (by decide) (Nat.le_of_ble_eq_true rfl) rfl (fun v4 h5 => ?_)
    refine am_if_ne (tgt := 23) g dX8_drop_18 (by decide) ?_ ?_
    · refine am_aload_n g dX8_drop_23 rfl ?_
      refine am_iload_n g dX8_drop_24 rfl ?_
      refine am_Vv (as := [.inl a2]) (S := []) g (cX1_removeSlotC d3 hd3 a2 h5) mi_X1_removeSlot lm_X8_241 clX1.1 (Nat.lt_of_lt_of_le (Nat.add_lt_add_left hd3 46) (Nat.le_of_ble_eq_true rfl)) (sh_X1 d3 hd3) dX8_drop_25 rfl (by decide) (Nat.le_of_ble_eq_true rfl) rfl (fun _ h6 => ?_)
      refine am_aload_n g dX8_drop_28 rfl ?_
      refine am_geti (q := 1) (kd := 16) (ix := d3) g clX1 dX8_drop_29 (Nat.lt_of_lt_of_le (Nat.add_lt_add_left hd3 46) (Nat.le_of_ble_eq_true rfl)) (sh_X1 d3 hd3) (by decide) rfl lf_X8_244 ?_
      exact am_ireturn g dX8_drop_32
    · refine am_iconst g dX8_drop_21 (am_il rfl) rfl ?_
      exact am_ireturn g dX8_drop_22
def fX8_held (a1 : Int) (a2 : Int) (h : am_M) : Option (Int × am_M) := am_b (fX0_findCourt a1 h) (fun v1 h2 => am_on v1 46 6 (some ((-2000), h2)) (fun d3 => am_b (fX1_hasSlot d3 a2 h2) (fun v4 h5 => if v4 = 0 then some ((-2000), h5) else if 0 ≤ a2 ∧ a2 < 6 then some (h5 17 (6 * d3 + Int.toNat a2), h5) else none)))
set_option maxRecDepth 10000 in
theorem cX8_heldC {D : va_G} {a : Nat → ClassId} {ad : Nat → Nat} (a1 : Int) (a2 : Int) (h : am_M) : am_C (EX D a ad) yX8_held cX8_held 4 (some .int) 2 [.inr (some 0), .inl a1, .inl a2] h am_ei (fX8_held a1 a2 h) := by
  refine am_ofJ (L := [some (.inr (some 0)), some (.inl a1), some (.inl a2), none]) (by decide) rfl (Nat.le_of_ble_eq_true rfl) (fun G g => ?_)
  have g : am_Gd (EX D a ad) RX8 cX8_held 4 (some .int) 2 G := g
  unfold fX8_held
  refine am_aload_n g dX8_held_0 rfl ?_
  refine am_getr (q := 0) (a := 1) g clX8 dX8_held_1 (Nat.le_of_ble_eq_true rfl) rfl (by decide) rfl (Nat.le_of_ble_eq_true rfl) lf_X8_10 ?_
  refine am_iload_n g dX8_held_4 rfl ?_
  refine am_Vr (as := [.inl a1]) (S := []) g (cX0_findCourtC a1 h) mi_X0_findCourt lm_X8_204 clX0.1 (Nat.le_of_ble_eq_true rfl) rfl dX8_held_5 rfl (by decide) (Nat.le_of_ble_eq_true rfl) rfl (fun v1 h2 => ?_)
  refine am_astore_n g dX8_held_8 (by decide) ?_
  refine am_aload_n g dX8_held_9 rfl ?_
  refine am_ionull (b := 46) (n := 6) (Lf := fun r_ => [some (.inr (some 0)), some (.inl a1), some (.inl a2), some (.inr r_)]) (tgt := 21) g dX8_held_10 (by decide) ?_ (fun d3 hd3 => ?_)
  · refine am_sipush g dX8_held_21 (am_il rfl) (am_si rfl) ?_
    exact am_ireturn g dX8_held_24
  · refine am_aload_n g dX8_held_13 rfl ?_
    refine am_iload_n g dX8_held_14 rfl ?_
    refine am_Vi (as := [.inl a2]) (S := []) g (cX1_hasSlotC d3 hd3 a2 h2) mi_X1_hasSlot lm_X8_238 clX1.1 (Nat.lt_of_lt_of_le (Nat.add_lt_add_left hd3 46) (Nat.le_of_ble_eq_true rfl)) (sh_X1 d3 hd3) dX8_held_15 rfl (by decide) (Nat.le_of_ble_eq_true rfl) rfl (fun v4 h5 => ?_)
    refine am_if_ne (tgt := 25) g dX8_held_18 (by decide) ?_ ?_
    · refine am_aload_n g dX8_held_25 rfl ?_
      refine am_getr (q := 0) (a := 52 + d3) g clX1 dX8_held_26 (Nat.lt_of_lt_of_le (Nat.add_lt_add_left hd3 46) (Nat.le_of_ble_eq_true rfl)) (sh_X1 d3 hd3) (by decide) rfl (Nat.lt_of_lt_of_le (Nat.add_lt_add_left hd3 52) (Nat.le_of_ble_eq_true rfl)) lf_X8_245 ?_
      refine am_iload_n g dX8_held_29 rfl ?_
      refine am_iaload (ix := 6 * d3 + Int.toNat a2) (nI := 6) g dX8_held_30 (Nat.lt_of_lt_of_le (Nat.add_lt_add_left hd3 52) (Nat.le_of_ble_eq_true rfl)) (sh_X1_slots d3 hd3) rfl rfl ?_
      exact am_ireturn g dX8_held_31
    · refine am_sipush g dX8_held_21 (am_il rfl) (am_si rfl) ?_
      exact am_ireturn g dX8_held_24
def fX8_time (a1 : Int) (a2 : Int) (a3 : Int) (h : am_M) : Option (Int × am_M) := am_b (fX0_findCourt a1 h) (fun v1 h2 => am_on v1 46 6 (some ((-2), h2)) (fun d3 => am_b (fX1_hasSlot d3 a2 h2) (fun v4 h5 => if v4 = 0 then some ((-2), h5) else if a3 < 0 then some ((-2), h5) else if a3 ≤ 1 then (am_l (am_w ((am_w (a2 * 6)) + a1)) (fun x6 => am_b (fX5_foretell x6 h5) (fun _ h7 => if a3 = 0 then (if 0 ≤ x6 ∧ x6 < 36 then some (h7 42 (Int.toNat x6), h7) else none) else if 0 ≤ x6 ∧ x6 < 36 then some (h7 43 (Int.toNat x6), h7) else none))) else some ((-2), h5))))
set_option maxRecDepth 10000 in
theorem cX8_timeC {D : va_G} {a : Nat → ClassId} {ad : Nat → Nat} (a1 : Int) (a2 : Int) (a3 : Int) (h : am_M) : am_C (EX D a ad) yX8_time cX8_time 6 (some .int) 7 [.inr (some 0), .inl a1, .inl a2, .inl a3] h am_ei (fX8_time a1 a2 a3 h) := by
  refine am_ofJ (L := [some (.inr (some 0)), some (.inl a1), some (.inl a2), some (.inl a3), none, none]) (by decide) rfl (Nat.le_of_ble_eq_true rfl) (fun G g => ?_)
  have g : am_Gd (EX D a ad) RX8 cX8_time 6 (some .int) 7 G := g
  unfold fX8_time
  refine am_aload_n g dX8_time_0 rfl ?_
  refine am_getr (q := 0) (a := 1) g clX8 dX8_time_1 (Nat.le_of_ble_eq_true rfl) rfl (by decide) rfl (Nat.le_of_ble_eq_true rfl) lf_X8_10 ?_
  refine am_iload_n g dX8_time_4 rfl ?_
  refine am_Vr (as := [.inl a1]) (S := []) g (cX0_findCourtC a1 h) mi_X0_findCourt lm_X8_204 clX0.1 (Nat.le_of_ble_eq_true rfl) rfl dX8_time_5 rfl (by decide) (Nat.le_of_ble_eq_true rfl) rfl (fun v1 h2 => ?_)
  refine am_astore g dX8_time_8 (by decide) ?_
  refine am_aload g dX8_time_10 rfl ?_
  refine am_ionull (b := 46) (n := 6) (Lf := fun r_ => [some (.inr (some 0)), some (.inl a1), some (.inl a2), some (.inl a3), some (.inr r_), none]) (tgt := 33) g dX8_time_12 (by decide) ?_ (fun d3 hd3 => ?_)
  · refine am_bipush g dX8_time_33 (am_il rfl) (am_bi rfl) ?_
    exact am_ireturn g dX8_time_35
  · refine am_aload g dX8_time_15 rfl ?_
    refine am_iload_n g dX8_time_17 rfl ?_
    refine am_Vi (as := [.inl a2]) (S := []) g (cX1_hasSlotC d3 hd3 a2 h2) mi_X1_hasSlot lm_X8_238 clX1.1 (Nat.lt_of_lt_of_le (Nat.add_lt_add_left hd3 46) (Nat.le_of_ble_eq_true rfl)) (sh_X1 d3 hd3) dX8_time_18 rfl (by decide) (Nat.le_of_ble_eq_true rfl) rfl (fun v4 h5 => ?_)
    refine am_if_eq (tgt := 33) g dX8_time_21 (by decide) ?_ ?_
    · refine am_bipush g dX8_time_33 (am_il rfl) (am_bi rfl) ?_
      exact am_ireturn g dX8_time_35
    · refine am_iload_n g dX8_time_24 rfl ?_
      refine am_if_lt (tgt := 33) g dX8_time_25 (by decide) ?_ ?_
      · refine am_bipush g dX8_time_33 (am_il rfl) (am_bi rfl) ?_
        exact am_ireturn g dX8_time_35
      · refine am_iload_n g dX8_time_28 rfl ?_
        refine am_iconst g dX8_time_29 (am_il rfl) rfl ?_
        refine am_icmp_le (tgt := 36) g dX8_time_30 (by decide) ?_ ?_
        · refine am_iload_n g dX8_time_36 rfl ?_
          refine am_bipush g dX8_time_37 (am_il rfl) (am_bi rfl) ?_
          refine am_imul g dX8_time_39 ?_
          refine am_iload_n g dX8_time_40 rfl ?_
          refine am_iadd g dX8_time_41 ?_
          refine am_gv (fun x6 => ?_)
          refine am_istore g dX8_time_42 (by decide) ?_
          refine am_aload_n g dX8_time_44 rfl ?_
          refine am_getr (q := 4) (a := 70) g clX8 dX8_time_45 (Nat.le_of_ble_eq_true rfl) rfl (by decide) rfl (Nat.le_of_ble_eq_true rfl) lf_X8_40 ?_
          refine am_aload_n g dX8_time_48 rfl ?_
          refine am_getr (q := 0) (a := 1) g clX8 dX8_time_49 (Nat.le_of_ble_eq_true rfl) rfl (by decide) rfl (Nat.le_of_ble_eq_true rfl) lf_X8_10 ?_
          refine am_iload g dX8_time_52 rfl ?_
          refine am_Vv (as := [.inr (some 1), .inl x6]) (S := []) g (cX5_foretellC x6 h5) mi_X5_foretell lm_X8_248 clX5.1 (Nat.le_of_ble_eq_true rfl) rfl dX8_time_54 rfl (by decide) (Nat.le_of_ble_eq_true rfl) rfl (fun _ h7 => ?_)
          refine am_iload_n g dX8_time_57 rfl ?_
          refine am_if_ne (tgt := 74) g dX8_time_58 (by decide) ?_ ?_
          · refine am_aload_n g dX8_time_74 rfl ?_
            refine am_getr (q := 4) (a := 70) g clX8 dX8_time_75 (Nat.le_of_ble_eq_true rfl) rfl (by decide) rfl (Nat.le_of_ble_eq_true rfl) lf_X8_40 ?_
            refine am_getr (q := 1) (a := 72) g clX5 dX8_time_78 (Nat.le_of_ble_eq_true rfl) rfl (by decide) rfl (Nat.le_of_ble_eq_true rfl) lf_X8_255 ?_
            refine am_iload g dX8_time_81 rfl ?_
            refine am_iaload (ix := Int.toNat x6) (nI := 36) g dX8_time_83 (Nat.le_of_ble_eq_true rfl) rfl rfl (Nat.zero_add _) ?_
            exact am_ireturn g dX8_time_84
          · refine am_aload_n g dX8_time_61 rfl ?_
            refine am_getr (q := 4) (a := 70) g clX8 dX8_time_62 (Nat.le_of_ble_eq_true rfl) rfl (by decide) rfl (Nat.le_of_ble_eq_true rfl) lf_X8_40 ?_
            refine am_getr (q := 0) (a := 71) g clX5 dX8_time_65 (Nat.le_of_ble_eq_true rfl) rfl (by decide) rfl (Nat.le_of_ble_eq_true rfl) lf_X8_252 ?_
            refine am_iload g dX8_time_68 rfl ?_
            refine am_iaload (ix := Int.toNat x6) (nI := 36) g dX8_time_70 (Nat.le_of_ble_eq_true rfl) rfl rfl (Nat.zero_add _) ?_
            refine am_goto (tgt := 84) g dX8_time_71 (by decide) ?_
            exact am_ireturn g dX8_time_84
        · refine am_bipush g dX8_time_33 (am_il rfl) (am_bi rfl) ?_
          exact am_ireturn g dX8_time_35
def fX8_over (a1 : Int) (a2 : Int) (h : am_M) : Option (Int × am_M) := am_b (fX0_laidWith a1 h) (fun v1 h2 => am_on v1 10 4 (some ((-1), h2)) (fun d3 => am_b (fX8_isMinute a2 h2) (fun v4 h5 => if v4 = 0 then some ((-1), h5) else am_b (fX8_numberOf a1 h5) (fun v6 h7 => if 0 ≤ v6 ∧ v6 < 16 then if (h7 20 (16 * d3 + Int.toNat v6)) = 0 then some ((-6), h7) else if 0 ≤ v6 ∧ v6 < 16 then am_l (am_up h7 10 (16 * d3 + Int.toNat v6) a2) (fun h8 => some (1, h8)) else none else none))))
set_option maxRecDepth 10000 in
theorem cX8_overC {D : va_G} {a : Nat → ClassId} {ad : Nat → Nat} (a1 : Int) (a2 : Int) (h : am_M) : am_C (EX D a ad) yX8_over cX8_over 5 (some .int) 3 [.inr (some 0), .inl a1, .inl a2] h am_ei (fX8_over a1 a2 h) := by
  refine am_ofJ (L := [some (.inr (some 0)), some (.inl a1), some (.inl a2), none, none]) (by decide) rfl (Nat.le_of_ble_eq_true rfl) (fun G g => ?_)
  have g : am_Gd (EX D a ad) RX8 cX8_over 5 (some .int) 3 G := g
  unfold fX8_over
  refine am_aload_n g dX8_over_0 rfl ?_
  refine am_getr (q := 0) (a := 1) g clX8 dX8_over_1 (Nat.le_of_ble_eq_true rfl) rfl (by decide) rfl (Nat.le_of_ble_eq_true rfl) lf_X8_10 ?_
  refine am_iload_n g dX8_over_4 rfl ?_
  refine am_Vr (as := [.inl a1]) (S := []) g (cX0_laidWithC a1 h) mi_X0_laidWith lm_X8_129 clX0.1 (Nat.le_of_ble_eq_true rfl) rfl dX8_over_5 rfl (by decide) (Nat.le_of_ble_eq_true rfl) rfl (fun v1 h2 => ?_)
  refine am_astore_n g dX8_over_8 (by decide) ?_
  refine am_aload_n g dX8_over_9 rfl ?_
  refine am_ionull (b := 10) (n := 4) (Lf := fun r_ => [some (.inr (some 0)), some (.inl a1), some (.inl a2), some (.inr r_), none]) (tgt := 20) g dX8_over_10 (by decide) ?_ (fun d3 hd3 => ?_)
  · refine am_iconst g dX8_over_20 (am_il rfl) rfl ?_
    exact am_ireturn g dX8_over_21
  · refine am_iload_n g dX8_over_13 rfl ?_
    refine am_Si (as := [.inl a2]) (S := []) g (cX8_isMinuteC a2 h2) mi_X8_isMinute lm_X8_208 dX8_over_14 rfl (by decide) (Nat.le_of_ble_eq_true rfl) rfl (fun v4 h5 => ?_)
    refine am_if_ne (tgt := 22) g dX8_over_17 (by decide) ?_ ?_
    · refine am_iload_n g dX8_over_22 rfl ?_
      refine am_Si (as := [.inl a1]) (S := []) g (cX8_numberOfC a1 h5) mi_X8_numberOf lm_X8_135 dX8_over_23 rfl (by decide) (Nat.le_of_ble_eq_true rfl) rfl (fun v6 h7 => ?_)
      refine am_istore g dX8_over_26 (by decide) ?_
      refine am_aload_n g dX8_over_28 rfl ?_
      refine am_getr (q := 3) (a := 26 + d3) g clX2 dX8_over_29 (Nat.lt_of_lt_of_le (Nat.add_lt_add_left hd3 10) (Nat.le_of_ble_eq_true rfl)) (sh_X2 d3 hd3) (by decide) rfl (Nat.lt_of_lt_of_le (Nat.add_lt_add_left hd3 26) (Nat.le_of_ble_eq_true rfl)) lf_X8_162 ?_
      refine am_iload g dX8_over_32 rfl ?_
      refine am_iaload (ix := 16 * d3 + Int.toNat v6) (nI := 16) g dX8_over_34 (Nat.lt_of_lt_of_le (Nat.add_lt_add_left hd3 26) (Nat.le_of_ble_eq_true rfl)) (sh_X2_hows d3 hd3) rfl rfl ?_
      refine am_if_ne (tgt := 41) g dX8_over_35 (by decide) ?_ ?_
      · refine am_aload_n g dX8_over_41 rfl ?_
        refine am_getr (q := 5) (a := 34 + d3) g clX2 dX8_over_42 (Nat.lt_of_lt_of_le (Nat.add_lt_add_left hd3 10) (Nat.le_of_ble_eq_true rfl)) (sh_X2 d3 hd3) (by decide) rfl (Nat.lt_of_lt_of_le (Nat.add_lt_add_left hd3 34) (Nat.le_of_ble_eq_true rfl)) lf_X8_258 ?_
        refine am_iload g dX8_over_45 rfl ?_
        refine am_iload_n g dX8_over_47 rfl ?_
        refine am_iastore (ix := 16 * d3 + Int.toNat v6) (nI := 16) g dX8_over_48 (Nat.lt_of_lt_of_le (Nat.add_lt_add_left hd3 34) (Nat.le_of_ble_eq_true rfl)) (sh_X2_realEnds d3 hd3) rfl rfl ?_
        refine am_gm (fun h8 => ?_)
        refine am_iconst g dX8_over_49 (am_il rfl) rfl ?_
        exact am_ireturn g dX8_over_50
      · refine am_bipush g dX8_over_38 (am_il rfl) (am_bi rfl) ?_
        exact am_ireturn g dX8_over_40
    · refine am_iconst g dX8_over_20 (am_il rfl) rfl ?_
      exact am_ireturn g dX8_over_21
def fX8_end (a1 : Int) (h : am_M) : Option (Int × am_M) := am_b (fX0_laidWith a1 h) (fun v1 h2 => am_on v1 10 4 (some ((-1), h2)) (fun d3 => am_b (fX8_numberOf a1 h2) (fun v4 h5 => if 0 ≤ v4 ∧ v4 < 16 then some (h5 10 (16 * d3 + Int.toNat v4), h5) else none)))
set_option maxRecDepth 10000 in
theorem cX8_endC {D : va_G} {a : Nat → ClassId} {ad : Nat → Nat} (a1 : Int) (h : am_M) : am_C (EX D a ad) yX8_end cX8_end 3 (some .int) 3 [.inr (some 0), .inl a1] h am_ei (fX8_end a1 h) := by
  refine am_ofJ (L := [some (.inr (some 0)), some (.inl a1), none]) (by decide) rfl (Nat.le_of_ble_eq_true rfl) (fun G g => ?_)
  have g : am_Gd (EX D a ad) RX8 cX8_end 3 (some .int) 3 G := g
  unfold fX8_end
  refine am_aload_n g dX8_end_0 rfl ?_
  refine am_getr (q := 0) (a := 1) g clX8 dX8_end_1 (Nat.le_of_ble_eq_true rfl) rfl (by decide) rfl (Nat.le_of_ble_eq_true rfl) lf_X8_10 ?_
  refine am_iload_n g dX8_end_4 rfl ?_
  refine am_Vr (as := [.inl a1]) (S := []) g (cX0_laidWithC a1 h) mi_X0_laidWith lm_X8_129 clX0.1 (Nat.le_of_ble_eq_true rfl) rfl dX8_end_5 rfl (by decide) (Nat.le_of_ble_eq_true rfl) rfl (fun v1 h2 => ?_)
  refine am_astore_n g dX8_end_8 (by decide) ?_
  refine am_aload_n g dX8_end_9 rfl ?_
  refine am_iononnull (b := 10) (n := 4) (Lf := fun r_ => [some (.inr (some 0)), some (.inl a1), some (.inr r_)]) (tgt := 15) g dX8_end_10 (by decide) (fun d3 hd3 => ?_) ?_
  · refine am_aload_n g dX8_end_15 rfl ?_
    refine am_getr (q := 5) (a := 34 + d3) g clX2 dX8_end_16 (Nat.lt_of_lt_of_le (Nat.add_lt_add_left hd3 10) (Nat.le_of_ble_eq_true rfl)) (sh_X2 d3 hd3) (by decide) rfl (Nat.lt_of_lt_of_le (Nat.add_lt_add_left hd3 34) (Nat.le_of_ble_eq_true rfl)) lf_X8_258 ?_
    refine am_iload_n g dX8_end_19 rfl ?_
    refine am_Si (as := [.inl a1]) (S := [.inr (some (34 + d3))]) g (cX8_numberOfC a1 h2) mi_X8_numberOf lm_X8_135 dX8_end_20 rfl (by decide) (Nat.le_of_ble_eq_true rfl) rfl (fun v4 h5 => ?_)
    refine am_iaload (ix := 16 * d3 + Int.toNat v4) (nI := 16) g dX8_end_23 (Nat.lt_of_lt_of_le (Nat.add_lt_add_left hd3 34) (Nat.le_of_ble_eq_true rfl)) (sh_X2_realEnds d3 hd3) rfl rfl ?_
    exact am_ireturn g dX8_end_24
  · refine am_iconst g dX8_end_13 (am_il rfl) rfl ?_
    exact am_ireturn g dX8_end_14
def fX8_why (a1 : Int) (a2 : Int) (h : am_M) : Option (Int × am_M) := am_b (fX6_gather 0 h) (fun _ h1 => am_b (fX6_hindrance 0 a1 a2 h1) (fun v2 h3 => some (v2, h3)))
set_option maxRecDepth 10000 in
theorem cX8_whyC {D : va_G} {a : Nat → ClassId} {ad : Nat → Nat} (a1 : Int) (a2 : Int) (h : am_M) : am_C (EX D a ad) yX8_why cX8_why 3 (some .int) 5 [.inr (some 0), .inl a1, .inl a2] h am_ei (fX8_why a1 a2 h) := by
  refine am_ofJ (L := [some (.inr (some 0)), some (.inl a1), some (.inl a2)]) (by decide) rfl (Nat.le_of_ble_eq_true rfl) (fun G g => ?_)
  have g : am_Gd (EX D a ad) RX8 cX8_why 3 (some .int) 5 G := g
  unfold fX8_why
  refine am_aload_n g dX8_why_0 rfl ?_
  refine am_getr (q := 3) (a := 64 + 0) g clX8 dX8_why_1 (Nat.le_of_ble_eq_true rfl) rfl (by decide) rfl (Nat.lt_of_lt_of_le (Nat.add_lt_add_left (show 0 < 3 by decide) 64) (Nat.le_of_ble_eq_true rfl)) lf_X8_33 ?_
  refine am_aload_n g dX8_why_4 rfl ?_
  refine am_getr (q := 0) (a := 1) g clX8 dX8_why_5 (Nat.le_of_ble_eq_true rfl) rfl (by decide) rfl (Nat.le_of_ble_eq_true rfl) lf_X8_10 ?_
  refine am_Vv (as := [.inr (some 1)]) (S := []) g (cX6_gatherC 0 (show 0 < 3 by decide) h) mi_X6_gather lm_X8_261 clX6.1 (Nat.lt_of_lt_of_le (Nat.add_lt_add_left (show 0 < 3 by decide) 64) (Nat.le_of_ble_eq_true rfl)) (sh_X6 0 (show 0 < 3 by decide)) dX8_why_8 rfl (by decide) (Nat.le_of_ble_eq_true rfl) rfl (fun _ h1 => ?_)
  refine am_aload_n g dX8_why_11 rfl ?_
  refine am_getr (q := 3) (a := 64 + 0) g clX8 dX8_why_12 (Nat.le_of_ble_eq_true rfl) rfl (by decide) rfl (Nat.lt_of_lt_of_le (Nat.add_lt_add_left (show 0 < 3 by decide) 64) (Nat.le_of_ble_eq_true rfl)) lf_X8_33 ?_
  refine am_aload_n g dX8_why_15 rfl ?_
  refine am_getr (q := 0) (a := 1) g clX8 dX8_why_16 (Nat.le_of_ble_eq_true rfl) rfl (by decide) rfl (Nat.le_of_ble_eq_true rfl) lf_X8_10 ?_
  refine am_iload_n g dX8_why_19 rfl ?_
  refine am_iload_n g dX8_why_20 rfl ?_
  refine am_Vi (as := [.inr (some 1), .inl a1, .inl a2]) (S := []) g (cX6_hindranceC 0 (show 0 < 3 by decide) a1 a2 h1) mi_X6_hindrance lm_X8_265 clX6.1 (Nat.lt_of_lt_of_le (Nat.add_lt_add_left (show 0 < 3 by decide) 64) (Nat.le_of_ble_eq_true rfl)) (sh_X6 0 (show 0 < 3 by decide)) dX8_why_21 rfl (by decide) (Nat.le_of_ble_eq_true rfl) rfl (fun v2 h3 => ?_)
  exact am_ireturn g dX8_why_24
def fX8_worth (a1 : Int) (a2 : Int) (h : am_M) : Option (Int × am_M) := am_b (fX8_isMatchCode a1 h) (fun v1 h2 => if v1 = 0 then some ((-1), h2) else if a2 < 0 then some ((-1), h2) else if a2 ≤ 999 then (if 0 ≤ a1 ∧ a1 < 64 then am_l (am_up h2 11 (Int.toNat a1) a2) (fun h3 => some (1, h3)) else none) else some ((-1), h2))
set_option maxRecDepth 10000 in
theorem cX8_worthC {D : va_G} {a : Nat → ClassId} {ad : Nat → Nat} (a1 : Int) (a2 : Int) (h : am_M) : am_C (EX D a ad) yX8_worth cX8_worth 3 (some .int) 3 [.inr (some 0), .inl a1, .inl a2] h am_ei (fX8_worth a1 a2 h) := by
  refine am_ofJ (L := [some (.inr (some 0)), some (.inl a1), some (.inl a2)]) (by decide) rfl (Nat.le_of_ble_eq_true rfl) (fun G g => ?_)
  have g : am_Gd (EX D a ad) RX8 cX8_worth 3 (some .int) 3 G := g
  unfold fX8_worth
  refine am_iload_n g dX8_worth_0 rfl ?_
  refine am_Si (as := [.inl a1]) (S := []) g (cX8_isMatchCodeC a1 h) mi_X8_isMatchCode lm_X8_232 dX8_worth_1 rfl (by decide) (Nat.le_of_ble_eq_true rfl) rfl (fun v1 h2 => ?_)
  refine am_if_eq (tgt := 18) g dX8_worth_4 (by decide) ?_ ?_
  · refine am_iconst g dX8_worth_18 (am_il rfl) rfl ?_
    exact am_ireturn g dX8_worth_19
  · refine am_iload_n g dX8_worth_7 rfl ?_
    refine am_if_lt (tgt := 18) g dX8_worth_8 (by decide) ?_ ?_
    · refine am_iconst g dX8_worth_18 (am_il rfl) rfl ?_
      exact am_ireturn g dX8_worth_19
    · refine am_iload_n g dX8_worth_11 rfl ?_
      refine am_sipush g dX8_worth_12 (am_il rfl) (am_si rfl) ?_
      refine am_icmp_le (tgt := 20) g dX8_worth_15 (by decide) ?_ ?_
      · refine am_aload_n g dX8_worth_20 rfl ?_
        refine am_getr (q := 0) (a := 1) g clX8 dX8_worth_21 (Nat.le_of_ble_eq_true rfl) rfl (by decide) rfl (Nat.le_of_ble_eq_true rfl) lf_X8_10 ?_
        refine am_getr (q := 4) (a := 6) g clX0 dX8_worth_24 (Nat.le_of_ble_eq_true rfl) rfl (by decide) rfl (Nat.le_of_ble_eq_true rfl) lf_X8_269 ?_
        refine am_iload_n g dX8_worth_27 rfl ?_
        refine am_iload_n g dX8_worth_28 rfl ?_
        refine am_iastore (ix := Int.toNat a1) (nI := 64) g dX8_worth_29 (Nat.le_of_ble_eq_true rfl) rfl rfl (Nat.zero_add _) ?_
        refine am_gm (fun h3 => ?_)
        refine am_iconst g dX8_worth_30 (am_il rfl) rfl ?_
        exact am_ireturn g dX8_worth_31
      · refine am_iconst g dX8_worth_18 (am_il rfl) rfl ?_
        exact am_ireturn g dX8_worth_19
def fX8_fitted (a1 : Int) (a2 : Int) (h : am_M) : Option (Int × am_M) := am_b (fX0_findCourt a1 h) (fun v1 h2 => am_on v1 46 6 (some ((-1), h2)) (fun d3 => am_b (fX3_matchFor a1 a2 h2) (fun v4 h5 => some (v4, h5))))
set_option maxRecDepth 10000 in
theorem cX8_fittedC {D : va_G} {a : Nat → ClassId} {ad : Nat → Nat} (a1 : Int) (a2 : Int) (h : am_M) : am_C (EX D a ad) yX8_fitted cX8_fitted 3 (some .int) 7 [.inr (some 0), .inl a1, .inl a2] h am_ei (fX8_fitted a1 a2 h) := by
  refine am_ofJ (L := [some (.inr (some 0)), some (.inl a1), some (.inl a2)]) (by decide) rfl (Nat.le_of_ble_eq_true rfl) (fun G g => ?_)
  have g : am_Gd (EX D a ad) RX8 cX8_fitted 3 (some .int) 7 G := g
  unfold fX8_fitted
  refine am_aload_n g dX8_fitted_0 rfl ?_
  refine am_getr (q := 0) (a := 1) g clX8 dX8_fitted_1 (Nat.le_of_ble_eq_true rfl) rfl (by decide) rfl (Nat.le_of_ble_eq_true rfl) lf_X8_10 ?_
  refine am_iload_n g dX8_fitted_4 rfl ?_
  refine am_Vr (as := [.inl a1]) (S := []) g (cX0_findCourtC a1 h) mi_X0_findCourt lm_X8_204 clX0.1 (Nat.le_of_ble_eq_true rfl) rfl dX8_fitted_5 rfl (by decide) (Nat.le_of_ble_eq_true rfl) rfl (fun v1 h2 => ?_)
  refine am_iononnull (b := 46) (n := 6) (Lf := fun r_ => [some (.inr (some 0)), some (.inl a1), some (.inl a2)]) (tgt := 13) g dX8_fitted_8 (by decide) (fun d3 hd3 => ?_) ?_
  · refine am_aload_n g dX8_fitted_13 rfl ?_
    refine am_getr (q := 5) (a := 77) g clX8 dX8_fitted_14 (Nat.le_of_ble_eq_true rfl) rfl (by decide) rfl (Nat.le_of_ble_eq_true rfl) lf_X8_47 ?_
    refine am_aload_n g dX8_fitted_17 rfl ?_
    refine am_getr (q := 0) (a := 1) g clX8 dX8_fitted_18 (Nat.le_of_ble_eq_true rfl) rfl (by decide) rfl (Nat.le_of_ble_eq_true rfl) lf_X8_10 ?_
    refine am_iload_n g dX8_fitted_21 rfl ?_
    refine am_iload_n g dX8_fitted_22 rfl ?_
    refine am_Vi (as := [.inr (some 1), .inl a1, .inl a2]) (S := []) g (cX3_matchForC a1 a2 h2) mi_X3_matchFor lm_X8_272 clX3.1 (Nat.le_of_ble_eq_true rfl) rfl dX8_fitted_23 rfl (by decide) (Nat.le_of_ble_eq_true rfl) rfl (fun v4 h5 => ?_)
    exact am_ireturn g dX8_fitted_26
  · refine am_iconst g dX8_fitted_11 (am_il rfl) rfl ?_
    exact am_ireturn g dX8_fitted_12
