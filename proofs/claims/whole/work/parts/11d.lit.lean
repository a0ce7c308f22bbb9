def fX9_undo (a1 : Int) (h : am_M) : Option (Int × am_M) := am_b (fX9_isMatch a1 h) (fun v1 h2 => if v1 = 0 then some ((-1), h2) else if 0 ≤ a1 ∧ a1 < 64 then if (h2 24 (Int.toNat a1)) = 0 then some ((-6), h2) else am_b (fX9_isLater a1 h2) (fun v3 h4 => if v3 = 0 then (if 0 ≤ a1 ∧ a1 < 64 then am_l (am_up h4 24 (Int.toNat a1) 0) (fun h5 => if 0 ≤ a1 ∧ a1 < 64 then am_l (am_up h5 10 (Int.toNat a1) (-1)) (fun h6 => some (1, h6)) else none) else none) else some ((-7), h4)) else none)
set_option maxRecDepth 10000 in
theorem cX9_undoC {D : va_G} {a : Nat → ClassId} {ad : Nat → Nat} (a1 : Int) (h : am_M) : am_C (EM D a ad) yX9_undo cX9_undo 2 (some .int) 42 [.inr (some 0), .inl a1] h am_ei (fX9_undo a1 h) := by
  refine am_ofJ (L := [some (.inr (some 0)), some (.inl a1)]) (by decide) rfl (Nat.le_of_ble_eq_true rfl) (fun G g => ?_)
  have g : am_Gd (EM D a ad) RX9 cX9_undo 2 (some .int) 42 G := g
  unfold fX9_undo
  refine am_aload_n g dX9_undo_0 rfl ?_
  refine am_iload_n g dX9_undo_1 rfl ?_
  refine am_Vi (as := [.inl a1]) (S := []) g (cX9_isMatchC a1 h) mi_X9_isMatch lm_X9_191 clX9.1 (Nat.le_of_ble_eq_true rfl) rfl dX9_undo_2 rfl (by decide) (Nat.le_of_ble_eq_true rfl) rfl (fun v1 h2 => ?_)
  refine am_if_ne (tgt := 10) g dX9_undo_5 (by decide) ?_ ?_
  · refine am_aload_n g dX9_undo_10 rfl ?_
    refine am_getr (q := 11) (a := 12) g clX9 dX9_undo_11 (Nat.le_of_ble_eq_true rfl) rfl (by decide) rfl (Nat.le_of_ble_eq_true rfl) lf_X9_45 ?_
    refine am_iload_n g dX9_undo_14 rfl ?_
    refine am_iaload (ix := Int.toNat a1) (nI := 64) g dX9_undo_15 (Nat.le_of_ble_eq_true rfl) rfl rfl (Nat.zero_add _) ?_
    refine am_if_ne (tgt := 22) g dX9_undo_16 (by decide) ?_ ?_
    · refine am_aload_n g dX9_undo_22 rfl ?_
      refine am_iload_n g dX9_undo_23 rfl ?_
      refine am_Vi (as := [.inl a1]) (S := []) g (cX9_isLaterC a1 h2) mi_X9_isLater lm_X9_220 clX9.1 (Nat.le_of_ble_eq_true rfl) rfl dX9_undo_24 rfl (by decide) (Nat.le_of_ble_eq_true rfl) rfl (fun v3 h4 => ?_)
      refine am_if_eq (tgt := 33) g dX9_undo_27 (by decide) ?_ ?_
      · refine am_aload_n g dX9_undo_33 rfl ?_
        refine am_getr (q := 11) (a := 12) g clX9 dX9_undo_34 (Nat.le_of_ble_eq_true rfl) rfl (by decide) rfl (Nat.le_of_ble_eq_true rfl) lf_X9_45 ?_
        refine am_iload_n g dX9_undo_37 rfl ?_
        refine am_iconst g dX9_undo_38 (am_il rfl) rfl ?_
        refine am_iastore (ix := Int.toNat a1) (nI := 64) g dX9_undo_39 (Nat.le_of_ble_eq_true rfl) rfl rfl (Nat.zero_add _) ?_
        refine am_gm (fun h5 => ?_)
        refine am_aload_n g dX9_undo_40 rfl ?_
        refine am_getr (q := 13) (a := 14) g clX9 dX9_undo_41 (Nat.le_of_ble_eq_true rfl) rfl (by decide) rfl (Nat.le_of_ble_eq_true rfl) lf_X9_51 ?_
        refine am_iload_n g dX9_undo_44 rfl ?_
        refine am_iconst g dX9_undo_45 (am_il rfl) rfl ?_
        refine am_iastore (ix := Int.toNat a1) (nI := 64) g dX9_undo_46 (Nat.le_of_ble_eq_true rfl) rfl rfl (Nat.zero_add _) ?_
        refine am_gm (fun h6 => ?_)
        refine am_iconst g dX9_undo_47 (am_il rfl) rfl ?_
        exact am_ireturn g dX9_undo_48
      · refine am_bipush g dX9_undo_30 (am_il rfl) (am_bi rfl) ?_
        exact am_ireturn g dX9_undo_32
    · refine am_bipush g dX9_undo_19 (am_il rfl) (am_bi rfl) ?_
      exact am_ireturn g dX9_undo_21
  · refine am_iconst g dX9_undo_8 (am_il rfl) rfl ?_
    exact am_ireturn g dX9_undo_9
def fX9_serves (h : am_M) : Option (Int × am_M) := am_l (Int.tmod (h 38 0) 2) (fun x1 => if (h 35 0) = 6 then (if (h 35 1) = 6 then (am_l (am_w ((h 34 0) + (h 34 1))) (fun x2 => if (Int.tmod (am_w (Int.tdiv (am_w (x2 + 1)) 2)) 2) = 0 then some (x1, h) else some (am_w (1 - x1), h))) else some (x1, h)) else some (x1, h))
set_option maxRecDepth 10000 in
theorem cX9_servesC {D : va_G} {a : Nat → ClassId} {ad : Nat → Nat}  (h : am_M) : am_C (EM D a ad) yX9_serves cX9_serves 3 (some .int) 1 [.inr (some 0)] h am_ei (fX9_serves h) := by
  refine am_ofJ (L := [some (.inr (some 0)), none, none]) (by decide) rfl (Nat.le_of_ble_eq_true rfl) (fun G g => ?_)
  have g : am_Gd (EM D a ad) RX9 cX9_serves 3 (some .int) 1 G := g
  unfold fX9_serves
  refine am_aload_n g dX9_serves_0 rfl ?_
  refine am_geti (q := 30) (kd := 38) (ix := 0) g clX9 dX9_serves_1 (Nat.le_of_ble_eq_true rfl) rfl (by decide) rfl lf_X9_202 ?_
  refine am_iconst g dX9_serves_4 (am_il rfl) rfl ?_
  refine am_irem g dX9_serves_5 (by decide) ?_
  refine am_gv (fun x1 => ?_)
  refine am_istore_n g dX9_serves_6 (by decide) ?_
  refine am_aload_n g dX9_serves_7 rfl ?_
  refine am_getr (q := 26) (a := 25) g clX9 dX9_serves_8 (Nat.le_of_ble_eq_true rfl) rfl (by decide) rfl (Nat.le_of_ble_eq_true rfl) lf_X9_84 ?_
  refine am_iconst g dX9_serves_11 (am_il rfl) rfl ?_
  refine am_ialoadC (ix := 0) (nI := 2) g dX9_serves_12 (Nat.le_of_ble_eq_true rfl) rfl rfl rfl rfl ?_
  refine am_bipush g dX9_serves_13 (am_il rfl) (am_bi rfl) ?_
  refine am_icmp_ne (tgt := 29) g dX9_serves_15 (by decide) ?_ ?_
  · refine am_iload_n g dX9_serves_29 rfl ?_
    exact am_ireturn g dX9_serves_30
  · refine am_aload_n g dX9_serves_18 rfl ?_
    refine am_getr (q := 26) (a := 25) g clX9 dX9_serves_19 (Nat.le_of_ble_eq_true rfl) rfl (by decide) rfl (Nat.le_of_ble_eq_true rfl) lf_X9_84 ?_
    refine am_iconst g dX9_serves_22 (am_il rfl) rfl ?_
    refine am_ialoadC (ix := 1) (nI := 2) g dX9_serves_23 (Nat.le_of_ble_eq_true rfl) rfl rfl rfl rfl ?_
    refine am_bipush g dX9_serves_24 (am_il rfl) (am_bi rfl) ?_
    refine am_icmp_eq (tgt := 31) g dX9_serves_26 (by decide) ?_ ?_
    · refine am_aload_n g dX9_serves_31 rfl ?_
      refine am_getr (q := 25) (a := 24) g clX9 dX9_serves_32 (Nat.le_of_ble_eq_true rfl) rfl (by decide) rfl (Nat.le_of_ble_eq_true rfl) lf_X9_81 ?_
      refine am_iconst g dX9_serves_35 (am_il rfl) rfl ?_
      refine am_ialoadC (ix := 0) (nI := 2) g dX9_serves_36 (Nat.le_of_ble_eq_true rfl) rfl rfl rfl rfl ?_
      refine am_aload_n g dX9_serves_37 rfl ?_
      refine am_getr (q := 25) (a := 24) g clX9 dX9_serves_38 (Nat.le_of_ble_eq_true rfl) rfl (by decide) rfl (Nat.le_of_ble_eq_true rfl) lf_X9_81 ?_
      refine am_iconst g dX9_serves_41 (am_il rfl) rfl ?_
      refine am_ialoadC (ix := 1) (nI := 2) g dX9_serves_42 (Nat.le_of_ble_eq_true rfl) rfl rfl rfl rfl ?_
      refine am_iadd g dX9_serves_43 ?_
      refine am_gv (fun x2 => ?_)
      refine am_istore_n g dX9_serves_44 (by decide) ?_
      refine am_iload_n g dX9_serves_45 rfl ?_
      refine am_iconst g dX9_serves_46 (am_il rfl) rfl ?_
      refine am_iadd g dX9_serves_47 ?_
      refine am_iconst g dX9_serves_48 (am_il rfl) rfl ?_
      refine am_idiv g dX9_serves_49 (by decide) ?_
      refine am_iconst g dX9_serves_50 (am_il rfl) rfl ?_
      refine am_irem g dX9_serves_51 (by decide) ?_
      refine am_if_ne (tgt := 59) g dX9_serves_52 (by decide) ?_ ?_
      · refine am_iconst g dX9_serves_59 (am_il rfl) rfl ?_
        refine am_iload_n g dX9_serves_60 rfl ?_
        refine am_isub g dX9_serves_61 ?_
        exact am_ireturn g dX9_serves_62
      · refine am_iload_n g dX9_serves_55 rfl ?_
        refine am_goto (tgt := 62) g dX9_serves_56 (by decide) ?_
        exact am_ireturn g dX9_serves_62
    · refine am_iload_n g dX9_serves_29 rfl ?_
      exact am_ireturn g dX9_serves_30
def fX9_score (a1 : Int) (a2 : Int) (h : am_M) : Option (Int × am_M) := am_b (fX9_isMatch a1 h) (fun v1 h2 => if v1 = 0 then some ((-1), h2) else if 0 ≤ a1 ∧ a1 < 64 then am_b (fX9_replay a1 (h2 9 (Int.toNat a1)) h2) (fun _ h3 => if a2 = 0 then (if 0 ≤ a2 ∧ a2 < 2 then some (h3 34 (Int.toNat a2), h3) else none) else if a2 = 1 then (if 0 ≤ a2 ∧ a2 < 2 then some (h3 34 (Int.toNat a2), h3) else none) else if a2 = 2 then (if 0 ≤ (am_w (a2 - 2)) ∧ (am_w (a2 - 2)) < 2 then some (h3 35 (Int.toNat (am_w (a2 - 2))), h3) else none) else if a2 = 3 then (if 0 ≤ (am_w (a2 - 2)) ∧ (am_w (a2 - 2)) < 2 then some (h3 35 (Int.toNat (am_w (a2 - 2))), h3) else none) else if a2 = 4 then (if 0 ≤ (am_w (a2 - 4)) ∧ (am_w (a2 - 4)) < 2 then some (h3 36 (Int.toNat (am_w (a2 - 4))), h3) else none) else if a2 = 5 then (if 0 ≤ (am_w (a2 - 4)) ∧ (am_w (a2 - 4)) < 2 then some (h3 36 (Int.toNat (am_w (a2 - 4))), h3) else none) else if a2 = 6 then am_b (fX9_serves h3) (fun v11 h12 => some (v11, h12)) else if a2 = 7 then some (h3 40 0, h3) else if a2 = 8 then (if 0 ≤ a1 ∧ a1 < 64 then some (h3 9 (Int.toNat a1), h3) else none) else if a2 = 9 then (if 0 ≤ (am_w (Int.tdiv a1 16)) ∧ (am_w (Int.tdiv a1 16)) < 4 then some (h3 2 (Int.toNat (am_w (Int.tdiv a1 16))), h3) else none) else some ((-1), h3)) else none)
set_option maxRecDepth 10000 in
theorem cX9_scoreC {D : va_G} {a : Nat → ClassId} {ad : Nat → Nat} (a1 : Int) (a2 : Int) (h : am_M) : am_C (EM D a ad) yX9_score cX9_score 3 (some .int) 4 [.inr (some 0), .inl a1, .inl a2] h am_ei (fX9_score a1 a2 h) := by
  refine am_ofJ (L := [some (.inr (some 0)), some (.inl a1), some (.inl a2)]) (by decide) rfl (Nat.le_of_ble_eq_true rfl) (fun G g => ?_)
  have g : am_Gd (EM D a ad) RX9 cX9_score 3 (some .int) 4 G := g
  unfold fX9_score
  refine am_aload_n g dX9_score_0 rfl ?_
  refine am_iload_n g dX9_score_1 rfl ?_
  refine am_Vi (as := [.inl a1]) (S := []) g (cX9_isMatchC a1 h) mi_X9_isMatch lm_X9_191 clX9.1 (Nat.le_of_ble_eq_true rfl) rfl dX9_score_2 rfl (by decide) (Nat.le_of_ble_eq_true rfl) rfl (fun v1 h2 => ?_)
  refine am_if_ne (tgt := 10) g dX9_score_5 (by decide) ?_ ?_
  · refine am_aload_n g dX9_score_10 rfl ?_
    refine am_iload_n g dX9_score_11 rfl ?_
    refine am_aload_n g dX9_score_12 rfl ?_
    refine am_getr (q := 9) (a := 10) g clX9 dX9_score_13 (Nat.le_of_ble_eq_true rfl) rfl (by decide) rfl (Nat.le_of_ble_eq_true rfl) lf_X9_38 ?_
    refine am_iload_n g dX9_score_16 rfl ?_
    refine am_iaload (ix := Int.toNat a1) (nI := 64) g dX9_score_17 (Nat.le_of_ble_eq_true rfl) rfl rfl (Nat.zero_add _) ?_
    refine am_Vv (as := [.inl a1, .inl (h2 9 (Int.toNat a1))]) (S := []) g (cX9_replayC a1 (h2 9 (Int.toNat a1)) h2) mi_X9_replay lm_X9_188 clX9.1 (Nat.le_of_ble_eq_true rfl) rfl dX9_score_18 rfl (by decide) (Nat.le_of_ble_eq_true rfl) rfl (fun _ h3 => ?_)
    refine am_iload_n g dX9_score_21 rfl ?_
    refine am_if (c := a2 = 0) (fun c4 => ?_) (fun c4 => ?_)
    · refine am_swIn (tgt := 76) g dX9_score_22 (by omega) (by omega) (by rw [c4]; rfl) (by decide) ?_
      refine am_aload_n g dX9_score_76 rfl ?_
      refine am_getr (q := 25) (a := 24) g clX9 dX9_score_77 (Nat.le_of_ble_eq_true rfl) rfl (by decide) rfl (Nat.le_of_ble_eq_true rfl) lf_X9_81 ?_
      refine am_iload_n g dX9_score_80 rfl ?_
      refine am_iaload (ix := Int.toNat a2) (nI := 2) g dX9_score_81 (Nat.le_of_ble_eq_true rfl) rfl rfl (Nat.zero_add _) ?_
      exact am_ireturn g dX9_score_82
    refine am_if (c := a2 = 1) (fun c5 => ?_) (fun c5 => ?_)
    · refine am_swIn (tgt := 76) g dX9_score_22 (by omega) (by omega) (by rw [c5]; rfl) (by decide) ?_
      refine am_aload_n g dX9_score_76 rfl ?_
      refine am_getr (q := 25) (a := 24) g clX9 dX9_score_77 (Nat.le_of_ble_eq_true rfl) rfl (by decide) rfl (Nat.le_of_ble_eq_true rfl) lf_X9_81 ?_
      refine am_iload_n g dX9_score_80 rfl ?_
      refine am_iaload (ix := Int.toNat a2) (nI := 2) g dX9_score_81 (Nat.le_of_ble_eq_true rfl) rfl rfl (Nat.zero_add _) ?_
      exact am_ireturn g dX9_score_82
    refine am_if (c := a2 = 2) (fun c6 => ?_) (fun c6 => ?_)
    · refine am_swIn (tgt := 83) g dX9_score_22 (by omega) (by omega) (by rw [c6]; rfl) (by decide) ?_
      refine am_aload_n g dX9_score_83 rfl ?_
      refine am_getr (q := 26) (a := 25) g clX9 dX9_score_84 (Nat.le_of_ble_eq_true rfl) rfl (by decide) rfl (Nat.le_of_ble_eq_true rfl) lf_X9_84 ?_
      refine am_iload_n g dX9_score_87 rfl ?_
      refine am_iconst g dX9_score_88 (am_il rfl) rfl ?_
      refine am_isub g dX9_score_89 ?_
      refine am_iaload (ix := Int.toNat (am_w (a2 - 2))) (nI := 2) g dX9_score_90 (Nat.le_of_ble_eq_true rfl) rfl rfl (Nat.zero_add _) ?_
      exact am_ireturn g dX9_score_91
    refine am_if (c := a2 = 3) (fun c7 => ?_) (fun c7 => ?_)
    · refine am_swIn (tgt := 83) g dX9_score_22 (by omega) (by omega) (by rw [c7]; rfl) (by decide) ?_
      refine am_aload_n g dX9_score_83 rfl ?_
      refine am_getr (q := 26) (a := 25) g clX9 dX9_score_84 (Nat.le_of_ble_eq_true rfl) rfl (by decide) rfl (Nat.le_of_ble_eq_true rfl) lf_X9_84 ?_
      refine am_iload_n g dX9_score_87 rfl ?_
      refine am_iconst g dX9_score_88 (am_il rfl) rfl ?_
      refine am_isub g dX9_score_89 ?_
      refine am_iaload (ix := Int.toNat (am_w (a2 - 2))) (nI := 2) g dX9_score_90 (Nat.le_of_ble_eq_true rfl) rfl rfl (Nat.zero_add _) ?_
      exact am_ireturn g dX9_score_91
    refine am_if (c := a2 = 4) (fun c8 => ?_) (fun c8 => ?_)
    · refine am_swIn (tgt := 92) g dX9_score_22 (by omega) (by omega) (by rw [c8]; rfl) (by decide) ?_
      refine am_aload_n g dX9_score_92 rfl ?_
      refine am_getr (q := 27) (a := 26) g clX9 dX9_score_93 (Nat.le_of_ble_eq_true rfl) rfl (by decide) rfl (Nat.le_of_ble_eq_true rfl) lf_X9_87 ?_
      refine am_iload_n g dX9_score_96 rfl ?_
      refine am_iconst g dX9_score_97 (am_il rfl) rfl ?_
      refine am_isub g dX9_score_98 ?_
      refine am_iaload (ix := Int.toNat (am_w (a2 - 4))) (nI := 2) g dX9_score_99 (Nat.le_of_ble_eq_true rfl) rfl rfl (Nat.zero_add _) ?_
      exact am_ireturn g dX9_score_100
    refine am_if (c := a2 = 5) (fun c9 => ?_) (fun c9 => ?_)
    · refine am_swIn (tgt := 92) g dX9_score_22 (by omega) (by omega) (by rw [c9]; rfl) (by decide) ?_
      refine am_aload_n g dX9_score_92 rfl ?_
      refine am_getr (q := 27) (a := 26) g clX9 dX9_score_93 (Nat.le_of_ble_eq_true rfl) rfl (by decide) rfl (Nat.le_of_ble_eq_true rfl) lf_X9_87 ?_
      refine am_iload_n g dX9_score_96 rfl ?_
      refine am_iconst g dX9_score_97 (am_il rfl) rfl ?_
      refine am_isub g dX9_score_98 ?_
      refine am_iaload (ix := Int.toNat (am_w (a2 - 4))) (nI := 2) g dX9_score_99 (Nat.le_of_ble_eq_true rfl) rfl rfl (Nat.zero_add _) ?_
      exact am_ireturn g dX9_score_100
    refine am_if (c := a2 = 6) (fun c10 => ?_) (fun c10 => ?_)
    · refine am_swIn (tgt := 101) g dX9_score_22 (by omega) (by omega) (by rw [c10]; rfl) (by decide) ?_
      refine am_aload_n g dX9_score_101 rfl ?_
      refine am_Vi (as := []) (S := []) g (cX9_servesC h3) mi_X9_serves lm_X9_226 clX9.1 (Nat.le_of_ble_eq_true rfl) rfl dX9_score_102 rfl (by decide) (Nat.le_of_ble_eq_true rfl) rfl (fun v11 h12 => ?_)
      exact am_ireturn g dX9_score_105
    refine am_if (c := a2 = 7) (fun c13 => ?_) (fun c13 => ?_)
    · refine am_swIn (tgt := 106) g dX9_score_22 (by omega) (by omega) (by rw [c13]; rfl) (by decide) ?_
      refine am_aload_n g dX9_score_106 rfl ?_
      refine am_geti (q := 31) (kd := 40) (ix := 0) g clX9 dX9_score_107 (Nat.le_of_ble_eq_true rfl) rfl (by decide) rfl lf_X9_205 ?_
      exact am_ireturn g dX9_score_110
    refine am_if (c := a2 = 8) (fun c14 => ?_) (fun c14 => ?_)
    · refine am_swIn (tgt := 111) g dX9_score_22 (by omega) (by omega) (by rw [c14]; rfl) (by decide) ?_
      refine am_aload_n g dX9_score_111 rfl ?_
      refine am_getr (q := 9) (a := 10) g clX9 dX9_score_112 (Nat.le_of_ble_eq_true rfl) rfl (by decide) rfl (Nat.le_of_ble_eq_true rfl) lf_X9_38 ?_
      refine am_iload_n g dX9_score_115 rfl ?_
      refine am_iaload (ix := Int.toNat a1) (nI := 64) g dX9_score_116 (Nat.le_of_ble_eq_true rfl) rfl rfl (Nat.zero_add _) ?_
      exact am_ireturn g dX9_score_117
    refine am_if (c := a2 = 9) (fun c15 => ?_) (fun c15 => ?_)
    · refine am_swIn (tgt := 118) g dX9_score_22 (by omega) (by omega) (by rw [c15]; rfl) (by decide) ?_
      refine am_aload_n g dX9_score_118 rfl ?_
      refine am_getr (q := 2) (a := 3) g clX9 dX9_score_119 (Nat.le_of_ble_eq_true rfl) rfl (by decide) rfl (Nat.le_of_ble_eq_true rfl) lf_X9_16 ?_
      refine am_iload_n g dX9_score_122 rfl ?_
      refine am_bipush g dX9_score_123 (am_il rfl) (am_bi rfl) ?_
      refine am_idiv g dX9_score_125 (by decide) ?_
      refine am_iaload (ix := Int.toNat (am_w (Int.tdiv a1 16))) (nI := 4) g dX9_score_126 (Nat.le_of_ble_eq_true rfl) rfl rfl (Nat.zero_add _) ?_
      exact am_ireturn g dX9_score_127
    refine am_swOut (tgt := 128) g dX9_score_22 (by omega) (by decide) ?_
    refine am_iconst g dX9_score_128 (am_il rfl) rfl ?_
    exact am_ireturn g dX9_score_129
  · refine am_iconst g dX9_score_8 (am_il rfl) rfl ?_
    exact am_ireturn g dX9_score_9
def fX9_games_66 (K71 : Int → Int → Int → am_M → Option (Int × am_M)) (l2 : Int) (l3 : Int) (h : am_M) : Option (Int × am_M) := K71 l2 l3 1 h
set_option maxRecDepth 10000 in
theorem jX9_games_66 {D : va_G} {a : Nat → ClassId} {ad : Nat → Nat} {G : am_G} (g : am_Gd (EM D a ad) RX9 cX9_games 5 (some .int) 4 G) {K71 : Int → Int → Int → am_M → Option (Int × am_M)} (hK71 : ∀ (l2 : Int), ∀ (l3 : Int), ∀ (s0 : Int), ∀ h : am_M, am_J (EM D a ad) G 5 am_ei 71 [some (.inr (some 0)), none, some (.inl l2), some (.inl l3), none] [.inl s0] h (K71 l2 l3 s0 h)) : ∀ (l2 : Int), ∀ (l3 : Int), ∀ h : am_M, am_J (EM D a ad) G 5 am_ei 66 [some (.inr (some 0)), none, some (.inl l2), some (.inl l3), none] [] h (fX9_games_66 K71 l2 l3 h) := by
  intro l2 l3 h
  unfold fX9_games_66
  refine am_iconst g dX9_games_66 (am_il rfl) rfl ?_
  refine am_goto (tgt := 71) g dX9_games_67 (by decide) ?_
  exact hK71 l2 l3 1 h
def fX9_games_71 (l2 : Int) (l3 : Int) (s0 : Int) (h : am_M) : Option (Int × am_M) := am_b (fX9_in l2 0 (am_w ((h 39 0) - 1)) h) (fun v6 h7 => if v6 = 0 then (if l2 = (h7 39 0) then (if s0 = 0 then (if 0 ≤ l3 ∧ l3 < 2 then some (h7 35 (Int.toNat l3), h7) else none) else some ((-1), h7)) else some ((-1), h7)) else if 0 ≤ (am_w ((am_w (2 * l2)) + l3)) ∧ (am_w ((am_w (2 * l2)) + l3)) < 10 then some (h7 37 (Int.toNat (am_w ((am_w (2 * l2)) + l3))), h7) else none)
set_option maxRecDepth 10000 in
theorem jX9_games_71 {D : va_G} {a : Nat → ClassId} {ad : Nat → Nat} {G : am_G} (g : am_Gd (EM D a ad) RX9 cX9_games 5 (some .int) 4 G) : ∀ (l2 : Int), ∀ (l3 : Int), ∀ (s0 : Int), ∀ h : am_M, am_J (EM D a ad) G 5 am_ei 71 [some (.inr (some 0)), none, some (.inl l2), some (.inl l3), none] [.inl s0] h (fX9_games_71 l2 l3 s0 h) := by
  intro l2 l3 s0 h
  unfold fX9_games_71
  refine am_istore g dX9_games_71 (by decide) ?_
  refine am_iload_n g dX9_games_73 rfl ?_
  refine am_iconst g dX9_games_74 (am_il rfl) rfl ?_
  refine am_aload_n g dX9_games_75 rfl ?_
  refine am_geti (q := 29) (kd := 39) (ix := 0) g clX9 dX9_games_76 (Nat.le_of_ble_eq_true rfl) rfl (by decide) rfl lf_X9_199 ?_
  refine am_iconst g dX9_games_79 (am_il rfl) rfl ?_
  refine am_isub g dX9_games_80 ?_
  refine am_Si (as := [.inl l2, .inl 0, .inl (am_w ((h 39 0) - 1))]) (S := []) g (cX9_inC l2 0 (am_w ((h 39 0) - 1)) h) mi_X9_in lm_X9_111 dX9_games_81 rfl (by decide) (Nat.le_of_ble_eq_true rfl) rfl (fun v6 h7 => ?_)
  refine am_if_eq (tgt := 98) g dX9_games_84 (by decide) ?_ ?_
  · refine am_iload_n g dX9_games_98 rfl ?_
    refine am_aload_n g dX9_games_99 rfl ?_
    refine am_geti (q := 29) (kd := 39) (ix := 0) g clX9 dX9_games_100 (Nat.le_of_ble_eq_true rfl) rfl (by decide) rfl lf_X9_199 ?_
    refine am_icmp_ne (tgt := 120) g dX9_games_103 (by decide) ?_ ?_
    · refine am_iconst g dX9_games_120 (am_il rfl) rfl ?_
      exact am_ireturn g dX9_games_121
    · refine am_iload g dX9_games_106 rfl ?_
      refine am_if_ne (tgt := 120) g dX9_games_108 (by decide) ?_ ?_
      · refine am_iconst g dX9_games_120 (am_il rfl) rfl ?_
        exact am_ireturn g dX9_games_121
      · refine am_aload_n g dX9_games_111 rfl ?_
        refine am_getr (q := 26) (a := 25) g clX9 dX9_games_112 (Nat.le_of_ble_eq_true rfl) rfl (by decide) rfl (Nat.le_of_ble_eq_true rfl) lf_X9_84 ?_
        refine am_iload_n g dX9_games_115 rfl ?_
        refine am_iaload (ix := Int.toNat l3) (nI := 2) g dX9_games_116 (Nat.le_of_ble_eq_true rfl) rfl rfl (Nat.zero_add _) ?_
        refine am_goto (tgt := 121) g dX9_games_117 (by decide) ?_
        exact am_ireturn g dX9_games_121
  · refine am_aload_n g dX9_games_87 rfl ?_
    refine am_getr (q := 28) (a := 27) g clX9 dX9_games_88 (Nat.le_of_ble_eq_true rfl) rfl (by decide) rfl (Nat.le_of_ble_eq_true rfl) lf_X9_90 ?_
    refine am_iconst g dX9_games_91 (am_il rfl) rfl ?_
    refine am_iload_n g dX9_games_92 rfl ?_
    refine am_imul g dX9_games_93 ?_
    refine am_iload_n g dX9_games_94 rfl ?_
    refine am_iadd g dX9_games_95 ?_
    refine am_iaload (ix := Int.toNat (am_w ((am_w (2 * l2)) + l3))) (nI := 10) g dX9_games_96 (Nat.le_of_ble_eq_true rfl) rfl rfl (Nat.zero_add _) ?_
    exact am_ireturn g dX9_games_97
def fX9_games (a1 : Int) (a2 : Int) (a3 : Int) (h : am_M) : Option (Int × am_M) := am_b (fX9_isMatch a1 h) (fun v1 h2 => if v1 = 0 then some ((-1), h2) else am_b (fX9_in a3 0 1 h2) (fun v3 h4 => if v3 = 0 then some ((-1), h4) else if 0 ≤ a1 ∧ a1 < 64 then am_b (fX9_replay a1 (h4 9 (Int.toNat a1)) h4) (fun _ h5 => if 0 ≤ (am_w (Int.tdiv a1 16)) ∧ (am_w (Int.tdiv a1 16)) < 4 then if (h5 36 0) = (h5 2 (Int.toNat (am_w (Int.tdiv a1 16)))) then (fX9_games_66 fX9_games_71) a2 a3 h5 else if 0 ≤ (am_w (Int.tdiv a1 16)) ∧ (am_w (Int.tdiv a1 16)) < 4 then if (h5 36 1) = (h5 2 (Int.toNat (am_w (Int.tdiv a1 16)))) then (fX9_games_66 fX9_games_71) a2 a3 h5 else fX9_games_71 a2 a3 0 h5 else none else none) else none))
set_option maxRecDepth 10000 in
theorem cX9_gamesC {D : va_G} {a : Nat → ClassId} {ad : Nat → Nat} (a1 : Int) (a2 : Int) (a3 : Int) (h : am_M) : am_C (EM D a ad) yX9_games cX9_games 5 (some .int) 4 [.inr (some 0), .inl a1, .inl a2, .inl a3] h am_ei (fX9_games a1 a2 a3 h) := by
  refine am_ofJ (L := [some (.inr (some 0)), some (.inl a1), some (.inl a2), some (.inl a3), none]) (by decide) rfl (Nat.le_of_ble_eq_true rfl) (fun G g => ?_)
  have g : am_Gd (EM D a ad) RX9 cX9_games 5 (some .int) 4 G := g
  unfold fX9_games
  refine am_aload_n g dX9_games_0 rfl ?_
  refine am_iload_n g dX9_games_1 rfl ?_
  refine am_Vi (as := [.inl a1]) (S := []) g (cX9_isMatchC a1 h) mi_X9_isMatch lm_X9_191 clX9.1 (Nat.le_of_ble_eq_true rfl) rfl dX9_games_2 rfl (by decide) (Nat.le_of_ble_eq_true rfl) rfl (fun v1 h2 => ?_)
  refine am_if_eq (tgt := 17) g dX9_games_5 (by decide) ?_ ?_
  · refine am_iconst g dX9_games_17 (am_il rfl) rfl ?_
    exact am_ireturn g dX9_games_18
  · refine am_iload_n g dX9_games_8 rfl ?_
    refine am_iconst g dX9_games_9 (am_il rfl) rfl ?_
    refine am_iconst g dX9_games_10 (am_il rfl) rfl ?_
    refine am_Si (as := [.inl a3, .inl 0, .inl 1]) (S := []) g (cX9_inC a3 0 1 h2) mi_X9_in lm_X9_111 dX9_games_11 rfl (by decide) (Nat.le_of_ble_eq_true rfl) rfl (fun v3 h4 => ?_)
    refine am_if_ne (tgt := 19) g dX9_games_14 (by decide) ?_ ?_
    · refine am_aload_n g dX9_games_19 rfl ?_
      refine am_iload_n g dX9_games_20 rfl ?_
      refine am_aload_n g dX9_games_21 rfl ?_
      refine am_getr (q := 9) (a := 10) g clX9 dX9_games_22 (Nat.le_of_ble_eq_true rfl) rfl (by decide) rfl (Nat.le_of_ble_eq_true rfl) lf_X9_38 ?_
      refine am_iload_n g dX9_games_25 rfl ?_
      refine am_iaload (ix := Int.toNat a1) (nI := 64) g dX9_games_26 (Nat.le_of_ble_eq_true rfl) rfl rfl (Nat.zero_add _) ?_
      refine am_Vv (as := [.inl a1, .inl (h4 9 (Int.toNat a1))]) (S := []) g (cX9_replayC a1 (h4 9 (Int.toNat a1)) h4) mi_X9_replay lm_X9_188 clX9.1 (Nat.le_of_ble_eq_true rfl) rfl dX9_games_27 rfl (by decide) (Nat.le_of_ble_eq_true rfl) rfl (fun _ h5 => ?_)
      refine am_aload_n g dX9_games_30 rfl ?_
      refine am_getr (q := 27) (a := 26) g clX9 dX9_games_31 (Nat.le_of_ble_eq_true rfl) rfl (by decide) rfl (Nat.le_of_ble_eq_true rfl) lf_X9_87 ?_
      refine am_iconst g dX9_games_34 (am_il rfl) rfl ?_
      refine am_ialoadC (ix := 0) (nI := 2) g dX9_games_35 (Nat.le_of_ble_eq_true rfl) rfl rfl rfl rfl ?_
      refine am_aload_n g dX9_games_36 rfl ?_
      refine am_getr (q := 2) (a := 3) g clX9 dX9_games_37 (Nat.le_of_ble_eq_true rfl) rfl (by decide) rfl (Nat.le_of_ble_eq_true rfl) lf_X9_16 ?_
      refine am_iload_n g dX9_games_40 rfl ?_
      refine am_bipush g dX9_games_41 (am_il rfl) (am_bi rfl) ?_
      refine am_idiv g dX9_games_43 (by decide) ?_
      refine am_iaload (ix := Int.toNat (am_w (Int.tdiv a1 16))) (nI := 4) g dX9_games_44 (Nat.le_of_ble_eq_true rfl) rfl rfl (Nat.zero_add _) ?_
      refine am_icmp_eq (tgt := 66) g dX9_games_45 (by decide) ?_ ?_
      · refine am_drop 1 ?_
        exact (jX9_games_66 g (jX9_games_71 g)) a2 a3 h5
      · refine am_aload_n g dX9_games_48 rfl ?_
        refine am_getr (q := 27) (a := 26) g clX9 dX9_games_49 (Nat.le_of_ble_eq_true rfl) rfl (by decide) rfl (Nat.le_of_ble_eq_true rfl) lf_X9_87 ?_
        refine am_iconst g dX9_games_52 (am_il rfl) rfl ?_
        refine am_ialoadC (ix := 1) (nI := 2) g dX9_games_53 (Nat.le_of_ble_eq_true rfl) rfl rfl rfl rfl ?_
        refine am_aload_n g dX9_games_54 rfl ?_
        refine am_getr (q := 2) (a := 3) g clX9 dX9_games_55 (Nat.le_of_ble_eq_true rfl) rfl (by decide) rfl (Nat.le_of_ble_eq_true rfl) lf_X9_16 ?_
        refine am_iload_n g dX9_games_58 rfl ?_
        refine am_bipush g dX9_games_59 (am_il rfl) (am_bi rfl) ?_
        refine am_idiv g dX9_games_61 (by decide) ?_
        refine am_iaload (ix := Int.toNat (am_w (Int.tdiv a1 16))) (nI := 4) g dX9_games_62 (Nat.le_of_ble_eq_true rfl) rfl rfl (Nat.zero_add _) ?_
        refine am_icmp_ne (tgt := 70) g dX9_games_63 (by decide) ?_ ?_
        · refine am_iconst g dX9_games_70 (am_il rfl) rfl ?_
          refine am_drop 1 ?_
          exact (jX9_games_71 g) a2 a3 0 h5
        · refine am_drop 1 ?_
          exact (jX9_games_66 g (jX9_games_71 g)) a2 a3 h5
    · refine am_iconst g dX9_games_17 (am_il rfl) rfl ?_
      exact am_ireturn g dX9_games_18
def fX9_stands (a1 : Int) (h : am_M) : Option (Int × am_M) := am_b (fX9_isMatch a1 h) (fun v1 h2 => if v1 = 0 then some ((-1), h2) else am_b (fX9_isOfBye (fX9_sideOf 8) a1 h2) (fun v3 h4 => if v3 = 0 then (if 0 ≤ a1 ∧ a1 < 64 then if (h4 24 (Int.toNat a1)) = 0 then (am_b (fX9_isEnded a1 h4) (fun v5 h6 => if v5 = 0 then (am_b (fX9_isKnown a1 h6) (fun v7 h8 => if v7 = 0 then some (0, h8) else if 0 ≤ a1 ∧ a1 < 64 then if (h8 9 (Int.toNat a1)) ≤ 0 then some (1, h8) else some (2, h8) else none)) else some (3, h6))) else if 0 ≤ a1 ∧ a1 < 64 then some (h4 24 (Int.toNat a1), h4) else none else none) else some (6, h4)))
set_option maxRecDepth 10000 in
theorem cX9_standsC {D : va_G} {a : Nat → ClassId} {ad : Nat → Nat} (a1 : Int) (h : am_M) : am_C (EM D a ad) yX9_stands cX9_stands 2 (some .int) 41 [.inr (some 0), .inl a1] h am_ei (fX9_stands a1 h) := by
  refine am_ofJ (L := [some (.inr (some 0)), some (.inl a1)]) (by decide) rfl (Nat.le_of_ble_eq_true rfl) (fun G g => ?_)
  have g : am_Gd (EM D a ad) RX9 cX9_stands 2 (some .int) 41 G := g
  unfold fX9_stands
  refine am_aload_n g dX9_stands_0 rfl ?_
  refine am_iload_n g dX9_stands_1 rfl ?_
  refine am_Vi (as := [.inl a1]) (S := []) g (cX9_isMatchC a1 h) mi_X9_isMatch lm_X9_191 clX9.1 (Nat.le_of_ble_eq_true rfl) rfl dX9_stands_2 rfl (by decide) (Nat.le_of_ble_eq_true rfl) rfl (fun v1 h2 => ?_)
  refine am_if_ne (tgt := 10) g dX9_stands_5 (by decide) ?_ ?_
  · refine am_aload_n g dX9_stands_10 rfl ?_
    refine am_iload_n g dX9_stands_11 rfl ?_
    refine am_Vi (as := [.inl a1]) (S := []) g (cX9_isOfByeC a1 h2) mi_X9_isOfBye lm_X9_176 clX9.1 (Nat.le_of_ble_eq_true rfl) rfl dX9_stands_12 rfl (by decide) (Nat.le_of_ble_eq_true rfl) rfl (fun v3 h4 => ?_)
    refine am_if_eq (tgt := 21) g dX9_stands_15 (by decide) ?_ ?_
    · refine am_aload_n g dX9_stands_21 rfl ?_
      refine am_getr (q := 11) (a := 12) g clX9 dX9_stands_22 (Nat.le_of_ble_eq_true rfl) rfl (by decide) rfl (Nat.le_of_ble_eq_true rfl) lf_X9_45 ?_
      refine am_iload_n g dX9_stands_25 rfl ?_
      refine am_iaload (ix := Int.toNat a1) (nI := 64) g dX9_stands_26 (Nat.le_of_ble_eq_true rfl) rfl rfl (Nat.zero_add _) ?_
      refine am_if_eq (tgt := 37) g dX9_stands_27 (by decide) ?_ ?_
      · refine am_aload_n g dX9_stands_37 rfl ?_
        refine am_iload_n g dX9_stands_38 rfl ?_
        refine am_Vi (as := [.inl a1]) (S := []) g (cX9_isEndedC a1 h4) mi_X9_isEnded lm_X9_161 clX9.1 (Nat.le_of_ble_eq_true rfl) rfl dX9_stands_39 rfl (by decide) (Nat.le_of_ble_eq_true rfl) rfl (fun v5 h6 => ?_)
        refine am_if_eq (tgt := 47) g dX9_stands_42 (by decide) ?_ ?_
        · refine am_aload_n g dX9_stands_47 rfl ?_
          refine am_iload_n g dX9_stands_48 rfl ?_
          refine am_Vi (as := [.inl a1]) (S := []) g (cX9_isKnownC a1 h6) mi_X9_isKnown lm_X9_214 clX9.1 (Nat.le_of_ble_eq_true rfl) rfl dX9_stands_49 rfl (by decide) (Nat.le_of_ble_eq_true rfl) rfl (fun v7 h8 => ?_)
          refine am_if_ne (tgt := 57) g dX9_stands_52 (by decide) ?_ ?_
          · refine am_aload_n g dX9_stands_57 rfl ?_
            refine am_getr (q := 9) (a := 10) g clX9 dX9_stands_58 (Nat.le_of_ble_eq_true rfl) rfl (by decide) rfl (Nat.le_of_ble_eq_true rfl) lf_X9_38 ?_
            refine am_iload_n g dX9_stands_61 rfl ?_
            refine am_iaload (ix := Int.toNat a1) (nI := 64) g dX9_stands_62 (Nat.le_of_ble_eq_true rfl) rfl rfl (Nat.zero_add _) ?_
            refine am_if_le (tgt := 70) g dX9_stands_63 (by decide) ?_ ?_
            · refine am_iconst g dX9_stands_70 (am_il rfl) rfl ?_
              exact am_ireturn g dX9_stands_71
            · refine am_iconst g dX9_stands_66 (am_il rfl) rfl ?_
              refine am_goto (tgt := 71) g dX9_stands_67 (by decide) ?_
              exact am_ireturn g dX9_stands_71
          · refine am_iconst g dX9_stands_55 (am_il rfl) rfl ?_
            exact am_ireturn g dX9_stands_56
        · refine am_iconst g dX9_stands_45 (am_il rfl) rfl ?_
          exact am_ireturn g dX9_stands_46
      · refine am_aload_n g dX9_stands_30 rfl ?_
        refine am_getr (q := 11) (a := 12) g clX9 dX9_stands_31 (Nat.le_of_ble_eq_true rfl) rfl (by decide) rfl (Nat.le_of_ble_eq_true rfl) lf_X9_45 ?_
        refine am_iload_n g dX9_stands_34 rfl ?_
        refine am_iaload (ix := Int.toNat a1) (nI := 64) g dX9_stands_35 (Nat.le_of_ble_eq_true rfl) rfl rfl (Nat.zero_add _) ?_
        exact am_ireturn g dX9_stands_36
    · refine am_bipush g dX9_stands_18 (am_il rfl) (am_bi rfl) ?_
      exact am_ireturn g dX9_stands_20
  · refine am_iconst g dX9_stands_8 (am_il rfl) rfl ?_
    exact am_ireturn g dX9_stands_9
def fX9_winner (a1 : Int) (h : am_M) : Option (Int × am_M) := am_b (fX9_isMatch a1 h) (fun v1 h2 => if v1 = 0 then some ((-1), h2) else am_b (fX9_winnerOf (fX9_sideOf 8) a1 h2) (fun v3 h4 => some (v3, h4)))
set_option maxRecDepth 10000 in
theorem cX9_winnerC {D : va_G} {a : Nat → ClassId} {ad : Nat → Nat} (a1 : Int) (h : am_M) : am_C (EM D a ad) yX9_winner cX9_winner 2 (some .int) 40 [.inr (some 0), .inl a1] h am_ei (fX9_winner a1 h) := by
  refine am_ofJ (L := [some (.inr (some 0)), some (.inl a1)]) (by decide) rfl (Nat.le_of_ble_eq_true rfl) (fun G g => ?_)
  have g : am_Gd (EM D a ad) RX9 cX9_winner 2 (some .int) 40 G := g
  unfold fX9_winner
  refine am_aload_n g dX9_winner_0 rfl ?_
  refine am_iload_n g dX9_winner_1 rfl ?_
  refine am_Vi (as := [.inl a1]) (S := []) g (cX9_isMatchC a1 h) mi_X9_isMatch lm_X9_191 clX9.1 (Nat.le_of_ble_eq_true rfl) rfl dX9_winner_2 rfl (by decide) (Nat.le_of_ble_eq_true rfl) rfl (fun v1 h2 => ?_)
  refine am_if_eq (tgt := 16) g dX9_winner_5 (by decide) ?_ ?_
  · refine am_iconst g dX9_winner_16 (am_il rfl) rfl ?_
    exact am_ireturn g dX9_winner_17
  · refine am_aload_n g dX9_winner_8 rfl ?_
    refine am_iload_n g dX9_winner_9 rfl ?_
    refine am_Vi (as := [.inl a1]) (S := []) g (cX9_winnerOfC a1 h2) mi_X9_winnerOf lm_X9_185 clX9.1 (Nat.le_of_ble_eq_true rfl) rfl dX9_winner_10 rfl (by decide) (Nat.le_of_ble_eq_true rfl) rfl (fun v3 h4 => ?_)
    refine am_goto (tgt := 17) g dX9_winner_13 (by decide) ?_
    exact am_ireturn g dX9_winner_17
def fX9_met_145 (K35 : Int → Int → Int → Int → am_M → Option (Int × am_M)) (l1 : Int) (l2 : Int) (l4 : Int) (l5 : Int) (h : am_M) : Option (Int × am_M) := K35 l1 l2 l4 (am_w (l5 + 1)) h
set_option maxRecDepth 10000 in
theorem jX9_met_145 {D : va_G} {a : Nat → ClassId} {ad : Nat → Nat} {G : am_G} (g : am_Gd (EM D a ad) RX9 cX9_met 7 (some .int) 41 G) {K35 : Int → Int → Int → Int → am_M → Option (Int × am_M)} (hK35 : ∀ (l1 : Int), ∀ (l2 : Int), ∀ (l4 : Int), ∀ (l5 : Int), ∀ h : am_M, am_J (EM D a ad) G 7 am_ei 35 [some (.inr (some 0)), some (.inl l1), some (.inl l2), none, some (.inl l4), some (.inl l5), none] [] h (K35 l1 l2 l4 l5 h)) : ∀ (l1 : Int), ∀ (l2 : Int), ∀ (l4 : Int), ∀ (l5 : Int), ∀ h : am_M, am_J (EM D a ad) G 7 am_ei 145 [some (.inr (some 0)), some (.inl l1), some (.inl l2), none, some (.inl l4), some (.inl l5), none] [] h (fX9_met_145 K35 l1 l2 l4 l5 h) := by
  intro l1 l2 l4 l5 h
  unfold fX9_met_145
  refine am_iinc g dX9_met_145 (by decide) rfl ?_
  refine am_goto (tgt := 35) g dX9_met_148 (by decide) ?_
  exact hK35 l1 l2 l4 (am_w (l5 + 1)) h
def fX9_met_131 (l5 : Int) (l6 : Int) (h : am_M) : Option (Int × am_M) := am_b (fX9_sideOf 8 l5 (am_w (1 - l6)) h) (fun v14 h15 => some (v14, h15))
set_option maxRecDepth 10000 in
theorem jX9_met_131 {D : va_G} {a : Nat → ClassId} {ad : Nat → Nat} {G : am_G} (g : am_Gd (EM D a ad) RX9 cX9_met 7 (some .int) 41 G) : ∀ (l5 : Int), ∀ (l6 : Int), ∀ h : am_M, am_J (EM D a ad) G 7 am_ei 131 [some (.inr (some 0)), none, none, none, none, some (.inl l5), some (.inl l6)] [] h (fX9_met_131 l5 l6 h) := by
  intro l5 l6 h
  unfold fX9_met_131
  refine am_aload_n g dX9_met_131 rfl ?_
  refine am_iload g dX9_met_132 rfl ?_
  refine am_iconst g dX9_met_134 (am_il rfl) rfl ?_
  refine am_iload g dX9_met_135 rfl ?_
  refine am_isub g dX9_met_137 ?_
  refine am_Vi (as := [.inl l5, .inl (am_w (1 - l6))]) (S := []) g (cX9_sideOfC l5 (am_w (1 - l6)) h) mi_X9_sideOf lm_X9_173 clX9.1 (Nat.le_of_ble_eq_true rfl) rfl dX9_met_138 rfl (by decide) (Nat.le_of_ble_eq_true rfl) rfl (fun v14 h15 => ?_)
  exact am_ireturn g dX9_met_141
def fX9_met_116 (K145 : Int → Int → Int → Int → am_M → Option (Int × am_M)) (l1 : Int) (l2 : Int) (l4 : Int) (l5 : Int) (s0 : Int) (h : am_M) : Option (Int × am_M) := if s0 < 0 then K145 l1 l2 l4 l5 h else if l4 = 0 then fX9_met_131 l5 s0 h else K145 l1 l2 (am_w (l4 + (-1))) l5 h
set_option maxRecDepth 10000 in
theorem jX9_met_116 {D : va_G} {a : Nat → ClassId} {ad : Nat → Nat} {G : am_G} (g : am_Gd (EM D a ad) RX9 cX9_met 7 (some .int) 41 G) {K145 : Int → Int → Int → Int → am_M → Option (Int × am_M)} (hK145 : ∀ (l1 : Int), ∀ (l2 : Int), ∀ (l4 : Int), ∀ (l5 : Int), ∀ h : am_M, am_J (EM D a ad) G 7 am_ei 145 [some (.inr (some 0)), some (.inl l1), some (.inl l2), none, some (.inl l4), some (.inl l5), none] [] h (K145 l1 l2 l4 l5 h)) : ∀ (l1 : Int), ∀ (l2 : Int), ∀ (l4 : Int), ∀ (l5 : Int), ∀ (s0 : Int), ∀ h : am_M, am_J (EM D a ad) G 7 am_ei 116 [some (.inr (some 0)), some (.inl l1), some (.inl l2), none, some (.inl l4), some (.inl l5), none] [.inl s0] h (fX9_met_116 K145 l1 l2 l4 l5 s0 h) := by
  intro l1 l2 l4 l5 s0 h
  unfold fX9_met_116
  refine am_istore g dX9_met_116 (by decide) ?_
  refine am_iload g dX9_met_118 rfl ?_
  refine am_if_ge (tgt := 126) g dX9_met_120 (by decide) ?_ ?_
  · refine am_iload g dX9_met_126 rfl ?_
    refine am_if_ne (tgt := 142) g dX9_met_128 (by decide) ?_ ?_
    · refine am_iinc g dX9_met_142 (by decide) rfl ?_
      refine am_drop 6 ?_
      exact hK145 l1 l2 (am_w (l4 + (-1))) l5 h
    · refine am_drop 1 ?_
      refine am_drop 2 ?_
      refine am_drop 4 ?_
      exact (jX9_met_131 g) l5 s0 h
  · refine am_goto (tgt := 145) g dX9_met_123 (by decide) ?_
    refine am_drop 6 ?_
    exact hK145 l1 l2 l4 l5 h
def fX9_met_35b (K35 : Int → Int → Int → Int → am_M → Option (Int × am_M)) (l1 : Int) (l2 : Int) (l4 : Int) (l5 : Int) (h : am_M) : Option (Int × am_M) := if 0 ≤ l1 ∧ l1 < 4 then if l5 < (am_w ((am_w ((am_w (16 * l1)) + (h 1 (Int.toNat l1)))) - 1)) then (am_b (fX9_isEnded l5 h) (fun v6 h7 => if v6 = 0 then (fX9_met_145 K35) l1 l2 l4 l5 h7 else if 0 ≤ l5 ∧ l5 < 64 then if (h7 24 (Int.toNat l5)) = 4 then (fX9_met_145 K35) l1 l2 l4 l5 h7 else am_b (fX9_isOfBye (fX9_sideOf 8) l5 h7) (fun v8 h9 => if v8 = 0 then (am_b (fX9_sideOf 8 l5 0 h9) (fun v10 h11 => if v10 = l2 then (fX9_met_116 (fX9_met_145 K35)) l1 l2 l4 l5 0 h11 else am_b (fX9_sideOf 8 l5 1 h11) (fun v12 h13 => if v12 = l2 then (fX9_met_116 (fX9_met_145 K35)) l1 l2 l4 l5 1 h13 else (fX9_met_116 (fX9_met_145 K35)) l1 l2 l4 l5 (-1) h13))) else (fX9_met_145 K35) l1 l2 l4 l5 h9) else none)) else some ((-1), h) else none
def fX9_met_35 : Int → Int → Int → Int → am_M → Option (Int × am_M) := am_it (fun _ _ _ _ _ => none) (fX9_met_35b) 400
set_option maxRecDepth 10000 in
theorem jX9_met_35b {D : va_G} {a : Nat → ClassId} {ad : Nat → Nat} {G : am_G} (g : am_Gd (EM D a ad) RX9 cX9_met 7 (some .int) 41 G) {K35 : Int → Int → Int → Int → am_M → Option (Int × am_M)} (hK35 : ∀ (l1 : Int), ∀ (l2 : Int), ∀ (l4 : Int), ∀ (l5 : Int), ∀ h : am_M, am_J (EM D a ad) G 7 am_ei 35 [some (.inr (some 0)), some (.inl l1), some (.inl l2), none, some (.inl l4), some (.inl l5), none] [] h (K35 l1 l2 l4 l5 h)) : ∀ (l1 : Int), ∀ (l2 : Int), ∀ (l4 : Int), ∀ (l5 : Int), ∀ h : am_M, am_J (EM D a ad) G 7 am_ei 35 [some (.inr (some 0)), some (.inl l1), some (.inl l2), none, some (.inl l4), some (.inl l5), none] [] h (fX9_met_35b K35 l1 l2 l4 l5 h) := by
  intro l1 l2 l4 l5 h
  unfold fX9_met_35b
  refine am_iload g dX9_met_35 rfl ?_
  refine am_bipush g dX9_met_37 (am_il rfl) (am_bi rfl) ?_
  refine am_iload_n g dX9_met_39 rfl ?_
  refine am_imul g dX9_met_40 ?_
  refine am_aload_n g dX9_met_41 rfl ?_
  refine am_getr (q := 1) (a := 2) g clX9 dX9_met_42 (Nat.le_of_ble_eq_true rfl) rfl (by decide) rfl (Nat.le_of_ble_eq_true rfl) lf_X9_13 ?_
  refine am_iload_n g dX9_met_45 rfl ?_
  refine am_iaload (ix := Int.toNat l1) (nI := 4) g dX9_met_46 (Nat.le_of_ble_eq_true rfl) rfl rfl (Nat.zero_add _) ?_
  refine am_iadd g dX9_met_47 ?_
  refine am_iconst g dX9_met_48 (am_il rfl) rfl ?_
  refine am_isub g dX9_met_49 ?_
  refine am_icmp_ge (tgt := 151) g dX9_met_50 (by decide) ?_ ?_
  · refine am_iconst g dX9_met_151 (am_il rfl) rfl ?_
    exact am_ireturn g dX9_met_152
  · refine am_aload_n g dX9_met_53 rfl ?_
    refine am_iload g dX9_met_54 rfl ?_
    refine am_Vi (as := [.inl l5]) (S := []) g (cX9_isEndedC l5 h) mi_X9_isEnded lm_X9_161 clX9.1 (Nat.le_of_ble_eq_true rfl) rfl dX9_met_56 rfl (by decide) (Nat.le_of_ble_eq_true rfl) rfl (fun v6 h7 => ?_)
    refine am_if_eq (tgt := 145) g dX9_met_59 (by decide) ?_ ?_
    · exact (jX9_met_145 g hK35) l1 l2 l4 l5 h7
    · refine am_aload_n g dX9_met_62 rfl ?_
      refine am_getr (q := 11) (a := 12) g clX9 dX9_met_63 (Nat.le_of_ble_eq_true rfl) rfl (by decide) rfl (Nat.le_of_ble_eq_true rfl) lf_X9_45 ?_
      refine am_iload g dX9_met_66 rfl ?_
      refine am_iaload (ix := Int.toNat l5) (nI := 64) g dX9_met_68 (Nat.le_of_ble_eq_true rfl) rfl rfl (Nat.zero_add _) ?_
      refine am_iconst g dX9_met_69 (am_il rfl) rfl ?_
      refine am_icmp_eq (tgt := 145) g dX9_met_70 (by decide) ?_ ?_
      · exact (jX9_met_145 g hK35) l1 l2 l4 l5 h7
      · refine am_aload_n g dX9_met_73 rfl ?_
        refine am_iload g dX9_met_74 rfl ?_
        refine am_Vi (as := [.inl l5]) (S := []) g (cX9_isOfByeC l5 h7) mi_X9_isOfBye lm_X9_176 clX9.1 (Nat.le_of_ble_eq_true rfl) rfl dX9_met_76 rfl (by decide) (Nat.le_of_ble_eq_true rfl) rfl (fun v8 h9 => ?_)
        refine am_if_eq (tgt := 85) g dX9_met_79 (by decide) ?_ ?_
        · refine am_aload_n g dX9_met_85 rfl ?_
          refine am_iload g dX9_met_86 rfl ?_
          refine am_iconst g dX9_met_88 (am_il rfl) rfl ?_
          refine am_Vi (as := [.inl l5, .inl 0]) (S := []) g (cX9_sideOfC l5 0 h9) mi_X9_sideOf lm_X9_173 clX9.1 (Nat.le_of_ble_eq_true rfl) rfl dX9_met_89 rfl (by decide) (Nat.le_of_ble_eq_true rfl) rfl (fun v10 h11 => ?_)
          refine am_iload_n g dX9_met_92 rfl ?_
          refine am_icmp_ne (tgt := 100) g dX9_met_93 (by decide) ?_ ?_
          · refine am_aload_n g dX9_met_100 rfl ?_
            refine am_iload g dX9_met_101 rfl ?_
            refine am_iconst g dX9_met_103 (am_il rfl) rfl ?_
            refine am_Vi (as := [.inl l5, .inl 1]) (S := []) g (cX9_sideOfC l5 1 h11) mi_X9_sideOf lm_X9_173 clX9.1 (Nat.le_of_ble_eq_true rfl) rfl dX9_met_104 rfl (by decide) (Nat.le_of_ble_eq_true rfl) rfl (fun v12 h13 => ?_)
            refine am_iload_n g dX9_met_107 rfl ?_
            refine am_icmp_ne (tgt := 115) g dX9_met_108 (by decide) ?_ ?_
            · refine am_iconst g dX9_met_115 (am_il rfl) rfl ?_
              exact (jX9_met_116 g (jX9_met_145 g hK35)) l1 l2 l4 l5 (-1) h13
            · refine am_iconst g dX9_met_111 (am_il rfl) rfl ?_
              refine am_goto (tgt := 116) g dX9_met_112 (by decide) ?_
              exact (jX9_met_116 g (jX9_met_145 g hK35)) l1 l2 l4 l5 1 h13
          · refine am_iconst g dX9_met_96 (am_il rfl) rfl ?_
            refine am_goto (tgt := 116) g dX9_met_97 (by decide) ?_
            exact (jX9_met_116 g (jX9_met_145 g hK35)) l1 l2 l4 l5 0 h11
        · refine am_goto (tgt := 145) g dX9_met_82 (by decide) ?_
          exact (jX9_met_145 g hK35) l1 l2 l4 l5 h9
theorem jX9_met_35 {D : va_G} {a : Nat → ClassId} {ad : Nat → Nat} {G : am_G} (g : am_Gd (EM D a ad) RX9 cX9_met 7 (some .int) 41 G) : ∀ (l1 : Int), ∀ (l2 : Int), ∀ (l4 : Int), ∀ (l5 : Int), ∀ h : am_M, am_J (EM D a ad) G 7 am_ei 35 [some (.inr (some 0)), some (.inl l1), some (.inl l2), none, some (.inl l4), some (.inl l5), none] [] h (fX9_met_35 l1 l2 l4 l5 h) := by
  unfold fX9_met_35
  generalize 400 = n
  induction n with
  | zero => intro l1 l2 l4 l5 h; exact am_jn
  | succ n ih => exact jX9_met_35b g ih
def fX9_met (a1 : Int) (a2 : Int) (a3 : Int) (h : am_M) : Option (Int × am_M) := am_b (fX9_isDraw a1 h) (fun v1 h2 => if v1 = 0 then some ((-1), h2) else if 0 ≤ a1 ∧ a1 < 4 then if (h2 5 (Int.toNat a1)) = 0 then some ((-1), h2) else am_b (fX9_isPlayer a2 h2) (fun v3 h4 => if v3 = 0 then some ((-1), h4) else am_l (am_w (16 * a1)) (fun x5 => fX9_met_35 a1 a2 a3 x5 h4)) else none)
set_option maxRecDepth 10000 in
theorem cX9_metC {D : va_G} {a : Nat → ClassId} {ad : Nat → Nat} (a1 : Int) (a2 : Int) (a3 : Int) (h : am_M) : am_C (EM D a ad) yX9_met cX9_met 7 (some .int) 41 [.inr (some 0), .inl a1, .inl a2, .inl a3] h am_ei (fX9_met a1 a2 a3 h) := by
  refine am_ofJ (L := [some (.inr (some 0)), some (.inl a1), some (.inl a2), some (.inl a3), none, none, none]) (by decide) rfl (Nat.le_of_ble_eq_true rfl) (fun G g => ?_)
  have g : am_Gd (EM D a ad) RX9 cX9_met 7 (some .int) 41 G := g
  unfold fX9_met
  refine am_aload_n g dX9_met_0 rfl ?_
  refine am_iload_n g dX9_met_1 rfl ?_
  refine am_Vi (as := [.inl a1]) (S := []) g (cX9_isDrawC a1 h) mi_X9_isDraw lm_X9_123 clX9.1 (Nat.le_of_ble_eq_true rfl) rfl dX9_met_2 rfl (by decide) (Nat.le_of_ble_eq_true rfl) rfl (fun v1 h2 => ?_)
  refine am_if_eq (tgt := 24) g dX9_met_5 (by decide) ?_ ?_
  · refine am_iconst g dX9_met_24 (am_il rfl) rfl ?_
    exact am_ireturn g dX9_met_25
  · refine am_aload_n g dX9_met_8 rfl ?_
    refine am_getr (q := 6) (a := 7) g clX9 dX9_met_9 (Nat.le_of_ble_eq_true rfl) rfl (by decide) rfl (Nat.le_of_ble_eq_true rfl) lf_X9_28 ?_
    refine am_iload_n g dX9_met_12 rfl ?_
    refine am_zaload (ix := Int.toNat a1) (nI := 4) g dX9_met_13 (Nat.le_of_ble_eq_true rfl) rfl rfl (Nat.zero_add _) ?_
    refine am_if_eq (tgt := 24) g dX9_met_14 (by decide) ?_ ?_
    · refine am_iconst g dX9_met_24 (am_il rfl) rfl ?_
      exact am_ireturn g dX9_met_25
    · refine am_iload_n g dX9_met_17 rfl ?_
      refine am_Si (as := [.inl a2]) (S := []) g (cX9_isPlayerC a2 h2) mi_X9_isPlayer lm_X9_115 dX9_met_18 rfl (by decide) (Nat.le_of_ble_eq_true rfl) rfl (fun v3 h4 => ?_)
      refine am_if_ne (tgt := 26) g dX9_met_21 (by decide) ?_ ?_
      · refine am_iload_n g dX9_met_26 rfl ?_
        refine am_istore g dX9_met_27 (by decide) ?_
        refine am_bipush g dX9_met_29 (am_il rfl) (am_bi rfl) ?_
        refine am_iload_n g dX9_met_31 rfl ?_
        refine am_imul g dX9_met_32 ?_
        refine am_gv (fun x5 => ?_)
        refine am_istore g dX9_met_33 (by decide) ?_
        refine am_drop 3 ?_
        exact (jX9_met_35 g) a1 a2 a3 x5 h4
      · refine am_iconst g dX9_met_24 (am_il rfl) rfl ?_
        exact am_ireturn g dX9_met_25
def fX9_isOut_83 (K9 : Int → Int → Int → Int → Int → am_M → Option (Int × am_M)) (l1 : Int) (l2 : Int) (l3 : Int) (l4 : Int) (l5 : Int) (h : am_M) : Option (Int × am_M) := K9 l1 l2 l3 l4 (am_w (l5 + 1)) h
set_option maxRecDepth 10000 in
theorem jX9_isOut_83 {D : va_G} {a : Nat → ClassId} {ad : Nat → Nat} {G : am_G} (g : am_Gd (EM D a ad) RX9 cX9_isOut 6 (some .boolean) 41 G) {K9 : Int → Int → Int → Int → Int → am_M → Option (Int × am_M)} (hK9 : ∀ (l1 : Int), ∀ (l2 : Int), ∀ (l3 : Int), ∀ (l4 : Int), ∀ (l5 : Int), ∀ h : am_M, am_J (EM D a ad) G 6 am_ei 9 [some (.inr (some 0)), some (.inl l1), some (.inl l2), some (.inl l3), some (.inl l4), some (.inl l5)] [] h (K9 l1 l2 l3 l4 l5 h)) : ∀ (l1 : Int), ∀ (l2 : Int), ∀ (l3 : Int), ∀ (l4 : Int), ∀ (l5 : Int), ∀ h : am_M, am_J (EM D a ad) G 6 am_ei 83 [some (.inr (some 0)), some (.inl l1), some (.inl l2), some (.inl l3), some (.inl l4), some (.inl l5)] [] h (fX9_isOut_83 K9 l1 l2 l3 l4 l5 h) := by
  intro l1 l2 l3 l4 l5 h
  unfold fX9_isOut_83
  refine am_iinc g dX9_isOut_83 (by decide) rfl ?_
  refine am_goto (tgt := 9) g dX9_isOut_86 (by decide) ?_
  exact hK9 l1 l2 l3 l4 (am_w (l5 + 1)) h
def fX9_isOut_76 (K81 : Int → Int → Int → Int → Int → am_M → Option (Int × am_M)) (l1 : Int) (l2 : Int) (l3 : Int) (l5 : Int) (h : am_M) : Option (Int × am_M) := K81 l1 l2 l3 l5 1 h
set_option maxRecDepth 10000 in
theorem jX9_isOut_76 {D : va_G} {a : Nat → ClassId} {ad : Nat → Nat} {G : am_G} (g : am_Gd (EM D a ad) RX9 cX9_isOut 6 (some .boolean) 41 G) {K81 : Int → Int → Int → Int → Int → am_M → Option (Int × am_M)} (hK81 : ∀ (l1 : Int), ∀ (l2 : Int), ∀ (l3 : Int), ∀ (l5 : Int), ∀ (s0 : Int), ∀ h : am_M, am_J (EM D a ad) G 6 am_ei 81 [some (.inr (some 0)), some (.inl l1), some (.inl l2), some (.inl l3), none, some (.inl l5)] [.inl s0] h (K81 l1 l2 l3 l5 s0 h)) : ∀ (l1 : Int), ∀ (l2 : Int), ∀ (l3 : Int), ∀ (l5 : Int), ∀ h : am_M, am_J (EM D a ad) G 6 am_ei 76 [some (.inr (some 0)), some (.inl l1), some (.inl l2), some (.inl l3), none, some (.inl l5)] [] h (fX9_isOut_76 K81 l1 l2 l3 l5 h) := by
  intro l1 l2 l3 l5 h
  unfold fX9_isOut_76
  refine am_iconst g dX9_isOut_76 (am_il rfl) rfl ?_
  refine am_goto (tgt := 81) g dX9_isOut_77 (by decide) ?_
  exact hK81 l1 l2 l3 l5 1 h
def fX9_isOut_81 (K83 : Int → Int → Int → Int → Int → am_M → Option (Int × am_M)) (l1 : Int) (l2 : Int) (l3 : Int) (l5 : Int) (s0 : Int) (h : am_M) : Option (Int × am_M) := K83 l1 l2 l3 s0 l5 h
set_option maxRecDepth 10000 in
theorem jX9_isOut_81 {D : va_G} {a : Nat → ClassId} {ad : Nat → Nat} {G : am_G} (g : am_Gd (EM D a ad) RX9 cX9_isOut 6 (some .boolean) 41 G) {K83 : Int → Int → Int → Int → Int → am_M → Option (Int × am_M)} (hK83 : ∀ (l1 : Int), ∀ (l2 : Int), ∀ (l3 : Int), ∀ (l4 : Int), ∀ (l5 : Int), ∀ h : am_M, am_J (EM D a ad) G 6 am_ei 83 [some (.inr (some 0)), some (.inl l1), some (.inl l2), some (.inl l3), some (.inl l4), some (.inl l5)] [] h (K83 l1 l2 l3 l4 l5 h)) : ∀ (l1 : Int), ∀ (l2 : Int), ∀ (l3 : Int), ∀ (l5 : Int), ∀ (s0 : Int), ∀ h : am_M, am_J (EM D a ad) G 6 am_ei 81 [some (.inr (some 0)), some (.inl l1), some (.inl l2), some (.inl l3), none, some (.inl l5)] [.inl s0] h (fX9_isOut_81 K83 l1 l2 l3 l5 s0 h) := by
  intro l1 l2 l3 l5 s0 h
  unfold fX9_isOut_81
  refine am_istore g dX9_isOut_81 (by decide) ?_
  exact hK83 l1 l2 l3 s0 l5 h
def fX9_isOut_9b (K9 : Int → Int → Int → Int → Int → am_M → Option (Int × am_M)) (l1 : Int) (l2 : Int) (l3 : Int) (l4 : Int) (l5 : Int) (h : am_M) : Option (Int × am_M) := if 0 ≤ l1 ∧ l1 < 4 then if l5 < (am_w ((am_w ((am_w (16 * l1)) + (h 1 (Int.toNat l1)))) - 1)) then (am_b (fX9_roundOf l1 (Int.tmod l5 16) h) (fun v2 h3 => if v2 < l3 then (am_b (fX9_isEnded l5 h3) (fun v4 h5 => if v4 = 0 then (fX9_isOut_83 K9) l1 l2 l3 l4 l5 h5 else if l4 = 0 then (am_b (fX9_winnerOf (fX9_sideOf 8) l5 h5) (fun v6 h7 => am_b (fX9_sideOf 8 l5 (am_w (1 - v6)) h7) (fun v8 h9 => if v8 = l2 then (fX9_isOut_76 (fX9_isOut_81 (fX9_isOut_83 K9))) l1 l2 l3 l5 h9 else (fX9_isOut_81 (fX9_isOut_83 K9)) l1 l2 l3 l5 0 h9))) else (fX9_isOut_76 (fX9_isOut_81 (fX9_isOut_83 K9))) l1 l2 l3 l5 h5)) else (fX9_isOut_83 K9) l1 l2 l3 l4 l5 h3)) else if l4 = 0 ∨ l4 = 1 then some (l4, h) else none else none
def fX9_isOut_9 : Int → Int → Int → Int → Int → am_M → Option (Int × am_M) := am_it (fun _ _ _ _ _ _ => none) (fX9_isOut_9b) 400
set_option maxRecDepth 10000 in
theorem jX9_isOut_9b {D : va_G} {a : Nat → ClassId} {ad : Nat → Nat} {G : am_G} (g : am_Gd (EM D a ad) RX9 cX9_isOut 6 (some .boolean) 41 G) {K9 : Int → Int → Int → Int → Int → am_M → Option (Int × am_M)} (hK9 : ∀ (l1 : Int), ∀ (l2 : Int), ∀ (l3 : Int), ∀ (l4 : Int), ∀ (l5 : Int), ∀ h : am_M, am_J (EM D a ad) G 6 am_ei 9 [some (.inr (some 0)), some (.inl l1), some (.inl l2), some (.inl l3), some (.inl l4), some (.inl l5)] [] h (K9 l1 l2 l3 l4 l5 h)) : ∀ (l1 : Int), ∀ (l2 : Int), ∀ (l3 : Int), ∀ (l4 : Int), ∀ (l5 : Int), ∀ h : am_M, am_J (EM D a ad) G 6 am_ei 9 [some (.inr (some 0)), some (.inl l1), some (.inl l2), some (.inl l3), some (.inl l4), some (.inl l5)] [] h (fX9_isOut_9b K9 l1 l2 l3 l4 l5 h) := by
  intro l1 l2 l3 l4 l5 h
  unfold fX9_isOut_9b
  refine am_iload g dX9_isOut_9 rfl ?_
  refine am_bipush g dX9_isOut_11 (am_il rfl) (am_bi rfl) ?_
  refine am_iload_n g dX9_isOut_13 rfl ?_
  refine am_imul g dX9_isOut_14 ?_
  refine am_aload_n g dX9_isOut_15 rfl ?_
  refine am_getr (q := 1) (a := 2) g clX9 dX9_isOut_16 (Nat.le_of_ble_eq_true rfl) rfl (by decide) rfl (Nat.le_of_ble_eq_true rfl) lf_X9_13 ?_
  refine am_iload_n g dX9_isOut_19 rfl ?_
  refine am_iaload (ix := Int.toNat l1) (nI := 4) g dX9_isOut_20 (Nat.le_of_ble_eq_true rfl) rfl rfl (Nat.zero_add _) ?_
  refine am_iadd g dX9_isOut_21 ?_
  refine am_iconst g dX9_isOut_22 (am_il rfl) rfl ?_
  refine am_isub g dX9_isOut_23 ?_
  refine am_icmp_ge (tgt := 89) g dX9_isOut_24 (by decide) ?_ ?_
  · refine am_iload g dX9_isOut_89 rfl ?_
    exact am_zreturnG g dX9_isOut_91
  · refine am_aload_n g dX9_isOut_27 rfl ?_
    refine am_iload_n g dX9_isOut_28 rfl ?_
    refine am_iload g dX9_isOut_29 rfl ?_
    refine am_bipush g dX9_isOut_31 (am_il rfl) (am_bi rfl) ?_
    refine am_irem g dX9_isOut_33 (by decide) ?_
    refine am_Vi (as := [.inl l1, .inl (Int.tmod l5 16)]) (S := []) g (cX9_roundOfC l1 (Int.tmod l5 16) h) mi_X9_roundOf lm_X9_167 clX9.1 (Nat.le_of_ble_eq_true rfl) rfl dX9_isOut_34 rfl (by decide) (Nat.le_of_ble_eq_true rfl) rfl (fun v2 h3 => ?_)
    refine am_iload_n g dX9_isOut_37 rfl ?_
    refine am_icmp_ge (tgt := 83) g dX9_isOut_38 (by decide) ?_ ?_
    · exact (jX9_isOut_83 g hK9) l1 l2 l3 l4 l5 h3
    · refine am_aload_n g dX9_isOut_41 rfl ?_
      refine am_iload g dX9_isOut_42 rfl ?_
      refine am_Vi (as := [.inl l5]) (S := []) g (cX9_isEndedC l5 h3) mi_X9_isEnded lm_X9_161 clX9.1 (Nat.le_of_ble_eq_true rfl) rfl dX9_isOut_44 rfl (by decide) (Nat.le_of_ble_eq_true rfl) rfl (fun v4 h5 => ?_)
      refine am_if_ne (tgt := 53) g dX9_isOut_47 (by decide) ?_ ?_
      · refine am_iload g dX9_isOut_53 rfl ?_
        refine am_if_ne (tgt := 76) g dX9_isOut_55 (by decide) ?_ ?_
        · refine am_drop 4 ?_
          exact (jX9_isOut_76 g (jX9_isOut_81 g (jX9_isOut_83 g hK9))) l1 l2 l3 l5 h5
        · refine am_aload_n g dX9_isOut_58 rfl ?_
          refine am_iload g dX9_isOut_59 rfl ?_
          refine am_iconst g dX9_isOut_61 (am_il rfl) rfl ?_
          refine am_aload_n g dX9_isOut_62 rfl ?_
          refine am_iload g dX9_isOut_63 rfl ?_
          refine am_Vi (as := [.inl l5]) (S := [.inl 1, .inl l5, .inr (some 0)]) g (cX9_winnerOfC l5 h5) mi_X9_winnerOf lm_X9_185 clX9.1 (Nat.le_of_ble_eq_true rfl) rfl dX9_isOut_65 rfl (by decide) (Nat.le_of_ble_eq_true rfl) rfl (fun v6 h7 => ?_)
          refine am_isub g dX9_isOut_68 ?_
          refine am_Vi (as := [.inl l5, .inl (am_w (1 - v6))]) (S := []) g (cX9_sideOfC l5 (am_w (1 - v6)) h7) mi_X9_sideOf lm_X9_173 clX9.1 (Nat.le_of_ble_eq_true rfl) rfl dX9_isOut_69 rfl (by decide) (Nat.le_of_ble_eq_true rfl) rfl (fun v8 h9 => ?_)
          refine am_iload_n g dX9_isOut_72 rfl ?_
          refine am_icmp_ne (tgt := 80) g dX9_isOut_73 (by decide) ?_ ?_
          · refine am_iconst g dX9_isOut_80 (am_il rfl) rfl ?_
            refine am_drop 4 ?_
            exact (jX9_isOut_81 g (jX9_isOut_83 g hK9)) l1 l2 l3 l5 0 h9
          · refine am_drop 4 ?_
            exact (jX9_isOut_76 g (jX9_isOut_81 g (jX9_isOut_83 g hK9))) l1 l2 l3 l5 h9
      · refine am_goto (tgt := 83) g dX9_isOut_50 (by decide) ?_
        exact (jX9_isOut_83 g hK9) l1 l2 l3 l4 l5 h5
theorem jX9_isOut_9 {D : va_G} {a : Nat → ClassId} {ad : Nat → Nat} {G : am_G} (g : am_Gd (EM D a ad) RX9 cX9_isOut 6 (some .boolean) 41 G) : ∀ (l1 : Int), ∀ (l2 : Int), ∀ (l3 : Int), ∀ (l4 : Int), ∀ (l5 : Int), ∀ h : am_M, am_J (EM D a ad) G 6 am_ei 9 [some (.inr (some 0)), some (.inl l1), some (.inl l2), some (.inl l3), some (.inl l4), some (.inl l5)] [] h (fX9_isOut_9 l1 l2 l3 l4 l5 h) := by
  unfold fX9_isOut_9
  generalize 400 = n
  induction n with
  | zero => intro l1 l2 l3 l4 l5 h; exact am_jn
  | succ n ih => exact jX9_isOut_9b g ih
def fX9_isOut (a1 : Int) (a2 : Int) (a3 : Int) (h : am_M) : Option (Int × am_M) := am_l (am_w (16 * a1)) (fun x1 => fX9_isOut_9 a1 a2 a3 0 x1 h)
set_option maxRecDepth 10000 in
theorem cX9_isOutC {D : va_G} {a : Nat → ClassId} {ad : Nat → Nat} (a1 : Int) (a2 : Int) (a3 : Int) (h : am_M) : am_C (EM D a ad) yX9_isOut cX9_isOut 6 (some .boolean) 41 [.inr (some 0), .inl a1, .inl a2, .inl a3] h am_ei (fX9_isOut a1 a2 a3 h) := by
  refine am_ofJ (L := [some (.inr (some 0)), some (.inl a1), some (.inl a2), some (.inl a3), none, none]) (by decide) rfl (Nat.le_of_ble_eq_true rfl) (fun G g => ?_)
  have g : am_Gd (EM D a ad) RX9 cX9_isOut 6 (some .boolean) 41 G := g
  unfold fX9_isOut
  refine am_iconst g dX9_isOut_0 (am_il rfl) rfl ?_
  refine am_istore g dX9_isOut_1 (by decide) ?_
  refine am_bipush g dX9_isOut_3 (am_il rfl) (am_bi rfl) ?_
  refine am_iload_n g dX9_isOut_5 rfl ?_
  refine am_imul g dX9_isOut_6 ?_
  refine am_gv (fun x1 => ?_)
  refine am_istore g dX9_isOut_7 (by decide) ?_
  exact (jX9_isOut_9 g) a1 a2 a3 0 x1 h
def fX9_meeting_92 (l1 : Int) (l2 : Int) (l3 : Int) (l6 : Int) (h : am_M) : Option (Int × am_M) := am_b (fX9_isOut l1 l2 l6 h) (fun v11 h12 => if v11 = 0 then (am_b (fX9_isOut l1 l3 l6 h12) (fun v13 h14 => if v13 = 0 then some (l6, h14) else some ((-1), h14))) else some ((-1), h12))
set_option maxRecDepth 10000 in
theorem jX9_meeting_92 {D : va_G} {a : Nat → ClassId} {ad : Nat → Nat} {G : am_G} (g : am_Gd (EM D a ad) RX9 cX9_meeting 7 (some .int) 42 G) : ∀ (l1 : Int), ∀ (l2 : Int), ∀ (l3 : Int), ∀ (l6 : Int), ∀ h : am_M, am_J (EM D a ad) G 7 am_ei 92 [some (.inr (some 0)), some (.inl l1), some (.inl l2), some (.inl l3), none, none, some (.inl l6)] [] h (fX9_meeting_92 l1 l2 l3 l6 h) := by
  intro l1 l2 l3 l6 h
  unfold fX9_meeting_92
  refine am_aload_n g dX9_meeting_92 rfl ?_
  refine am_iload_n g dX9_meeting_93 rfl ?_
  refine am_iload_n g dX9_meeting_94 rfl ?_
  refine am_iload g dX9_meeting_95 rfl ?_
  refine am_Vi (as := [.inl l1, .inl l2, .inl l6]) (S := []) g (cX9_isOutC l1 l2 l6 h) mi_X9_isOut lm_X9_230 clX9.1 (Nat.le_of_ble_eq_true rfl) rfl dX9_meeting_97 rfl (by decide) (Nat.le_of_ble_eq_true rfl) rfl (fun v11 h12 => ?_)
  refine am_if_ne (tgt := 114) g dX9_meeting_100 (by decide) ?_ ?_
  · refine am_iconst g dX9_meeting_114 (am_il rfl) rfl ?_
    refine am_goto (tgt := 120) g dX9_meeting_115 (by decide) ?_
    exact am_ireturn g dX9_meeting_120
  · refine am_aload_n g dX9_meeting_103 rfl ?_
    refine am_iload_n g dX9_meeting_104 rfl ?_
    refine am_iload_n g dX9_meeting_105 rfl ?_
    refine am_iload g dX9_meeting_106 rfl ?_
    refine am_Vi (as := [.inl l1, .inl l3, .inl l6]) (S := []) g (cX9_isOutC l1 l3 l6 h12) mi_X9_isOut lm_X9_230 clX9.1 (Nat.le_of_ble_eq_true rfl) rfl dX9_meeting_108 rfl (by decide) (Nat.le_of_ble_eq_true rfl) rfl (fun v13 h14 => ?_)
    refine am_if_eq (tgt := 118) g dX9_meeting_111 (by decide) ?_ ?_
    · refine am_iload g dX9_meeting_118 rfl ?_
      exact am_ireturn g dX9_meeting_120
    · refine am_iconst g dX9_meeting_114 (am_il rfl) rfl ?_
      refine am_goto (tgt := 120) g dX9_meeting_115 (by decide) ?_
      exact am_ireturn g dX9_meeting_120
def fX9_meeting_69b (K69 : Int → Int → Int → Int → Int → Int → am_M → Option (Int × am_M)) (l1 : Int) (l2 : Int) (l3 : Int) (l4 : Int) (l5 : Int) (l6 : Int) (h : am_M) : Option (Int × am_M) := if (am_shr l4 (am_w (l6 + 1))) = (am_shr l5 (am_w (l6 + 1))) then fX9_meeting_92 l1 l2 l3 l6 h else K69 l1 l2 l3 l4 l5 (am_w (l6 + 1)) h
def fX9_meeting_69 : Int → Int → Int → Int → Int → Int → am_M → Option (Int × am_M) := am_it (fun _ _ _ _ _ _ _ => none) (fX9_meeting_69b) 400
set_option maxRecDepth 10000 in
theorem jX9_meeting_69b {D : va_G} {a : Nat → ClassId} {ad : Nat → Nat} {G : am_G} (g : am_Gd (EM D a ad) RX9 cX9_meeting 7 (some .int) 42 G) {K69 : Int → Int → Int → Int → Int → Int → am_M → Option (Int × am_M)} (hK69 : ∀ (l1 : Int), ∀ (l2 : Int), ∀ (l3 : Int), ∀ (l4 : Int), ∀ (l5 : Int), ∀ (l6 : Int), ∀ h : am_M, am_J (EM D a ad) G 7 am_ei 69 [some (.inr (some 0)), some (.inl l1), some (.inl l2), some (.inl l3), some (.inl l4), some (.inl l5), some (.inl l6)] [] h (K69 l1 l2 l3 l4 l5 l6 h)) : ∀ (l1 : Int), ∀ (l2 : Int), ∀ (l3 : Int), ∀ (l4 : Int), ∀ (l5 : Int), ∀ (l6 : Int), ∀ h : am_M, am_J (EM D a ad) G 7 am_ei 69 [some (.inr (some 0)), some (.inl l1), some (.inl l2), some (.inl l3), some (.inl l4), some (.inl l5), some (.inl l6)] [] h (fX9_meeting_69b K69 l1 l2 l3 l4 l5 l6 h) := by
  intro l1 l2 l3 l4 l5 l6 h
  unfold fX9_meeting_69b
  refine am_iload g dX9_meeting_69 rfl ?_
  refine am_iload g dX9_meeting_71 rfl ?_
  refine am_iconst g dX9_meeting_73 (am_il rfl) rfl ?_
  refine am_iadd g dX9_meeting_74 ?_
  refine am_ishr g dX9_meeting_75 ?_
  refine am_iload g dX9_meeting_76 rfl ?_
  refine am_iload g dX9_meeting_78 rfl ?_
  refine am_iconst g dX9_meeting_80 (am_il rfl) rfl ?_
  refine am_iadd g dX9_meeting_81 ?_
  refine am_ishr g dX9_meeting_82 ?_
  refine am_icmp_eq (tgt := 92) g dX9_meeting_83 (by decide) ?_ ?_
  · refine am_drop 4 ?_
    refine am_drop 5 ?_
    exact (jX9_meeting_92 g) l1 l2 l3 l6 h
  · refine am_iinc g dX9_meeting_86 (by decide) rfl ?_
    refine am_goto (tgt := 69) g dX9_meeting_89 (by decide) ?_
    exact hK69 l1 l2 l3 l4 l5 (am_w (l6 + 1)) h
theorem jX9_meeting_69 {D : va_G} {a : Nat → ClassId} {ad : Nat → Nat} {G : am_G} (g : am_Gd (EM D a ad) RX9 cX9_meeting 7 (some .int) 42 G) : ∀ (l1 : Int), ∀ (l2 : Int), ∀ (l3 : Int), ∀ (l4 : Int), ∀ (l5 : Int), ∀ (l6 : Int), ∀ h : am_M, am_J (EM D a ad) G 7 am_ei 69 [some (.inr (some 0)), some (.inl l1), some (.inl l2), some (.inl l3), some (.inl l4), some (.inl l5), some (.inl l6)] [] h (fX9_meeting_69 l1 l2 l3 l4 l5 l6 h) := by
  unfold fX9_meeting_69
  generalize 400 = n
  induction n with
  | zero => intro l1 l2 l3 l4 l5 l6 h; exact am_jn
  | succ n ih => exact jX9_meeting_69b g ih
def fX9_meeting (a1 : Int) (a2 : Int) (a3 : Int) (h : am_M) : Option (Int × am_M) := am_b (fX9_isDraw a1 h) (fun v1 h2 => if v1 = 0 then some ((-1), h2) else if 0 ≤ a1 ∧ a1 < 4 then if (h2 5 (Int.toNat a1)) = 0 then some ((-1), h2) else am_b (fX9_isPlayer a2 h2) (fun v3 h4 => if v3 = 0 then some ((-1), h4) else am_b (fX9_isPlayer a3 h4) (fun v5 h6 => if v5 = 0 then some ((-1), h6) else if a2 = a3 then some ((-1), h6) else am_b (fX9_placeOf a1 a2 h6) (fun v7 h8 => am_b (fX9_placeOf a1 a3 h8) (fun v9 h10 => if v7 < 0 then some ((-1), h10) else if v9 < 0 then some ((-1), h10) else fX9_meeting_69 a1 a2 a3 v7 v9 0 h10)))) else none)
set_option maxRecDepth 10000 in
theorem cX9_meetingC {D : va_G} {a : Nat → ClassId} {ad : Nat → Nat} (a1 : Int) (a2 : Int) (a3 : Int) (h : am_M) : am_C (EM D a ad) yX9_meeting cX9_meeting 7 (some .int) 42 [.inr (some 0), .inl a1, .inl a2, .inl a3] h am_ei (fX9_meeting a1 a2 a3 h) := by
  refine am_ofJ (L := [some (.inr (some 0)), some (.inl a1), some (.inl a2), some (.inl a3), none, none, none]) (by decide) rfl (Nat.le_of_ble_eq_true rfl) (fun G g => ?_)
  have g : am_Gd (EM D a ad) RX9 cX9_meeting 7 (some .int) 42 G := g
  unfold fX9_meeting
  refine am_aload_n g dX9_meeting_0 rfl ?_
  refine am_iload_n g dX9_meeting_1 rfl ?_
  refine am_Vi (as := [.inl a1]) (S := []) g (cX9_isDrawC a1 h) mi_X9_isDraw lm_X9_123 clX9.1 (Nat.le_of_ble_eq_true rfl) rfl dX9_meeting_2 rfl (by decide) (Nat.le_of_ble_eq_true rfl) rfl (fun v1 h2 => ?_)
  refine am_if_eq (tgt := 36) g dX9_meeting_5 (by decide) ?_ ?_
  · refine am_iconst g dX9_meeting_36 (am_il rfl) rfl ?_
    exact am_ireturn g dX9_meeting_37
  · refine am_aload_n g dX9_meeting_8 rfl ?_
    refine am_getr (q := 6) (a := 7) g clX9 dX9_meeting_9 (Nat.le_of_ble_eq_true rfl) rfl (by decide) rfl (Nat.le_of_ble_eq_true rfl) lf_X9_28 ?_
    refine am_iload_n g dX9_meeting_12 rfl ?_
    refine am_zaload (ix := Int.toNat a1) (nI := 4) g dX9_meeting_13 (Nat.le_of_ble_eq_true rfl) rfl rfl (Nat.zero_add _) ?_
    refine am_if_eq (tgt := 36) g dX9_meeting_14 (by decide) ?_ ?_
    · refine am_iconst g dX9_meeting_36 (am_il rfl) rfl ?_
      exact am_ireturn g dX9_meeting_37
    · refine am_iload_n g dX9_meeting_17 rfl ?_
      refine am_Si (as := [.inl a2]) (S := []) g (cX9_isPlayerC a2 h2) mi_X9_isPlayer lm_X9_115 dX9_meeting_18 rfl (by decide) (Nat.le_of_ble_eq_true rfl) rfl (fun v3 h4 => ?_)
      refine am_if_eq (tgt := 36) g dX9_meeting_21 (by decide) ?_ ?_
      · refine am_iconst g dX9_meeting_36 (am_il rfl) rfl ?_
        exact am_ireturn g dX9_meeting_37
      · refine am_iload_n g dX9_meeting_24 rfl ?_
        refine am_Si (as := [.inl a3]) (S := []) g (cX9_isPlayerC a3 h4) mi_X9_isPlayer lm_X9_115 dX9_meeting_25 rfl (by decide) (Nat.le_of_ble_eq_true rfl) rfl (fun v5 h6 => ?_)
        refine am_if_eq (tgt := 36) g dX9_meeting_28 (by decide) ?_ ?_
        · refine am_iconst g dX9_meeting_36 (am_il rfl) rfl ?_
          exact am_ireturn g dX9_meeting_37
        · refine am_iload_n g dX9_meeting_31 rfl ?_
          refine am_iload_n g dX9_meeting_32 rfl ?_
          refine am_icmp_ne (tgt := 38) g dX9_meeting_33 (by decide) ?_ ?_
          · refine am_aload_n g dX9_meeting_38 rfl ?_
            refine am_iload_n g dX9_meeting_39 rfl ?_
            refine am_iload_n g dX9_meeting_40 rfl ?_
            refine am_Vi (as := [.inl a1, .inl a2]) (S := []) g (cX9_placeOfC a1 a2 h6) mi_X9_placeOf lm_X9_170 clX9.1 (Nat.le_of_ble_eq_true rfl) rfl dX9_meeting_41 rfl (by decide) (Nat.le_of_ble_eq_true rfl) rfl (fun v7 h8 => ?_)
            refine am_istore g dX9_meeting_44 (by decide) ?_
            refine am_aload_n g dX9_meeting_46 rfl ?_
            refine am_iload_n g dX9_meeting_47 rfl ?_
            refine am_iload_n g dX9_meeting_48 rfl ?_
            refine am_Vi (as := [.inl a1, .inl a3]) (S := []) g (cX9_placeOfC a1 a3 h8) mi_X9_placeOf lm_X9_170 clX9.1 (Nat.le_of_ble_eq_true rfl) rfl dX9_meeting_49 rfl (by decide) (Nat.le_of_ble_eq_true rfl) rfl (fun v9 h10 => ?_)
            refine am_istore g dX9_meeting_52 (by decide) ?_
            refine am_iload g dX9_meeting_54 rfl ?_
            refine am_if_lt (tgt := 64) g dX9_meeting_56 (by decide) ?_ ?_
            · refine am_iconst g dX9_meeting_64 (am_il rfl) rfl ?_
              exact am_ireturn g dX9_meeting_65
            · refine am_iload g dX9_meeting_59 rfl ?_
              refine am_if_ge (tgt := 66) g dX9_meeting_61 (by decide) ?_ ?_
              · refine am_iconst g dX9_meeting_66 (am_il rfl) rfl ?_
                refine am_istore g dX9_meeting_67 (by decide) ?_
                exact (jX9_meeting_69 g) a1 a2 a3 v7 v9 0 h10
              · refine am_iconst g dX9_meeting_64 (am_il rfl) rfl ?_
                exact am_ireturn g dX9_meeting_65
          · refine am_iconst g dX9_meeting_36 (am_il rfl) rfl ?_
            exact am_ireturn g dX9_meeting_37
def fX9_isCourt (a1 : Int) (h : am_M) : Option (Int × am_M) := am_b (fX9_in a1 0 5 h) (fun v1 h2 => if v1 = 0 ∨ v1 = 1 then some (v1, h2) else none)
set_option maxRecDepth 10000 in
theorem cX9_isCourtC {D : va_G} {a : Nat → ClassId} {ad : Nat → Nat} (a1 : Int) (h : am_M) : am_C (EM D a ad) yX9_isCourt cX9_isCourt 1 (some .boolean) 2 [.inl a1] h am_ei (fX9_isCourt a1 h) := by
  refine am_ofJ (L := [some (.inl a1)]) (by decide) rfl (Nat.le_of_ble_eq_true rfl) (fun G g => ?_)
  have g : am_Gd (EM D a ad) RX9 cX9_isCourt 1 (some .boolean) 2 G := g
  unfold fX9_isCourt
  refine am_iload_n g dX9_isCourt_0 rfl ?_
  refine am_iconst g dX9_isCourt_1 (am_il rfl) rfl ?_
  refine am_iconst g dX9_isCourt_2 (am_il rfl) rfl ?_
  refine am_Si (as := [.inl a1, .inl 0, .inl 5]) (S := []) g (cX9_inC a1 0 5 h) mi_X9_in lm_X9_111 dX9_isCourt_3 rfl (by decide) (Nat.le_of_ble_eq_true rfl) rfl (fun v1 h2 => ?_)
  exact am_zreturnG g dX9_isCourt_6
def fX9_isMinute (a1 : Int) (h : am_M) : Option (Int × am_M) := am_b (fX9_in a1 0 100000 h) (fun v1 h2 => if v1 = 0 ∨ v1 = 1 then some (v1, h2) else none)
set_option maxRecDepth 10000 in
theorem cX9_isMinuteC {D : va_G} {a : Nat → ClassId} {ad : Nat → Nat} (a1 : Int) (h : am_M) : am_C (EM D a ad) yX9_isMinute cX9_isMinute 1 (some .boolean) 2 [.inl a1] h am_ei (fX9_isMinute a1 h) := by
  refine am_ofJ (L := [some (.inl a1)]) (by decide) rfl (Nat.le_of_ble_eq_true rfl) (fun G g => ?_)
  have g : am_Gd (EM D a ad) RX9 cX9_isMinute 1 (some .boolean) 2 G := g
  unfold fX9_isMinute
  refine am_iload_n g dX9_isMinute_0 rfl ?_
  refine am_iconst g dX9_isMinute_1 (am_il rfl) rfl ?_
  refine am_ldc (n := 100000) g dX9_isMinute_2 (am_il rfl) lc_X9_233 rfl ?_
  refine am_Si (as := [.inl a1, .inl 0, .inl 100000]) (S := []) g (cX9_inC a1 0 100000 h) mi_X9_in lm_X9_111 dX9_isMinute_4 rfl (by decide) (Nat.le_of_ble_eq_true rfl) rfl (fun v1 h2 => ?_)
  exact am_zreturnG g dX9_isMinute_7
def fX9_court (a1 : Int) (a2 : Int) (a3 : Int) (a4 : Int) (a5 : Int) (h : am_M) : Option (Int × am_M) := am_b (fX9_isCourt a1 h) (fun v1 h2 => if v1 = 0 then some ((-1), h2) else am_b (fX9_in a4 0 99 h2) (fun v3 h4 => if v3 = 0 then some ((-1), h4) else am_b (fX9_isMinute a5 h4) (fun v5 h6 => if v5 = 0 then some ((-1), h6) else if a2 = 0 ∨ a2 = 1 then if 0 ≤ a1 ∧ a1 < 6 then am_l (am_up h6 12 (Int.toNat a1) a2) (fun h7 => if a3 = 0 ∨ a3 = 1 then if 0 ≤ a1 ∧ a1 < 6 then am_l (am_up h7 13 (Int.toNat a1) a3) (fun h8 => if 0 ≤ a1 ∧ a1 < 6 then am_l (am_up h8 14 (Int.toNat a1) a4) (fun h9 => if 0 ≤ a1 ∧ a1 < 6 then am_l (am_up h9 15 (Int.toNat a1) a5) (fun h10 => some (1, h10)) else none) else none) else none else none) else none else none)))
set_option maxRecDepth 10000 in
theorem cX9_courtC {D : va_G} {a : Nat → ClassId} {ad : Nat → Nat} (a1 : Int) (a2 : Int) (a3 : Int) (a4 : Int) (a5 : Int) (h : am_M) : am_C (EM D a ad) yX9_court cX9_court 6 (some .int) 3 [.inr (some 0), .inl a1, .inl a2, .inl a3, .inl a4, .inl a5] h am_ei (fX9_court a1 a2 a3 a4 a5 h) := by
  refine am_ofJ (L := [some (.inr (some 0)), some (.inl a1), some (.inl a2), some (.inl a3), some (.inl a4), some (.inl a5)]) (by decide) rfl (Nat.le_of_ble_eq_true rfl) (fun G g => ?_)
  have g : am_Gd (EM D a ad) RX9 cX9_court 6 (some .int) 3 G := g
  unfold fX9_court
  refine am_iload_n g dX9_court_0 rfl ?_
  refine am_Si (as := [.inl a1]) (S := []) g (cX9_isCourtC a1 h) mi_X9_isCourt lm_X9_234 dX9_court_1 rfl (by decide) (Nat.le_of_ble_eq_true rfl) rfl (fun v1 h2 => ?_)
  refine am_if_eq (tgt := 26) g dX9_court_4 (by decide) ?_ ?_
  · refine am_iconst g dX9_court_26 (am_il rfl) rfl ?_
    exact am_ireturn g dX9_court_27
  · refine am_iload g dX9_court_7 rfl ?_
    refine am_iconst g dX9_court_9 (am_il rfl) rfl ?_
    refine am_bipush g dX9_court_10 (am_il rfl) (am_bi rfl) ?_
    refine am_Si (as := [.inl a4, .inl 0, .inl 99]) (S := []) g (cX9_inC a4 0 99 h2) mi_X9_in lm_X9_111 dX9_court_12 rfl (by decide) (Nat.le_of_ble_eq_true rfl) rfl (fun v3 h4 => ?_)
    refine am_if_eq (tgt := 26) g dX9_court_15 (by decide) ?_ ?_
    · refine am_iconst g dX9_court_26 (am_il rfl) rfl ?_
      exact am_ireturn g dX9_court_27
    · refine am_iload g dX9_court_18 rfl ?_
      refine am_Si (as := [.inl a5]) (S := []) g (cX9_isMinuteC a5 h4) mi_X9_isMinute lm_X9_237 dX9_court_20 rfl (by decide) (Nat.le_of_ble_eq_true rfl) rfl (fun v5 h6 => ?_)
      refine am_if_ne (tgt := 28) g dX9_court_23 (by decide) ?_ ?_
      · refine am_aload_n g dX9_court_28 rfl ?_
        refine am_getr (q := 15) (a := 16) g clX9 dX9_court_29 (Nat.le_of_ble_eq_true rfl) rfl (by decide) rfl (Nat.le_of_ble_eq_true rfl) lf_X9_57 ?_
        refine am_iload_n g dX9_court_32 rfl ?_
        refine am_iload_n g dX9_court_33 rfl ?_
        refine am_zastore (ix := Int.toNat a1) (nI := 6) g dX9_court_34 (Nat.le_of_ble_eq_true rfl) rfl rfl (Nat.zero_add _) ?_
        refine am_gm (fun h7 => ?_)
        refine am_aload_n g dX9_court_35 rfl ?_
        refine am_getr (q := 16) (a := 17) g clX9 dX9_court_36 (Nat.le_of_ble_eq_true rfl) rfl (by decide) rfl (Nat.le_of_ble_eq_true rfl) lf_X9_60 ?_
        refine am_iload_n g dX9_court_39 rfl ?_
        refine am_iload_n g dX9_court_40 rfl ?_
        refine am_zastore (ix := Int.toNat a1) (nI := 6) g dX9_court_41 (Nat.le_of_ble_eq_true rfl) rfl rfl (Nat.zero_add _) ?_
        refine am_gm (fun h8 => ?_)
        refine am_aload_n g dX9_court_42 rfl ?_
        refine am_getr (q := 17) (a := 18) g clX9 dX9_court_43 (Nat.le_of_ble_eq_true rfl) rfl (by decide) rfl (Nat.le_of_ble_eq_true rfl) lf_X9_63 ?_
        refine am_iload_n g dX9_court_46 rfl ?_
        refine am_iload g dX9_court_47 rfl ?_
        refine am_iastore (ix := Int.toNat a1) (nI := 6) g dX9_court_49 (Nat.le_of_ble_eq_true rfl) rfl rfl (Nat.zero_add _) ?_
        refine am_gm (fun h9 => ?_)
        refine am_aload_n g dX9_court_50 rfl ?_
        refine am_getr (q := 18) (a := 19) g clX9 dX9_court_51 (Nat.le_of_ble_eq_true rfl) rfl (by decide) rfl (Nat.le_of_ble_eq_true rfl) lf_X9_66 ?_
        refine am_iload_n g dX9_court_54 rfl ?_
        refine am_iload g dX9_court_55 rfl ?_
        refine am_iastore (ix := Int.toNat a1) (nI := 6) g dX9_court_57 (Nat.le_of_ble_eq_true rfl) rfl rfl (Nat.zero_add _) ?_
        refine am_gm (fun h10 => ?_)
        refine am_iconst g dX9_court_58 (am_il rfl) rfl ?_
        exact am_ireturn g dX9_court_59
      · refine am_iconst g dX9_court_26 (am_il rfl) rfl ?_
        exact am_ireturn g dX9_court_27
def fX9_rule_37 (l1 : Int) (l2 : Int) (h : am_M) : Option (Int × am_M) := if 0 ≤ l1 ∧ l1 < 4 then am_l (h 18 (Int.toNat l1)) (fun x5 => if 0 ≤ l1 ∧ l1 < 4 then am_l (am_up h 18 (Int.toNat l1) l2) (fun h6 => some (x5, h6)) else none) else none
set_option maxRecDepth 10000 in
theorem jX9_rule_37 {D : va_G} {a : Nat → ClassId} {ad : Nat → Nat} {G : am_G} (g : am_Gd (EM D a ad) RX9 cX9_rule 4 (some .int) 3 G) : ∀ (l1 : Int), ∀ (l2 : Int), ∀ h : am_M, am_J (EM D a ad) G 4 am_ei 37 [some (.inr (some 0)), some (.inl l1), some (.inl l2), none] [] h (fX9_rule_37 l1 l2 h) := by
  intro l1 l2 h
  unfold fX9_rule_37
  refine am_aload_n g dX9_rule_37 rfl ?_
  refine am_getr (q := 21) (a := 22) g clX9 dX9_rule_38 (Nat.le_of_ble_eq_true rfl) rfl (by decide) rfl (Nat.le_of_ble_eq_true rfl) lf_X9_75 ?_
  refine am_iload_n g dX9_rule_41 rfl ?_
  refine am_iaload (ix := Int.toNat l1) (nI := 4) g dX9_rule_42 (Nat.le_of_ble_eq_true rfl) rfl rfl (Nat.zero_add _) ?_
  refine am_gv (fun x5 => ?_)
  refine am_istore_n g dX9_rule_43 (by decide) ?_
  refine am_aload_n g dX9_rule_44 rfl ?_
  refine am_getr (q := 21) (a := 22) g clX9 dX9_rule_45 (Nat.le_of_ble_eq_true rfl) rfl (by decide) rfl (Nat.le_of_ble_eq_true rfl) lf_X9_75 ?_
  refine am_iload_n g dX9_rule_48 rfl ?_
  refine am_iload_n g dX9_rule_49 rfl ?_
  refine am_iastore (ix := Int.toNat l1) (nI := 4) g dX9_rule_50 (Nat.le_of_ble_eq_true rfl) rfl rfl (Nat.zero_add _) ?_
  refine am_gm (fun h6 => ?_)
  refine am_iload_n g dX9_rule_51 rfl ?_
  exact am_ireturn g dX9_rule_52
def fX9_rule (a1 : Int) (a2 : Int) (h : am_M) : Option (Int × am_M) := am_b (fX9_in a1 0 3 h) (fun v1 h2 => if v1 = 0 then some ((-1), h2) else if a1 = 3 then (am_b (fX9_isMinute a2 h2) (fun v7 h8 => if v7 = 0 then some ((-1), h8) else fX9_rule_37 a1 a2 h8)) else am_b (fX9_in a2 0 2000 h2) (fun v3 h4 => if v3 = 0 then some ((-1), h4) else fX9_rule_37 a1 a2 h4))
set_option maxRecDepth 10000 in
theorem cX9_ruleC {D : va_G} {a : Nat → ClassId} {ad : Nat → Nat} (a1 : Int) (a2 : Int) (h : am_M) : am_C (EM D a ad) yX9_rule cX9_rule 4 (some .int) 3 [.inr (some 0), .inl a1, .inl a2] h am_ei (fX9_rule a1 a2 h) := by
  refine am_ofJ (L := [some (.inr (some 0)), some (.inl a1), some (.inl a2), none]) (by decide) rfl (Nat.le_of_ble_eq_true rfl) (fun G g => ?_)
  have g : am_Gd (EM D a ad) RX9 cX9_rule 4 (some .int) 3 G := g
  unfold fX9_rule
  refine am_iload_n g dX9_rule_0 rfl ?_
  refine am_iconst g dX9_rule_1 (am_il rfl) rfl ?_
  refine am_iconst g dX9_rule_2 (am_il rfl) rfl ?_
  refine am_Si (as := [.inl a1, .inl 0, .inl 3]) (S := []) g (cX9_inC a1 0 3 h) mi_X9_in lm_X9_111 dX9_rule_3 rfl (by decide) (Nat.le_of_ble_eq_true rfl) rfl (fun v1 h2 => ?_)
  refine am_if_eq (tgt := 35) g dX9_rule_6 (by decide) ?_ ?_
  · refine am_iconst g dX9_rule_35 (am_il rfl) rfl ?_
    exact am_ireturn g dX9_rule_36
  · refine am_iload_n g dX9_rule_9 rfl ?_
    refine am_iconst g dX9_rule_10 (am_il rfl) rfl ?_
    refine am_icmp_ne (tgt := 24) g dX9_rule_11 (by decide) ?_ ?_
    · refine am_iload_n g dX9_rule_24 rfl ?_
      refine am_iconst g dX9_rule_25 (am_il rfl) rfl ?_
      refine am_sipush g dX9_rule_26 (am_il rfl) (am_si rfl) ?_
      refine am_Si (as := [.inl a2, .inl 0, .inl 2000]) (S := []) g (cX9_inC a2 0 2000 h2) mi_X9_in lm_X9_111 dX9_rule_29 rfl (by decide) (Nat.le_of_ble_eq_true rfl) rfl (fun v3 h4 => ?_)
      refine am_if_ne (tgt := 37) g dX9_rule_32 (by decide) ?_ ?_
      · exact (jX9_rule_37 g) a1 a2 h4
      · refine am_iconst g dX9_rule_35 (am_il rfl) rfl ?_
        exact am_ireturn g dX9_rule_36
    · refine am_iload_n g dX9_rule_14 rfl ?_
      refine am_Si (as := [.inl a2]) (S := []) g (cX9_isMinuteC a2 h2) mi_X9_isMinute lm_X9_237 dX9_rule_15 rfl (by decide) (Nat.le_of_ble_eq_true rfl) rfl (fun v7 h8 => ?_)
      refine am_if_ne (tgt := 37) g dX9_rule_18 (by decide) ?_ ?_
      · exact (jX9_rule_37 g) a1 a2 h8
      · refine am_goto (tgt := 35) g dX9_rule_21 (by decide) ?_
        refine am_iconst g dX9_rule_35 (am_il rfl) rfl ?_
        exact am_ireturn g dX9_rule_36
def fX9_rain_13 (l1 : Int) (s0 : Int) (h : am_M) : Option (Int × am_M) := if l1 = 0 ∨ l1 = 1 then am_l (am_up h 19 0 l1) (fun h1 => if s0 = 0 ∨ s0 = 1 then some (s0, h1) else none) else none
set_option maxRecDepth 10000 in
theorem jX9_rain_13 {D : va_G} {a : Nat → ClassId} {ad : Nat → Nat} {G : am_G} (g : am_Gd (EM D a ad) RX9 cX9_rain 3 (some .boolean) 1 G) : ∀ (l1 : Int), ∀ (s0 : Int), ∀ h : am_M, am_J (EM D a ad) G 3 am_ei 13 [some (.inr (some 0)), some (.inl l1), none] [.inl s0] h (fX9_rain_13 l1 s0 h) := by
  intro l1 s0 h
  unfold fX9_rain_13
  refine am_istore_n g dX9_rain_13 (by decide) ?_
  refine am_aload_n g dX9_rain_14 rfl ?_
  refine am_iload_n g dX9_rain_15 rfl ?_
  refine am_putz (q := 22) (kd := 19) (ix := 0) g clX9 dX9_rain_16 (Nat.le_of_ble_eq_true rfl) rfl (by decide) rfl lf_X9_240 rfl rfl ?_
  refine am_gm (fun h1 => ?_)
  refine am_iload_n g dX9_rain_19 rfl ?_
  exact am_zreturnG g dX9_rain_20
def fX9_rain (a1 : Int) (h : am_M) : Option (Int × am_M) := if (h 19 0) = a1 then fX9_rain_13 a1 0 h else fX9_rain_13 a1 1 h
set_option maxRecDepth 10000 in
theorem cX9_rainC {D : va_G} {a : Nat → ClassId} {ad : Nat → Nat} (a1 : Int) (h : am_M) : am_C (EM D a ad) yX9_rain cX9_rain 3 (some .boolean) 1 [.inr (some 0), .inl a1] h am_ei (fX9_rain a1 h) := by
  refine am_ofJ (L := [some (.inr (some 0)), some (.inl a1), none]) (by decide) rfl (Nat.le_of_ble_eq_true rfl) (fun G g => ?_)
  have g : am_Gd (EM D a ad) RX9 cX9_rain 3 (some .boolean) 1 G := g
  unfold fX9_rain
  refine am_aload_n g dX9_rain_0 rfl ?_
  refine am_geti (q := 22) (kd := 19) (ix := 0) g clX9 dX9_rain_1 (Nat.le_of_ble_eq_true rfl) rfl (by decide) rfl lf_X9_240 ?_
  refine am_iload_n g dX9_rain_4 rfl ?_
  refine am_icmp_eq (tgt := 12) g dX9_rain_5 (by decide) ?_ ?_
  · refine am_iconst g dX9_rain_12 (am_il rfl) rfl ?_
    exact (jX9_rain_13 g) a1 0 h
  · refine am_iconst g dX9_rain_8 (am_il rfl) rfl ?_
    refine am_goto (tgt := 13) g dX9_rain_9 (by decide) ?_
    exact (jX9_rain_13 g) a1 1 h
def fX9_isAnyMatch (a1 : Int) (h : am_M) : Option (Int × am_M) := am_b (fX9_in a1 0 63 h) (fun v1 h2 => if v1 = 0 then some (0, h2) else if (Int.tmod a1 16) < 15 then some (1, h2) else some (0, h2))
set_option maxRecDepth 10000 in
theorem cX9_isAnyMatchC {D : va_G} {a : Nat → ClassId} {ad : Nat → Nat} (a1 : Int) (h : am_M) : am_C (EM D a ad) yX9_isAnyMatch cX9_isAnyMatch 1 (some .boolean) 2 [.inl a1] h am_ei (fX9_isAnyMatch a1 h) := by
  refine am_ofJ (L := [some (.inl a1)]) (by decide) rfl (Nat.le_of_ble_eq_true rfl) (fun G g => ?_)
  have g : am_Gd (EM D a ad) RX9 cX9_isAnyMatch 1 (some .boolean) 2 G := g
  unfold fX9_isAnyMatch
  refine am_iload_n g dX9_isAnyMatch_0 rfl ?_
  refine am_iconst g dX9_isAnyMatch_1 (am_il rfl) rfl ?_
  refine am_bipush g dX9_isAnyMatch_2 (am_il rfl) (am_bi rfl) ?_
  refine am_Si (as := [.inl a1, .inl 0, .inl 63]) (S := []) g (cX9_inC a1 0 63 h) mi_X9_in lm_X9_111 dX9_isAnyMatch_4 rfl (by decide) (Nat.le_of_ble_eq_true rfl) rfl (fun v1 h2 => ?_)
  refine am_if_eq (tgt := 23) g dX9_isAnyMatch_7 (by decide) ?_ ?_
  · refine am_iconst g dX9_isAnyMatch_23 (am_il rfl) rfl ?_
    exact am_zreturn g dX9_isAnyMatch_24 (by decide)
  · refine am_iload_n g dX9_isAnyMatch_10 rfl ?_
    refine am_bipush g dX9_isAnyMatch_11 (am_il rfl) (am_bi rfl) ?_
    refine am_irem g dX9_isAnyMatch_13 (by decide) ?_
    refine am_bipush g dX9_isAnyMatch_14 (am_il rfl) (am_bi rfl) ?_
    refine am_icmp_ge (tgt := 23) g dX9_isAnyMatch_16 (by decide) ?_ ?_
    · refine am_iconst g dX9_isAnyMatch_23 (am_il rfl) rfl ?_
      exact am_zreturn g dX9_isAnyMatch_24 (by decide)
    · refine am_iconst g dX9_isAnyMatch_19 (am_il rfl) rfl ?_
      refine am_goto (tgt := 24) g dX9_isAnyMatch_20 (by decide) ?_
      exact am_zreturn g dX9_isAnyMatch_24 (by decide)
def fX9_come (a1 : Int) (a2 : Int) (h : am_M) : Option (Int × am_M) := if 0 ≤ a1 ∧ a1 < 6 then if (h 16 (Int.toNat a1)) = 6 then some ((-2), h) else if 0 ≤ a1 ∧ a1 < 6 then if 0 ≤ (am_w ((am_w (6 * a1)) + (h 16 (Int.toNat a1)))) ∧ (am_w ((am_w (6 * a1)) + (h 16 (Int.toNat a1)))) < 36 then am_l (am_up h 17 (Int.toNat (am_w ((am_w (6 * a1)) + (h 16 (Int.toNat a1))))) a2) (fun h1 => if 0 ≤ a1 ∧ a1 < 6 then if 0 ≤ a1 ∧ a1 < 6 then am_l (am_up h1 16 (Int.toNat a1) (am_w ((h1 16 (Int.toNat a1)) + 1))) (fun h2 => if 0 ≤ a1 ∧ a1 < 6 then some (am_w ((h2 16 (Int.toNat a1)) - 1), h2) else none) else none else none) else none else none else none
set_option maxRecDepth 10000 in
theorem cX9_comeC {D : va_G} {a : Nat → ClassId} {ad : Nat → Nat} (a1 : Int) (a2 : Int) (h : am_M) : am_C (EM D a ad) yX9_come cX9_come 3 (some .int) 1 [.inr (some 0), .inl a1, .inl a2] h am_ei (fX9_come a1 a2 h) := by
  refine am_ofJ (L := [some (.inr (some 0)), some (.inl a1), some (.inl a2)]) (by decide) rfl (Nat.le_of_ble_eq_true rfl) (fun G g => ?_)
  have g : am_Gd (EM D a ad) RX9 cX9_come 3 (some .int) 1 G := g
  unfold fX9_come
  refine am_aload_n g dX9_come_0 rfl ?_
  refine am_getr (q := 19) (a := 20) g clX9 dX9_come_1 (Nat.le_of_ble_eq_true rfl) rfl (by decide) rfl (Nat.le_of_ble_eq_true rfl) lf_X9_69 ?_
  refine am_iload_n g dX9_come_4 rfl ?_
  refine am_iaload (ix := Int.toNat a1) (nI := 6) g dX9_come_5 (Nat.le_of_ble_eq_true rfl) rfl rfl (Nat.zero_add _) ?_
  refine am_bipush g dX9_come_6 (am_il rfl) (am_bi rfl) ?_
  refine am_icmp_ne (tgt := 14) g dX9_come_8 (by decide) ?_ ?_
  · refine am_aload_n g dX9_come_14 rfl ?_
    refine am_getr (q := 20) (a := 21) g clX9 dX9_come_15 (Nat.le_of_ble_eq_true rfl) rfl (by decide) rfl (Nat.le_of_ble_eq_true rfl) lf_X9_72 ?_
    refine am_bipush g dX9_come_18 (am_il rfl) (am_bi rfl) ?_
    refine am_iload_n g dX9_come_20 rfl ?_
    refine am_imul g dX9_come_21 ?_
    refine am_aload_n g dX9_come_22 rfl ?_
    refine am_getr (q := 19) (a := 20) g clX9 dX9_come_23 (Nat.le_of_ble_eq_true rfl) rfl (by decide) rfl (Nat.le_of_ble_eq_true rfl) lf_X9_69 ?_
    refine am_iload_n g dX9_come_26 rfl ?_
    refine am_iaload (ix := Int.toNat a1) (nI := 6) g dX9_come_27 (Nat.le_of_ble_eq_true rfl) rfl rfl (Nat.zero_add _) ?_
    refine am_iadd g dX9_come_28 ?_
    refine am_iload_n g dX9_come_29 rfl ?_
    refine am_iastore (ix := Int.toNat (am_w ((am_w (6 * a1)) + (h 16 (Int.toNat a1))))) (nI := 36) g dX9_come_30 (Nat.le_of_ble_eq_true rfl) rfl rfl (Nat.zero_add _) ?_
    refine am_gm (fun h1 => ?_)
    refine am_aload_n g dX9_come_31 rfl ?_
    refine am_getr (q := 19) (a := 20) g clX9 dX9_come_32 (Nat.le_of_ble_eq_true rfl) rfl (by decide) rfl (Nat.le_of_ble_eq_true rfl) lf_X9_69 ?_
    refine am_iload_n g dX9_come_35 rfl ?_
    refine am_dup2 g dX9_come_36 ?_
    refine am_iaload (ix := Int.toNat a1) (nI := 6) g dX9_come_37 (Nat.le_of_ble_eq_true rfl) rfl rfl (Nat.zero_add _) ?_
    refine am_iconst g dX9_come_38 (am_il rfl) rfl ?_
    refine am_iadd g dX9_come_39 ?_
    refine am_iastore (ix := Int.toNat a1) (nI := 6) g dX9_come_40 (Nat.le_of_ble_eq_true rfl) rfl rfl (Nat.zero_add _) ?_
    refine am_gm (fun h2 => ?_)
    refine am_aload_n g dX9_come_41 rfl ?_
    refine am_getr (q := 19) (a := 20) g clX9 dX9_come_42 (Nat.le_of_ble_eq_true rfl) rfl (by decide) rfl (Nat.le_of_ble_eq_true rfl) lf_X9_69 ?_
    refine am_iload_n g dX9_come_45 rfl ?_
    refine am_iaload (ix := Int.toNat a1) (nI := 6) g dX9_come_46 (Nat.le_of_ble_eq_true rfl) rfl rfl (Nat.zero_add _) ?_
    refine am_iconst g dX9_come_47 (am_il rfl) rfl ?_
    refine am_isub g dX9_come_48 ?_
    exact am_ireturn g dX9_come_49
  · refine am_bipush g dX9_come_11 (am_il rfl) (am_bi rfl) ?_
    exact am_ireturn g dX9_come_13
def fX9_slot (a1 : Int) (a2 : Int) (h : am_M) : Option (Int × am_M) := am_b (fX9_isCourt a1 h) (fun v1 h2 => if v1 = 0 then some ((-1), h2) else am_b (fX9_isAnyMatch a2 h2) (fun v3 h4 => if v3 = 0 then some ((-1), h4) else am_b (fX9_come a1 a2 h4) (fun v5 h6 => some (v5, h6))))
set_option maxRecDepth 10000 in
theorem cX9_slotC {D : va_G} {a : Nat → ClassId} {ad : Nat → Nat} (a1 : Int) (a2 : Int) (h : am_M) : am_C (EM D a ad) yX9_slot cX9_slot 3 (some .int) 3 [.inr (some 0), .inl a1, .inl a2] h am_ei (fX9_slot a1 a2 h) := by
  refine am_ofJ (L := [some (.inr (some 0)), some (.inl a1), some (.inl a2)]) (by decide) rfl (Nat.le_of_ble_eq_true rfl) (fun G g => ?_)
  have g : am_Gd (EM D a ad) RX9 cX9_slot 3 (some .int) 3 G := g
  unfold fX9_slot
  refine am_iload_n g dX9_slot_0 rfl ?_
  refine am_Si (as := [.inl a1]) (S := []) g (cX9_isCourtC a1 h) mi_X9_isCourt lm_X9_234 dX9_slot_1 rfl (by decide) (Nat.le_of_ble_eq_true rfl) rfl (fun v1 h2 => ?_)
  refine am_if_eq (tgt := 23) g dX9_slot_4 (by decide) ?_ ?_
  · refine am_iconst g dX9_slot_23 (am_il rfl) rfl ?_
    exact am_ireturn g dX9_slot_24
  · refine am_iload_n g dX9_slot_7 rfl ?_
    refine am_Si (as := [.inl a2]) (S := []) g (cX9_isAnyMatchC a2 h2) mi_X9_isAnyMatch lm_X9_244 dX9_slot_8 rfl (by decide) (Nat.le_of_ble_eq_true rfl) rfl (fun v3 h4 => ?_)
    refine am_if_eq (tgt := 23) g dX9_slot_11 (by decide) ?_ ?_
    · refine am_iconst g dX9_slot_23 (am_il rfl) rfl ?_
      exact am_ireturn g dX9_slot_24
    · refine am_aload_n g dX9_slot_14 rfl ?_
      refine am_iload_n g dX9_slot_15 rfl ?_
      refine am_iload_n g dX9_slot_16 rfl ?_
      refine am_Vi (as := [.inl a1, .inl a2]) (S := []) g (cX9_comeC a1 a2 h4) mi_X9_come lm_X9_247 clX9.1 (Nat.le_of_ble_eq_true rfl) rfl dX9_slot_17 rfl (by decide) (Nat.le_of_ble_eq_true rfl) rfl (fun v5 h6 => ?_)
      refine am_goto (tgt := 24) g dX9_slot_20 (by decide) ?_
      exact am_ireturn g dX9_slot_24
def fX9_gap (a1 : Int) (a2 : Int) (h : am_M) : Option (Int × am_M) := am_b (fX9_isCourt a1 h) (fun v1 h2 => if v1 = 0 then some ((-1), h2) else am_b (fX9_in a2 1 1000 h2) (fun v3 h4 => if v3 = 0 then some ((-1), h4) else am_b (fX9_come a1 (am_w (-a2)) h4) (fun v5 h6 => some (v5, h6))))
set_option maxRecDepth 10000 in
theorem cX9_gapC {D : va_G} {a : Nat → ClassId} {ad : Nat → Nat} (a1 : Int) (a2 : Int) (h : am_M) : am_C (EM D a ad) yX9_gap cX9_gap 3 (some .int) 3 [.inr (some 0), .inl a1, .inl a2] h am_ei (fX9_gap a1 a2 h) := by
  refine am_ofJ (L := [some (.inr (some 0)), some (.inl a1), some (.inl a2)]) (by decide) rfl (Nat.le_of_ble_eq_true rfl) (fun G g => ?_)
  have g : am_Gd (EM D a ad) RX9 cX9_gap 3 (some .int) 3 G := g
  unfold fX9_gap
  refine am_iload_n g dX9_gap_0 rfl ?_
  refine am_Si (as := [.inl a1]) (S := []) g (cX9_isCourtC a1 h) mi_X9_isCourt lm_X9_234 dX9_gap_1 rfl (by decide) (Nat.le_of_ble_eq_true rfl) rfl (fun v1 h2 => ?_)
  refine am_if_eq (tgt := 28) g dX9_gap_4 (by decide) ?_ ?_
  · refine am_iconst g dX9_gap_28 (am_il rfl) rfl ?_
    exact am_ireturn g dX9_gap_29
  · refine am_iload_n g dX9_gap_7 rfl ?_
    refine am_iconst g dX9_gap_8 (am_il rfl) rfl ?_
    refine am_sipush g dX9_gap_9 (am_il rfl) (am_si rfl) ?_
    refine am_Si (as := [.inl a2, .inl 1, .inl 1000]) (S := []) g (cX9_inC a2 1 1000 h2) mi_X9_in lm_X9_111 dX9_gap_12 rfl (by decide) (Nat.le_of_ble_eq_true rfl) rfl (fun v3 h4 => ?_)
    refine am_if_eq (tgt := 28) g dX9_gap_15 (by decide) ?_ ?_
    · refine am_iconst g dX9_gap_28 (am_il rfl) rfl ?_
      exact am_ireturn g dX9_gap_29
    · refine am_aload_n g dX9_gap_18 rfl ?_
      refine am_iload_n g dX9_gap_19 rfl ?_
      refine am_iload_n g dX9_gap_20 rfl ?_
      refine am_ineg g dX9_gap_21 ?_
      refine am_Vi (as := [.inl a1, .inl (am_w (-a2))]) (S := []) g (cX9_comeC a1 (am_w (-a2)) h4) mi_X9_come lm_X9_247 clX9.1 (Nat.le_of_ble_eq_true rfl) rfl dX9_gap_22 rfl (by decide) (Nat.le_of_ble_eq_true rfl) rfl (fun v5 h6 => ?_)
      refine am_goto (tgt := 29) g dX9_gap_25 (by decide) ?_
      exact am_ireturn g dX9_gap_29
def fX9_isSlot (a1 : Int) (a2 : Int) (h : am_M) : Option (Int × am_M) := am_b (fX9_isCourt a1 h) (fun v1 h2 => if v1 = 0 then some (0, h2) else if 0 ≤ a1 ∧ a1 < 6 then am_b (fX9_in a2 0 (am_w ((h2 16 (Int.toNat a1)) - 1)) h2) (fun v3 h4 => if v3 = 0 then some (0, h4) else some (1, h4)) else none)
set_option maxRecDepth 10000 in
theorem cX9_isSlotC {D : va_G} {a : Nat → ClassId} {ad : Nat → Nat} (a1 : Int) (a2 : Int) (h : am_M) : am_C (EM D a ad) yX9_isSlot cX9_isSlot 3 (some .boolean) 3 [.inr (some 0), .inl a1, .inl a2] h am_ei (fX9_isSlot a1 a2 h) := by
  refine am_ofJ (L := [some (.inr (some 0)), some (.inl a1), some (.inl a2)]) (by decide) rfl (Nat.le_of_ble_eq_true rfl) (fun G g => ?_)
  have g : am_Gd (EM D a ad) RX9 cX9_isSlot 3 (some .boolean) 3 G := g
  unfold fX9_isSlot
  refine am_iload_n g dX9_isSlot_0 rfl ?_
  refine am_Si (as := [.inl a1]) (S := []) g (cX9_isCourtC a1 h) mi_X9_isCourt lm_X9_234 dX9_isSlot_1 rfl (by decide) (Nat.le_of_ble_eq_true rfl) rfl (fun v1 h2 => ?_)
  refine am_if_eq (tgt := 27) g dX9_isSlot_4 (by decide) ?_ ?_
  · refine am_iconst g dX9_isSlot_27 (am_il rfl) rfl ?_
    exact am_zreturn g dX9_isSlot_28 (by decide)
  · refine am_iload_n g dX9_isSlot_7 rfl ?_
    refine am_iconst g dX9_isSlot_8 (am_il rfl) rfl ?_
    refine am_aload_n g dX9_isSlot_9 rfl ?_
    refine am_getr (q := 19) (a := 20) g clX9 dX9_isSlot_10 (Nat.le_of_ble_eq_true rfl) rfl (by decide) rfl (Nat.le_of_ble_eq_true rfl) lf_X9_69 ?_
    refine am_iload_n g dX9_isSlot_13 rfl ?_
    refine am_iaload (ix := Int.toNat a1) (nI := 6) g dX9_isSlot_14 (Nat.le_of_ble_eq_true rfl) rfl rfl (Nat.zero_add _) ?_
    refine am_iconst g dX9_isSlot_15 (am_il rfl) rfl ?_
    refine am_isub g dX9_isSlot_16 ?_
    refine am_Si (as := [.inl a2, .inl 0, .inl (am_w ((h2 16 (Int.toNat a1)) - 1))]) (S := []) g (cX9_inC a2 0 (am_w ((h2 16 (Int.toNat a1)) - 1)) h2) mi_X9_in lm_X9_111 dX9_isSlot_17 rfl (by decide) (Nat.le_of_ble_eq_true rfl) rfl (fun v3 h4 => ?_)
    refine am_if_eq (tgt := 27) g dX9_isSlot_20 (by decide) ?_ ?_
    · refine am_iconst g dX9_isSlot_27 (am_il rfl) rfl ?_
      exact am_zreturn g dX9_isSlot_28 (by decide)
    · refine am_iconst g dX9_isSlot_23 (am_il rfl) rfl ?_
      refine am_goto (tgt := 28) g dX9_isSlot_24 (by decide) ?_
      exact am_zreturn g dX9_isSlot_28 (by decide)
def fX9_drop_23b (K23 : Int → Int → am_M → Option (Int × am_M)) (l1 : Int) (l3 : Int) (h : am_M) : Option (Int × am_M) := if 0 ≤ l1 ∧ l1 < 6 then if l3 < (h 16 (Int.toNat l1)) then (if 0 ≤ (am_w ((am_w ((am_w (6 * l1)) + l3)) + 1)) ∧ (am_w ((am_w ((am_w (6 * l1)) + l3)) + 1)) < 36 then if 0 ≤ (am_w ((am_w (6 * l1)) + l3)) ∧ (am_w ((am_w (6 * l1)) + l3)) < 36 then am_l (am_up h 17 (Int.toNat (am_w ((am_w (6 * l1)) + l3))) (h 17 (Int.toNat (am_w ((am_w ((am_w (6 * l1)) + l3)) + 1))))) (fun h4 => K23 l1 (am_w (l3 + 1)) h4) else none else none) else if 0 ≤ l1 ∧ l1 < 6 then some (h 16 (Int.toNat l1), h) else none else none
def fX9_drop_23 : Int → Int → am_M → Option (Int × am_M) := am_it (fun _ _ _ => none) (fX9_drop_23b) 400
set_option maxRecDepth 10000 in
theorem jX9_drop_23b {D : va_G} {a : Nat → ClassId} {ad : Nat → Nat} {G : am_G} (g : am_Gd (EM D a ad) RX9 cX9_drop 4 (some .int) 4 G) {K23 : Int → Int → am_M → Option (Int × am_M)} (hK23 : ∀ (l1 : Int), ∀ (l3 : Int), ∀ h : am_M, am_J (EM D a ad) G 4 am_ei 23 [some (.inr (some 0)), some (.inl l1), none, some (.inl l3)] [] h (K23 l1 l3 h)) : ∀ (l1 : Int), ∀ (l3 : Int), ∀ h : am_M, am_J (EM D a ad) G 4 am_ei 23 [some (.inr (some 0)), some (.inl l1), none, some (.inl l3)] [] h (fX9_drop_23b K23 l1 l3 h) := by
  intro l1 l3 h
  unfold fX9_drop_23b
  refine am_iload_n g dX9_drop_23 rfl ?_
  refine am_aload_n g dX9_drop_24 rfl ?_
  refine am_getr (q := 19) (a := 20) g clX9 dX9_drop_25 (Nat.le_of_ble_eq_true rfl) rfl (by decide) rfl (Nat.le_of_ble_eq_true rfl) lf_X9_69 ?_
  refine am_iload_n g dX9_drop_28 rfl ?_
  refine am_iaload (ix := Int.toNat l1) (nI := 6) g dX9_drop_29 (Nat.le_of_ble_eq_true rfl) rfl rfl (Nat.zero_add _) ?_
  refine am_icmp_ge (tgt := 63) g dX9_drop_30 (by decide) ?_ ?_
  · refine am_aload_n g dX9_drop_63 rfl ?_
    refine am_getr (q := 19) (a := 20) g clX9 dX9_drop_64 (Nat.le_of_ble_eq_true rfl) rfl (by decide) rfl (Nat.le_of_ble_eq_true rfl) lf_X9_69 ?_
    refine am_iload_n g dX9_drop_67 rfl ?_
    refine am_iaload (ix := Int.toNat l1) (nI := 6) g dX9_drop_68 (Nat.le_of_ble_eq_true rfl) rfl rfl (Nat.zero_add _) ?_
    exact am_ireturn g dX9_drop_69
  · refine am_aload_n g dX9_drop_33 rfl ?_
    refine am_getr (q := 20) (a := 21) g clX9 dX9_drop_34 (Nat.le_of_ble_eq_true rfl) rfl (by decide) rfl (Nat.le_of_ble_eq_true rfl) lf_X9_72 ?_
    refine am_bipush g dX9_drop_37 (am_il rfl) (am_bi rfl) ?_
    refine am_iload_n g dX9_drop_39 rfl ?_
    refine am_imul g dX9_drop_40 ?_
    refine am_iload_n g dX9_drop_41 rfl ?_
    refine am_iadd g dX9_drop_42 ?_
    refine am_aload_n g dX9_drop_43 rfl ?_
    refine am_getr (q := 20) (a := 21) g clX9 dX9_drop_44 (Nat.le_of_ble_eq_true rfl) rfl (by decide) rfl (Nat.le_of_ble_eq_true rfl) lf_X9_72 ?_
    refine am_bipush g dX9_drop_47 (am_il rfl) (am_bi rfl) ?_
    refine am_iload_n g dX9_drop_49 rfl ?_
    refine am_imul g dX9_drop_50 ?_
    refine am_iload_n g dX9_drop_51 rfl ?_
    refine am_iadd g dX9_drop_52 ?_
    refine am_iconst g dX9_drop_53 (am_il rfl) rfl ?_
    refine am_iadd g dX9_drop_54 ?_
    refine am_iaload (ix := Int.toNat (am_w ((am_w ((am_w (6 * l1)) + l3)) + 1))) (nI := 36) g dX9_drop_55 (Nat.le_of_ble_eq_true rfl) rfl rfl (Nat.zero_add _) ?_
    refine am_iastore (ix := Int.toNat (am_w ((am_w (6 * l1)) + l3))) (nI := 36) g dX9_drop_56 (Nat.le_of_ble_eq_true rfl) rfl rfl (Nat.zero_add _) ?_
    refine am_gm (fun h4 => ?_)
    refine am_iinc g dX9_drop_57 (by decide) rfl ?_
    refine am_goto (tgt := 23) g dX9_drop_60 (by decide) ?_
    exact hK23 l1 (am_w (l3 + 1)) h4
theorem jX9_drop_23 {D : va_G} {a : Nat → ClassId} {ad : Nat → Nat} {G : am_G} (g : am_Gd (EM D a ad) RX9 cX9_drop 4 (some .int) 4 G) : ∀ (l1 : Int), ∀ (l3 : Int), ∀ h : am_M, am_J (EM D a ad) G 4 am_ei 23 [some (.inr (some 0)), some (.inl l1), none, some (.inl l3)] [] h (fX9_drop_23 l1 l3 h) := by
  unfold fX9_drop_23
  generalize 400 = n
  induction n with
  | zero => intro l1 l3 h; exact am_jn
  | succ n ih => exact jX9_drop_23b g ih
def fX9_drop (a1 : Int) (a2 : Int) (h : am_M) : Option (Int × am_M) := am_b (fX9_isSlot a1 a2 h) (fun v1 h2 => if v1 = 0 then some ((-1), h2) else if 0 ≤ a1 ∧ a1 < 6 then if 0 ≤ a1 ∧ a1 < 6 then am_l (am_up h2 16 (Int.toNat a1) (am_w ((h2 16 (Int.toNat a1)) - 1))) (fun h3 => fX9_drop_23 a1 a2 h3) else none else none)
set_option maxRecDepth 10000 in
theorem cX9_dropC {D : va_G} {a : Nat → ClassId} {ad : Nat → Nat} (a1 : Int) (a2 : Int) (h : am_M) : am_C (EM D a ad) yX9_drop cX9_drop 4 (some .int) 4 [.inr (some 0), .inl a1, .inl a2] h am_ei (fX9_drop a1 a2 h) := by
  refine am_ofJ (L := [some (.inr (some 0)), some (.inl a1), some (.inl a2), none]) (by decide) rfl (Nat.le_of_ble_eq_true rfl) (fun G g => ?_)
  have g : am_Gd (EM D a ad) RX9 cX9_drop 4 (some .int) 4 G := g
  unfold fX9_drop
  refine am_aload_n g dX9_drop_0 rfl ?_
  refine am_iload_n g dX9_drop_1 rfl ?_
  refine am_iload_n g dX9_drop_2 rfl ?_
  refine am_Vi (as := [.inl a1, .inl a2]) (S := []) g (cX9_isSlotC a1 a2 h) mi_X9_isSlot lm_X9_250 clX9.1 (Nat.le_of_ble_eq_true rfl) rfl dX9_drop_3 rfl (by decide) (Nat.le_of_ble_eq_true rfl) rfl (fun v1 h2 => ?_)
  refine am_if_ne (tgt := 11) g dX9_drop_6 (by decide) ?_ ?_
  · refine am_aload_n g dX9_drop_11 rfl ?_
    refine am_getr (q := 19) (a := 20) g clX9 dX9_drop_12 (Nat.le_of_ble_eq_true rfl) rfl (by decide) rfl (Nat.le_of_ble_eq_true rfl) lf_X9_69 ?_
    refine am_iload_n g dX9_drop_15 rfl ?_
    refine am_dup2 g dX9_drop_16 ?_
    refine am_iaload (ix := Int.toNat a1) (nI := 6) g dX9_drop_17 (Nat.le_of_ble_eq_true rfl) rfl rfl (Nat.zero_add _) ?_
    refine am_iconst g dX9_drop_18 (am_il rfl) rfl ?_
    refine am_isub g dX9_drop_19 ?_
    refine am_iastore (ix := Int.toNat a1) (nI := 6) g dX9_drop_20 (Nat.le_of_ble_eq_true rfl) rfl rfl (Nat.zero_add _) ?_
    refine am_gm (fun h3 => ?_)
    refine am_iload_n g dX9_drop_21 rfl ?_
    refine am_istore_n g dX9_drop_22 (by decide) ?_
    refine am_drop 2 ?_
    exact (jX9_drop_23 g) a1 a2 h3
  · refine am_iconst g dX9_drop_9 (am_il rfl) rfl ?_
    exact am_ireturn g dX9_drop_10
