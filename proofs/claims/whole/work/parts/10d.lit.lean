def fX5_canStand_76 (K30 : Nat → Int → Int → Int → Int → am_M → Option (Int × am_M)) (l1 : Nat) (l2 : Int) (l3 : Int) (l4 : Int) (l5 : Int) (h : am_M) : Option (Int × am_M) := K30 l1 l2 l3 l4 (am_w (l5 + 1)) h
set_option maxRecDepth 10000 in
theorem jX5_canStand_76 {D : va_G} {a : Nat → ClassId} {ad : Nat → Nat} {G : am_G} (g : am_Gd (EX D a ad) RX5 cX5_canStand 7 (some .boolean) 3 G) {K30 : Nat → Int → Int → Int → Int → am_M → Option (Int × am_M)} (hK30 : ∀ (l1 : Nat), l1 < 4 → ∀ (l2 : Int), ∀ (l3 : Int), ∀ (l4 : Int), ∀ (l5 : Int), ∀ h : am_M, am_J (EX D a ad) G 7 am_ei 30 [some (.inr (some 70)), some (.inr (some (10 + l1))), some (.inl l2), some (.inl l3), some (.inl l4), some (.inl l5), none] [] h (K30 l1 l2 l3 l4 l5 h)) : ∀ (l1 : Nat), l1 < 4 → ∀ (l2 : Int), ∀ (l3 : Int), ∀ (l4 : Int), ∀ (l5 : Int), ∀ h : am_M, am_J (EX D a ad) G 7 am_ei 76 [some (.inr (some 70)), some (.inr (some (10 + l1))), some (.inl l2), some (.inl l3), some (.inl l4), some (.inl l5), none] [] h (fX5_canStand_76 K30 l1 l2 l3 l4 l5 h) := by
  intro l1 hl1 l2 l3 l4 l5 h
  unfold fX5_canStand_76
  refine am_iinc g dX5_canStand_76 (by decide) rfl ?_
  refine am_goto (tgt := 30) g dX5_canStand_79 (by decide) ?_
  exact hK30 l1 hl1 l2 l3 l4 (am_w (l5 + 1)) h
def fX5_canStand_30b (K30 : Nat → Int → Int → Int → Int → am_M → Option (Int × am_M)) (l1 : Nat) (l2 : Int) (l3 : Int) (l4 : Int) (l5 : Int) (h : am_M) : Option (Int × am_M) := if l5 < 2 then (am_b (fX2_feeder l1 l4 l5 h) (fun v5 h6 => am_l (am_w ((am_w (l2 - l4)) + v5)) (fun x7 => am_b (fX2_standing l1 l4 l5 h6) (fun v8 h9 => if v8 = (-2) then (am_b (fX5_standsAhead x7 l3 h9) (fun v10 h11 => if v10 = 0 then some (0, h11) else (fX5_canStand_76 K30) l1 l2 l3 l4 l5 h11)) else (fX5_canStand_76 K30) l1 l2 l3 l4 l5 h9)))) else some (1, h)
def fX5_canStand_30 : Nat → Int → Int → Int → Int → am_M → Option (Int × am_M) := am_it (fun _ _ _ _ _ _ => none) (fX5_canStand_30b) 400
set_option maxRecDepth 10000 in
theorem jX5_canStand_30b {D : va_G} {a : Nat → ClassId} {ad : Nat → Nat} {G : am_G} (g : am_Gd (EX D a ad) RX5 cX5_canStand 7 (some .boolean) 3 G) {K30 : Nat → Int → Int → Int → Int → am_M → Option (Int × am_M)} (hK30 : ∀ (l1 : Nat), l1 < 4 → ∀ (l2 : Int), ∀ (l3 : Int), ∀ (l4 : Int), ∀ (l5 : Int), ∀ h : am_M, am_J (EX D a ad) G 7 am_ei 30 [some (.inr (some 70)), some (.inr (some (10 + l1))), some (.inl l2), some (.inl l3), some (.inl l4), some (.inl l5), none] [] h (K30 l1 l2 l3 l4 l5 h)) : ∀ (l1 : Nat), l1 < 4 → ∀ (l2 : Int), ∀ (l3 : Int), ∀ (l4 : Int), ∀ (l5 : Int), ∀ h : am_M, am_J (EX D a ad) G 7 am_ei 30 [some (.inr (some 70)), some (.inr (some (10 + l1))), some (.inl l2), some (.inl l3), some (.inl l4), some (.inl l5), none] [] h (fX5_canStand_30b K30 l1 l2 l3 l4 l5 h) := by
  intro l1 hl1 l2 l3 l4 l5 h
  unfold fX5_canStand_30b
  refine am_iload g dX5_canStand_30 rfl ?_
  refine am_iconst g dX5_canStand_32 (am_il rfl) rfl ?_
  refine am_icmp_ge (tgt := 82) g dX5_canStand_33 (by decide) ?_ ?_
  · refine am_iconst g dX5_canStand_82 (am_il rfl) rfl ?_
    exact am_zreturn g dX5_canStand_83 (by decide)
  · refine am_iload_n g dX5_canStand_36 rfl ?_
    refine am_iload g dX5_canStand_37 rfl ?_
    refine am_isub g dX5_canStand_39 ?_
    refine am_aload_n g dX5_canStand_40 rfl ?_
    refine am_iload g dX5_canStand_41 rfl ?_
    refine am_iload g dX5_canStand_43 rfl ?_
    refine am_Vi (as := [.inl l4, .inl l5]) (S := [.inl (am_w (l2 - l4))]) g (cX2_feederC l1 hl1 l4 l5 h) mi_X2_feeder lm_X5_108 clX2.1 (Nat.lt_of_lt_of_le (Nat.add_lt_add_left hl1 10) (Nat.le_of_ble_eq_true rfl)) (sh_X2 l1 hl1) dX5_canStand_45 rfl (by decide) (Nat.le_of_ble_eq_true rfl) rfl (fun v5 h6 => ?_)
    refine am_iadd g dX5_canStand_48 ?_
    refine am_gv (fun x7 => ?_)
    refine am_istore g dX5_canStand_49 (by decide) ?_
    refine am_aload_n g dX5_canStand_51 rfl ?_
    refine am_iload g dX5_canStand_52 rfl ?_
    refine am_iload g dX5_canStand_54 rfl ?_
    refine am_Vi (as := [.inl l4, .inl l5]) (S := []) g (cX2_standingC l1 hl1 l4 l5 h6) mi_X2_standing lm_X5_112 clX2.1 (Nat.lt_of_lt_of_le (Nat.add_lt_add_left hl1 10) (Nat.le_of_ble_eq_true rfl)) (sh_X2 l1 hl1) dX5_canStand_56 rfl (by decide) (Nat.le_of_ble_eq_true rfl) rfl (fun v8 h9 => ?_)
    refine am_bipush g dX5_canStand_59 (am_il rfl) (am_bi rfl) ?_
    refine am_icmp_ne (tgt := 76) g dX5_canStand_61 (by decide) ?_ ?_
    · refine am_drop 6 ?_
      exact (jX5_canStand_76 g hK30) l1 hl1 l2 l3 l4 l5 h9
    · refine am_aload_n g dX5_canStand_64 rfl ?_
      refine am_iload g dX5_canStand_65 rfl ?_
      refine am_iload_n g dX5_canStand_67 rfl ?_
      refine am_Vi (as := [.inl x7, .inl l3]) (S := []) g (cX5_standsAheadC x7 l3 h9) mi_X5_standsAhead lm_X5_104 clX5.1 (Nat.le_of_ble_eq_true rfl) rfl dX5_canStand_68 rfl (by decide) (Nat.le_of_ble_eq_true rfl) rfl (fun v10 h11 => ?_)
      refine am_if_ne (tgt := 76) g dX5_canStand_71 (by decide) ?_ ?_
      · refine am_drop 6 ?_
        exact (jX5_canStand_76 g hK30) l1 hl1 l2 l3 l4 l5 h11
      · refine am_iconst g dX5_canStand_74 (am_il rfl) rfl ?_
        exact am_zreturn g dX5_canStand_75 (by decide)
theorem jX5_canStand_30 {D : va_G} {a : Nat → ClassId} {ad : Nat → Nat} {G : am_G} (g : am_Gd (EX D a ad) RX5 cX5_canStand 7 (some .boolean) 3 G) : ∀ (l1 : Nat), l1 < 4 → ∀ (l2 : Int), ∀ (l3 : Int), ∀ (l4 : Int), ∀ (l5 : Int), ∀ h : am_M, am_J (EX D a ad) G 7 am_ei 30 [some (.inr (some 70)), some (.inr (some (10 + l1))), some (.inl l2), some (.inl l3), some (.inl l4), some (.inl l5), none] [] h (fX5_canStand_30 l1 l2 l3 l4 l5 h) := by
  unfold fX5_canStand_30
  generalize 400 = n
  induction n with
  | zero => intro l1 hl1 l2 l3 l4 l5 h; exact am_jn
  | succ n ih => exact jX5_canStand_30b g ih
def fX5_canStand (a1 : Nat) (a2 : Int) (a3 : Int) (h : am_M) : Option (Int × am_M) := am_b (fX8_numberOf a2 h) (fun v1 h2 => if 0 ≤ v1 ∧ v1 < 16 then if (h2 20 (16 * a1 + Int.toNat v1)) = 0 then (am_b (fX5_standsAhead a2 a3 h2) (fun v3 h4 => if v3 = 0 then fX5_canStand_30 a1 a2 a3 v1 0 h4 else some (0, h4))) else some (0, h2) else none)
set_option maxRecDepth 10000 in
theorem cX5_canStandC {D : va_G} {a : Nat → ClassId} {ad : Nat → Nat} (a1 : Nat) (ha1 : a1 < 4) (a2 : Int) (a3 : Int) (h : am_M) : am_C (EX D a ad) yX5_canStand cX5_canStand 7 (some .boolean) 3 [.inr (some 70), .inr (some (10 + a1)), .inl a2, .inl a3] h am_ei (fX5_canStand a1 a2 a3 h) := by
  refine am_ofJ (L := [some (.inr (some 70)), some (.inr (some (10 + a1))), some (.inl a2), some (.inl a3), none, none, none]) (by decide) rfl (Nat.le_of_ble_eq_true rfl) (fun G g => ?_)
  have g : am_Gd (EX D a ad) RX5 cX5_canStand 7 (some .boolean) 3 G := g
  unfold fX5_canStand
  refine am_iload_n g dX5_canStand_0 rfl ?_
  refine am_SNi (as := [.inl a2]) (S := []) g (cX8_numberOfC a2 h) mi_X8_numberOf ln_X5_95 dX5_canStand_1 rfl (by decide) (Nat.le_of_ble_eq_true rfl) rfl (fun v1 h2 => ?_)
  refine am_istore g dX5_canStand_4 (by decide) ?_
  refine am_aload_n g dX5_canStand_6 rfl ?_
  refine am_getr (q := 3) (a := 26 + a1) g clX2 dX5_canStand_7 (Nat.lt_of_lt_of_le (Nat.add_lt_add_left ha1 10) (Nat.le_of_ble_eq_true rfl)) (sh_X2 a1 ha1) (by decide) rfl (Nat.lt_of_lt_of_le (Nat.add_lt_add_left ha1 26) (Nat.le_of_ble_eq_true rfl)) lf_X5_99 ?_
  refine am_iload g dX5_canStand_10 rfl ?_
  refine am_iaload (ix := 16 * a1 + Int.toNat v1) (nI := 16) g dX5_canStand_12 (Nat.lt_of_lt_of_le (Nat.add_lt_add_left ha1 26) (Nat.le_of_ble_eq_true rfl)) (sh_X2_hows a1 ha1) rfl rfl ?_
  refine am_if_ne (tgt := 25) g dX5_canStand_13 (by decide) ?_ ?_
  · refine am_iconst g dX5_canStand_25 (am_il rfl) rfl ?_
    exact am_zreturn g dX5_canStand_26 (by decide)
  · refine am_aload_n g dX5_canStand_16 rfl ?_
    refine am_iload_n g dX5_canStand_17 rfl ?_
    refine am_iload_n g dX5_canStand_18 rfl ?_
    refine am_Vi (as := [.inl a2, .inl a3]) (S := []) g (cX5_standsAheadC a2 a3 h2) mi_X5_standsAhead lm_X5_104 clX5.1 (Nat.le_of_ble_eq_true rfl) rfl dX5_canStand_19 rfl (by decide) (Nat.le_of_ble_eq_true rfl) rfl (fun v3 h4 => ?_)
    refine am_if_eq (tgt := 27) g dX5_canStand_22 (by decide) ?_ ?_
    · refine am_iconst g dX5_canStand_27 (am_il rfl) rfl ?_
      refine am_istore g dX5_canStand_28 (by decide) ?_
      exact (jX5_canStand_30 g) a1 ha1 a2 a3 v1 0 h4
    · refine am_iconst g dX5_canStand_25 (am_il rfl) rfl ?_
      exact am_zreturn g dX5_canStand_26 (by decide)
def fX5_feeds (a1 : Nat) (a2 : Int) (a3 : Int) (h : am_M) : Option (Int × am_M) := am_b (fX8_drawOf a2 h) (fun v1 h2 => am_b (fX8_drawOf a3 h2) (fun v3 h4 => if v1 = v3 then (am_b (fX8_numberOf a2 h4) (fun v5 h6 => am_b (fX2_next a1 v5 h6) (fun v7 h8 => am_b (fX8_numberOf a3 h8) (fun v9 h10 => if v7 = v9 then some (1, h10) else some (0, h10))))) else some (0, h4)))
set_option maxRecDepth 10000 in
theorem cX5_feedsC {D : va_G} {a : Nat → ClassId} {ad : Nat → Nat} (a1 : Nat) (ha1 : a1 < 4) (a2 : Int) (a3 : Int) (h : am_M) : am_C (EX D a ad) yX5_feeds cX5_feeds 3 (some .boolean) 2 [.inr (some (10 + a1)), .inl a2, .inl a3] h am_ei (fX5_feeds a1 a2 a3 h) := by
  refine am_ofJ (L := [some (.inr (some (10 + a1))), some (.inl a2), some (.inl a3)]) (by decide) rfl (Nat.le_of_ble_eq_true rfl) (fun G g => ?_)
  have g : am_Gd (EX D a ad) RX5 cX5_feeds 3 (some .boolean) 2 G := g
  unfold fX5_feeds
  refine am_iload_n g dX5_feeds_0 rfl ?_
  refine am_SNi (as := [.inl a2]) (S := []) g (cX8_drawOfC a2 h) mi_X8_drawOf ln_X5_129 dX5_feeds_1 rfl (by decide) (Nat.le_of_ble_eq_true rfl) rfl (fun v1 h2 => ?_)
  refine am_iload_n g dX5_feeds_4 rfl ?_
  refine am_SNi (as := [.inl a3]) (S := [.inl v1]) g (cX8_drawOfC a3 h2) mi_X8_drawOf ln_X5_129 dX5_feeds_5 rfl (by decide) (Nat.le_of_ble_eq_true rfl) rfl (fun v3 h4 => ?_)
  refine am_icmp_ne (tgt := 30) g dX5_feeds_8 (by decide) ?_ ?_
  · refine am_iconst g dX5_feeds_30 (am_il rfl) rfl ?_
    exact am_zreturn g dX5_feeds_31 (by decide)
  · refine am_aload_n g dX5_feeds_11 rfl ?_
    refine am_iload_n g dX5_feeds_12 rfl ?_
    refine am_SNi (as := [.inl a2]) (S := [.inr (some (10 + a1))]) g (cX8_numberOfC a2 h4) mi_X8_numberOf ln_X5_95 dX5_feeds_13 rfl (by decide) (Nat.le_of_ble_eq_true rfl) rfl (fun v5 h6 => ?_)
    refine am_Vi (as := [.inl v5]) (S := []) g (cX2_nextC a1 ha1 v5 h6) mi_X2_next lm_X5_132 clX2.1 (Nat.lt_of_lt_of_le (Nat.add_lt_add_left ha1 10) (Nat.le_of_ble_eq_true rfl)) (sh_X2 a1 ha1) dX5_feeds_16 rfl (by decide) (Nat.le_of_ble_eq_true rfl) rfl (fun v7 h8 => ?_)
    refine am_iload_n g dX5_feeds_19 rfl ?_
    refine am_SNi (as := [.inl a3]) (S := [.inl v7]) g (cX8_numberOfC a3 h8) mi_X8_numberOf ln_X5_95 dX5_feeds_20 rfl (by decide) (Nat.le_of_ble_eq_true rfl) rfl (fun v9 h10 => ?_)
    refine am_icmp_ne (tgt := 30) g dX5_feeds_23 (by decide) ?_ ?_
    · refine am_iconst g dX5_feeds_30 (am_il rfl) rfl ?_
      exact am_zreturn g dX5_feeds_31 (by decide)
    · refine am_iconst g dX5_feeds_26 (am_il rfl) rfl ?_
      refine am_goto (tgt := 31) g dX5_feeds_27 (by decide) ?_
      exact am_zreturn g dX5_feeds_31 (by decide)
def fX5_plays (a1 : Int) (a2 : Int) (h : am_M) : Option (Int × am_M) := am_b (fX8_isPlayer a2 h) (fun v1 h2 => if v1 = 0 then some (0, h2) else if 0 ≤ a1 ∧ a1 < 36 then if (h2 45 (Int.toNat a1)) = a2 then some (1, h2) else if 0 ≤ a1 ∧ a1 < 36 then if (h2 46 (Int.toNat a1)) = a2 then some (1, h2) else some (0, h2) else none else none)
set_option maxRecDepth 10000 in
theorem cX5_playsC {D : va_G} {a : Nat → ClassId} {ad : Nat → Nat} (a1 : Int) (a2 : Int) (h : am_M) : am_C (EX D a ad) yX5_plays cX5_plays 3 (some .boolean) 2 [.inr (some 70), .inl a1, .inl a2] h am_ei (fX5_plays a1 a2 h) := by
  refine am_ofJ (L := [some (.inr (some 70)), some (.inl a1), some (.inl a2)]) (by decide) rfl (Nat.le_of_ble_eq_true rfl) (fun G g => ?_)
  have g : am_Gd (EX D a ad) RX5 cX5_plays 3 (some .boolean) 2 G := g
  unfold fX5_plays
  refine am_iload_n g dX5_plays_0 rfl ?_
  refine am_SNi (as := [.inl a2]) (S := []) g (cX8_isPlayerC a2 h) mi_X8_isPlayer ln_X5_138 dX5_plays_1 rfl (by decide) (Nat.le_of_ble_eq_true rfl) rfl (fun v1 h2 => ?_)
  refine am_if_eq (tgt := 31) g dX5_plays_4 (by decide) ?_ ?_
  · refine am_iconst g dX5_plays_31 (am_il rfl) rfl ?_
    exact am_zreturn g dX5_plays_32 (by decide)
  · refine am_aload_n g dX5_plays_7 rfl ?_
    refine am_getr (q := 3) (a := 74) g clX5 dX5_plays_8 (Nat.le_of_ble_eq_true rfl) rfl (by decide) rfl (Nat.le_of_ble_eq_true rfl) lf_X5_21 ?_
    refine am_iload_n g dX5_plays_11 rfl ?_
    refine am_iaload (ix := Int.toNat a1) (nI := 36) g dX5_plays_12 (Nat.le_of_ble_eq_true rfl) rfl rfl (Nat.zero_add _) ?_
    refine am_iload_n g dX5_plays_13 rfl ?_
    refine am_icmp_eq (tgt := 27) g dX5_plays_14 (by decide) ?_ ?_
    · refine am_iconst g dX5_plays_27 (am_il rfl) rfl ?_
      refine am_goto (tgt := 32) g dX5_plays_28 (by decide) ?_
      exact am_zreturn g dX5_plays_32 (by decide)
    · refine am_aload_n g dX5_plays_17 rfl ?_
      refine am_getr (q := 4) (a := 75) g clX5 dX5_plays_18 (Nat.le_of_ble_eq_true rfl) rfl (by decide) rfl (Nat.le_of_ble_eq_true rfl) lf_X5_24 ?_
      refine am_iload_n g dX5_plays_21 rfl ?_
      refine am_iaload (ix := Int.toNat a1) (nI := 36) g dX5_plays_22 (Nat.le_of_ble_eq_true rfl) rfl rfl (Nat.zero_add _) ?_
      refine am_iload_n g dX5_plays_23 rfl ?_
      refine am_icmp_ne (tgt := 31) g dX5_plays_24 (by decide) ?_ ?_
      · refine am_iconst g dX5_plays_31 (am_il rfl) rfl ?_
        exact am_zreturn g dX5_plays_32 (by decide)
      · refine am_iconst g dX5_plays_27 (am_il rfl) rfl ?_
        refine am_goto (tgt := 32) g dX5_plays_28 (by decide) ?_
        exact am_zreturn g dX5_plays_32 (by decide)
def fX5_sharePlayer (a1 : Int) (a2 : Int) (h : am_M) : Option (Int × am_M) := if 0 ≤ a2 ∧ a2 < 36 then am_b (fX5_plays a1 (h 45 (Int.toNat a2)) h) (fun v1 h2 => if v1 = 0 then (if 0 ≤ a2 ∧ a2 < 36 then am_b (fX5_plays a1 (h2 46 (Int.toNat a2)) h2) (fun v3 h4 => if v3 = 0 then some (0, h4) else some (1, h4)) else none) else some (1, h2)) else none
set_option maxRecDepth 10000 in
theorem cX5_sharePlayerC {D : va_G} {a : Nat → ClassId} {ad : Nat → Nat} (a1 : Int) (a2 : Int) (h : am_M) : am_C (EX D a ad) yX5_sharePlayer cX5_sharePlayer 3 (some .boolean) 3 [.inr (some 70), .inl a1, .inl a2] h am_ei (fX5_sharePlayer a1 a2 h) := by
  refine am_ofJ (L := [some (.inr (some 70)), some (.inl a1), some (.inl a2)]) (by decide) rfl (Nat.le_of_ble_eq_true rfl) (fun G g => ?_)
  have g : am_Gd (EX D a ad) RX5 cX5_sharePlayer 3 (some .boolean) 3 G := g
  unfold fX5_sharePlayer
  refine am_aload_n g dX5_sharePlayer_0 rfl ?_
  refine am_iload_n g dX5_sharePlayer_1 rfl ?_
  refine am_aload_n g dX5_sharePlayer_2 rfl ?_
  refine am_getr (q := 3) (a := 74) g clX5 dX5_sharePlayer_3 (Nat.le_of_ble_eq_true rfl) rfl (by decide) rfl (Nat.le_of_ble_eq_true rfl) lf_X5_21 ?_
  refine am_iload_n g dX5_sharePlayer_6 rfl ?_
  refine am_iaload (ix := Int.toNat a2) (nI := 36) g dX5_sharePlayer_7 (Nat.le_of_ble_eq_true rfl) rfl rfl (Nat.zero_add _) ?_
  refine am_Vi (as := [.inl a1, .inl (h 45 (Int.toNat a2))]) (S := []) g (cX5_playsC a1 (h 45 (Int.toNat a2)) h) mi_X5_plays lm_X5_135 clX5.1 (Nat.le_of_ble_eq_true rfl) rfl dX5_sharePlayer_8 rfl (by decide) (Nat.le_of_ble_eq_true rfl) rfl (fun v1 h2 => ?_)
  refine am_if_ne (tgt := 28) g dX5_sharePlayer_11 (by decide) ?_ ?_
  · refine am_iconst g dX5_sharePlayer_28 (am_il rfl) rfl ?_
    refine am_goto (tgt := 33) g dX5_sharePlayer_29 (by decide) ?_
    exact am_zreturn g dX5_sharePlayer_33 (by decide)
  · refine am_aload_n g dX5_sharePlayer_14 rfl ?_
    refine am_iload_n g dX5_sharePlayer_15 rfl ?_
    refine am_aload_n g dX5_sharePlayer_16 rfl ?_
    refine am_getr (q := 4) (a := 75) g clX5 dX5_sharePlayer_17 (Nat.le_of_ble_eq_true rfl) rfl (by decide) rfl (Nat.le_of_ble_eq_true rfl) lf_X5_24 ?_
    refine am_iload_n g dX5_sharePlayer_20 rfl ?_
    refine am_iaload (ix := Int.toNat a2) (nI := 36) g dX5_sharePlayer_21 (Nat.le_of_ble_eq_true rfl) rfl rfl (Nat.zero_add _) ?_
    refine am_Vi (as := [.inl a1, .inl (h2 46 (Int.toNat a2))]) (S := []) g (cX5_playsC a1 (h2 46 (Int.toNat a2)) h2) mi_X5_plays lm_X5_135 clX5.1 (Nat.le_of_ble_eq_true rfl) rfl dX5_sharePlayer_22 rfl (by decide) (Nat.le_of_ble_eq_true rfl) rfl (fun v3 h4 => ?_)
    refine am_if_eq (tgt := 32) g dX5_sharePlayer_25 (by decide) ?_ ?_
    · refine am_iconst g dX5_sharePlayer_32 (am_il rfl) rfl ?_
      exact am_zreturn g dX5_sharePlayer_33 (by decide)
    · refine am_iconst g dX5_sharePlayer_28 (am_il rfl) rfl ?_
      refine am_goto (tgt := 33) g dX5_sharePlayer_29 (by decide) ?_
      exact am_zreturn g dX5_sharePlayer_33 (by decide)
def fX5_earliest_148 (K90 : Nat → Int → Int → Int → Int → Int → am_M → Option (Int × am_M)) (l1 : Nat) (l2 : Int) (l3 : Int) (l4 : Int) (l6 : Int) (l7 : Int) (h : am_M) : Option (Int × am_M) := K90 l1 l2 l3 l4 l6 (am_w (l7 + 1)) h
set_option maxRecDepth 10000 in
theorem jX5_earliest_148 {D : va_G} {a : Nat → ClassId} {ad : Nat → Nat} {G : am_G} (g : am_Gd (EX D a ad) RX5 cX5_earliest 8 (some .int) 4 G) {K90 : Nat → Int → Int → Int → Int → Int → am_M → Option (Int × am_M)} (hK90 : ∀ (l1 : Nat), l1 < 4 → ∀ (l2 : Int), ∀ (l3 : Int), ∀ (l4 : Int), ∀ (l6 : Int), ∀ (l7 : Int), ∀ h : am_M, am_J (EX D a ad) G 8 am_ei 90 [some (.inr (some 70)), some (.inr (some (10 + l1))), some (.inl l2), some (.inl l3), some (.inl l4), none, some (.inl l6), some (.inl l7)] [] h (K90 l1 l2 l3 l4 l6 l7 h)) : ∀ (l1 : Nat), l1 < 4 → ∀ (l2 : Int), ∀ (l3 : Int), ∀ (l4 : Int), ∀ (l6 : Int), ∀ (l7 : Int), ∀ h : am_M, am_J (EX D a ad) G 8 am_ei 148 [some (.inr (some 70)), some (.inr (some (10 + l1))), some (.inl l2), some (.inl l3), some (.inl l4), none, some (.inl l6), some (.inl l7)] [] h (fX5_earliest_148 K90 l1 l2 l3 l4 l6 l7 h) := by
  intro l1 hl1 l2 l3 l4 l6 l7 h
  unfold fX5_earliest_148
  refine am_iinc g dX5_earliest_148 (by decide) rfl ?_
  refine am_goto (tgt := 90) g dX5_earliest_151 (by decide) ?_
  exact hK90 l1 hl1 l2 l3 l4 l6 (am_w (l7 + 1)) h
def fX5_earliest_131 (K148 : Nat → Int → Int → Int → Int → Int → am_M → Option (Int × am_M)) (l1 : Nat) (l2 : Int) (l3 : Int) (l4 : Int) (l6 : Int) (l7 : Int) (h : am_M) : Option (Int × am_M) := if 0 ≤ l7 ∧ l7 < 36 then am_l (max l6 (am_w ((h 43 (Int.toNat l7)) + l4))) (fun x18 => K148 l1 l2 l3 l4 x18 l7 h) else none
set_option maxRecDepth 10000 in
theorem jX5_earliest_131 {D : va_G} {a : Nat → ClassId} {ad : Nat → Nat} {G : am_G} (g : am_Gd (EX D a ad) RX5 cX5_earliest 8 (some .int) 4 G) {K148 : Nat → Int → Int → Int → Int → Int → am_M → Option (Int × am_M)} (hK148 : ∀ (l1 : Nat), l1 < 4 → ∀ (l2 : Int), ∀ (l3 : Int), ∀ (l4 : Int), ∀ (l6 : Int), ∀ (l7 : Int), ∀ h : am_M, am_J (EX D a ad) G 8 am_ei 148 [some (.inr (some 70)), some (.inr (some (10 + l1))), some (.inl l2), some (.inl l3), some (.inl l4), none, some (.inl l6), some (.inl l7)] [] h (K148 l1 l2 l3 l4 l6 l7 h)) : ∀ (l1 : Nat), l1 < 4 → ∀ (l2 : Int), ∀ (l3 : Int), ∀ (l4 : Int), ∀ (l6 : Int), ∀ (l7 : Int), ∀ h : am_M, am_J (EX D a ad) G 8 am_ei 131 [some (.inr (some 70)), some (.inr (some (10 + l1))), some (.inl l2), some (.inl l3), some (.inl l4), none, some (.inl l6), some (.inl l7)] [] h (fX5_earliest_131 K148 l1 l2 l3 l4 l6 l7 h) := by
  intro l1 hl1 l2 l3 l4 l6 l7 h
  unfold fX5_earliest_131
  refine am_iload g dX5_earliest_131 rfl ?_
  refine am_aload_n g dX5_earliest_133 rfl ?_
  refine am_getr (q := 1) (a := 72) g clX5 dX5_earliest_134 (Nat.le_of_ble_eq_true rfl) rfl (by decide) rfl (Nat.le_of_ble_eq_true rfl) lf_X5_15 ?_
  refine am_iload g dX5_earliest_137 rfl ?_
  refine am_iaload (ix := Int.toNat l7) (nI := 36) g dX5_earliest_139 (Nat.le_of_ble_eq_true rfl) rfl rfl (Nat.zero_add _) ?_
  refine am_iload g dX5_earliest_140 rfl ?_
  refine am_iadd g dX5_earliest_142 ?_
  refine am_max g lm_X5_118 l_max1 l_max2 l_max3 dX5_earliest_143 (by decide) (Nat.le_of_ble_eq_true rfl) ?_
  refine am_gv (fun x18 => ?_)
  refine am_istore g dX5_earliest_146 (by decide) ?_
  exact hK148 l1 hl1 l2 l3 l4 x18 l7 h
def fX5_earliest_90b (K90 : Nat → Int → Int → Int → Int → Int → am_M → Option (Int × am_M)) (l1 : Nat) (l2 : Int) (l3 : Int) (l4 : Int) (l6 : Int) (l7 : Int) (h : am_M) : Option (Int × am_M) := if l7 < l3 then (if 0 ≤ l7 ∧ l7 < 36 then if (h 44 (Int.toNat l7)) < 0 then (fX5_earliest_148 K90) l1 l2 l3 l4 l6 l7 h else if 0 ≤ l7 ∧ l7 < 36 then am_b (fX5_feeds l1 (h 44 (Int.toNat l7)) l2 h) (fun v16 h17 => if v16 = 0 then (am_b (fX5_sharePlayer l7 l3 h17) (fun v19 h20 => if v19 = 0 then (fX5_earliest_148 K90) l1 l2 l3 l4 l6 l7 h20 else (fX5_earliest_131 (fX5_earliest_148 K90)) l1 l2 l3 l4 l6 l7 h20)) else (fX5_earliest_131 (fX5_earliest_148 K90)) l1 l2 l3 l4 l6 l7 h17) else none else none) else some (l6, h)
def fX5_earliest_90 : Nat → Int → Int → Int → Int → Int → am_M → Option (Int × am_M) := am_it (fun _ _ _ _ _ _ _ => none) (fX5_earliest_90b) 400
set_option maxRecDepth 10000 in
theorem jX5_earliest_90b {D : va_G} {a : Nat → ClassId} {ad : Nat → Nat} {G : am_G} (g : am_Gd (EX D a ad) RX5 cX5_earliest 8 (some .int) 4 G) {K90 : Nat → Int → Int → Int → Int → Int → am_M → Option (Int × am_M)} (hK90 : ∀ (l1 : Nat), l1 < 4 → ∀ (l2 : Int), ∀ (l3 : Int), ∀ (l4 : Int), ∀ (l6 : Int), ∀ (l7 : Int), ∀ h : am_M, am_J (EX D a ad) G 8 am_ei 90 [some (.inr (some 70)), some (.inr (some (10 + l1))), some (.inl l2), some (.inl l3), some (.inl l4), none, some (.inl l6), some (.inl l7)] [] h (K90 l1 l2 l3 l4 l6 l7 h)) : ∀ (l1 : Nat), l1 < 4 → ∀ (l2 : Int), ∀ (l3 : Int), ∀ (l4 : Int), ∀ (l6 : Int), ∀ (l7 : Int), ∀ h : am_M, am_J (EX D a ad) G 8 am_ei 90 [some (.inr (some 70)), some (.inr (some (10 + l1))), some (.inl l2), some (.inl l3), some (.inl l4), none, some (.inl l6), some (.inl l7)] [] h (fX5_earliest_90b K90 l1 l2 l3 l4 l6 l7 h) := by
  intro l1 hl1 l2 l3 l4 l6 l7 h
  unfold fX5_earliest_90b
  refine am_iload g dX5_earliest_90 rfl ?_
  refine am_iload_n g dX5_earliest_92 rfl ?_
  refine am_icmp_ge (tgt := 154) g dX5_earliest_93 (by decide) ?_ ?_
  · refine am_iload g dX5_earliest_154 rfl ?_
    exact am_ireturn g dX5_earliest_156
  · refine am_aload_n g dX5_earliest_96 rfl ?_
    refine am_getr (q := 2) (a := 73) g clX5 dX5_earliest_97 (Nat.le_of_ble_eq_true rfl) rfl (by decide) rfl (Nat.le_of_ble_eq_true rfl) lf_X5_18 ?_
    refine am_iload g dX5_earliest_100 rfl ?_
    refine am_iaload (ix := Int.toNat l7) (nI := 36) g dX5_earliest_102 (Nat.le_of_ble_eq_true rfl) rfl rfl (Nat.zero_add _) ?_
    refine am_if_lt (tgt := 148) g dX5_earliest_103 (by decide) ?_ ?_
    · exact (jX5_earliest_148 g hK90) l1 hl1 l2 l3 l4 l6 l7 h
    · refine am_aload_n g dX5_earliest_106 rfl ?_
      refine am_aload_n g dX5_earliest_107 rfl ?_
      refine am_getr (q := 2) (a := 73) g clX5 dX5_earliest_108 (Nat.le_of_ble_eq_true rfl) rfl (by decide) rfl (Nat.le_of_ble_eq_true rfl) lf_X5_18 ?_
      refine am_iload g dX5_earliest_111 rfl ?_
      refine am_iaload (ix := Int.toNat l7) (nI := 36) g dX5_earliest_113 (Nat.le_of_ble_eq_true rfl) rfl rfl (Nat.zero_add _) ?_
      refine am_iload_n g dX5_earliest_114 rfl ?_
      refine am_Si (as := [.inr (some (10 + l1)), .inl (h 44 (Int.toNat l7)), .inl l2]) (S := []) g (cX5_feedsC l1 hl1 (h 44 (Int.toNat l7)) l2 h) mi_X5_feeds lm_X5_123 dX5_earliest_115 rfl (by decide) (Nat.le_of_ble_eq_true rfl) rfl (fun v16 h17 => ?_)
      refine am_if_ne (tgt := 131) g dX5_earliest_118 (by decide) ?_ ?_
      · exact (jX5_earliest_131 g (jX5_earliest_148 g hK90)) l1 hl1 l2 l3 l4 l6 l7 h17
      · refine am_aload_n g dX5_earliest_121 rfl ?_
        refine am_iload g dX5_earliest_122 rfl ?_
        refine am_iload_n g dX5_earliest_124 rfl ?_
        refine am_Vi (as := [.inl l7, .inl l3]) (S := []) g (cX5_sharePlayerC l7 l3 h17) mi_X5_sharePlayer lm_X5_126 clX5.1 (Nat.le_of_ble_eq_true rfl) rfl dX5_earliest_125 rfl (by decide) (Nat.le_of_ble_eq_true rfl) rfl (fun v19 h20 => ?_)
        refine am_if_eq (tgt := 148) g dX5_earliest_128 (by decide) ?_ ?_
        · exact (jX5_earliest_148 g hK90) l1 hl1 l2 l3 l4 l6 l7 h20
        · exact (jX5_earliest_131 g (jX5_earliest_148 g hK90)) l1 hl1 l2 l3 l4 l6 l7 h20
theorem jX5_earliest_90 {D : va_G} {a : Nat → ClassId} {ad : Nat → Nat} {G : am_G} (g : am_Gd (EX D a ad) RX5 cX5_earliest 8 (some .int) 4 G) : ∀ (l1 : Nat), l1 < 4 → ∀ (l2 : Int), ∀ (l3 : Int), ∀ (l4 : Int), ∀ (l6 : Int), ∀ (l7 : Int), ∀ h : am_M, am_J (EX D a ad) G 8 am_ei 90 [some (.inr (some 70)), some (.inr (some (10 + l1))), some (.inl l2), some (.inl l3), some (.inl l4), none, some (.inl l6), some (.inl l7)] [] h (fX5_earliest_90 l1 l2 l3 l4 l6 l7 h) := by
  unfold fX5_earliest_90
  generalize 400 = n
  induction n with
  | zero => intro l1 hl1 l2 l3 l4 l6 l7 h; exact am_jn
  | succ n ih => exact jX5_earliest_90b g ih
def fX5_earliest (a1 : Nat) (a2 : Int) (a3 : Int) (a4 : Int) (h : am_M) : Option (Int × am_M) := am_b (fX8_numberOf a2 h) (fun v1 h2 => am_b (fX2_standing a1 v1 0 h2) (fun v3 h4 => if 0 ≤ a3 ∧ a3 < 36 then am_l (am_up h4 45 (Int.toNat a3) v3) (fun h5 => am_b (fX2_standing a1 v1 1 h5) (fun v6 h7 => if 0 ≤ a3 ∧ a3 < 36 then am_l (am_up h7 46 (Int.toNat a3) v6) (fun h8 => if 0 ≤ (Int.tmod a3 6) ∧ (Int.tmod a3 6) < 6 then am_l (h8 47 (Int.toNat (Int.tmod a3 6))) (fun x9 => if 0 ≤ a3 ∧ a3 < 36 then am_b (fX6_readyAt 1 (h8 45 (Int.toNat a3)) a4 h8) (fun v10 h11 => am_l (max x9 v10) (fun x12 => if 0 ≤ a3 ∧ a3 < 36 then am_b (fX6_readyAt 1 (h11 46 (Int.toNat a3)) a4 h11) (fun v13 h14 => am_l (max x12 v13) (fun x15 => fX5_earliest_90 a1 a2 a3 a4 x15 0 h14)) else none)) else none) else none) else none)) else none))
set_option maxRecDepth 10000 in
theorem cX5_earliestC {D : va_G} {a : Nat → ClassId} {ad : Nat → Nat} (a1 : Nat) (ha1 : a1 < 4) (a2 : Int) (a3 : Int) (a4 : Int) (h : am_M) : am_C (EX D a ad) yX5_earliest cX5_earliest 8 (some .int) 4 [.inr (some 70), .inr (some (10 + a1)), .inl a2, .inl a3, .inl a4] h am_ei (fX5_earliest a1 a2 a3 a4 h) := by
  refine am_ofJ (L := [some (.inr (some 70)), some (.inr (some (10 + a1))), some (.inl a2), some (.inl a3), some (.inl a4), none, none, none]) (by decide) rfl (Nat.le_of_ble_eq_true rfl) (fun G g => ?_)
  have g : am_Gd (EX D a ad) RX5 cX5_earliest 8 (some .int) 4 G := g
  unfold fX5_earliest
  refine am_iload_n g dX5_earliest_0 rfl ?_
  refine am_SNi (as := [.inl a2]) (S := []) g (cX8_numberOfC a2 h) mi_X8_numberOf ln_X5_95 dX5_earliest_1 rfl (by decide) (Nat.le_of_ble_eq_true rfl) rfl (fun v1 h2 => ?_)
  refine am_istore g dX5_earliest_4 (by decide) ?_
  refine am_aload_n g dX5_earliest_6 rfl ?_
  refine am_getr (q := 3) (a := 74) g clX5 dX5_earliest_7 (Nat.le_of_ble_eq_true rfl) rfl (by decide) rfl (Nat.le_of_ble_eq_true rfl) lf_X5_21 ?_
  refine am_iload_n g dX5_earliest_10 rfl ?_
  refine am_aload_n g dX5_earliest_11 rfl ?_
  refine am_iload g dX5_earliest_12 rfl ?_
  refine am_iconst g dX5_earliest_14 (am_il rfl) rfl ?_
  refine am_Vi (as := [.inl v1, .inl 0]) (S := [.inl a3, .inr (some 74)]) g (cX2_standingC a1 ha1 v1 0 h2) mi_X2_standing lm_X5_112 clX2.1 (Nat.lt_of_lt_of_le (Nat.add_lt_add_left ha1 10) (Nat.le_of_ble_eq_true rfl)) (sh_X2 a1 ha1) dX5_earliest_15 rfl (by decide) (Nat.le_of_ble_eq_true rfl) rfl (fun v3 h4 => ?_)
  refine am_iastore (ix := Int.toNat a3) (nI := 36) g dX5_earliest_18 (Nat.le_of_ble_eq_true rfl) rfl rfl (Nat.zero_add _) ?_
  refine am_gm (fun h5 => ?_)
  refine am_aload_n g dX5_earliest_19 rfl ?_
  refine am_getr (q := 4) (a := 75) g clX5 dX5_earliest_20 (Nat.le_of_ble_eq_true rfl) rfl (by decide) rfl (Nat.le_of_ble_eq_true rfl) lf_X5_24 ?_
  refine am_iload_n g dX5_earliest_23 rfl ?_
  refine am_aload_n g dX5_earliest_24 rfl ?_
  refine am_iload g dX5_earliest_25 rfl ?_
  refine am_iconst g dX5_earliest_27 (am_il rfl) rfl ?_
  refine am_Vi (as := [.inl v1, .inl 1]) (S := [.inl a3, .inr (some 75)]) g (cX2_standingC a1 ha1 v1 1 h5) mi_X2_standing lm_X5_112 clX2.1 (Nat.lt_of_lt_of_le (Nat.add_lt_add_left ha1 10) (Nat.le_of_ble_eq_true rfl)) (sh_X2 a1 ha1) dX5_earliest_28 rfl (by decide) (Nat.le_of_ble_eq_true rfl) rfl (fun v6 h7 => ?_)
  refine am_iastore (ix := Int.toNat a3) (nI := 36) g dX5_earliest_31 (Nat.le_of_ble_eq_true rfl) rfl rfl (Nat.zero_add _) ?_
  refine am_gm (fun h8 => ?_)
  refine am_aload_n g dX5_earliest_32 rfl ?_
  refine am_getr (q := 5) (a := 76) g clX5 dX5_earliest_33 (Nat.le_of_ble_eq_true rfl) rfl (by decide) rfl (Nat.le_of_ble_eq_true rfl) lf_X5_27 ?_
  refine am_iload_n g dX5_earliest_36 rfl ?_
  refine am_bipush g dX5_earliest_37 (am_il rfl) (am_bi rfl) ?_
  refine am_irem g dX5_earliest_39 (by decide) ?_
  refine am_iaload (ix := Int.toNat (Int.tmod a3 6)) (nI := 6) g dX5_earliest_40 (Nat.le_of_ble_eq_true rfl) rfl rfl (Nat.zero_add _) ?_
  refine am_gv (fun x9 => ?_)
  refine am_istore g dX5_earliest_41 (by decide) ?_
  refine am_iload g dX5_earliest_43 rfl ?_
  refine am_aload_n g dX5_earliest_45 rfl ?_
  refine am_getr (q := 6) (a := 64 + 1) g clX5 dX5_earliest_46 (Nat.le_of_ble_eq_true rfl) rfl (by decide) rfl (Nat.lt_of_lt_of_le (Nat.add_lt_add_left (show 1 < 3 by decide) 64) (Nat.le_of_ble_eq_true rfl)) lf_X5_33 ?_
  refine am_aload_n g dX5_earliest_49 rfl ?_
  refine am_getr (q := 3) (a := 74) g clX5 dX5_earliest_50 (Nat.le_of_ble_eq_true rfl) rfl (by decide) rfl (Nat.le_of_ble_eq_true rfl) lf_X5_21 ?_
  refine am_iload_n g dX5_earliest_53 rfl ?_
  refine am_iaload (ix := Int.toNat a3) (nI := 36) g dX5_earliest_54 (Nat.le_of_ble_eq_true rfl) rfl rfl (Nat.zero_add _) ?_
  refine am_iload g dX5_earliest_55 rfl ?_
  refine am_Vi (as := [.inl (h8 45 (Int.toNat a3)), .inl a4]) (S := [.inl x9]) g (cX6_readyAtC 1 (show 1 < 3 by decide) (h8 45 (Int.toNat a3)) a4 h8) mi_X6_readyAt lm_X5_115 clX6.1 (Nat.lt_of_lt_of_le (Nat.add_lt_add_left (show 1 < 3 by decide) 64) (Nat.le_of_ble_eq_true rfl)) (sh_X6 1 (show 1 < 3 by decide)) dX5_earliest_57 rfl (by decide) (Nat.le_of_ble_eq_true rfl) rfl (fun v10 h11 => ?_)
  refine am_max g lm_X5_118 l_max1 l_max2 l_max3 dX5_earliest_60 (by decide) (Nat.le_of_ble_eq_true rfl) ?_
  refine am_gv (fun x12 => ?_)
  refine am_istore g dX5_earliest_63 (by decide) ?_
  refine am_iload g dX5_earliest_65 rfl ?_
  refine am_aload_n g dX5_earliest_67 rfl ?_
  refine am_getr (q := 6) (a := 64 + 1) g clX5 dX5_earliest_68 (Nat.le_of_ble_eq_true rfl) rfl (by decide) rfl (Nat.lt_of_lt_of_le (Nat.add_lt_add_left (show 1 < 3 by decide) 64) (Nat.le_of_ble_eq_true rfl)) lf_X5_33 ?_
  refine am_aload_n g dX5_earliest_71 rfl ?_
  refine am_getr (q := 4) (a := 75) g clX5 dX5_earliest_72 (Nat.le_of_ble_eq_true rfl) rfl (by decide) rfl (Nat.le_of_ble_eq_true rfl) lf_X5_24 ?_
  refine am_iload_n g dX5_earliest_75 rfl ?_
  refine am_iaload (ix := Int.toNat a3) (nI := 36) g dX5_earliest_76 (Nat.le_of_ble_eq_true rfl) rfl rfl (Nat.zero_add _) ?_
  refine am_iload g dX5_earliest_77 rfl ?_
  refine am_Vi (as := [.inl (h11 46 (Int.toNat a3)), .inl a4]) (S := [.inl x12]) g (cX6_readyAtC 1 (show 1 < 3 by decide) (h11 46 (Int.toNat a3)) a4 h11) mi_X6_readyAt lm_X5_115 clX6.1 (Nat.lt_of_lt_of_le (Nat.add_lt_add_left (show 1 < 3 by decide) 64) (Nat.le_of_ble_eq_true rfl)) (sh_X6 1 (show 1 < 3 by decide)) dX5_earliest_79 rfl (by decide) (Nat.le_of_ble_eq_true rfl) rfl (fun v13 h14 => ?_)
  refine am_max g lm_X5_118 l_max1 l_max2 l_max3 dX5_earliest_82 (by decide) (Nat.le_of_ble_eq_true rfl) ?_
  refine am_gv (fun x15 => ?_)
  refine am_istore g dX5_earliest_85 (by decide) ?_
  refine am_iconst g dX5_earliest_87 (am_il rfl) rfl ?_
  refine am_istore g dX5_earliest_88 (by decide) ?_
  refine am_drop 5 ?_
  exact (jX5_earliest_90 g) a1 ha1 a2 a3 a4 x15 0 h14
def fX5_fix (a2 : Int) (a3 : Int) (a4 : Int) (a5 : Int) (h : am_M) : Option (Unit × am_M) := am_l (Int.tmod a2 6) (fun x1 => if 0 ≤ x1 ∧ x1 < 6 then am_b (fX0_isTooDark (Int.toNat x1) a5 h) (fun v4 h5 => if v4 = 0 then (if 0 ≤ a2 ∧ a2 < 36 then am_l (am_up h5 42 (Int.toNat a2) a4) (fun h6 => if 0 ≤ a2 ∧ a2 < 36 then am_l (am_up h6 43 (Int.toNat a2) a5) (fun h7 => if 0 ≤ a2 ∧ a2 < 36 then am_l (am_up h7 44 (Int.toNat a2) a3) (fun h8 => if 0 ≤ x1 ∧ x1 < 6 then am_l (am_up h8 47 (Int.toNat x1) a5) (fun h9 => some ((), h9)) else none) else none) else none) else none) else some ((), h5)) else none)
set_option maxRecDepth 10000 in
theorem cX5_fixC {D : va_G} {a : Nat → ClassId} {ad : Nat → Nat} (a2 : Int) (a3 : Int) (a4 : Int) (a5 : Int) (h : am_M) : am_C (EX D a ad) yX5_fix cX5_fix 7 none 2 [.inr (some 70), .inr (some 1), .inl a2, .inl a3, .inl a4, .inl a5] h am_ev (fX5_fix a2 a3 a4 a5 h) := by
  refine am_ofJ (L := [some (.inr (some 70)), some (.inr (some 1)), some (.inl a2), some (.inl a3), some (.inl a4), some (.inl a5), none]) (by decide) rfl (Nat.le_of_ble_eq_true rfl) (fun G g => ?_)
  have g : am_Gd (EX D a ad) RX5 cX5_fix 7 none 2 G := g
  unfold fX5_fix
  refine am_iload_n g dX5_fix_0 rfl ?_
  refine am_bipush g dX5_fix_1 (am_il rfl) (am_bi rfl) ?_
  refine am_irem g dX5_fix_3 (by decide) ?_
  refine am_gv (fun x1 => ?_)
  refine am_istore g dX5_fix_4 (by decide) ?_
  refine am_aload_n g dX5_fix_6 rfl ?_
  refine am_aload_n g dX5_fix_7 rfl ?_
  refine am_getr (q := 2) (a := 4) g clX0 dX5_fix_8 (Nat.le_of_ble_eq_true rfl) rfl (by decide) rfl (Nat.le_of_ble_eq_true rfl) lf_X5_41 ?_
  refine am_iload g dX5_fix_11 rfl ?_
  refine am_aaload (b := 46) (n := 6) (nI := 6) g dX5_fix_13 (Nat.le_of_ble_eq_true rfl) rfl rfl rfl (Nat.le_of_ble_eq_true rfl) (fun c2 => ?_)
  have hd3 : Int.toNat x1 < 6 := by omega
  refine am_iload g dX5_fix_14 rfl ?_
  refine am_Vi (as := [.inr (some (46 + (Int.toNat x1))), .inl a5]) (S := []) g (cX0_isTooDarkC (Int.toNat x1) hd3 a5 h) mi_X0_isTooDark lm_X5_91 clX0.1 (Nat.le_of_ble_eq_true rfl) rfl dX5_fix_16 rfl (by decide) (Nat.le_of_ble_eq_true rfl) rfl (fun v4 h5 => ?_)
  refine am_if_eq (tgt := 23) g dX5_fix_19 (by decide) ?_ ?_
  · refine am_aload_n g dX5_fix_23 rfl ?_
    refine am_getr (q := 0) (a := 71) g clX5 dX5_fix_24 (Nat.le_of_ble_eq_true rfl) rfl (by decide) rfl (Nat.le_of_ble_eq_true rfl) lf_X5_9 ?_
    refine am_iload_n g dX5_fix_27 rfl ?_
    refine am_iload g dX5_fix_28 rfl ?_
    refine am_iastore (ix := Int.toNat a2) (nI := 36) g dX5_fix_30 (Nat.le_of_ble_eq_true rfl) rfl rfl (Nat.zero_add _) ?_
    refine am_gm (fun h6 => ?_)
    refine am_aload_n g dX5_fix_31 rfl ?_
    refine am_getr (q := 1) (a := 72) g clX5 dX5_fix_32 (Nat.le_of_ble_eq_true rfl) rfl (by decide) rfl (Nat.le_of_ble_eq_true rfl) lf_X5_15 ?_
    refine am_iload_n g dX5_fix_35 rfl ?_
    refine am_iload g dX5_fix_36 rfl ?_
    refine am_iastore (ix := Int.toNat a2) (nI := 36) g dX5_fix_38 (Nat.le_of_ble_eq_true rfl) rfl rfl (Nat.zero_add _) ?_
    refine am_gm (fun h7 => ?_)
    refine am_aload_n g dX5_fix_39 rfl ?_
    refine am_getr (q := 2) (a := 73) g clX5 dX5_fix_40 (Nat.le_of_ble_eq_true rfl) rfl (by decide) rfl (Nat.le_of_ble_eq_true rfl) lf_X5_18 ?_
    refine am_iload_n g dX5_fix_43 rfl ?_
    refine am_iload_n g dX5_fix_44 rfl ?_
    refine am_iastore (ix := Int.toNat a2) (nI := 36) g dX5_fix_45 (Nat.le_of_ble_eq_true rfl) rfl rfl (Nat.zero_add _) ?_
    refine am_gm (fun h8 => ?_)
    refine am_aload_n g dX5_fix_46 rfl ?_
    refine am_getr (q := 5) (a := 76) g clX5 dX5_fix_47 (Nat.le_of_ble_eq_true rfl) rfl (by decide) rfl (Nat.le_of_ble_eq_true rfl) lf_X5_27 ?_
    refine am_iload g dX5_fix_50 rfl ?_
    refine am_iload g dX5_fix_52 rfl ?_
    refine am_iastore (ix := Int.toNat x1) (nI := 6) g dX5_fix_54 (Nat.le_of_ble_eq_true rfl) rfl rfl (Nat.zero_add _) ?_
    refine am_gm (fun h9 => ?_)
    exact am_vreturn g dX5_fix_55
  · exact am_vreturn g dX5_fix_22
def fX5_settle (a2 : Int) (h : am_M) : Option (Unit × am_M) := if 0 ≤ a2 ∧ a2 < 36 then am_l (am_up h 42 (Int.toNat a2) (-1)) (fun h1 => if 0 ≤ a2 ∧ a2 < 36 then am_l (am_up h1 43 (Int.toNat a2) (-1)) (fun h2 => if 0 ≤ a2 ∧ a2 < 36 then am_l (am_up h2 44 (Int.toNat a2) (-1)) (fun h3 => if 0 ≤ (Int.tmod a2 6) ∧ (Int.tmod a2 6) < 6 then am_l (am_w (Int.tdiv a2 6)) (fun x6 => am_b (fX1_hasSlot (Int.toNat (Int.tmod a2 6)) x6 h3) (fun v7 h8 => if v7 = 0 then some ((), h8) else am_b (fX0_isRainedOff (Int.toNat (Int.tmod a2 6)) h8) (fun v9 h10 => if v9 = 0 then (if 0 ≤ x6 ∧ x6 < 6 then am_l (h10 17 (6 * (Int.toNat (Int.tmod a2 6)) + Int.toNat x6)) (fun x11 => if x11 < 0 then (if 0 ≤ (Int.tmod a2 6) ∧ (Int.tmod a2 6) < 6 then am_l (h10 47 (Int.toNat (Int.tmod a2 6))) (fun x22 => am_b (fX5_fix a2 (-1) x22 (am_w (x22 - x11)) h10) (fun _ h23 => some ((), h23))) else none) else am_b (fX0_laidWith x11 h10) (fun v12 h13 => am_on v12 10 4 (some ((), h13)) (fun d14 => am_b (fX5_canStand d14 x11 a2 h13) (fun v15 h16 => if v15 = 0 then some ((), h16) else am_b (fX5_earliest d14 x11 a2 (h16 18 0) h16) (fun v17 h18 => am_b (fX0_foretold d14 h18) (fun v19 h20 => am_b (fX5_fix a2 x11 v17 (am_w (v17 + v19)) h20) (fun _ h21 => some ((), h21)))))))) else none) else some ((), h10)))) else none) else none) else none) else none
set_option maxRecDepth 10000 in
theorem cX5_settleC {D : va_G} {a : Nat → ClassId} {ad : Nat → Nat} (a2 : Int) (h : am_M) : am_C (EX D a ad) yX5_settle cX5_settle 8 none 5 [.inr (some 70), .inr (some 1), .inl a2] h am_ev (fX5_settle a2 h) := by
  refine am_ofJ (L := [some (.inr (some 70)), some (.inr (some 1)), some (.inl a2), none, none, none, none, none]) (by decide) rfl (Nat.le_of_ble_eq_true rfl) (fun G g => ?_)
  have g : am_Gd (EX D a ad) RX5 cX5_settle 8 none 5 G := g
  unfold fX5_settle
  refine am_aload_n g dX5_settle_0 rfl ?_
  refine am_getr (q := 0) (a := 71) g clX5 dX5_settle_1 (Nat.le_of_ble_eq_true rfl) rfl (by decide) rfl (Nat.le_of_ble_eq_true rfl) lf_X5_9 ?_
  refine am_iload_n g dX5_settle_4 rfl ?_
  refine am_iconst g dX5_settle_5 (am_il rfl) rfl ?_
  refine am_iastore (ix := Int.toNat a2) (nI := 36) g dX5_settle_6 (Nat.le_of_ble_eq_true rfl) rfl rfl (Nat.zero_add _) ?_
  refine am_gm (fun h1 => ?_)
  refine am_aload_n g dX5_settle_7 rfl ?_
  refine am_getr (q := 1) (a := 72) g clX5 dX5_settle_8 (Nat.le_of_ble_eq_true rfl) rfl (by decide) rfl (Nat.le_of_ble_eq_true rfl) lf_X5_15 ?_
  refine am_iload_n g dX5_settle_11 rfl ?_
  refine am_iconst g dX5_settle_12 (am_il rfl) rfl ?_
  refine am_iastore (ix := Int.toNat a2) (nI := 36) g dX5_settle_13 (Nat.le_of_ble_eq_true rfl) rfl rfl (Nat.zero_add _) ?_
  refine am_gm (fun h2 => ?_)
  refine am_aload_n g dX5_settle_14 rfl ?_
  refine am_getr (q := 2) (a := 73) g clX5 dX5_settle_15 (Nat.le_of_ble_eq_true rfl) rfl (by decide) rfl (Nat.le_of_ble_eq_true rfl) lf_X5_18 ?_
  refine am_iload_n g dX5_settle_18 rfl ?_
  refine am_iconst g dX5_settle_19 (am_il rfl) rfl ?_
  refine am_iastore (ix := Int.toNat a2) (nI := 36) g dX5_settle_20 (Nat.le_of_ble_eq_true rfl) rfl rfl (Nat.zero_add _) ?_
  refine am_gm (fun h3 => ?_)
  refine am_aload_n g dX5_settle_21 rfl ?_
  refine am_getr (q := 2) (a := 4) g clX0 dX5_settle_22 (Nat.le_of_ble_eq_true rfl) rfl (by decide) rfl (Nat.le_of_ble_eq_true rfl) lf_X5_41 ?_
  refine am_iload_n g dX5_settle_25 rfl ?_
  refine am_bipush g dX5_settle_26 (am_il rfl) (am_bi rfl) ?_
  refine am_irem g dX5_settle_28 (by decide) ?_
  refine am_aaload (b := 46) (n := 6) (nI := 6) g dX5_settle_29 (Nat.le_of_ble_eq_true rfl) rfl rfl rfl (Nat.le_of_ble_eq_true rfl) (fun c4 => ?_)
  have hd5 : Int.toNat (Int.tmod a2 6) < 6 := by omega
  refine am_astore_n g dX5_settle_30 (by decide) ?_
  refine am_iload_n g dX5_settle_31 rfl ?_
  refine am_bipush g dX5_settle_32 (am_il rfl) (am_bi rfl) ?_
  refine am_idiv g dX5_settle_34 (by decide) ?_
  refine am_gv (fun x6 => ?_)
  refine am_istore g dX5_settle_35 (by decide) ?_
  refine am_aload_n g dX5_settle_37 rfl ?_
  refine am_iload g dX5_settle_38 rfl ?_
  refine am_Vi (as := [.inl x6]) (S := []) g (cX1_hasSlotC (Int.toNat (Int.tmod a2 6)) hd5 x6 h3) mi_X1_hasSlot lm_X5_57 clX1.1 (Nat.lt_of_lt_of_le (Nat.add_lt_add_left hd5 46) (Nat.le_of_ble_eq_true rfl)) (sh_X1 (Int.toNat (Int.tmod a2 6)) hd5) dX5_settle_40 rfl (by decide) (Nat.le_of_ble_eq_true rfl) rfl (fun v7 h8 => ?_)
  refine am_if_eq (tgt := 54) g dX5_settle_43 (by decide) ?_ ?_
  · exact am_vreturn g dX5_settle_54
  · refine am_aload_n g dX5_settle_46 rfl ?_
    refine am_aload_n g dX5_settle_47 rfl ?_
    refine am_Vi (as := [.inr (some (46 + (Int.toNat (Int.tmod a2 6))))]) (S := []) g (cX0_isRainedOffC (Int.toNat (Int.tmod a2 6)) hd5 h8) mi_X0_isRainedOff lm_X5_61 clX0.1 (Nat.le_of_ble_eq_true rfl) rfl dX5_settle_48 rfl (by decide) (Nat.le_of_ble_eq_true rfl) rfl (fun v9 h10 => ?_)
    refine am_if_eq (tgt := 55) g dX5_settle_51 (by decide) ?_ ?_
    · refine am_aload_n g dX5_settle_55 rfl ?_
      refine am_getr (q := 0) (a := 52 + (Int.toNat (Int.tmod a2 6))) g clX1 dX5_settle_56 (Nat.lt_of_lt_of_le (Nat.add_lt_add_left hd5 46) (Nat.le_of_ble_eq_true rfl)) (sh_X1 (Int.toNat (Int.tmod a2 6)) hd5) (by decide) rfl (Nat.lt_of_lt_of_le (Nat.add_lt_add_left hd5 52) (Nat.le_of_ble_eq_true rfl)) lf_X5_65 ?_
      refine am_iload g dX5_settle_59 rfl ?_
      refine am_iaload (ix := 6 * (Int.toNat (Int.tmod a2 6)) + Int.toNat x6) (nI := 6) g dX5_settle_61 (Nat.lt_of_lt_of_le (Nat.add_lt_add_left hd5 52) (Nat.le_of_ble_eq_true rfl)) (sh_X1_slots (Int.toNat (Int.tmod a2 6)) hd5) rfl rfl ?_
      refine am_gv (fun x11 => ?_)
      refine am_istore g dX5_settle_62 (by decide) ?_
      refine am_iload g dX5_settle_64 rfl ?_
      refine am_if_ge (tgt := 95) g dX5_settle_66 (by decide) ?_ ?_
      · refine am_aload_n g dX5_settle_95 rfl ?_
        refine am_iload g dX5_settle_96 rfl ?_
        refine am_Vr (as := [.inl x11]) (S := []) g (cX0_laidWithC x11 h10) mi_X0_laidWith lm_X5_72 clX0.1 (Nat.le_of_ble_eq_true rfl) rfl dX5_settle_98 rfl (by decide) (Nat.le_of_ble_eq_true rfl) rfl (fun v12 h13 => ?_)
        refine am_astore g dX5_settle_101 (by decide) ?_
        refine am_aload g dX5_settle_103 rfl ?_
        refine am_ionull (b := 10) (n := 4) (Lf := fun r_ => [some (.inr (some 70)), some (.inr (some 1)), some (.inl a2), some (.inr (some (46 + (Int.toNat (Int.tmod a2 6))))), some (.inl x6), some (.inl x11), some (.inr r_), none]) (tgt := 156) g dX5_settle_105 (by decide) ?_ (fun d14 hd14 => ?_)
        · exact am_vreturn g dX5_settle_156
        · refine am_aload_n g dX5_settle_108 rfl ?_
          refine am_aload g dX5_settle_109 rfl ?_
          refine am_iload g dX5_settle_111 rfl ?_
          refine am_iload_n g dX5_settle_113 rfl ?_
          refine am_Vi (as := [.inr (some (10 + d14)), .inl x11, .inl a2]) (S := []) g (cX5_canStandC d14 hd14 x11 a2 h13) mi_X5_canStand lm_X5_76 clX5.1 (Nat.le_of_ble_eq_true rfl) rfl dX5_settle_114 rfl (by decide) (Nat.le_of_ble_eq_true rfl) rfl (fun v15 h16 => ?_)
          refine am_if_eq (tgt := 156) g dX5_settle_117 (by decide) ?_ ?_
          · exact am_vreturn g dX5_settle_156
          · refine am_aload_n g dX5_settle_120 rfl ?_
            refine am_aload g dX5_settle_121 rfl ?_
            refine am_iload g dX5_settle_123 rfl ?_
            refine am_iload_n g dX5_settle_125 rfl ?_
            refine am_aload_n g dX5_settle_126 rfl ?_
            refine am_getr (q := 3) (a := 5) g clX0 dX5_settle_127 (Nat.le_of_ble_eq_true rfl) rfl (by decide) rfl (Nat.le_of_ble_eq_true rfl) lf_X5_80 ?_
            refine am_iconst g dX5_settle_130 (am_il rfl) rfl ?_
            refine am_ialoadC (ix := 0) (nI := 4) g dX5_settle_131 (Nat.le_of_ble_eq_true rfl) rfl rfl rfl rfl ?_
            refine am_Vi (as := [.inr (some (10 + d14)), .inl x11, .inl a2, .inl (h16 18 0)]) (S := []) g (cX5_earliestC d14 hd14 x11 a2 (h16 18 0) h16) mi_X5_earliest lm_X5_83 clX5.1 (Nat.le_of_ble_eq_true rfl) rfl dX5_settle_132 rfl (by decide) (Nat.le_of_ble_eq_true rfl) rfl (fun v17 h18 => ?_)
            refine am_istore g dX5_settle_135 (by decide) ?_
            refine am_aload_n g dX5_settle_137 rfl ?_
            refine am_aload_n g dX5_settle_138 rfl ?_
            refine am_iload_n g dX5_settle_139 rfl ?_
            refine am_iload g dX5_settle_140 rfl ?_
            refine am_iload g dX5_settle_142 rfl ?_
            refine am_iload g dX5_settle_144 rfl ?_
            refine am_aload_n g dX5_settle_146 rfl ?_
            refine am_aload g dX5_settle_147 rfl ?_
            refine am_Vi (as := [.inr (some (10 + d14))]) (S := [.inl v17, .inl v17, .inl x11, .inl a2, .inr (some 1), .inr (some 70)]) g (cX0_foretoldC d14 hd14 h18) mi_X0_foretold lm_X5_87 clX0.1 (Nat.le_of_ble_eq_true rfl) rfl dX5_settle_149 rfl (by decide) (Nat.le_of_ble_eq_true rfl) rfl (fun v19 h20 => ?_)
            refine am_iadd g dX5_settle_152 ?_
            refine am_Vv (as := [.inr (some 1), .inl a2, .inl x11, .inl v17, .inl (am_w (v17 + v19))]) (S := []) g (cX5_fixC a2 x11 v17 (am_w (v17 + v19)) h20) mi_X5_fix lm_X5_68 clX5.1 (Nat.le_of_ble_eq_true rfl) rfl dX5_settle_153 rfl (by decide) (Nat.le_of_ble_eq_true rfl) rfl (fun _ h21 => ?_)
            exact am_vreturn g dX5_settle_156
      · refine am_aload_n g dX5_settle_69 rfl ?_
        refine am_getr (q := 5) (a := 76) g clX5 dX5_settle_70 (Nat.le_of_ble_eq_true rfl) rfl (by decide) rfl (Nat.le_of_ble_eq_true rfl) lf_X5_27 ?_
        refine am_iload_n g dX5_settle_73 rfl ?_
        refine am_bipush g dX5_settle_74 (am_il rfl) (am_bi rfl) ?_
        refine am_irem g dX5_settle_76 (by decide) ?_
        refine am_iaload (ix := Int.toNat (Int.tmod a2 6)) (nI := 6) g dX5_settle_77 (Nat.le_of_ble_eq_true rfl) rfl rfl (Nat.zero_add _) ?_
        refine am_gv (fun x22 => ?_)
        refine am_istore g dX5_settle_78 (by decide) ?_
        refine am_aload_n g dX5_settle_80 rfl ?_
        refine am_aload_n g dX5_settle_81 rfl ?_
        refine am_iload_n g dX5_settle_82 rfl ?_
        refine am_iconst g dX5_settle_83 (am_il rfl) rfl ?_
        refine am_iload g dX5_settle_84 rfl ?_
        refine am_iload g dX5_settle_86 rfl ?_
        refine am_iload g dX5_settle_88 rfl ?_
        refine am_isub g dX5_settle_90 ?_
        refine am_Vv (as := [.inr (some 1), .inl a2, .inl (-1), .inl x22, .inl (am_w (x22 - x11))]) (S := []) g (cX5_fixC a2 (-1) x22 (am_w (x22 - x11)) h10) mi_X5_fix lm_X5_68 clX5.1 (Nat.le_of_ble_eq_true rfl) rfl dX5_settle_91 rfl (by decide) (Nat.le_of_ble_eq_true rfl) rfl (fun _ h23 => ?_)
        exact am_vreturn g dX5_settle_94
    · exact am_vreturn g dX5_settle_54
def fX5_foretell_39b (K39 : Int → Int → am_M → Option (Unit × am_M)) (l2 : Int) (l3 : Int) (h : am_M) : Option (Unit × am_M) := if l3 ≤ l2 then (if l3 < 36 then am_b (fX5_settle l3 h) (fun _ h2 => K39 l2 (am_w (l3 + 1)) h2) else some ((), h)) else some ((), h)
def fX5_foretell_39 : Int → Int → am_M → Option (Unit × am_M) := am_it (fun _ _ _ => none) (fX5_foretell_39b) 400
set_option maxRecDepth 10000 in
theorem jX5_foretell_39b {D : va_G} {a : Nat → ClassId} {ad : Nat → Nat} {G : am_G} (g : am_Gd (EX D a ad) RX5 cX5_foretell 4 none 6 G) {K39 : Int → Int → am_M → Option (Unit × am_M)} (hK39 : ∀ (l2 : Int), ∀ (l3 : Int), ∀ h : am_M, am_J (EX D a ad) G 4 am_ev 39 [some (.inr (some 70)), some (.inr (some 1)), some (.inl l2), some (.inl l3)] [] h (K39 l2 l3 h)) : ∀ (l2 : Int), ∀ (l3 : Int), ∀ h : am_M, am_J (EX D a ad) G 4 am_ev 39 [some (.inr (some 70)), some (.inr (some 1)), some (.inl l2), some (.inl l3)] [] h (fX5_foretell_39b K39 l2 l3 h) := by
  intro l2 l3 h
  unfold fX5_foretell_39b
  refine am_iload_n g dX5_foretell_39 rfl ?_
  refine am_iload_n g dX5_foretell_40 rfl ?_
  refine am_icmp_gt (tgt := 62) g dX5_foretell_41 (by decide) ?_ ?_
  · exact am_vreturn g dX5_foretell_62
  · refine am_iload_n g dX5_foretell_44 rfl ?_
    refine am_bipush g dX5_foretell_45 (am_il rfl) (am_bi rfl) ?_
    refine am_icmp_ge (tgt := 62) g dX5_foretell_47 (by decide) ?_ ?_
    · exact am_vreturn g dX5_foretell_62
    · refine am_aload_n g dX5_foretell_50 rfl ?_
      refine am_aload_n g dX5_foretell_51 rfl ?_
      refine am_iload_n g dX5_foretell_52 rfl ?_
      refine am_Vv (as := [.inr (some 1), .inl l3]) (S := []) g (cX5_settleC l3 h) mi_X5_settle lm_X5_53 clX5.1 (Nat.le_of_ble_eq_true rfl) rfl dX5_foretell_53 rfl (by decide) (Nat.le_of_ble_eq_true rfl) rfl (fun _ h2 => ?_)
      refine am_iinc g dX5_foretell_56 (by decide) rfl ?_
      refine am_goto (tgt := 39) g dX5_foretell_59 (by decide) ?_
      exact hK39 l2 (am_w (l3 + 1)) h2
theorem jX5_foretell_39 {D : va_G} {a : Nat → ClassId} {ad : Nat → Nat} {G : am_G} (g : am_Gd (EX D a ad) RX5 cX5_foretell 4 none 6 G) : ∀ (l2 : Int), ∀ (l3 : Int), ∀ h : am_M, am_J (EX D a ad) G 4 am_ev 39 [some (.inr (some 70)), some (.inr (some 1)), some (.inl l2), some (.inl l3)] [] h (fX5_foretell_39 l2 l3 h) := by
  unfold fX5_foretell_39
  generalize 400 = n
  induction n with
  | zero => intro l2 l3 h; exact am_jn
  | succ n ih => exact jX5_foretell_39b g ih
def fX5_foretell_37 (l2 : Int) (h : am_M) : Option (Unit × am_M) := fX5_foretell_39 l2 0 h
set_option maxRecDepth 10000 in
theorem jX5_foretell_37 {D : va_G} {a : Nat → ClassId} {ad : Nat → Nat} {G : am_G} (g : am_Gd (EX D a ad) RX5 cX5_foretell 4 none 6 G) : ∀ (l2 : Int), ∀ h : am_M, am_J (EX D a ad) G 4 am_ev 37 [some (.inr (some 70)), some (.inr (some 1)), some (.inl l2), none] [] h (fX5_foretell_37 l2 h) := by
  intro l2 h
  unfold fX5_foretell_37
  refine am_iconst g dX5_foretell_37 (am_il rfl) rfl ?_
  refine am_istore_n g dX5_foretell_38 (by decide) ?_
  exact (jX5_foretell_39 g) l2 0 h
def fX5_foretell_10b (K10 : Int → Int → am_M → Option (Unit × am_M)) (l2 : Int) (l3 : Int) (h : am_M) : Option (Unit × am_M) := if l3 < 6 then (if 0 ≤ l3 ∧ l3 < 6 then if 0 ≤ l3 ∧ l3 < 6 then am_l (am_up h 47 (Int.toNat l3) (h 15 (Int.toNat l3))) (fun h5 => K10 l2 (am_w (l3 + 1)) h5) else none else none) else fX5_foretell_37 l2 h
def fX5_foretell_10 : Int → Int → am_M → Option (Unit × am_M) := am_it (fun _ _ _ => none) (fX5_foretell_10b) 400
set_option maxRecDepth 10000 in
theorem jX5_foretell_10b {D : va_G} {a : Nat → ClassId} {ad : Nat → Nat} {G : am_G} (g : am_Gd (EX D a ad) RX5 cX5_foretell 4 none 6 G) {K10 : Int → Int → am_M → Option (Unit × am_M)} (hK10 : ∀ (l2 : Int), ∀ (l3 : Int), ∀ h : am_M, am_J (EX D a ad) G 4 am_ev 10 [some (.inr (some 70)), some (.inr (some 1)), some (.inl l2), some (.inl l3)] [] h (K10 l2 l3 h)) : ∀ (l2 : Int), ∀ (l3 : Int), ∀ h : am_M, am_J (EX D a ad) G 4 am_ev 10 [some (.inr (some 70)), some (.inr (some 1)), some (.inl l2), some (.inl l3)] [] h (fX5_foretell_10b K10 l2 l3 h) := by
  intro l2 l3 h
  unfold fX5_foretell_10b
  refine am_iload_n g dX5_foretell_10 rfl ?_
  refine am_bipush g dX5_foretell_11 (am_il rfl) (am_bi rfl) ?_
  refine am_icmp_ge (tgt := 37) g dX5_foretell_13 (by decide) ?_ ?_
  · refine am_drop 3 ?_
    exact (jX5_foretell_37 g) l2 h
  · refine am_aload_n g dX5_foretell_16 rfl ?_
    refine am_getr (q := 5) (a := 76) g clX5 dX5_foretell_17 (Nat.le_of_ble_eq_true rfl) rfl (by decide) rfl (Nat.le_of_ble_eq_true rfl) lf_X5_27 ?_
    refine am_iload_n g dX5_foretell_20 rfl ?_
    refine am_aload_n g dX5_foretell_21 rfl ?_
    refine am_getr (q := 2) (a := 4) g clX0 dX5_foretell_22 (Nat.le_of_ble_eq_true rfl) rfl (by decide) rfl (Nat.le_of_ble_eq_true rfl) lf_X5_41 ?_
    refine am_iload_n g dX5_foretell_25 rfl ?_
    refine am_aaload (b := 46) (n := 6) (nI := 6) g dX5_foretell_26 (Nat.le_of_ble_eq_true rfl) rfl rfl rfl (Nat.le_of_ble_eq_true rfl) (fun c3 => ?_)
    have hd4 : Int.toNat l3 < 6 := by omega
    refine am_geti (q := 5) (kd := 15) (ix := Int.toNat l3) g clX1 dX5_foretell_27 (Nat.lt_of_lt_of_le (Nat.add_lt_add_left hd4 46) (Nat.le_of_ble_eq_true rfl)) (sh_X1 (Int.toNat l3) hd4) (by decide) rfl lf_X5_47 ?_
    refine am_iastore (ix := Int.toNat l3) (nI := 6) g dX5_foretell_30 (Nat.le_of_ble_eq_true rfl) rfl rfl (Nat.zero_add _) ?_
    refine am_gm (fun h5 => ?_)
    refine am_iinc g dX5_foretell_31 (by decide) rfl ?_
    refine am_goto (tgt := 10) g dX5_foretell_34 (by decide) ?_
    exact hK10 l2 (am_w (l3 + 1)) h5
theorem jX5_foretell_10 {D : va_G} {a : Nat → ClassId} {ad : Nat → Nat} {G : am_G} (g : am_Gd (EX D a ad) RX5 cX5_foretell 4 none 6 G) : ∀ (l2 : Int), ∀ (l3 : Int), ∀ h : am_M, am_J (EX D a ad) G 4 am_ev 10 [some (.inr (some 70)), some (.inr (some 1)), some (.inl l2), some (.inl l3)] [] h (fX5_foretell_10 l2 l3 h) := by
  unfold fX5_foretell_10
  generalize 400 = n
  induction n with
  | zero => intro l2 l3 h; exact am_jn
  | succ n ih => exact jX5_foretell_10b g ih
def fX5_foretell (a2 : Int) (h : am_M) : Option (Unit × am_M) := am_b (fX6_gather 1 h) (fun _ h1 => fX5_foretell_10 a2 0 h1)
set_option maxRecDepth 10000 in
theorem cX5_foretellC {D : va_G} {a : Nat → ClassId} {ad : Nat → Nat} (a2 : Int) (h : am_M) : am_C (EX D a ad) yX5_foretell cX5_foretell 4 none 6 [.inr (some 70), .inr (some 1), .inl a2] h am_ev (fX5_foretell a2 h) := by
  refine am_ofJ (L := [some (.inr (some 70)), some (.inr (some 1)), some (.inl a2), none]) (by decide) rfl (Nat.le_of_ble_eq_true rfl) (fun G g => ?_)
  have g : am_Gd (EX D a ad) RX5 cX5_foretell 4 none 6 G := g
  unfold fX5_foretell
  refine am_aload_n g dX5_foretell_0 rfl ?_
  refine am_getr (q := 6) (a := 64 + 1) g clX5 dX5_foretell_1 (Nat.le_of_ble_eq_true rfl) rfl (by decide) rfl (Nat.lt_of_lt_of_le (Nat.add_lt_add_left (show 1 < 3 by decide) 64) (Nat.le_of_ble_eq_true rfl)) lf_X5_33 ?_
  refine am_aload_n g dX5_foretell_4 rfl ?_
  refine am_Vv (as := [.inr (some 1)]) (S := []) g (cX6_gatherC 1 (show 1 < 3 by decide) h) mi_X6_gather lm_X5_37 clX6.1 (Nat.lt_of_lt_of_le (Nat.add_lt_add_left (show 1 < 3 by decide) 64) (Nat.le_of_ble_eq_true rfl)) (sh_X6 1 (show 1 < 3 by decide)) dX5_foretell_5 rfl (by decide) (Nat.le_of_ble_eq_true rfl) rfl (fun _ h1 => ?_)
  refine am_iconst g dX5_foretell_8 (am_il rfl) rfl ?_
  refine am_istore_n g dX5_foretell_9 (by decide) ?_
  exact (jX5_foretell_10 g) a2 0 h1
def fX7_isTie (h : am_M) : Option (Int × am_M) := if (h 35 0) = 6 then (if (h 35 1) = 6 then some (1, h) else some (0, h)) else some (0, h)
set_option maxRecDepth 10000 in
theorem cX7_isTieC {D : va_G} {a : Nat → ClassId} {ad : Nat → Nat}  (h : am_M) : am_C (EX D a ad) yX7_isTie cX7_isTie 1 (some .boolean) 1 [.inr (some 59)] h am_ei (fX7_isTie h) := by
  refine am_ofJ (L := [some (.inr (some 59))]) (by decide) rfl (Nat.le_of_ble_eq_true rfl) (fun G g => ?_)
  have g : am_Gd (EX D a ad) RX7 cX7_isTie 1 (some .boolean) 1 G := g
  unfold fX7_isTie
  refine am_aload_n g dX7_isTie_0 rfl ?_
  refine am_getr (q := 1) (a := 61) g clX7 dX7_isTie_1 (Nat.le_of_ble_eq_true rfl) rfl (by decide) rfl (Nat.le_of_ble_eq_true rfl) lf_X7_15 ?_
  refine am_iconst g dX7_isTie_4 (am_il rfl) rfl ?_
  refine am_ialoadC (ix := 0) (nI := 2) g dX7_isTie_5 (Nat.le_of_ble_eq_true rfl) rfl rfl rfl rfl ?_
  refine am_bipush g dX7_isTie_6 (am_il rfl) (am_bi rfl) ?_
  refine am_icmp_ne (tgt := 26) g dX7_isTie_8 (by decide) ?_ ?_
  · refine am_iconst g dX7_isTie_26 (am_il rfl) rfl ?_
    exact am_zreturn g dX7_isTie_27 (by decide)
  · refine am_aload_n g dX7_isTie_11 rfl ?_
    refine am_getr (q := 1) (a := 61) g clX7 dX7_isTie_12 (Nat.le_of_ble_eq_true rfl) rfl (by decide) rfl (Nat.le_of_ble_eq_true rfl) lf_X7_15 ?_
    refine am_iconst g dX7_isTie_15 (am_il rfl) rfl ?_
    refine am_ialoadC (ix := 1) (nI := 2) g dX7_isTie_16 (Nat.le_of_ble_eq_true rfl) rfl rfl rfl rfl ?_
    refine am_bipush g dX7_isTie_17 (am_il rfl) (am_bi rfl) ?_
    refine am_icmp_ne (tgt := 26) g dX7_isTie_19 (by decide) ?_ ?_
    · refine am_iconst g dX7_isTie_26 (am_il rfl) rfl ?_
      exact am_zreturn g dX7_isTie_27 (by decide)
    · refine am_iconst g dX7_isTie_22 (am_il rfl) rfl ?_
      refine am_goto (tgt := 27) g dX7_isTie_23 (by decide) ?_
      exact am_zreturn g dX7_isTie_27 (by decide)
def fX7_setsInAll (h : am_M) : Option (Int × am_M) := some (am_w ((h 36 0) + (h 36 1)), h)
set_option maxRecDepth 10000 in
theorem cX7_setsInAllC {D : va_G} {a : Nat → ClassId} {ad : Nat → Nat}  (h : am_M) : am_C (EX D a ad) yX7_setsInAll cX7_setsInAll 1 (some .int) 1 [.inr (some 59)] h am_ei (fX7_setsInAll h) := by
  refine am_ofJ (L := [some (.inr (some 59))]) (by decide) rfl (Nat.le_of_ble_eq_true rfl) (fun G g => ?_)
  have g : am_Gd (EX D a ad) RX7 cX7_setsInAll 1 (some .int) 1 G := g
  unfold fX7_setsInAll
  refine am_aload_n g dX7_setsInAll_0 rfl ?_
  refine am_getr (q := 2) (a := 62) g clX7 dX7_setsInAll_1 (Nat.le_of_ble_eq_true rfl) rfl (by decide) rfl (Nat.le_of_ble_eq_true rfl) lf_X7_18 ?_
  refine am_iconst g dX7_setsInAll_4 (am_il rfl) rfl ?_
  refine am_ialoadC (ix := 0) (nI := 2) g dX7_setsInAll_5 (Nat.le_of_ble_eq_true rfl) rfl rfl rfl rfl ?_
  refine am_aload_n g dX7_setsInAll_6 rfl ?_
  refine am_getr (q := 2) (a := 62) g clX7 dX7_setsInAll_7 (Nat.le_of_ble_eq_true rfl) rfl (by decide) rfl (Nat.le_of_ble_eq_true rfl) lf_X7_18 ?_
  refine am_iconst g dX7_setsInAll_10 (am_il rfl) rfl ?_
  refine am_ialoadC (ix := 1) (nI := 2) g dX7_setsInAll_11 (Nat.le_of_ble_eq_true rfl) rfl rfl rfl rfl ?_
  refine am_iadd g dX7_setsInAll_12 ?_
  exact am_ireturn g dX7_setsInAll_13
def fX7_keepSet_40 (h : am_M) : Option (Unit × am_M) := am_l (am_up h 35 0 0) (fun h3 => am_l (am_up h3 35 1 0) (fun h4 => some ((), h4)))
set_option maxRecDepth 10000 in
theorem jX7_keepSet_40 {D : va_G} {a : Nat → ClassId} {ad : Nat → Nat} {G : am_G} (g : am_Gd (EX D a ad) RX7 cX7_keepSet 2 none 2 G) : ∀ h : am_M, am_J (EX D a ad) G 2 am_ev 40 [some (.inr (some 59)), none] [] h (fX7_keepSet_40 h) := by
  intro h
  unfold fX7_keepSet_40
  refine am_aload_n g dX7_keepSet_40 rfl ?_
  refine am_getr (q := 1) (a := 61) g clX7 dX7_keepSet_41 (Nat.le_of_ble_eq_true rfl) rfl (by decide) rfl (Nat.le_of_ble_eq_true rfl) lf_X7_15 ?_
  refine am_iconst g dX7_keepSet_44 (am_il rfl) rfl ?_
  refine am_iconst g dX7_keepSet_45 (am_il rfl) rfl ?_
  refine am_iastoreC (ix := 0) (nI := 2) g dX7_keepSet_46 (Nat.le_of_ble_eq_true rfl) rfl rfl rfl rfl ?_
  refine am_gm (fun h3 => ?_)
  refine am_aload_n g dX7_keepSet_47 rfl ?_
  refine am_getr (q := 1) (a := 61) g clX7 dX7_keepSet_48 (Nat.le_of_ble_eq_true rfl) rfl (by decide) rfl (Nat.le_of_ble_eq_true rfl) lf_X7_15 ?_
  refine am_iconst g dX7_keepSet_51 (am_il rfl) rfl ?_
  refine am_iconst g dX7_keepSet_52 (am_il rfl) rfl ?_
  refine am_iastoreC (ix := 1) (nI := 2) g dX7_keepSet_53 (Nat.le_of_ble_eq_true rfl) rfl rfl rfl rfl ?_
  refine am_gm (fun h4 => ?_)
  exact am_vreturn g dX7_keepSet_54
def fX7_keepSet (h : am_M) : Option (Unit × am_M) := am_b (fX7_setsInAll h) (fun v1 h2 => if v1 < 5 then (if 0 ≤ (am_w (2 * v1)) ∧ (am_w (2 * v1)) < 10 then am_l (am_up h2 37 (Int.toNat (am_w (2 * v1))) (h2 35 0)) (fun h5 => if 0 ≤ (am_w ((am_w (2 * v1)) + 1)) ∧ (am_w ((am_w (2 * v1)) + 1)) < 10 then am_l (am_up h5 37 (Int.toNat (am_w ((am_w (2 * v1)) + 1))) (h5 35 1)) (fun h6 => fX7_keepSet_40 h6) else none) else none) else fX7_keepSet_40 h2)
set_option maxRecDepth 10000 in
theorem cX7_keepSetC {D : va_G} {a : Nat → ClassId} {ad : Nat → Nat}  (h : am_M) : am_C (EX D a ad) yX7_keepSet cX7_keepSet 2 none 2 [.inr (some 59)] h am_ev (fX7_keepSet h) := by
  refine am_ofJ (L := [some (.inr (some 59)), none]) (by decide) rfl (Nat.le_of_ble_eq_true rfl) (fun G g => ?_)
  have g : am_Gd (EX D a ad) RX7 cX7_keepSet 2 none 2 G := g
  unfold fX7_keepSet
  refine am_aload_n g dX7_keepSet_0 rfl ?_
  refine am_Vi (as := []) (S := []) g (cX7_setsInAllC h) mi_X7_setsInAll lm_X7_53 clX7.1 (Nat.le_of_ble_eq_true rfl) rfl dX7_keepSet_1 rfl (by decide) (Nat.le_of_ble_eq_true rfl) rfl (fun v1 h2 => ?_)
  refine am_istore_n g dX7_keepSet_4 (by decide) ?_
  refine am_iload_n g dX7_keepSet_5 rfl ?_
  refine am_iconst g dX7_keepSet_6 (am_il rfl) rfl ?_
  refine am_icmp_ge (tgt := 40) g dX7_keepSet_7 (by decide) ?_ ?_
  · refine am_drop 1 ?_
    exact (jX7_keepSet_40 g) h2
  · refine am_aload_n g dX7_keepSet_10 rfl ?_
    refine am_getr (q := 3) (a := 63) g clX7 dX7_keepSet_11 (Nat.le_of_ble_eq_true rfl) rfl (by decide) rfl (Nat.le_of_ble_eq_true rfl) lf_X7_21 ?_
    refine am_iconst g dX7_keepSet_14 (am_il rfl) rfl ?_
    refine am_iload_n g dX7_keepSet_15 rfl ?_
    refine am_imul g dX7_keepSet_16 ?_
    refine am_aload_n g dX7_keepSet_17 rfl ?_
    refine am_getr (q := 1) (a := 61) g clX7 dX7_keepSet_18 (Nat.le_of_ble_eq_true rfl) rfl (by decide) rfl (Nat.le_of_ble_eq_true rfl) lf_X7_15 ?_
    refine am_iconst g dX7_keepSet_21 (am_il rfl) rfl ?_
    refine am_ialoadC (ix := 0) (nI := 2) g dX7_keepSet_22 (Nat.le_of_ble_eq_true rfl) rfl rfl rfl rfl ?_
    refine am_iastore (ix := Int.toNat (am_w (2 * v1))) (nI := 10) g dX7_keepSet_23 (Nat.le_of_ble_eq_true rfl) rfl rfl (Nat.zero_add _) ?_
    refine am_gm (fun h5 => ?_)
    refine am_aload_n g dX7_keepSet_24 rfl ?_
    refine am_getr (q := 3) (a := 63) g clX7 dX7_keepSet_25 (Nat.le_of_ble_eq_true rfl) rfl (by decide) rfl (Nat.le_of_ble_eq_true rfl) lf_X7_21 ?_
    refine am_iconst g dX7_keepSet_28 (am_il rfl) rfl ?_
    refine am_iload_n g dX7_keepSet_29 rfl ?_
    refine am_imul g dX7_keepSet_30 ?_
    refine am_iconst g dX7_keepSet_31 (am_il rfl) rfl ?_
    refine am_iadd g dX7_keepSet_32 ?_
    refine am_aload_n g dX7_keepSet_33 rfl ?_
    refine am_getr (q := 1) (a := 61) g clX7 dX7_keepSet_34 (Nat.le_of_ble_eq_true rfl) rfl (by decide) rfl (Nat.le_of_ble_eq_true rfl) lf_X7_15 ?_
    refine am_iconst g dX7_keepSet_37 (am_il rfl) rfl ?_
    refine am_ialoadC (ix := 1) (nI := 2) g dX7_keepSet_38 (Nat.le_of_ble_eq_true rfl) rfl rfl rfl rfl ?_
    refine am_iastore (ix := Int.toNat (am_w ((am_w (2 * v1)) + 1))) (nI := 10) g dX7_keepSet_39 (Nat.le_of_ble_eq_true rfl) rfl rfl (Nat.zero_add _) ?_
    refine am_gm (fun h6 => ?_)
    refine am_drop 1 ?_
    exact (jX7_keepSet_40 g) h6
def fX7_take_53 (l2 : Int) (h : am_M) : Option (Int × am_M) := if l2 = 0 then some (0, h) else if (Int.tmod (am_w ((h 34 0) + (h 34 1))) 6) = 0 then am_l (am_up h 40 0 (am_w ((h 40 0) + 1))) (fun h4 => some (0, h4)) else some (0, h)
set_option maxRecDepth 10000 in
theorem jX7_take_53 {D : va_G} {a : Nat → ClassId} {ad : Nat → Nat} {G : am_G} (g : am_Gd (EX D a ad) RX7 cX7_take 3 (some .int) 3 G) : ∀ (l2 : Int), ∀ h : am_M, am_J (EX D a ad) G 3 am_ei 53 [some (.inr (some 59)), none, some (.inl l2)] [] h (fX7_take_53 l2 h) := by
  intro l2 h
  unfold fX7_take_53
  refine am_iload_n g dX7_take_53 rfl ?_
  refine am_if_eq (tgt := 86) g dX7_take_54 (by decide) ?_ ?_
  · refine am_iconst g dX7_take_86 (am_il rfl) rfl ?_
    exact am_ireturn g dX7_take_87
  · refine am_aload_n g dX7_take_57 rfl ?_
    refine am_getr (q := 0) (a := 60) g clX7 dX7_take_58 (Nat.le_of_ble_eq_true rfl) rfl (by decide) rfl (Nat.le_of_ble_eq_true rfl) lf_X7_9 ?_
    refine am_iconst g dX7_take_61 (am_il rfl) rfl ?_
    refine am_ialoadC (ix := 0) (nI := 2) g dX7_take_62 (Nat.le_of_ble_eq_true rfl) rfl rfl rfl rfl ?_
    refine am_aload_n g dX7_take_63 rfl ?_
    refine am_getr (q := 0) (a := 60) g clX7 dX7_take_64 (Nat.le_of_ble_eq_true rfl) rfl (by decide) rfl (Nat.le_of_ble_eq_true rfl) lf_X7_9 ?_
    refine am_iconst g dX7_take_67 (am_il rfl) rfl ?_
    refine am_ialoadC (ix := 1) (nI := 2) g dX7_take_68 (Nat.le_of_ble_eq_true rfl) rfl rfl rfl rfl ?_
    refine am_iadd g dX7_take_69 ?_
    refine am_bipush g dX7_take_70 (am_il rfl) (am_bi rfl) ?_
    refine am_irem g dX7_take_72 (by decide) ?_
    refine am_if_ne (tgt := 86) g dX7_take_73 (by decide) ?_ ?_
    · refine am_iconst g dX7_take_86 (am_il rfl) rfl ?_
      exact am_ireturn g dX7_take_87
    · refine am_aload_n g dX7_take_76 rfl ?_
      refine am_dup g dX7_take_77 ?_
      refine am_geti (q := 6) (kd := 40) (ix := 0) g clX7 dX7_take_78 (Nat.le_of_ble_eq_true rfl) rfl (by decide) rfl lf_X7_28 ?_
      refine am_iconst g dX7_take_81 (am_il rfl) rfl ?_
      refine am_iadd g dX7_take_82 ?_
      refine am_puti (q := 6) (kd := 40) (ix := 0) g clX7 dX7_take_83 (Nat.le_of_ble_eq_true rfl) rfl (by decide) rfl lf_X7_28 rfl rfl ?_
      refine am_gm (fun h4 => ?_)
      refine am_iconst g dX7_take_86 (am_il rfl) rfl ?_
      exact am_ireturn g dX7_take_87
def fX7_take_187 (l1 : Int) (h : am_M) : Option (Int × am_M) := am_b (fX7_keepSet h) (fun _ h9 => if 0 ≤ l1 ∧ l1 < 2 then if 0 ≤ l1 ∧ l1 < 2 then am_l (am_up h9 36 (Int.toNat l1) (am_w ((h9 36 (Int.toNat l1)) + 1))) (fun h10 => if 0 ≤ l1 ∧ l1 < 2 then if (h10 36 (Int.toNat l1)) < (h10 39 0) then some (2, h10) else some (3, h10) else none) else none else none)
set_option maxRecDepth 10000 in
theorem jX7_take_187 {D : va_G} {a : Nat → ClassId} {ad : Nat → Nat} {G : am_G} (g : am_Gd (EX D a ad) RX7 cX7_take 3 (some .int) 3 G) : ∀ (l1 : Int), ∀ h : am_M, am_J (EX D a ad) G 3 am_ei 187 [some (.inr (some 59)), some (.inl l1), none] [] h (fX7_take_187 l1 h) := by
  intro l1 h
  unfold fX7_take_187
  refine am_aload_n g dX7_take_187 rfl ?_
  refine am_Vv (as := []) (S := []) g (cX7_keepSetC h) mi_X7_keepSet lm_X7_50 clX7.1 (Nat.le_of_ble_eq_true rfl) rfl dX7_take_188 rfl (by decide) (Nat.le_of_ble_eq_true rfl) rfl (fun _ h9 => ?_)
  refine am_aload_n g dX7_take_191 rfl ?_
  refine am_getr (q := 2) (a := 62) g clX7 dX7_take_192 (Nat.le_of_ble_eq_true rfl) rfl (by decide) rfl (Nat.le_of_ble_eq_true rfl) lf_X7_18 ?_
  refine am_iload_n g dX7_take_195 rfl ?_
  refine am_dup2 g dX7_take_196 ?_
  refine am_iaload (ix := Int.toNat l1) (nI := 2) g dX7_take_197 (Nat.le_of_ble_eq_true rfl) rfl rfl (Nat.zero_add _) ?_
  refine am_iconst g dX7_take_198 (am_il rfl) rfl ?_
  refine am_iadd g dX7_take_199 ?_
  refine am_iastore (ix := Int.toNat l1) (nI := 2) g dX7_take_200 (Nat.le_of_ble_eq_true rfl) rfl rfl (Nat.zero_add _) ?_
  refine am_gm (fun h10 => ?_)
  refine am_aload_n g dX7_take_201 rfl ?_
  refine am_getr (q := 2) (a := 62) g clX7 dX7_take_202 (Nat.le_of_ble_eq_true rfl) rfl (by decide) rfl (Nat.le_of_ble_eq_true rfl) lf_X7_18 ?_
  refine am_iload_n g dX7_take_205 rfl ?_
  refine am_iaload (ix := Int.toNat l1) (nI := 2) g dX7_take_206 (Nat.le_of_ble_eq_true rfl) rfl rfl (Nat.zero_add _) ?_
  refine am_aload_n g dX7_take_207 rfl ?_
  refine am_geti (q := 5) (kd := 39) (ix := 0) g clX7 dX7_take_208 (Nat.le_of_ble_eq_true rfl) rfl (by decide) rfl lf_X7_36 ?_
  refine am_icmp_lt (tgt := 218) g dX7_take_211 (by decide) ?_ ?_
  · refine am_iconst g dX7_take_218 (am_il rfl) rfl ?_
    exact am_ireturn g dX7_take_219
  · refine am_iconst g dX7_take_214 (am_il rfl) rfl ?_
    refine am_goto (tgt := 219) g dX7_take_215 (by decide) ?_
    exact am_ireturn g dX7_take_219
def fX7_take_151 (l1 : Int) (l2 : Int) (h : am_M) : Option (Int × am_M) := if l2 = 0 then (if 0 ≤ l1 ∧ l1 < 2 then if (h 35 (Int.toNat l1)) < 6 then some (1, h) else if 0 ≤ l1 ∧ l1 < 2 then if 0 ≤ (am_w (1 - l1)) ∧ (am_w (1 - l1)) < 2 then if (am_w ((h 35 (Int.toNat l1)) - (h 35 (Int.toNat (am_w (1 - l1)))))) < 2 then some (1, h) else fX7_take_187 l1 h else none else none else none) else fX7_take_187 l1 h
set_option maxRecDepth 10000 in
theorem jX7_take_151 {D : va_G} {a : Nat → ClassId} {ad : Nat → Nat} {G : am_G} (g : am_Gd (EX D a ad) RX7 cX7_take 3 (some .int) 3 G) : ∀ (l1 : Int), ∀ (l2 : Int), ∀ h : am_M, am_J (EX D a ad) G 3 am_ei 151 [some (.inr (some 59)), some (.inl l1), some (.inl l2)] [] h (fX7_take_151 l1 l2 h) := by
  intro l1 l2 h
  unfold fX7_take_151
  refine am_iload_n g dX7_take_151 rfl ?_
  refine am_if_ne (tgt := 187) g dX7_take_152 (by decide) ?_ ?_
  · refine am_drop 2 ?_
    exact (jX7_take_187 g) l1 h
  · refine am_aload_n g dX7_take_155 rfl ?_
    refine am_getr (q := 1) (a := 61) g clX7 dX7_take_156 (Nat.le_of_ble_eq_true rfl) rfl (by decide) rfl (Nat.le_of_ble_eq_true rfl) lf_X7_15 ?_
    refine am_iload_n g dX7_take_159 rfl ?_
    refine am_iaload (ix := Int.toNat l1) (nI := 2) g dX7_take_160 (Nat.le_of_ble_eq_true rfl) rfl rfl (Nat.zero_add _) ?_
    refine am_bipush g dX7_take_161 (am_il rfl) (am_bi rfl) ?_
    refine am_icmp_lt (tgt := 185) g dX7_take_163 (by decide) ?_ ?_
    · refine am_iconst g dX7_take_185 (am_il rfl) rfl ?_
      exact am_ireturn g dX7_take_186
    · refine am_aload_n g dX7_take_166 rfl ?_
      refine am_getr (q := 1) (a := 61) g clX7 dX7_take_167 (Nat.le_of_ble_eq_true rfl) rfl (by decide) rfl (Nat.le_of_ble_eq_true rfl) lf_X7_15 ?_
      refine am_iload_n g dX7_take_170 rfl ?_
      refine am_iaload (ix := Int.toNat l1) (nI := 2) g dX7_take_171 (Nat.le_of_ble_eq_true rfl) rfl rfl (Nat.zero_add _) ?_
      refine am_aload_n g dX7_take_172 rfl ?_
      refine am_getr (q := 1) (a := 61) g clX7 dX7_take_173 (Nat.le_of_ble_eq_true rfl) rfl (by decide) rfl (Nat.le_of_ble_eq_true rfl) lf_X7_15 ?_
      refine am_iconst g dX7_take_176 (am_il rfl) rfl ?_
      refine am_iload_n g dX7_take_177 rfl ?_
      refine am_isub g dX7_take_178 ?_
      refine am_iaload (ix := Int.toNat (am_w (1 - l1))) (nI := 2) g dX7_take_179 (Nat.le_of_ble_eq_true rfl) rfl rfl (Nat.zero_add _) ?_
      refine am_isub g dX7_take_180 ?_
      refine am_iconst g dX7_take_181 (am_il rfl) rfl ?_
      refine am_icmp_ge (tgt := 187) g dX7_take_182 (by decide) ?_ ?_
      · refine am_drop 2 ?_
        exact (jX7_take_187 g) l1 h
      · refine am_iconst g dX7_take_185 (am_il rfl) rfl ?_
        exact am_ireturn g dX7_take_186
def fX7_take_31 (l1 : Int) (l2 : Int) (s0 : Int) (s1 : Int) (h : am_M) : Option (Int × am_M) := if s1 < s0 then fX7_take_53 l2 h else if 0 ≤ l1 ∧ l1 < 2 then if 0 ≤ (am_w (1 - l1)) ∧ (am_w (1 - l1)) < 2 then if (am_w ((h 34 (Int.toNat l1)) - (h 34 (Int.toNat (am_w (1 - l1)))))) < 2 then fX7_take_53 l2 h else am_l (am_up h 34 0 0) (fun h5 => am_l (am_up h5 34 1 0) (fun h6 => if 0 ≤ l1 ∧ l1 < 2 then if 0 ≤ l1 ∧ l1 < 2 then am_l (am_up h6 35 (Int.toNat l1) (am_w ((h6 35 (Int.toNat l1)) + 1))) (fun h7 => am_l (am_up h7 38 0 (am_w ((h7 38 0) + 1))) (fun h8 => if (Int.tmod (am_w ((h8 35 0) + (h8 35 1))) 2) = 1 then am_l (am_up h8 40 0 (am_w ((h8 40 0) + 1))) (fun h11 => fX7_take_151 l1 l2 h11) else fX7_take_151 l1 l2 h8)) else none else none)) else none else none
set_option maxRecDepth 10000 in
theorem jX7_take_31 {D : va_G} {a : Nat → ClassId} {ad : Nat → Nat} {G : am_G} (g : am_Gd (EX D a ad) RX7 cX7_take 3 (some .int) 3 G) : ∀ (l1 : Int), ∀ (l2 : Int), ∀ (s0 : Int), ∀ (s1 : Int), ∀ h : am_M, am_J (EX D a ad) G 3 am_ei 31 [some (.inr (some 59)), some (.inl l1), some (.inl l2)] [.inl s0, .inl s1] h (fX7_take_31 l1 l2 s0 s1 h) := by
  intro l1 l2 s0 s1 h
  unfold fX7_take_31
  refine am_icmp_lt (tgt := 53) g dX7_take_31 (by decide) ?_ ?_
  · refine am_drop 1 ?_
    exact (jX7_take_53 g) l2 h
  · refine am_aload_n g dX7_take_34 rfl ?_
    refine am_getr (q := 0) (a := 60) g clX7 dX7_take_35 (Nat.le_of_ble_eq_true rfl) rfl (by decide) rfl (Nat.le_of_ble_eq_true rfl) lf_X7_9 ?_
    refine am_iload_n g dX7_take_38 rfl ?_
    refine am_iaload (ix := Int.toNat l1) (nI := 2) g dX7_take_39 (Nat.le_of_ble_eq_true rfl) rfl rfl (Nat.zero_add _) ?_
    refine am_aload_n g dX7_take_40 rfl ?_
    refine am_getr (q := 0) (a := 60) g clX7 dX7_take_41 (Nat.le_of_ble_eq_true rfl) rfl (by decide) rfl (Nat.le_of_ble_eq_true rfl) lf_X7_9 ?_
    refine am_iconst g dX7_take_44 (am_il rfl) rfl ?_
    refine am_iload_n g dX7_take_45 rfl ?_
    refine am_isub g dX7_take_46 ?_
    refine am_iaload (ix := Int.toNat (am_w (1 - l1))) (nI := 2) g dX7_take_47 (Nat.le_of_ble_eq_true rfl) rfl rfl (Nat.zero_add _) ?_
    refine am_isub g dX7_take_48 ?_
    refine am_iconst g dX7_take_49 (am_il rfl) rfl ?_
    refine am_icmp_ge (tgt := 88) g dX7_take_50 (by decide) ?_ ?_
    · refine am_aload_n g dX7_take_88 rfl ?_
      refine am_getr (q := 0) (a := 60) g clX7 dX7_take_89 (Nat.le_of_ble_eq_true rfl) rfl (by decide) rfl (Nat.le_of_ble_eq_true rfl) lf_X7_9 ?_
      refine am_iconst g dX7_take_92 (am_il rfl) rfl ?_
      refine am_iconst g dX7_take_93 (am_il rfl) rfl ?_
      refine am_iastoreC (ix := 0) (nI := 2) g dX7_take_94 (Nat.le_of_ble_eq_true rfl) rfl rfl rfl rfl ?_
      refine am_gm (fun h5 => ?_)
      refine am_aload_n g dX7_take_95 rfl ?_
      refine am_getr (q := 0) (a := 60) g clX7 dX7_take_96 (Nat.le_of_ble_eq_true rfl) rfl (by decide) rfl (Nat.le_of_ble_eq_true rfl) lf_X7_9 ?_
      refine am_iconst g dX7_take_99 (am_il rfl) rfl ?_
      refine am_iconst g dX7_take_100 (am_il rfl) rfl ?_
      refine am_iastoreC (ix := 1) (nI := 2) g dX7_take_101 (Nat.le_of_ble_eq_true rfl) rfl rfl rfl rfl ?_
      refine am_gm (fun h6 => ?_)
      refine am_aload_n g dX7_take_102 rfl ?_
      refine am_getr (q := 1) (a := 61) g clX7 dX7_take_103 (Nat.le_of_ble_eq_true rfl) rfl (by decide) rfl (Nat.le_of_ble_eq_true rfl) lf_X7_15 ?_
      refine am_iload_n g dX7_take_106 rfl ?_
      refine am_dup2 g dX7_take_107 ?_
      refine am_iaload (ix := Int.toNat l1) (nI := 2) g dX7_take_108 (Nat.le_of_ble_eq_true rfl) rfl rfl (Nat.zero_add _) ?_
      refine am_iconst g dX7_take_109 (am_il rfl) rfl ?_
      refine am_iadd g dX7_take_110 ?_
      refine am_iastore (ix := Int.toNat l1) (nI := 2) g dX7_take_111 (Nat.le_of_ble_eq_true rfl) rfl rfl (Nat.zero_add _) ?_
      refine am_gm (fun h7 => ?_)
      refine am_aload_n g dX7_take_112 rfl ?_
      refine am_dup g dX7_take_113 ?_
      refine am_geti (q := 4) (kd := 38) (ix := 0) g clX7 dX7_take_114 (Nat.le_of_ble_eq_true rfl) rfl (by decide) rfl lf_X7_24 ?_
      refine am_iconst g dX7_take_117 (am_il rfl) rfl ?_
      refine am_iadd g dX7_take_118 ?_
      refine am_puti (q := 4) (kd := 38) (ix := 0) g clX7 dX7_take_119 (Nat.le_of_ble_eq_true rfl) rfl (by decide) rfl lf_X7_24 rfl rfl ?_
      refine am_gm (fun h8 => ?_)
      refine am_aload_n g dX7_take_122 rfl ?_
      refine am_getr (q := 1) (a := 61) g clX7 dX7_take_123 (Nat.le_of_ble_eq_true rfl) rfl (by decide) rfl (Nat.le_of_ble_eq_true rfl) lf_X7_15 ?_
      refine am_iconst g dX7_take_126 (am_il rfl) rfl ?_
      refine am_ialoadC (ix := 0) (nI := 2) g dX7_take_127 (Nat.le_of_ble_eq_true rfl) rfl rfl rfl rfl ?_
      refine am_aload_n g dX7_take_128 rfl ?_
      refine am_getr (q := 1) (a := 61) g clX7 dX7_take_129 (Nat.le_of_ble_eq_true rfl) rfl (by decide) rfl (Nat.le_of_ble_eq_true rfl) lf_X7_15 ?_
      refine am_iconst g dX7_take_132 (am_il rfl) rfl ?_
      refine am_ialoadC (ix := 1) (nI := 2) g dX7_take_133 (Nat.le_of_ble_eq_true rfl) rfl rfl rfl rfl ?_
      refine am_iadd g dX7_take_134 ?_
      refine am_iconst g dX7_take_135 (am_il rfl) rfl ?_
      refine am_irem g dX7_take_136 (by decide) ?_
      refine am_iconst g dX7_take_137 (am_il rfl) rfl ?_
      refine am_icmp_ne (tgt := 151) g dX7_take_138 (by decide) ?_ ?_
      · exact (jX7_take_151 g) l1 l2 h8
      · refine am_aload_n g dX7_take_141 rfl ?_
        refine am_dup g dX7_take_142 ?_
        refine am_geti (q := 6) (kd := 40) (ix := 0) g clX7 dX7_take_143 (Nat.le_of_ble_eq_true rfl) rfl (by decide) rfl lf_X7_28 ?_
        refine am_iconst g dX7_take_146 (am_il rfl) rfl ?_
        refine am_iadd g dX7_take_147 ?_
        refine am_puti (q := 6) (kd := 40) (ix := 0) g clX7 dX7_take_148 (Nat.le_of_ble_eq_true rfl) rfl (by decide) rfl lf_X7_28 rfl rfl ?_
        refine am_gm (fun h11 => ?_)
        exact (jX7_take_151 g) l1 l2 h11
    · refine am_drop 1 ?_
      exact (jX7_take_53 g) l2 h
def fX7_take (a1 : Int) (h : am_M) : Option (Int × am_M) := am_b (fX7_isTie h) (fun v1 h2 => if 0 ≤ a1 ∧ a1 < 2 then if 0 ≤ a1 ∧ a1 < 2 then am_l (am_up h2 34 (Int.toNat a1) (am_w ((h2 34 (Int.toNat a1)) + 1))) (fun h3 => if 0 ≤ a1 ∧ a1 < 2 then if v1 = 0 then fX7_take_31 a1 v1 4 (h3 34 (Int.toNat a1)) h3 else fX7_take_31 a1 v1 7 (h3 34 (Int.toNat a1)) h3 else none) else none else none)
set_option maxRecDepth 10000 in
theorem cX7_takeC {D : va_G} {a : Nat → ClassId} {ad : Nat → Nat} (a1 : Int) (h : am_M) : am_C (EX D a ad) yX7_take cX7_take 3 (some .int) 3 [.inr (some 59), .inl a1] h am_ei (fX7_take a1 h) := by
  refine am_ofJ (L := [some (.inr (some 59)), some (.inl a1), none]) (by decide) rfl (Nat.le_of_ble_eq_true rfl) (fun G g => ?_)
  have g : am_Gd (EX D a ad) RX7 cX7_take 3 (some .int) 3 G := g
  unfold fX7_take
  refine am_aload_n g dX7_take_0 rfl ?_
  refine am_Vi (as := []) (S := []) g (cX7_isTieC h) mi_X7_isTie lm_X7_46 clX7.1 (Nat.le_of_ble_eq_true rfl) rfl dX7_take_1 rfl (by decide) (Nat.le_of_ble_eq_true rfl) rfl (fun v1 h2 => ?_)
  refine am_istore_n g dX7_take_4 (by decide) ?_
  refine am_aload_n g dX7_take_5 rfl ?_
  refine am_getr (q := 0) (a := 60) g clX7 dX7_take_6 (Nat.le_of_ble_eq_true rfl) rfl (by decide) rfl (Nat.le_of_ble_eq_true rfl) lf_X7_9 ?_
  refine am_iload_n g dX7_take_9 rfl ?_
  refine am_dup2 g dX7_take_10 ?_
  refine am_iaload (ix := Int.toNat a1) (nI := 2) g dX7_take_11 (Nat.le_of_ble_eq_true rfl) rfl rfl (Nat.zero_add _) ?_
  refine am_iconst g dX7_take_12 (am_il rfl) rfl ?_
  refine am_iadd g dX7_take_13 ?_
  refine am_iastore (ix := Int.toNat a1) (nI := 2) g dX7_take_14 (Nat.le_of_ble_eq_true rfl) rfl rfl (Nat.zero_add _) ?_
  refine am_gm (fun h3 => ?_)
  refine am_aload_n g dX7_take_15 rfl ?_
  refine am_getr (q := 0) (a := 60) g clX7 dX7_take_16 (Nat.le_of_ble_eq_true rfl) rfl (by decide) rfl (Nat.le_of_ble_eq_true rfl) lf_X7_9 ?_
  refine am_iload_n g dX7_take_19 rfl ?_
  refine am_iaload (ix := Int.toNat a1) (nI := 2) g dX7_take_20 (Nat.le_of_ble_eq_true rfl) rfl rfl (Nat.zero_add _) ?_
  refine am_iload_n g dX7_take_21 rfl ?_
  refine am_if_eq (tgt := 30) g dX7_take_22 (by decide) ?_ ?_
  · refine am_iconst g dX7_take_30 (am_il rfl) rfl ?_
    exact (jX7_take_31 g) a1 v1 4 (h3 34 (Int.toNat a1)) h3
  · refine am_bipush g dX7_take_25 (am_il rfl) (am_bi rfl) ?_
    refine am_goto (tgt := 31) g dX7_take_27 (by decide) ?_
    exact (jX7_take_31 g) a1 v1 7 (h3 34 (Int.toNat a1)) h3
def fX7_replay_54b (K54 : Nat → Int → Int → am_M → Option (Unit × am_M)) (l1 : Nat) (l2 : Int) (l3 : Int) (h : am_M) : Option (Unit × am_M) := if 0 ≤ l2 ∧ l2 < 16 then if l3 < (h 9 (16 * l1 + Int.toNat l2)) then am_b (fX2_pointOf l1 l2 l3 h) (fun v4 h5 => am_b (fX7_take v4 h5) (fun v6 h7 => K54 l1 l2 (am_w (l3 + 1)) h7)) else some ((), h) else none
def fX7_replay_54 : Nat → Int → Int → am_M → Option (Unit × am_M) := am_it (fun _ _ _ _ => none) (fX7_replay_54b) 400
set_option maxRecDepth 10000 in
theorem jX7_replay_54b {D : va_G} {a : Nat → ClassId} {ad : Nat → Nat} {G : am_G} (g : am_Gd (EX D a ad) RX7 cX7_replay 4 none 4 G) {K54 : Nat → Int → Int → am_M → Option (Unit × am_M)} (hK54 : ∀ (l1 : Nat), l1 < 4 → ∀ (l2 : Int), ∀ (l3 : Int), ∀ h : am_M, am_J (EX D a ad) G 4 am_ev 54 [some (.inr (some 59)), some (.inr (some (10 + l1))), some (.inl l2), some (.inl l3)] [] h (K54 l1 l2 l3 h)) : ∀ (l1 : Nat), l1 < 4 → ∀ (l2 : Int), ∀ (l3 : Int), ∀ h : am_M, am_J (EX D a ad) G 4 am_ev 54 [some (.inr (some 59)), some (.inr (some (10 + l1))), some (.inl l2), some (.inl l3)] [] h (fX7_replay_54b K54 l1 l2 l3 h) := by
  intro l1 hl1 l2 l3 h
  unfold fX7_replay_54b
  refine am_iload_n g dX7_replay_54 rfl ?_
  refine am_aload_n g dX7_replay_55 rfl ?_
  refine am_getr (q := 6) (a := 38 + l1) g clX2 dX7_replay_56 (Nat.lt_of_lt_of_le (Nat.add_lt_add_left hl1 10) (Nat.le_of_ble_eq_true rfl)) (sh_X2 l1 hl1) (by decide) rfl (Nat.lt_of_lt_of_le (Nat.add_lt_add_left hl1 38) (Nat.le_of_ble_eq_true rfl)) lf_X7_37 ?_
  refine am_iload_n g dX7_replay_59 rfl ?_
  refine am_iaload (ix := 16 * l1 + Int.toNat l2) (nI := 16) g dX7_replay_60 (Nat.lt_of_lt_of_le (Nat.add_lt_add_left hl1 38) (Nat.le_of_ble_eq_true rfl)) (sh_X2_points l1 hl1) rfl rfl ?_
  refine am_icmp_ge (tgt := 81) g dX7_replay_61 (by decide) ?_ ?_
  · exact am_vreturn g dX7_replay_81
  · refine am_aload_n g dX7_replay_64 rfl ?_
    refine am_aload_n g dX7_replay_65 rfl ?_
    refine am_iload_n g dX7_replay_66 rfl ?_
    refine am_iload_n g dX7_replay_67 rfl ?_
    refine am_Vi (as := [.inl l2, .inl l3]) (S := [.inr (some 59)]) g (cX2_pointOfC l1 hl1 l2 l3 h) mi_X2_pointOf lm_X7_38 clX2.1 (Nat.lt_of_lt_of_le (Nat.add_lt_add_left hl1 10) (Nat.le_of_ble_eq_true rfl)) (sh_X2 l1 hl1) dX7_replay_68 rfl (by decide) (Nat.le_of_ble_eq_true rfl) rfl (fun v4 h5 => ?_)
    refine am_Vi (as := [.inl v4]) (S := []) g (cX7_takeC v4 h5) mi_X7_take lm_X7_42 clX7.1 (Nat.le_of_ble_eq_true rfl) rfl dX7_replay_71 rfl (by decide) (Nat.le_of_ble_eq_true rfl) rfl (fun v6 h7 => ?_)
    refine am_pop g dX7_replay_74 ?_
    refine am_iinc g dX7_replay_75 (by decide) rfl ?_
    refine am_goto (tgt := 54) g dX7_replay_78 (by decide) ?_
    exact hK54 l1 hl1 l2 (am_w (l3 + 1)) h7
theorem jX7_replay_54 {D : va_G} {a : Nat → ClassId} {ad : Nat → Nat} {G : am_G} (g : am_Gd (EX D a ad) RX7 cX7_replay 4 none 4 G) : ∀ (l1 : Nat), l1 < 4 → ∀ (l2 : Int), ∀ (l3 : Int), ∀ h : am_M, am_J (EX D a ad) G 4 am_ev 54 [some (.inr (some 59)), some (.inr (some (10 + l1))), some (.inl l2), some (.inl l3)] [] h (fX7_replay_54 l1 l2 l3 h) := by
  unfold fX7_replay_54
  generalize 400 = n
  induction n with
  | zero => intro l1 hl1 l2 l3 h; exact am_jn
  | succ n ih => exact jX7_replay_54b g ih
def fX7_replay_34 (l1 : Nat) (l2 : Int) (h : am_M) : Option (Unit × am_M) := am_l (am_up h 38 0 0) (fun h1 => am_l (am_up h1 40 0 0) (fun h2 => am_l (am_up h2 39 0 (h2 2 l1)) (fun h3 => fX7_replay_54 l1 l2 0 h3)))
set_option maxRecDepth 10000 in
theorem jX7_replay_34 {D : va_G} {a : Nat → ClassId} {ad : Nat → Nat} {G : am_G} (g : am_Gd (EX D a ad) RX7 cX7_replay 4 none 4 G) : ∀ (l1 : Nat), l1 < 4 → ∀ (l2 : Int), ∀ h : am_M, am_J (EX D a ad) G 4 am_ev 34 [some (.inr (some 59)), some (.inr (some (10 + l1))), some (.inl l2), none] [] h (fX7_replay_34 l1 l2 h) := by
  intro l1 hl1 l2 h
  unfold fX7_replay_34
  refine am_aload_n g dX7_replay_34 rfl ?_
  refine am_iconst g dX7_replay_35 (am_il rfl) rfl ?_
  refine am_puti (q := 4) (kd := 38) (ix := 0) g clX7 dX7_replay_36 (Nat.le_of_ble_eq_true rfl) rfl (by decide) rfl lf_X7_24 rfl rfl ?_
  refine am_gm (fun h1 => ?_)
  refine am_aload_n g dX7_replay_39 rfl ?_
  refine am_iconst g dX7_replay_40 (am_il rfl) rfl ?_
  refine am_puti (q := 6) (kd := 40) (ix := 0) g clX7 dX7_replay_41 (Nat.le_of_ble_eq_true rfl) rfl (by decide) rfl lf_X7_28 rfl rfl ?_
  refine am_gm (fun h2 => ?_)
  refine am_aload_n g dX7_replay_44 rfl ?_
  refine am_aload_n g dX7_replay_45 rfl ?_
  refine am_geti (q := 9) (kd := 2) (ix := l1) g clX2 dX7_replay_46 (Nat.lt_of_lt_of_le (Nat.add_lt_add_left hl1 10) (Nat.le_of_ble_eq_true rfl)) (sh_X2 l1 hl1) (by decide) rfl lf_X7_31 ?_
  refine am_puti (q := 5) (kd := 39) (ix := 0) g clX7 dX7_replay_49 (Nat.le_of_ble_eq_true rfl) rfl (by decide) rfl lf_X7_36 rfl rfl ?_
  refine am_gm (fun h3 => ?_)
  refine am_iconst g dX7_replay_52 (am_il rfl) rfl ?_
  refine am_istore_n g dX7_replay_53 (by decide) ?_
  exact (jX7_replay_54 g) l1 hl1 l2 0 h3
def fX7_replay_2b (K2 : Nat → Int → Int → am_M → Option (Unit × am_M)) (l1 : Nat) (l2 : Int) (l3 : Int) (h : am_M) : Option (Unit × am_M) := if l3 < 2 then (if 0 ≤ l3 ∧ l3 < 2 then am_l (am_up h 34 (Int.toNat l3) 0) (fun h8 => if 0 ≤ l3 ∧ l3 < 2 then am_l (am_up h8 35 (Int.toNat l3) 0) (fun h9 => if 0 ≤ l3 ∧ l3 < 2 then am_l (am_up h9 36 (Int.toNat l3) 0) (fun h10 => K2 l1 l2 (am_w (l3 + 1)) h10) else none) else none) else none) else fX7_replay_34 l1 l2 h
def fX7_replay_2 : Nat → Int → Int → am_M → Option (Unit × am_M) := am_it (fun _ _ _ _ => none) (fX7_replay_2b) 400
set_option maxRecDepth 10000 in
theorem jX7_replay_2b {D : va_G} {a : Nat → ClassId} {ad : Nat → Nat} {G : am_G} (g : am_Gd (EX D a ad) RX7 cX7_replay 4 none 4 G) {K2 : Nat → Int → Int → am_M → Option (Unit × am_M)} (hK2 : ∀ (l1 : Nat), l1 < 4 → ∀ (l2 : Int), ∀ (l3 : Int), ∀ h : am_M, am_J (EX D a ad) G 4 am_ev 2 [some (.inr (some 59)), some (.inr (some (10 + l1))), some (.inl l2), some (.inl l3)] [] h (K2 l1 l2 l3 h)) : ∀ (l1 : Nat), l1 < 4 → ∀ (l2 : Int), ∀ (l3 : Int), ∀ h : am_M, am_J (EX D a ad) G 4 am_ev 2 [some (.inr (some 59)), some (.inr (some (10 + l1))), some (.inl l2), some (.inl l3)] [] h (fX7_replay_2b K2 l1 l2 l3 h) := by
  intro l1 hl1 l2 l3 h
  unfold fX7_replay_2b
  refine am_iload_n g dX7_replay_2 rfl ?_
  refine am_iconst g dX7_replay_3 (am_il rfl) rfl ?_
  refine am_icmp_ge (tgt := 34) g dX7_replay_4 (by decide) ?_ ?_
  · refine am_drop 3 ?_
    exact (jX7_replay_34 g) l1 hl1 l2 h
  · refine am_aload_n g dX7_replay_7 rfl ?_
    refine am_getr (q := 0) (a := 60) g clX7 dX7_replay_8 (Nat.le_of_ble_eq_true rfl) rfl (by decide) rfl (Nat.le_of_ble_eq_true rfl) lf_X7_9 ?_
    refine am_iload_n g dX7_replay_11 rfl ?_
    refine am_iconst g dX7_replay_12 (am_il rfl) rfl ?_
    refine am_iastore (ix := Int.toNat l3) (nI := 2) g dX7_replay_13 (Nat.le_of_ble_eq_true rfl) rfl rfl (Nat.zero_add _) ?_
    refine am_gm (fun h8 => ?_)
    refine am_aload_n g dX7_replay_14 rfl ?_
    refine am_getr (q := 1) (a := 61) g clX7 dX7_replay_15 (Nat.le_of_ble_eq_true rfl) rfl (by decide) rfl (Nat.le_of_ble_eq_true rfl) lf_X7_15 ?_
    refine am_iload_n g dX7_replay_18 rfl ?_
    refine am_iconst g dX7_replay_19 (am_il rfl) rfl ?_
    refine am_iastore (ix := Int.toNat l3) (nI := 2) g dX7_replay_20 (Nat.le_of_ble_eq_true rfl) rfl rfl (Nat.zero_add _) ?_
    refine am_gm (fun h9 => ?_)
    refine am_aload_n g dX7_replay_21 rfl ?_
    refine am_getr (q := 2) (a := 62) g clX7 dX7_replay_22 (Nat.le_of_ble_eq_true rfl) rfl (by decide) rfl (Nat.le_of_ble_eq_true rfl) lf_X7_18 ?_
    refine am_iload_n g dX7_replay_25 rfl ?_
    refine am_iconst g dX7_replay_26 (am_il rfl) rfl ?_
    refine am_iastore (ix := Int.toNat l3) (nI := 2) g dX7_replay_27 (Nat.le_of_ble_eq_true rfl) rfl rfl (Nat.zero_add _) ?_
    refine am_gm (fun h10 => ?_)
    refine am_iinc g dX7_replay_28 (by decide) rfl ?_
    refine am_goto (tgt := 2) g dX7_replay_31 (by decide) ?_
    exact hK2 l1 hl1 l2 (am_w (l3 + 1)) h10
theorem jX7_replay_2 {D : va_G} {a : Nat → ClassId} {ad : Nat → Nat} {G : am_G} (g : am_Gd (EX D a ad) RX7 cX7_replay 4 none 4 G) : ∀ (l1 : Nat), l1 < 4 → ∀ (l2 : Int), ∀ (l3 : Int), ∀ h : am_M, am_J (EX D a ad) G 4 am_ev 2 [some (.inr (some 59)), some (.inr (some (10 + l1))), some (.inl l2), some (.inl l3)] [] h (fX7_replay_2 l1 l2 l3 h) := by
  unfold fX7_replay_2
  generalize 400 = n
  induction n with
  | zero => intro l1 hl1 l2 l3 h; exact am_jn
  | succ n ih => exact jX7_replay_2b g ih
def fX7_replay (a1 : Nat) (a2 : Int) (h : am_M) : Option (Unit × am_M) := fX7_replay_2 a1 a2 0 h
set_option maxRecDepth 10000 in
theorem cX7_replayC {D : va_G} {a : Nat → ClassId} {ad : Nat → Nat} (a1 : Nat) (ha1 : a1 < 4) (a2 : Int) (h : am_M) : am_C (EX D a ad) yX7_replay cX7_replay 4 none 4 [.inr (some 59), .inr (some (10 + a1)), .inl a2] h am_ev (fX7_replay a1 a2 h) := by
  refine am_ofJ (L := [some (.inr (some 59)), some (.inr (some (10 + a1))), some (.inl a2), none]) (by decide) rfl (Nat.le_of_ble_eq_true rfl) (fun G g => ?_)
  have g : am_Gd (EX D a ad) RX7 cX7_replay 4 none 4 G := g
  unfold fX7_replay
  refine am_iconst g dX7_replay_0 (am_il rfl) rfl ?_
  refine am_istore_n g dX7_replay_1 (by decide) ?_
  exact (jX7_replay_2 g) a1 ha1 a2 0 h
def fX7_serves (h : am_M) : Option (Int × am_M) := am_l (h 38 0) (fun x1 => am_b (fX7_isTie h) (fun v2 h3 => if v2 = 0 then some (Int.tmod x1 2, h3) else am_l (am_w (x1 + (am_w (Int.tdiv (am_w ((am_w ((h3 34 0) + (h3 34 1))) + 1)) 2)))) (fun x4 => some (Int.tmod x4 2, h3))))
set_option maxRecDepth 10000 in
theorem cX7_servesC {D : va_G} {a : Nat → ClassId} {ad : Nat → Nat}  (h : am_M) : am_C (EX D a ad) yX7_serves cX7_serves 2 (some .int) 2 [.inr (some 59)] h am_ei (fX7_serves h) := by
  refine am_ofJ (L := [some (.inr (some 59)), none]) (by decide) rfl (Nat.le_of_ble_eq_true rfl) (fun G g => ?_)
  have g : am_Gd (EX D a ad) RX7 cX7_serves 2 (some .int) 2 G := g
  unfold fX7_serves
  refine am_aload_n g dX7_serves_0 rfl ?_
  refine am_geti (q := 4) (kd := 38) (ix := 0) g clX7 dX7_serves_1 (Nat.le_of_ble_eq_true rfl) rfl (by decide) rfl lf_X7_24 ?_
  refine am_gv (fun x1 => ?_)
  refine am_istore_n g dX7_serves_4 (by decide) ?_
  refine am_aload_n g dX7_serves_5 rfl ?_
  refine am_Vi (as := []) (S := []) g (cX7_isTieC h) mi_X7_isTie lm_X7_46 clX7.1 (Nat.le_of_ble_eq_true rfl) rfl dX7_serves_6 rfl (by decide) (Nat.le_of_ble_eq_true rfl) rfl (fun v2 h3 => ?_)
  refine am_if_eq (tgt := 32) g dX7_serves_9 (by decide) ?_ ?_
  · refine am_iload_n g dX7_serves_32 rfl ?_
    refine am_iconst g dX7_serves_33 (am_il rfl) rfl ?_
    refine am_irem g dX7_serves_34 (by decide) ?_
    exact am_ireturn g dX7_serves_35
  · refine am_iload_n g dX7_serves_12 rfl ?_
    refine am_aload_n g dX7_serves_13 rfl ?_
    refine am_getr (q := 0) (a := 60) g clX7 dX7_serves_14 (Nat.le_of_ble_eq_true rfl) rfl (by decide) rfl (Nat.le_of_ble_eq_true rfl) lf_X7_9 ?_
    refine am_iconst g dX7_serves_17 (am_il rfl) rfl ?_
    refine am_ialoadC (ix := 0) (nI := 2) g dX7_serves_18 (Nat.le_of_ble_eq_true rfl) rfl rfl rfl rfl ?_
    refine am_aload_n g dX7_serves_19 rfl ?_
    refine am_getr (q := 0) (a := 60) g clX7 dX7_serves_20 (Nat.le_of_ble_eq_true rfl) rfl (by decide) rfl (Nat.le_of_ble_eq_true rfl) lf_X7_9 ?_
    refine am_iconst g dX7_serves_23 (am_il rfl) rfl ?_
    refine am_ialoadC (ix := 1) (nI := 2) g dX7_serves_24 (Nat.le_of_ble_eq_true rfl) rfl rfl rfl rfl ?_
    refine am_iadd g dX7_serves_25 ?_
    refine am_iconst g dX7_serves_26 (am_il rfl) rfl ?_
    refine am_iadd g dX7_serves_27 ?_
    refine am_iconst g dX7_serves_28 (am_il rfl) rfl ?_
    refine am_idiv g dX7_serves_29 (by decide) ?_
    refine am_iadd g dX7_serves_30 ?_
    refine am_gv (fun x4 => ?_)
    refine am_istore_n g dX7_serves_31 (by decide) ?_
    refine am_iload_n g dX7_serves_32 rfl ?_
    refine am_iconst g dX7_serves_33 (am_il rfl) rfl ?_
    refine am_irem g dX7_serves_34 (by decide) ?_
    exact am_ireturn g dX7_serves_35
def fX7_gamesOfSet_28 (l1 : Int) (l2 : Int) (l3 : Int) (h : am_M) : Option (Int × am_M) := if l3 = 0 then some ((-1), h) else am_b (fX7_setsInAll h) (fun v1 h2 => if l1 = v1 then (if 0 ≤ l2 ∧ l2 < 2 then some (h2 35 (Int.toNat l2), h2) else none) else some ((-1), h2))
set_option maxRecDepth 10000 in
theorem jX7_gamesOfSet_28 {D : va_G} {a : Nat → ClassId} {ad : Nat → Nat} {G : am_G} (g : am_Gd (EX D a ad) RX7 cX7_gamesOfSet 4 (some .int) 2 G) : ∀ (l1 : Int), ∀ (l2 : Int), ∀ (l3 : Int), ∀ h : am_M, am_J (EX D a ad) G 4 am_ei 28 [some (.inr (some 59)), some (.inl l1), some (.inl l2), some (.inl l3)] [] h (fX7_gamesOfSet_28 l1 l2 l3 h) := by
  intro l1 l2 l3 h
  unfold fX7_gamesOfSet_28
  refine am_iload_n g dX7_gamesOfSet_28 rfl ?_
  refine am_if_eq (tgt := 49) g dX7_gamesOfSet_29 (by decide) ?_ ?_
  · refine am_iconst g dX7_gamesOfSet_49 (am_il rfl) rfl ?_
    exact am_ireturn g dX7_gamesOfSet_50
  · refine am_iload_n g dX7_gamesOfSet_32 rfl ?_
    refine am_aload_n g dX7_gamesOfSet_33 rfl ?_
    refine am_Vi (as := []) (S := [.inl l1]) g (cX7_setsInAllC h) mi_X7_setsInAll lm_X7_53 clX7.1 (Nat.le_of_ble_eq_true rfl) rfl dX7_gamesOfSet_34 rfl (by decide) (Nat.le_of_ble_eq_true rfl) rfl (fun v1 h2 => ?_)
    refine am_icmp_ne (tgt := 49) g dX7_gamesOfSet_37 (by decide) ?_ ?_
    · refine am_iconst g dX7_gamesOfSet_49 (am_il rfl) rfl ?_
      exact am_ireturn g dX7_gamesOfSet_50
    · refine am_aload_n g dX7_gamesOfSet_40 rfl ?_
      refine am_getr (q := 1) (a := 61) g clX7 dX7_gamesOfSet_41 (Nat.le_of_ble_eq_true rfl) rfl (by decide) rfl (Nat.le_of_ble_eq_true rfl) lf_X7_15 ?_
      refine am_iload_n g dX7_gamesOfSet_44 rfl ?_
      refine am_iaload (ix := Int.toNat l2) (nI := 2) g dX7_gamesOfSet_45 (Nat.le_of_ble_eq_true rfl) rfl rfl (Nat.zero_add _) ?_
      refine am_goto (tgt := 50) g dX7_gamesOfSet_46 (by decide) ?_
      exact am_ireturn g dX7_gamesOfSet_50
def fX7_gamesOfSet (a1 : Int) (a2 : Int) (a3 : Int) (h : am_M) : Option (Int × am_M) := if a1 < 0 then fX7_gamesOfSet_28 a1 a2 a3 h else am_b (fX7_setsInAll h) (fun v3 h4 => if a1 < v3 then (if a1 < 5 then (if 0 ≤ (am_w ((am_w (2 * a1)) + a2)) ∧ (am_w ((am_w (2 * a1)) + a2)) < 10 then some (h4 37 (Int.toNat (am_w ((am_w (2 * a1)) + a2))), h4) else none) else fX7_gamesOfSet_28 a1 a2 a3 h4) else fX7_gamesOfSet_28 a1 a2 a3 h4)
set_option maxRecDepth 10000 in
theorem cX7_gamesOfSetC {D : va_G} {a : Nat → ClassId} {ad : Nat → Nat} (a1 : Int) (a2 : Int) (a3 : Int) (h : am_M) : am_C (EX D a ad) yX7_gamesOfSet cX7_gamesOfSet 4 (some .int) 2 [.inr (some 59), .inl a1, .inl a2, .inl a3] h am_ei (fX7_gamesOfSet a1 a2 a3 h) := by
  refine am_ofJ (L := [some (.inr (some 59)), some (.inl a1), some (.inl a2), some (.inl a3)]) (by decide) rfl (Nat.le_of_ble_eq_true rfl) (fun G g => ?_)
  have g : am_Gd (EX D a ad) RX7 cX7_gamesOfSet 4 (some .int) 2 G := g
  unfold fX7_gamesOfSet
  refine am_iload_n g dX7_gamesOfSet_0 rfl ?_
  refine am_if_lt (tgt := 28) g dX7_gamesOfSet_1 (by decide) ?_ ?_
  · exact (jX7_gamesOfSet_28 g) a1 a2 a3 h
  · refine am_iload_n g dX7_gamesOfSet_4 rfl ?_
    refine am_aload_n g dX7_gamesOfSet_5 rfl ?_
    refine am_Vi (as := []) (S := [.inl a1]) g (cX7_setsInAllC h) mi_X7_setsInAll lm_X7_53 clX7.1 (Nat.le_of_ble_eq_true rfl) rfl dX7_gamesOfSet_6 rfl (by decide) (Nat.le_of_ble_eq_true rfl) rfl (fun v3 h4 => ?_)
    refine am_icmp_ge (tgt := 28) g dX7_gamesOfSet_9 (by decide) ?_ ?_
    · exact (jX7_gamesOfSet_28 g) a1 a2 a3 h4
    · refine am_iload_n g dX7_gamesOfSet_12 rfl ?_
      refine am_iconst g dX7_gamesOfSet_13 (am_il rfl) rfl ?_
      refine am_icmp_ge (tgt := 28) g dX7_gamesOfSet_14 (by decide) ?_ ?_
      · exact (jX7_gamesOfSet_28 g) a1 a2 a3 h4
      · refine am_aload_n g dX7_gamesOfSet_17 rfl ?_
        refine am_getr (q := 3) (a := 63) g clX7 dX7_gamesOfSet_18 (Nat.le_of_ble_eq_true rfl) rfl (by decide) rfl (Nat.le_of_ble_eq_true rfl) lf_X7_21 ?_
        refine am_iconst g dX7_gamesOfSet_21 (am_il rfl) rfl ?_
        refine am_iload_n g dX7_gamesOfSet_22 rfl ?_
        refine am_imul g dX7_gamesOfSet_23 ?_
        refine am_iload_n g dX7_gamesOfSet_24 rfl ?_
        refine am_iadd g dX7_gamesOfSet_25 ?_
        refine am_iaload (ix := Int.toNat (am_w ((am_w (2 * a1)) + a2))) (nI := 10) g dX7_gamesOfSet_26 (Nat.le_of_ble_eq_true rfl) rfl rfl (Nat.zero_add _) ?_
        exact am_ireturn g dX7_gamesOfSet_27
