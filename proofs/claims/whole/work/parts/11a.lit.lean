def fX9_in (a1 : Int) (a2 : Int) (a3 : Int) (h : am_M) : Option (Int × am_M) := if a1 < a2 then some (0, h) else if a1 ≤ a3 then some (1, h) else some (0, h)
set_option maxRecDepth 10000 in
theorem cX9_inC {D : va_G} {a : Nat → ClassId} {ad : Nat → Nat} (a1 : Int) (a2 : Int) (a3 : Int) (h : am_M) : am_C (EM D a ad) yX9_in cX9_in 3 (some .boolean) 1 [.inl a1, .inl a2, .inl a3] h am_ei (fX9_in a1 a2 a3 h) := by
  refine am_ofJ (L := [some (.inl a1), some (.inl a2), some (.inl a3)]) (by decide) rfl (Nat.le_of_ble_eq_true rfl) (fun G g => ?_)
  have g : am_Gd (EM D a ad) RX9 cX9_in 3 (some .boolean) 1 G := g
  unfold fX9_in
  refine am_iload_n g dX9_in_0 rfl ?_
  refine am_iload_n g dX9_in_1 rfl ?_
  refine am_icmp_lt (tgt := 14) g dX9_in_2 (by decide) ?_ ?_
  · refine am_iconst g dX9_in_14 (am_il rfl) rfl ?_
    exact am_zreturn g dX9_in_15 (by decide)
  · refine am_iload_n g dX9_in_5 rfl ?_
    refine am_iload_n g dX9_in_6 rfl ?_
    refine am_icmp_gt (tgt := 14) g dX9_in_7 (by decide) ?_ ?_
    · refine am_iconst g dX9_in_14 (am_il rfl) rfl ?_
      exact am_zreturn g dX9_in_15 (by decide)
    · refine am_iconst g dX9_in_10 (am_il rfl) rfl ?_
      refine am_goto (tgt := 15) g dX9_in_11 (by decide) ?_
      exact am_zreturn g dX9_in_15 (by decide)
def fX9_isPlayer (a1 : Int) (h : am_M) : Option (Int × am_M) := am_b (fX9_in a1 0 39 h) (fun v1 h2 => if v1 = 0 ∨ v1 = 1 then some (v1, h2) else none)
set_option maxRecDepth 10000 in
theorem cX9_isPlayerC {D : va_G} {a : Nat → ClassId} {ad : Nat → Nat} (a1 : Int) (h : am_M) : am_C (EM D a ad) yX9_isPlayer cX9_isPlayer 1 (some .boolean) 2 [.inl a1] h am_ei (fX9_isPlayer a1 h) := by
  refine am_ofJ (L := [some (.inl a1)]) (by decide) rfl (Nat.le_of_ble_eq_true rfl) (fun G g => ?_)
  have g : am_Gd (EM D a ad) RX9 cX9_isPlayer 1 (some .boolean) 2 G := g
  unfold fX9_isPlayer
  refine am_iload_n g dX9_isPlayer_0 rfl ?_
  refine am_iconst g dX9_isPlayer_1 (am_il rfl) rfl ?_
  refine am_bipush g dX9_isPlayer_2 (am_il rfl) (am_bi rfl) ?_
  refine am_Si (as := [.inl a1, .inl 0, .inl 39]) (S := []) g (cX9_inC a1 0 39 h) mi_X9_in lm_X9_111 dX9_isPlayer_4 rfl (by decide) (Nat.le_of_ble_eq_true rfl) rfl (fun v1 h2 => ?_)
  exact am_zreturnG g dX9_isPlayer_7
def fX9_isDraw (a1 : Int) (h : am_M) : Option (Int × am_M) := am_b (fX9_in a1 0 3 h) (fun v1 h2 => if v1 = 0 then some (0, h2) else if 0 ≤ a1 ∧ a1 < 4 then if (h2 1 (Int.toNat a1)) ≤ 0 then some (0, h2) else some (1, h2) else none)
set_option maxRecDepth 10000 in
theorem cX9_isDrawC {D : va_G} {a : Nat → ClassId} {ad : Nat → Nat} (a1 : Int) (h : am_M) : am_C (EM D a ad) yX9_isDraw cX9_isDraw 2 (some .boolean) 2 [.inr (some 0), .inl a1] h am_ei (fX9_isDraw a1 h) := by
  refine am_ofJ (L := [some (.inr (some 0)), some (.inl a1)]) (by decide) rfl (Nat.le_of_ble_eq_true rfl) (fun G g => ?_)
  have g : am_Gd (EM D a ad) RX9 cX9_isDraw 2 (some .boolean) 2 G := g
  unfold fX9_isDraw
  refine am_iload_n g dX9_isDraw_0 rfl ?_
  refine am_iconst g dX9_isDraw_1 (am_il rfl) rfl ?_
  refine am_iconst g dX9_isDraw_2 (am_il rfl) rfl ?_
  refine am_Si (as := [.inl a1, .inl 0, .inl 3]) (S := []) g (cX9_inC a1 0 3 h) mi_X9_in lm_X9_111 dX9_isDraw_3 rfl (by decide) (Nat.le_of_ble_eq_true rfl) rfl (fun v1 h2 => ?_)
  refine am_if_eq (tgt := 22) g dX9_isDraw_6 (by decide) ?_ ?_
  · refine am_iconst g dX9_isDraw_22 (am_il rfl) rfl ?_
    exact am_zreturn g dX9_isDraw_23 (by decide)
  · refine am_aload_n g dX9_isDraw_9 rfl ?_
    refine am_getr (q := 1) (a := 2) g clX9 dX9_isDraw_10 (Nat.le_of_ble_eq_true rfl) rfl (by decide) rfl (Nat.le_of_ble_eq_true rfl) lf_X9_13 ?_
    refine am_iload_n g dX9_isDraw_13 rfl ?_
    refine am_iaload (ix := Int.toNat a1) (nI := 4) g dX9_isDraw_14 (Nat.le_of_ble_eq_true rfl) rfl rfl (Nat.zero_add _) ?_
    refine am_if_le (tgt := 22) g dX9_isDraw_15 (by decide) ?_ ?_
    · refine am_iconst g dX9_isDraw_22 (am_il rfl) rfl ?_
      exact am_zreturn g dX9_isDraw_23 (by decide)
    · refine am_iconst g dX9_isDraw_18 (am_il rfl) rfl ?_
      refine am_goto (tgt := 23) g dX9_isDraw_19 (by decide) ?_
      exact am_zreturn g dX9_isDraw_23 (by decide)
def fX9_land (a1 : Int) (a2 : Int) (h : am_M) : Option (Int × am_M) := am_b (fX9_isPlayer a1 h) (fun v1 h2 => if v1 = 0 then some ((-1), h2) else am_b (fX9_in a2 0 9 h2) (fun v3 h4 => if v3 = 0 then some ((-1), h4) else if 0 ≤ a1 ∧ a1 < 40 then am_l (h4 0 (Int.toNat a1)) (fun x5 => if 0 ≤ a1 ∧ a1 < 40 then am_l (am_up h4 0 (Int.toNat a1) a2) (fun h6 => some (x5, h6)) else none) else none))
set_option maxRecDepth 10000 in
theorem cX9_landC {D : va_G} {a : Nat → ClassId} {ad : Nat → Nat} (a1 : Int) (a2 : Int) (h : am_M) : am_C (EM D a ad) yX9_land cX9_land 4 (some .int) 3 [.inr (some 0), .inl a1, .inl a2] h am_ei (fX9_land a1 a2 h) := by
  refine am_ofJ (L := [some (.inr (some 0)), some (.inl a1), some (.inl a2), none]) (by decide) rfl (Nat.le_of_ble_eq_true rfl) (fun G g => ?_)
  have g : am_Gd (EM D a ad) RX9 cX9_land 4 (some .int) 3 G := g
  unfold fX9_land
  refine am_iload_n g dX9_land_0 rfl ?_
  refine am_Si (as := [.inl a1]) (S := []) g (cX9_isPlayerC a1 h) mi_X9_isPlayer lm_X9_115 dX9_land_1 rfl (by decide) (Nat.le_of_ble_eq_true rfl) rfl (fun v1 h2 => ?_)
  refine am_if_eq (tgt := 17) g dX9_land_4 (by decide) ?_ ?_
  · refine am_iconst g dX9_land_17 (am_il rfl) rfl ?_
    exact am_ireturn g dX9_land_18
  · refine am_iload_n g dX9_land_7 rfl ?_
    refine am_iconst g dX9_land_8 (am_il rfl) rfl ?_
    refine am_bipush g dX9_land_9 (am_il rfl) (am_bi rfl) ?_
    refine am_Si (as := [.inl a2, .inl 0, .inl 9]) (S := []) g (cX9_inC a2 0 9 h2) mi_X9_in lm_X9_111 dX9_land_11 rfl (by decide) (Nat.le_of_ble_eq_true rfl) rfl (fun v3 h4 => ?_)
    refine am_if_ne (tgt := 19) g dX9_land_14 (by decide) ?_ ?_
    · refine am_aload_n g dX9_land_19 rfl ?_
      refine am_getr (q := 0) (a := 1) g clX9 dX9_land_20 (Nat.le_of_ble_eq_true rfl) rfl (by decide) rfl (Nat.le_of_ble_eq_true rfl) lf_X9_9 ?_
      refine am_iload_n g dX9_land_23 rfl ?_
      refine am_iaload (ix := Int.toNat a1) (nI := 40) g dX9_land_24 (Nat.le_of_ble_eq_true rfl) rfl rfl (Nat.zero_add _) ?_
      refine am_gv (fun x5 => ?_)
      refine am_istore_n g dX9_land_25 (by decide) ?_
      refine am_aload_n g dX9_land_26 rfl ?_
      refine am_getr (q := 0) (a := 1) g clX9 dX9_land_27 (Nat.le_of_ble_eq_true rfl) rfl (by decide) rfl (Nat.le_of_ble_eq_true rfl) lf_X9_9 ?_
      refine am_iload_n g dX9_land_30 rfl ?_
      refine am_iload_n g dX9_land_31 rfl ?_
      refine am_iastore (ix := Int.toNat a1) (nI := 40) g dX9_land_32 (Nat.le_of_ble_eq_true rfl) rfl rfl (Nat.zero_add _) ?_
      refine am_gm (fun h6 => ?_)
      refine am_iload_n g dX9_land_33 rfl ?_
      exact am_ireturn g dX9_land_34
    · refine am_iconst g dX9_land_17 (am_il rfl) rfl ?_
      exact am_ireturn g dX9_land_18
def fX9_clear (a1 : Int) (h : am_M) : Option (Unit × am_M) := if 0 ≤ a1 ∧ a1 < 64 then am_l (am_up h 9 (Int.toNat a1) 0) (fun h1 => if 0 ≤ a1 ∧ a1 < 64 then am_l (am_up h1 24 (Int.toNat a1) 0) (fun h2 => if 0 ≤ a1 ∧ a1 < 64 then am_l (am_up h2 10 (Int.toNat a1) (-1)) (fun h3 => some ((), h3)) else none) else none) else none
set_option maxRecDepth 10000 in
theorem cX9_clearC {D : va_G} {a : Nat → ClassId} {ad : Nat → Nat} (a1 : Int) (h : am_M) : am_C (EM D a ad) yX9_clear cX9_clear 2 none 1 [.inr (some 0), .inl a1] h am_ev (fX9_clear a1 h) := by
  refine am_ofJ (L := [some (.inr (some 0)), some (.inl a1)]) (by decide) rfl (Nat.le_of_ble_eq_true rfl) (fun G g => ?_)
  have g : am_Gd (EM D a ad) RX9 cX9_clear 2 none 1 G := g
  unfold fX9_clear
  refine am_aload_n g dX9_clear_0 rfl ?_
  refine am_getr (q := 9) (a := 10) g clX9 dX9_clear_1 (Nat.le_of_ble_eq_true rfl) rfl (by decide) rfl (Nat.le_of_ble_eq_true rfl) lf_X9_38 ?_
  refine am_iload_n g dX9_clear_4 rfl ?_
  refine am_iconst g dX9_clear_5 (am_il rfl) rfl ?_
  refine am_iastore (ix := Int.toNat a1) (nI := 64) g dX9_clear_6 (Nat.le_of_ble_eq_true rfl) rfl rfl (Nat.zero_add _) ?_
  refine am_gm (fun h1 => ?_)
  refine am_aload_n g dX9_clear_7 rfl ?_
  refine am_getr (q := 11) (a := 12) g clX9 dX9_clear_8 (Nat.le_of_ble_eq_true rfl) rfl (by decide) rfl (Nat.le_of_ble_eq_true rfl) lf_X9_45 ?_
  refine am_iload_n g dX9_clear_11 rfl ?_
  refine am_iconst g dX9_clear_12 (am_il rfl) rfl ?_
  refine am_iastore (ix := Int.toNat a1) (nI := 64) g dX9_clear_13 (Nat.le_of_ble_eq_true rfl) rfl rfl (Nat.zero_add _) ?_
  refine am_gm (fun h2 => ?_)
  refine am_aload_n g dX9_clear_14 rfl ?_
  refine am_getr (q := 13) (a := 14) g clX9 dX9_clear_15 (Nat.le_of_ble_eq_true rfl) rfl (by decide) rfl (Nat.le_of_ble_eq_true rfl) lf_X9_51 ?_
  refine am_iload_n g dX9_clear_18 rfl ?_
  refine am_iconst g dX9_clear_19 (am_il rfl) rfl ?_
  refine am_iastore (ix := Int.toNat a1) (nI := 64) g dX9_clear_20 (Nat.le_of_ble_eq_true rfl) rfl rfl (Nat.zero_add _) ?_
  refine am_gm (fun h3 => ?_)
  exact am_vreturn g dX9_clear_21
def fX9_draw_104b (K104 : Int → Int → am_M → Option (Int × am_M)) (l1 : Int) (l4 : Int) (h : am_M) : Option (Int × am_M) := if l4 < 16 then am_b (fX9_clear (am_w ((am_w (16 * l1)) + l4)) h) (fun _ h10 => K104 l1 (am_w (l4 + 1)) h10) else some (1, h)
def fX9_draw_104 : Int → Int → am_M → Option (Int × am_M) := am_it (fun _ _ _ => none) (fX9_draw_104b) 400
set_option maxRecDepth 10000 in
theorem jX9_draw_104b {D : va_G} {a : Nat → ClassId} {ad : Nat → Nat} {G : am_G} (g : am_Gd (EM D a ad) RX9 cX9_draw 5 (some .int) 2 G) {K104 : Int → Int → am_M → Option (Int × am_M)} (hK104 : ∀ (l1 : Int), ∀ (l4 : Int), ∀ h : am_M, am_J (EM D a ad) G 5 am_ei 104 [some (.inr (some 0)), some (.inl l1), none, none, some (.inl l4)] [] h (K104 l1 l4 h)) : ∀ (l1 : Int), ∀ (l4 : Int), ∀ h : am_M, am_J (EM D a ad) G 5 am_ei 104 [some (.inr (some 0)), some (.inl l1), none, none, some (.inl l4)] [] h (fX9_draw_104b K104 l1 l4 h) := by
  intro l1 l4 h
  unfold fX9_draw_104b
  refine am_iload g dX9_draw_104 rfl ?_
  refine am_bipush g dX9_draw_106 (am_il rfl) (am_bi rfl) ?_
  refine am_icmp_ge (tgt := 128) g dX9_draw_108 (by decide) ?_ ?_
  · refine am_iconst g dX9_draw_128 (am_il rfl) rfl ?_
    exact am_ireturn g dX9_draw_129
  · refine am_aload_n g dX9_draw_111 rfl ?_
    refine am_bipush g dX9_draw_112 (am_il rfl) (am_bi rfl) ?_
    refine am_iload_n g dX9_draw_114 rfl ?_
    refine am_imul g dX9_draw_115 ?_
    refine am_iload g dX9_draw_116 rfl ?_
    refine am_iadd g dX9_draw_118 ?_
    refine am_Vv (as := [.inl (am_w ((am_w (16 * l1)) + l4))]) (S := []) g (cX9_clearC (am_w ((am_w (16 * l1)) + l4)) h) mi_X9_clear lm_X9_119 clX9.1 (Nat.le_of_ble_eq_true rfl) rfl dX9_draw_119 rfl (by decide) (Nat.le_of_ble_eq_true rfl) rfl (fun _ h10 => ?_)
    refine am_iinc g dX9_draw_122 (by decide) rfl ?_
    refine am_goto (tgt := 104) g dX9_draw_125 (by decide) ?_
    exact hK104 l1 (am_w (l4 + 1)) h10
theorem jX9_draw_104 {D : va_G} {a : Nat → ClassId} {ad : Nat → Nat} {G : am_G} (g : am_Gd (EM D a ad) RX9 cX9_draw 5 (some .int) 2 G) : ∀ (l1 : Int), ∀ (l4 : Int), ∀ h : am_M, am_J (EM D a ad) G 5 am_ei 104 [some (.inr (some 0)), some (.inl l1), none, none, some (.inl l4)] [] h (fX9_draw_104 l1 l4 h) := by
  unfold fX9_draw_104
  generalize 400 = n
  induction n with
  | zero => intro l1 l4 h; exact am_jn
  | succ n ih => exact jX9_draw_104b g ih
def fX9_draw_101 (l1 : Int) (h : am_M) : Option (Int × am_M) := fX9_draw_104 l1 0 h
set_option maxRecDepth 10000 in
theorem jX9_draw_101 {D : va_G} {a : Nat → ClassId} {ad : Nat → Nat} {G : am_G} (g : am_Gd (EM D a ad) RX9 cX9_draw 5 (some .int) 2 G) : ∀ (l1 : Int), ∀ h : am_M, am_J (EM D a ad) G 5 am_ei 101 [some (.inr (some 0)), some (.inl l1), none, none, none] [] h (fX9_draw_101 l1 h) := by
  intro l1 h
  unfold fX9_draw_101
  refine am_iconst g dX9_draw_101 (am_il rfl) rfl ?_
  refine am_istore g dX9_draw_102 (by decide) ?_
  exact (jX9_draw_104 g) l1 0 h
def fX9_draw_75b (K75 : Int → Int → am_M → Option (Int × am_M)) (l1 : Int) (l4 : Int) (h : am_M) : Option (Int × am_M) := if l4 < 40 then (if 0 ≤ (am_w ((am_w (40 * l1)) + l4)) ∧ (am_w ((am_w (40 * l1)) + l4)) < 160 then am_l (am_up h 8 (Int.toNat (am_w ((am_w (40 * l1)) + l4))) 0) (fun h11 => K75 l1 (am_w (l4 + 1)) h11) else none) else fX9_draw_101 l1 h
def fX9_draw_75 : Int → Int → am_M → Option (Int × am_M) := am_it (fun _ _ _ => none) (fX9_draw_75b) 400
set_option maxRecDepth 10000 in
theorem jX9_draw_75b {D : va_G} {a : Nat → ClassId} {ad : Nat → Nat} {G : am_G} (g : am_Gd (EM D a ad) RX9 cX9_draw 5 (some .int) 2 G) {K75 : Int → Int → am_M → Option (Int × am_M)} (hK75 : ∀ (l1 : Int), ∀ (l4 : Int), ∀ h : am_M, am_J (EM D a ad) G 5 am_ei 75 [some (.inr (some 0)), some (.inl l1), none, none, some (.inl l4)] [] h (K75 l1 l4 h)) : ∀ (l1 : Int), ∀ (l4 : Int), ∀ h : am_M, am_J (EM D a ad) G 5 am_ei 75 [some (.inr (some 0)), some (.inl l1), none, none, some (.inl l4)] [] h (fX9_draw_75b K75 l1 l4 h) := by
  intro l1 l4 h
  unfold fX9_draw_75b
  refine am_iload g dX9_draw_75 rfl ?_
  refine am_bipush g dX9_draw_77 (am_il rfl) (am_bi rfl) ?_
  refine am_icmp_ge (tgt := 101) g dX9_draw_79 (by decide) ?_ ?_
  · refine am_drop 4 ?_
    exact (jX9_draw_101 g) l1 h
  · refine am_aload_n g dX9_draw_82 rfl ?_
    refine am_getr (q := 8) (a := 9) g clX9 dX9_draw_83 (Nat.le_of_ble_eq_true rfl) rfl (by decide) rfl (Nat.le_of_ble_eq_true rfl) lf_X9_35 ?_
    refine am_bipush g dX9_draw_86 (am_il rfl) (am_bi rfl) ?_
    refine am_iload_n g dX9_draw_88 rfl ?_
    refine am_imul g dX9_draw_89 ?_
    refine am_iload g dX9_draw_90 rfl ?_
    refine am_iadd g dX9_draw_92 ?_
    refine am_iconst g dX9_draw_93 (am_il rfl) rfl ?_
    refine am_zastoreB (ix := Int.toNat (am_w ((am_w (40 * l1)) + l4))) (nI := 160) g dX9_draw_94 (Nat.le_of_ble_eq_true rfl) rfl rfl (Nat.zero_add _) (by decide) ?_
    refine am_gm (fun h11 => ?_)
    refine am_iinc g dX9_draw_95 (by decide) rfl ?_
    refine am_goto (tgt := 75) g dX9_draw_98 (by decide) ?_
    exact hK75 l1 (am_w (l4 + 1)) h11
theorem jX9_draw_75 {D : va_G} {a : Nat → ClassId} {ad : Nat → Nat} {G : am_G} (g : am_Gd (EM D a ad) RX9 cX9_draw 5 (some .int) 2 G) : ∀ (l1 : Int), ∀ (l4 : Int), ∀ h : am_M, am_J (EM D a ad) G 5 am_ei 75 [some (.inr (some 0)), some (.inl l1), none, none, some (.inl l4)] [] h (fX9_draw_75 l1 l4 h) := by
  unfold fX9_draw_75
  generalize 400 = n
  induction n with
  | zero => intro l1 l4 h; exact am_jn
  | succ n ih => exact jX9_draw_75b g ih
def fX9_draw_26 (l1 : Int) (l2 : Int) (l3 : Int) (h : am_M) : Option (Int × am_M) := am_b (fX9_in l3 2 3 h) (fun v3 h4 => if v3 = 0 then some ((-1), h4) else if 0 ≤ l1 ∧ l1 < 4 then am_l (am_up h4 1 (Int.toNat l1) l2) (fun h5 => if 0 ≤ l1 ∧ l1 < 4 then am_l (am_up h5 2 (Int.toNat l1) l3) (fun h6 => if 0 ≤ l1 ∧ l1 < 4 then am_l (am_up h6 3 (Int.toNat l1) 0) (fun h7 => if 0 ≤ l1 ∧ l1 < 4 then am_l (am_up h7 4 (Int.toNat l1) 0) (fun h8 => if 0 ≤ l1 ∧ l1 < 4 then am_l (am_up h8 5 (Int.toNat l1) 0) (fun h9 => fX9_draw_75 l1 0 h9) else none) else none) else none) else none) else none)
set_option maxRecDepth 10000 in
theorem jX9_draw_26 {D : va_G} {a : Nat → ClassId} {ad : Nat → Nat} {G : am_G} (g : am_Gd (EM D a ad) RX9 cX9_draw 5 (some .int) 2 G) : ∀ (l1 : Int), ∀ (l2 : Int), ∀ (l3 : Int), ∀ h : am_M, am_J (EM D a ad) G 5 am_ei 26 [some (.inr (some 0)), some (.inl l1), some (.inl l2), some (.inl l3), none] [] h (fX9_draw_26 l1 l2 l3 h) := by
  intro l1 l2 l3 h
  unfold fX9_draw_26
  refine am_iload_n g dX9_draw_26 rfl ?_
  refine am_iconst g dX9_draw_27 (am_il rfl) rfl ?_
  refine am_iconst g dX9_draw_28 (am_il rfl) rfl ?_
  refine am_Si (as := [.inl l3, .inl 2, .inl 3]) (S := []) g (cX9_inC l3 2 3 h) mi_X9_in lm_X9_111 dX9_draw_29 rfl (by decide) (Nat.le_of_ble_eq_true rfl) rfl (fun v3 h4 => ?_)
  refine am_if_ne (tgt := 37) g dX9_draw_32 (by decide) ?_ ?_
  · refine am_aload_n g dX9_draw_37 rfl ?_
    refine am_getr (q := 1) (a := 2) g clX9 dX9_draw_38 (Nat.le_of_ble_eq_true rfl) rfl (by decide) rfl (Nat.le_of_ble_eq_true rfl) lf_X9_13 ?_
    refine am_iload_n g dX9_draw_41 rfl ?_
    refine am_iload_n g dX9_draw_42 rfl ?_
    refine am_iastore (ix := Int.toNat l1) (nI := 4) g dX9_draw_43 (Nat.le_of_ble_eq_true rfl) rfl rfl (Nat.zero_add _) ?_
    refine am_gm (fun h5 => ?_)
    refine am_aload_n g dX9_draw_44 rfl ?_
    refine am_getr (q := 2) (a := 3) g clX9 dX9_draw_45 (Nat.le_of_ble_eq_true rfl) rfl (by decide) rfl (Nat.le_of_ble_eq_true rfl) lf_X9_16 ?_
    refine am_iload_n g dX9_draw_48 rfl ?_
    refine am_iload_n g dX9_draw_49 rfl ?_
    refine am_iastore (ix := Int.toNat l1) (nI := 4) g dX9_draw_50 (Nat.le_of_ble_eq_true rfl) rfl rfl (Nat.zero_add _) ?_
    refine am_gm (fun h6 => ?_)
    refine am_aload_n g dX9_draw_51 rfl ?_
    refine am_getr (q := 3) (a := 4) g clX9 dX9_draw_52 (Nat.le_of_ble_eq_true rfl) rfl (by decide) rfl (Nat.le_of_ble_eq_true rfl) lf_X9_19 ?_
    refine am_iload_n g dX9_draw_55 rfl ?_
    refine am_iconst g dX9_draw_56 (am_il rfl) rfl ?_
    refine am_iastore (ix := Int.toNat l1) (nI := 4) g dX9_draw_57 (Nat.le_of_ble_eq_true rfl) rfl rfl (Nat.zero_add _) ?_
    refine am_gm (fun h7 => ?_)
    refine am_aload_n g dX9_draw_58 rfl ?_
    refine am_getr (q := 5) (a := 6) g clX9 dX9_draw_59 (Nat.le_of_ble_eq_true rfl) rfl (by decide) rfl (Nat.le_of_ble_eq_true rfl) lf_X9_25 ?_
    refine am_iload_n g dX9_draw_62 rfl ?_
    refine am_iconst g dX9_draw_63 (am_il rfl) rfl ?_
    refine am_iastore (ix := Int.toNat l1) (nI := 4) g dX9_draw_64 (Nat.le_of_ble_eq_true rfl) rfl rfl (Nat.zero_add _) ?_
    refine am_gm (fun h8 => ?_)
    refine am_aload_n g dX9_draw_65 rfl ?_
    refine am_getr (q := 6) (a := 7) g clX9 dX9_draw_66 (Nat.le_of_ble_eq_true rfl) rfl (by decide) rfl (Nat.le_of_ble_eq_true rfl) lf_X9_28 ?_
    refine am_iload_n g dX9_draw_69 rfl ?_
    refine am_iconst g dX9_draw_70 (am_il rfl) rfl ?_
    refine am_zastoreB (ix := Int.toNat l1) (nI := 4) g dX9_draw_71 (Nat.le_of_ble_eq_true rfl) rfl rfl (Nat.zero_add _) (by decide) ?_
    refine am_gm (fun h9 => ?_)
    refine am_iconst g dX9_draw_72 (am_il rfl) rfl ?_
    refine am_istore g dX9_draw_73 (by decide) ?_
    refine am_drop 2 ?_
    refine am_drop 3 ?_
    exact (jX9_draw_75 g) l1 0 h9
  · refine am_iconst g dX9_draw_35 (am_il rfl) rfl ?_
    exact am_ireturn g dX9_draw_36
def fX9_draw (a1 : Int) (a2 : Int) (a3 : Int) (h : am_M) : Option (Int × am_M) := am_b (fX9_in a1 0 3 h) (fun v1 h2 => if v1 = 0 then some ((-1), h2) else if a2 = 4 then fX9_draw_26 a1 a2 a3 h2 else if a2 = 8 then fX9_draw_26 a1 a2 a3 h2 else if a2 = 16 then fX9_draw_26 a1 a2 a3 h2 else some ((-1), h2))
set_option maxRecDepth 10000 in
theorem cX9_drawC {D : va_G} {a : Nat → ClassId} {ad : Nat → Nat} (a1 : Int) (a2 : Int) (a3 : Int) (h : am_M) : am_C (EM D a ad) yX9_draw cX9_draw 5 (some .int) 2 [.inr (some 0), .inl a1, .inl a2, .inl a3] h am_ei (fX9_draw a1 a2 a3 h) := by
  refine am_ofJ (L := [some (.inr (some 0)), some (.inl a1), some (.inl a2), some (.inl a3), none]) (by decide) rfl (Nat.le_of_ble_eq_true rfl) (fun G g => ?_)
  have g : am_Gd (EM D a ad) RX9 cX9_draw 5 (some .int) 2 G := g
  unfold fX9_draw
  refine am_iload_n g dX9_draw_0 rfl ?_
  refine am_iconst g dX9_draw_1 (am_il rfl) rfl ?_
  refine am_iconst g dX9_draw_2 (am_il rfl) rfl ?_
  refine am_Si (as := [.inl a1, .inl 0, .inl 3]) (S := []) g (cX9_inC a1 0 3 h) mi_X9_in lm_X9_111 dX9_draw_3 rfl (by decide) (Nat.le_of_ble_eq_true rfl) rfl (fun v1 h2 => ?_)
  refine am_if_eq (tgt := 35) g dX9_draw_6 (by decide) ?_ ?_
  · refine am_iconst g dX9_draw_35 (am_il rfl) rfl ?_
    exact am_ireturn g dX9_draw_36
  · refine am_iload_n g dX9_draw_9 rfl ?_
    refine am_iconst g dX9_draw_10 (am_il rfl) rfl ?_
    refine am_icmp_eq (tgt := 26) g dX9_draw_11 (by decide) ?_ ?_
    · exact (jX9_draw_26 g) a1 a2 a3 h2
    · refine am_iload_n g dX9_draw_14 rfl ?_
      refine am_bipush g dX9_draw_15 (am_il rfl) (am_bi rfl) ?_
      refine am_icmp_eq (tgt := 26) g dX9_draw_17 (by decide) ?_ ?_
      · exact (jX9_draw_26 g) a1 a2 a3 h2
      · refine am_iload_n g dX9_draw_20 rfl ?_
        refine am_bipush g dX9_draw_21 (am_il rfl) (am_bi rfl) ?_
        refine am_icmp_ne (tgt := 35) g dX9_draw_23 (by decide) ?_ ?_
        · refine am_iconst g dX9_draw_35 (am_il rfl) rfl ?_
          exact am_ireturn g dX9_draw_36
        · exact (jX9_draw_26 g) a1 a2 a3 h2
def fX9_enter (a1 : Int) (a2 : Int) (h : am_M) : Option (Int × am_M) := am_b (fX9_isDraw a1 h) (fun v1 h2 => if v1 = 0 then some ((-1), h2) else am_b (fX9_isPlayer a2 h2) (fun v3 h4 => if v3 = 0 then some ((-1), h4) else if 0 ≤ a1 ∧ a1 < 4 then if (h4 5 (Int.toNat a1)) = 0 then (if 0 ≤ (am_w ((am_w (40 * a1)) + a2)) ∧ (am_w ((am_w (40 * a1)) + a2)) < 160 then if (h4 8 (Int.toNat (am_w ((am_w (40 * a1)) + a2)))) = 0 then (if 0 ≤ a1 ∧ a1 < 4 then if 0 ≤ a1 ∧ a1 < 4 then if (h4 3 (Int.toNat a1)) = (h4 1 (Int.toNat a1)) then some ((-2), h4) else if 0 ≤ (am_w ((am_w (40 * a1)) + a2)) ∧ (am_w ((am_w (40 * a1)) + a2)) < 160 then am_l (am_up h4 8 (Int.toNat (am_w ((am_w (40 * a1)) + a2))) 1) (fun h5 => if 0 ≤ a1 ∧ a1 < 4 then if 0 ≤ (am_w ((am_w (16 * a1)) + (h5 3 (Int.toNat a1)))) ∧ (am_w ((am_w (16 * a1)) + (h5 3 (Int.toNat a1)))) < 64 then am_l (am_up h5 6 (Int.toNat (am_w ((am_w (16 * a1)) + (h5 3 (Int.toNat a1))))) a2) (fun h6 => if 0 ≤ a1 ∧ a1 < 4 then if 0 ≤ a1 ∧ a1 < 4 then am_l (am_up h6 3 (Int.toNat a1) (am_w ((h6 3 (Int.toNat a1)) + 1))) (fun h7 => if 0 ≤ a1 ∧ a1 < 4 then some (h7 3 (Int.toNat a1), h7) else none) else none else none) else none else none) else none else none else none) else some ((-3), h4) else none) else some ((-4), h4) else none))
set_option maxRecDepth 10000 in
theorem cX9_enterC {D : va_G} {a : Nat → ClassId} {ad : Nat → Nat} (a1 : Int) (a2 : Int) (h : am_M) : am_C (EM D a ad) yX9_enter cX9_enter 3 (some .int) 3 [.inr (some 0), .inl a1, .inl a2] h am_ei (fX9_enter a1 a2 h) := by
  refine am_ofJ (L := [some (.inr (some 0)), some (.inl a1), some (.inl a2)]) (by decide) rfl (Nat.le_of_ble_eq_true rfl) (fun G g => ?_)
  have g : am_Gd (EM D a ad) RX9 cX9_enter 3 (some .int) 3 G := g
  unfold fX9_enter
  refine am_aload_n g dX9_enter_0 rfl ?_
  refine am_iload_n g dX9_enter_1 rfl ?_
  refine am_Vi (as := [.inl a1]) (S := []) g (cX9_isDrawC a1 h) mi_X9_isDraw lm_X9_123 clX9.1 (Nat.le_of_ble_eq_true rfl) rfl dX9_enter_2 rfl (by decide) (Nat.le_of_ble_eq_true rfl) rfl (fun v1 h2 => ?_)
  refine am_if_eq (tgt := 15) g dX9_enter_5 (by decide) ?_ ?_
  · refine am_iconst g dX9_enter_15 (am_il rfl) rfl ?_
    exact am_ireturn g dX9_enter_16
  · refine am_iload_n g dX9_enter_8 rfl ?_
    refine am_Si (as := [.inl a2]) (S := []) g (cX9_isPlayerC a2 h2) mi_X9_isPlayer lm_X9_115 dX9_enter_9 rfl (by decide) (Nat.le_of_ble_eq_true rfl) rfl (fun v3 h4 => ?_)
    refine am_if_ne (tgt := 17) g dX9_enter_12 (by decide) ?_ ?_
    · refine am_aload_n g dX9_enter_17 rfl ?_
      refine am_getr (q := 6) (a := 7) g clX9 dX9_enter_18 (Nat.le_of_ble_eq_true rfl) rfl (by decide) rfl (Nat.le_of_ble_eq_true rfl) lf_X9_28 ?_
      refine am_iload_n g dX9_enter_21 rfl ?_
      refine am_zaload (ix := Int.toNat a1) (nI := 4) g dX9_enter_22 (Nat.le_of_ble_eq_true rfl) rfl rfl (Nat.zero_add _) ?_
      refine am_if_eq (tgt := 29) g dX9_enter_23 (by decide) ?_ ?_
      · refine am_aload_n g dX9_enter_29 rfl ?_
        refine am_getr (q := 8) (a := 9) g clX9 dX9_enter_30 (Nat.le_of_ble_eq_true rfl) rfl (by decide) rfl (Nat.le_of_ble_eq_true rfl) lf_X9_35 ?_
        refine am_bipush g dX9_enter_33 (am_il rfl) (am_bi rfl) ?_
        refine am_iload_n g dX9_enter_35 rfl ?_
        refine am_imul g dX9_enter_36 ?_
        refine am_iload_n g dX9_enter_37 rfl ?_
        refine am_iadd g dX9_enter_38 ?_
        refine am_zaload (ix := Int.toNat (am_w ((am_w (40 * a1)) + a2))) (nI := 160) g dX9_enter_39 (Nat.le_of_ble_eq_true rfl) rfl rfl (Nat.zero_add _) ?_
        refine am_if_eq (tgt := 46) g dX9_enter_40 (by decide) ?_ ?_
        · refine am_aload_n g dX9_enter_46 rfl ?_
          refine am_getr (q := 3) (a := 4) g clX9 dX9_enter_47 (Nat.le_of_ble_eq_true rfl) rfl (by decide) rfl (Nat.le_of_ble_eq_true rfl) lf_X9_19 ?_
          refine am_iload_n g dX9_enter_50 rfl ?_
          refine am_iaload (ix := Int.toNat a1) (nI := 4) g dX9_enter_51 (Nat.le_of_ble_eq_true rfl) rfl rfl (Nat.zero_add _) ?_
          refine am_aload_n g dX9_enter_52 rfl ?_
          refine am_getr (q := 1) (a := 2) g clX9 dX9_enter_53 (Nat.le_of_ble_eq_true rfl) rfl (by decide) rfl (Nat.le_of_ble_eq_true rfl) lf_X9_13 ?_
          refine am_iload_n g dX9_enter_56 rfl ?_
          refine am_iaload (ix := Int.toNat a1) (nI := 4) g dX9_enter_57 (Nat.le_of_ble_eq_true rfl) rfl rfl (Nat.zero_add _) ?_
          refine am_icmp_ne (tgt := 64) g dX9_enter_58 (by decide) ?_ ?_
          · refine am_aload_n g dX9_enter_64 rfl ?_
            refine am_getr (q := 8) (a := 9) g clX9 dX9_enter_65 (Nat.le_of_ble_eq_true rfl) rfl (by decide) rfl (Nat.le_of_ble_eq_true rfl) lf_X9_35 ?_
            refine am_bipush g dX9_enter_68 (am_il rfl) (am_bi rfl) ?_
            refine am_iload_n g dX9_enter_70 rfl ?_
            refine am_imul g dX9_enter_71 ?_
            refine am_iload_n g dX9_enter_72 rfl ?_
            refine am_iadd g dX9_enter_73 ?_
            refine am_iconst g dX9_enter_74 (am_il rfl) rfl ?_
            refine am_zastoreB (ix := Int.toNat (am_w ((am_w (40 * a1)) + a2))) (nI := 160) g dX9_enter_75 (Nat.le_of_ble_eq_true rfl) rfl rfl (Nat.zero_add _) (by decide) ?_
            refine am_gm (fun h5 => ?_)
            refine am_aload_n g dX9_enter_76 rfl ?_
            refine am_getr (q := 4) (a := 5) g clX9 dX9_enter_77 (Nat.le_of_ble_eq_true rfl) rfl (by decide) rfl (Nat.le_of_ble_eq_true rfl) lf_X9_22 ?_
            refine am_bipush g dX9_enter_80 (am_il rfl) (am_bi rfl) ?_
            refine am_iload_n g dX9_enter_82 rfl ?_
            refine am_imul g dX9_enter_83 ?_
            refine am_aload_n g dX9_enter_84 rfl ?_
            refine am_getr (q := 3) (a := 4) g clX9 dX9_enter_85 (Nat.le_of_ble_eq_true rfl) rfl (by decide) rfl (Nat.le_of_ble_eq_true rfl) lf_X9_19 ?_
            refine am_iload_n g dX9_enter_88 rfl ?_
            refine am_iaload (ix := Int.toNat a1) (nI := 4) g dX9_enter_89 (Nat.le_of_ble_eq_true rfl) rfl rfl (Nat.zero_add _) ?_
            refine am_iadd g dX9_enter_90 ?_
            refine am_iload_n g dX9_enter_91 rfl ?_
            refine am_iastore (ix := Int.toNat (am_w ((am_w (16 * a1)) + (h5 3 (Int.toNat a1))))) (nI := 64) g dX9_enter_92 (Nat.le_of_ble_eq_true rfl) rfl rfl (Nat.zero_add _) ?_
            refine am_gm (fun h6 => ?_)
            refine am_aload_n g dX9_enter_93 rfl ?_
            refine am_getr (q := 3) (a := 4) g clX9 dX9_enter_94 (Nat.le_of_ble_eq_true rfl) rfl (by decide) rfl (Nat.le_of_ble_eq_true rfl) lf_X9_19 ?_
            refine am_iload_n g dX9_enter_97 rfl ?_
            refine am_dup2 g dX9_enter_98 ?_
            refine am_iaload (ix := Int.toNat a1) (nI := 4) g dX9_enter_99 (Nat.le_of_ble_eq_true rfl) rfl rfl (Nat.zero_add _) ?_
            refine am_iconst g dX9_enter_100 (am_il rfl) rfl ?_
            refine am_iadd g dX9_enter_101 ?_
            refine am_iastore (ix := Int.toNat a1) (nI := 4) g dX9_enter_102 (Nat.le_of_ble_eq_true rfl) rfl rfl (Nat.zero_add _) ?_
            refine am_gm (fun h7 => ?_)
            refine am_aload_n g dX9_enter_103 rfl ?_
            refine am_getr (q := 3) (a := 4) g clX9 dX9_enter_104 (Nat.le_of_ble_eq_true rfl) rfl (by decide) rfl (Nat.le_of_ble_eq_true rfl) lf_X9_19 ?_
            refine am_iload_n g dX9_enter_107 rfl ?_
            refine am_iaload (ix := Int.toNat a1) (nI := 4) g dX9_enter_108 (Nat.le_of_ble_eq_true rfl) rfl rfl (Nat.zero_add _) ?_
            exact am_ireturn g dX9_enter_109
          · refine am_bipush g dX9_enter_61 (am_il rfl) (am_bi rfl) ?_
            exact am_ireturn g dX9_enter_63
        · refine am_bipush g dX9_enter_43 (am_il rfl) (am_bi rfl) ?_
          exact am_ireturn g dX9_enter_45
      · refine am_bipush g dX9_enter_26 (am_il rfl) (am_bi rfl) ?_
        exact am_ireturn g dX9_enter_28
    · refine am_iconst g dX9_enter_15 (am_il rfl) rfl ?_
      exact am_ireturn g dX9_enter_16
def fX9_seeds (a1 : Int) (a2 : Int) (h : am_M) : Option (Int × am_M) := am_b (fX9_isDraw a1 h) (fun v1 h2 => if v1 = 0 then some ((-1), h2) else am_b (fX9_in a2 0 4 h2) (fun v3 h4 => if v3 = 0 then some ((-1), h4) else if 0 ≤ a1 ∧ a1 < 4 then if (h4 5 (Int.toNat a1)) = 0 then (if 0 ≤ a1 ∧ a1 < 4 then am_l (am_up h4 4 (Int.toNat a1) a2) (fun h5 => some (1, h5)) else none) else some ((-4), h4) else none))
set_option maxRecDepth 10000 in
theorem cX9_seedsC {D : va_G} {a : Nat → ClassId} {ad : Nat → Nat} (a1 : Int) (a2 : Int) (h : am_M) : am_C (EM D a ad) yX9_seeds cX9_seeds 3 (some .int) 3 [.inr (some 0), .inl a1, .inl a2] h am_ei (fX9_seeds a1 a2 h) := by
  refine am_ofJ (L := [some (.inr (some 0)), some (.inl a1), some (.inl a2)]) (by decide) rfl (Nat.le_of_ble_eq_true rfl) (fun G g => ?_)
  have g : am_Gd (EM D a ad) RX9 cX9_seeds 3 (some .int) 3 G := g
  unfold fX9_seeds
  refine am_aload_n g dX9_seeds_0 rfl ?_
  refine am_iload_n g dX9_seeds_1 rfl ?_
  refine am_Vi (as := [.inl a1]) (S := []) g (cX9_isDrawC a1 h) mi_X9_isDraw lm_X9_123 clX9.1 (Nat.le_of_ble_eq_true rfl) rfl dX9_seeds_2 rfl (by decide) (Nat.le_of_ble_eq_true rfl) rfl (fun v1 h2 => ?_)
  refine am_if_eq (tgt := 17) g dX9_seeds_5 (by decide) ?_ ?_
  · refine am_iconst g dX9_seeds_17 (am_il rfl) rfl ?_
    exact am_ireturn g dX9_seeds_18
  · refine am_iload_n g dX9_seeds_8 rfl ?_
    refine am_iconst g dX9_seeds_9 (am_il rfl) rfl ?_
    refine am_iconst g dX9_seeds_10 (am_il rfl) rfl ?_
    refine am_Si (as := [.inl a2, .inl 0, .inl 4]) (S := []) g (cX9_inC a2 0 4 h2) mi_X9_in lm_X9_111 dX9_seeds_11 rfl (by decide) (Nat.le_of_ble_eq_true rfl) rfl (fun v3 h4 => ?_)
    refine am_if_ne (tgt := 19) g dX9_seeds_14 (by decide) ?_ ?_
    · refine am_aload_n g dX9_seeds_19 rfl ?_
      refine am_getr (q := 6) (a := 7) g clX9 dX9_seeds_20 (Nat.le_of_ble_eq_true rfl) rfl (by decide) rfl (Nat.le_of_ble_eq_true rfl) lf_X9_28 ?_
      refine am_iload_n g dX9_seeds_23 rfl ?_
      refine am_zaload (ix := Int.toNat a1) (nI := 4) g dX9_seeds_24 (Nat.le_of_ble_eq_true rfl) rfl rfl (Nat.zero_add _) ?_
      refine am_if_eq (tgt := 31) g dX9_seeds_25 (by decide) ?_ ?_
      · refine am_aload_n g dX9_seeds_31 rfl ?_
        refine am_getr (q := 5) (a := 6) g clX9 dX9_seeds_32 (Nat.le_of_ble_eq_true rfl) rfl (by decide) rfl (Nat.le_of_ble_eq_true rfl) lf_X9_25 ?_
        refine am_iload_n g dX9_seeds_35 rfl ?_
        refine am_iload_n g dX9_seeds_36 rfl ?_
        refine am_iastore (ix := Int.toNat a1) (nI := 4) g dX9_seeds_37 (Nat.le_of_ble_eq_true rfl) rfl rfl (Nat.zero_add _) ?_
        refine am_gm (fun h5 => ?_)
        refine am_iconst g dX9_seeds_38 (am_il rfl) rfl ?_
        exact am_ireturn g dX9_seeds_39
      · refine am_bipush g dX9_seeds_28 (am_il rfl) (am_bi rfl) ?_
        exact am_ireturn g dX9_seeds_30
    · refine am_iconst g dX9_seeds_17 (am_il rfl) rfl ?_
      exact am_ireturn g dX9_seeds_18
def fX9_number (a1 : Int) (h : am_M) : Option (Int × am_M) := am_l (am_up h 33 0 (am_w ((am_w (1103515245 * (h 33 0))) + 12345))) (fun h1 => if a1 ≠ 0 then some (Int.tmod (am_ushr (h1 33 0) 16) a1, h1) else none)
set_option maxRecDepth 10000 in
theorem cX9_numberC {D : va_G} {a : Nat → ClassId} {ad : Nat → Nat} (a1 : Int) (h : am_M) : am_C (EM D a ad) yX9_number cX9_number 2 (some .int) 1 [.inr (some 0), .inl a1] h am_ei (fX9_number a1 h) := by
  refine am_ofJ (L := [some (.inr (some 0)), some (.inl a1)]) (by decide) rfl (Nat.le_of_ble_eq_true rfl) (fun G g => ?_)
  have g : am_Gd (EM D a ad) RX9 cX9_number 2 (some .int) 1 G := g
  unfold fX9_number
  refine am_aload_n g dX9_number_0 rfl ?_
  refine am_ldc (n := 1103515245) g dX9_number_1 (am_il rfl) lc_X9_126 rfl ?_
  refine am_aload_n g dX9_number_3 rfl ?_
  refine am_geti (q := 23) (kd := 33) (ix := 0) g clX9 dX9_number_4 (Nat.le_of_ble_eq_true rfl) rfl (by decide) rfl lf_X9_127 ?_
  refine am_imul g dX9_number_7 ?_
  refine am_sipush g dX9_number_8 (am_il rfl) (am_si rfl) ?_
  refine am_iadd g dX9_number_11 ?_
  refine am_puti (q := 23) (kd := 33) (ix := 0) g clX9 dX9_number_12 (Nat.le_of_ble_eq_true rfl) rfl (by decide) rfl lf_X9_127 rfl rfl ?_
  refine am_gm (fun h1 => ?_)
  refine am_aload_n g dX9_number_15 rfl ?_
  refine am_geti (q := 23) (kd := 33) (ix := 0) g clX9 dX9_number_16 (Nat.le_of_ble_eq_true rfl) rfl (by decide) rfl lf_X9_127 ?_
  refine am_bipush g dX9_number_19 (am_il rfl) (am_bi rfl) ?_
  refine am_iushr g dX9_number_21 ?_
  refine am_iload_n g dX9_number_22 rfl ?_
  refine am_iremG g dX9_number_23 ?_
  exact am_ireturn g dX9_number_24
def fX9_at (a1 : Int) (a2 : Int) (h : am_M) : Option (Int × am_M) := if 0 ≤ (am_w ((am_w (16 * a1)) + a2)) ∧ (am_w ((am_w (16 * a1)) + a2)) < 64 then some (h 7 (Int.toNat (am_w ((am_w (16 * a1)) + a2))), h) else none
set_option maxRecDepth 10000 in
theorem cX9_atC {D : va_G} {a : Nat → ClassId} {ad : Nat → Nat} (a1 : Int) (a2 : Int) (h : am_M) : am_C (EM D a ad) yX9_at cX9_at 3 (some .int) 1 [.inr (some 0), .inl a1, .inl a2] h am_ei (fX9_at a1 a2 h) := by
  refine am_ofJ (L := [some (.inr (some 0)), some (.inl a1), some (.inl a2)]) (by decide) rfl (Nat.le_of_ble_eq_true rfl) (fun G g => ?_)
  have g : am_Gd (EM D a ad) RX9 cX9_at 3 (some .int) 1 G := g
  unfold fX9_at
  refine am_aload_n g dX9_at_0 rfl ?_
  refine am_getr (q := 7) (a := 8) g clX9 dX9_at_1 (Nat.le_of_ble_eq_true rfl) rfl (by decide) rfl (Nat.le_of_ble_eq_true rfl) lf_X9_32 ?_
  refine am_bipush g dX9_at_4 (am_il rfl) (am_bi rfl) ?_
  refine am_iload_n g dX9_at_6 rfl ?_
  refine am_imul g dX9_at_7 ?_
  refine am_iload_n g dX9_at_8 rfl ?_
  refine am_iadd g dX9_at_9 ?_
  refine am_iaload (ix := Int.toNat (am_w ((am_w (16 * a1)) + a2))) (nI := 64) g dX9_at_10 (Nat.le_of_ble_eq_true rfl) rfl rfl (Nat.zero_add _) ?_
  exact am_ireturn g dX9_at_11
def fX9_put (a1 : Int) (a2 : Int) (a3 : Int) (h : am_M) : Option (Unit × am_M) := if 0 ≤ (am_w ((am_w (16 * a1)) + a2)) ∧ (am_w ((am_w (16 * a1)) + a2)) < 64 then am_l (am_up h 7 (Int.toNat (am_w ((am_w (16 * a1)) + a2))) a3) (fun h1 => some ((), h1)) else none
set_option maxRecDepth 10000 in
theorem cX9_putC {D : va_G} {a : Nat → ClassId} {ad : Nat → Nat} (a1 : Int) (a2 : Int) (a3 : Int) (h : am_M) : am_C (EM D a ad) yX9_put cX9_put 4 none 1 [.inr (some 0), .inl a1, .inl a2, .inl a3] h am_ev (fX9_put a1 a2 a3 h) := by
  refine am_ofJ (L := [some (.inr (some 0)), some (.inl a1), some (.inl a2), some (.inl a3)]) (by decide) rfl (Nat.le_of_ble_eq_true rfl) (fun G g => ?_)
  have g : am_Gd (EM D a ad) RX9 cX9_put 4 none 1 G := g
  unfold fX9_put
  refine am_aload_n g dX9_put_0 rfl ?_
  refine am_getr (q := 7) (a := 8) g clX9 dX9_put_1 (Nat.le_of_ble_eq_true rfl) rfl (by decide) rfl (Nat.le_of_ble_eq_true rfl) lf_X9_32 ?_
  refine am_bipush g dX9_put_4 (am_il rfl) (am_bi rfl) ?_
  refine am_iload_n g dX9_put_6 rfl ?_
  refine am_imul g dX9_put_7 ?_
  refine am_iload_n g dX9_put_8 rfl ?_
  refine am_iadd g dX9_put_9 ?_
  refine am_iload_n g dX9_put_10 rfl ?_
  refine am_iastore (ix := Int.toNat (am_w ((am_w (16 * a1)) + a2))) (nI := 64) g dX9_put_11 (Nat.le_of_ble_eq_true rfl) rfl rfl (Nat.zero_add _) ?_
  refine am_gm (fun h1 => ?_)
  exact am_vreturn g dX9_put_12
def fX9_isSeed_36 (K41 : Int → Int → Int → Int → am_M → Option (Int × am_M)) (l1 : Int) (l2 : Int) (l4 : Int) (h : am_M) : Option (Int × am_M) := K41 l1 l2 l4 1 h
set_option maxRecDepth 10000 in
theorem jX9_isSeed_36 {D : va_G} {a : Nat → ClassId} {ad : Nat → Nat} {G : am_G} (g : am_Gd (EM D a ad) RX9 cX9_isSeed 5 (some .boolean) 1 G) {K41 : Int → Int → Int → Int → am_M → Option (Int × am_M)} (hK41 : ∀ (l1 : Int), ∀ (l2 : Int), ∀ (l4 : Int), ∀ (s0 : Int), ∀ h : am_M, am_J (EM D a ad) G 5 am_ei 41 [some (.inr (some 0)), some (.inl l1), some (.inl l2), none, some (.inl l4)] [.inl s0] h (K41 l1 l2 l4 s0 h)) : ∀ (l1 : Int), ∀ (l2 : Int), ∀ (l4 : Int), ∀ h : am_M, am_J (EM D a ad) G 5 am_ei 36 [some (.inr (some 0)), some (.inl l1), some (.inl l2), none, some (.inl l4)] [] h (fX9_isSeed_36 K41 l1 l2 l4 h) := by
  intro l1 l2 l4 h
  unfold fX9_isSeed_36
  refine am_iconst g dX9_isSeed_36 (am_il rfl) rfl ?_
  refine am_goto (tgt := 41) g dX9_isSeed_37 (by decide) ?_
  exact hK41 l1 l2 l4 1 h
def fX9_isSeed_41 (K5 : Int → Int → Int → Int → am_M → Option (Int × am_M)) (l1 : Int) (l2 : Int) (l4 : Int) (s0 : Int) (h : am_M) : Option (Int × am_M) := K5 l1 l2 s0 (am_w (l4 + 1)) h
set_option maxRecDepth 10000 in
theorem jX9_isSeed_41 {D : va_G} {a : Nat → ClassId} {ad : Nat → Nat} {G : am_G} (g : am_Gd (EM D a ad) RX9 cX9_isSeed 5 (some .boolean) 1 G) {K5 : Int → Int → Int → Int → am_M → Option (Int × am_M)} (hK5 : ∀ (l1 : Int), ∀ (l2 : Int), ∀ (l3 : Int), ∀ (l4 : Int), ∀ h : am_M, am_J (EM D a ad) G 5 am_ei 5 [some (.inr (some 0)), some (.inl l1), some (.inl l2), some (.inl l3), some (.inl l4)] [] h (K5 l1 l2 l3 l4 h)) : ∀ (l1 : Int), ∀ (l2 : Int), ∀ (l4 : Int), ∀ (s0 : Int), ∀ h : am_M, am_J (EM D a ad) G 5 am_ei 41 [some (.inr (some 0)), some (.inl l1), some (.inl l2), none, some (.inl l4)] [.inl s0] h (fX9_isSeed_41 K5 l1 l2 l4 s0 h) := by
  intro l1 l2 l4 s0 h
  unfold fX9_isSeed_41
  refine am_istore_n g dX9_isSeed_41 (by decide) ?_
  refine am_iinc g dX9_isSeed_42 (by decide) rfl ?_
  refine am_goto (tgt := 5) g dX9_isSeed_45 (by decide) ?_
  exact hK5 l1 l2 s0 (am_w (l4 + 1)) h
def fX9_isSeed_5b (K5 : Int → Int → Int → Int → am_M → Option (Int × am_M)) (l1 : Int) (l2 : Int) (l3 : Int) (l4 : Int) (h : am_M) : Option (Int × am_M) := if 0 ≤ l1 ∧ l1 < 4 then if l4 < (h 4 (Int.toNat l1)) then (if l3 = 0 then (if 0 ≤ (am_w ((am_w (16 * l1)) + l4)) ∧ (am_w ((am_w (16 * l1)) + l4)) < 64 then if (h 6 (Int.toNat (am_w ((am_w (16 * l1)) + l4)))) = l2 then (fX9_isSeed_36 (fX9_isSeed_41 K5)) l1 l2 l4 h else (fX9_isSeed_41 K5) l1 l2 l4 0 h else none) else (fX9_isSeed_36 (fX9_isSeed_41 K5)) l1 l2 l4 h) else if l3 = 0 ∨ l3 = 1 then some (l3, h) else none else none
def fX9_isSeed_5 : Int → Int → Int → Int → am_M → Option (Int × am_M) := am_it (fun _ _ _ _ _ => none) (fX9_isSeed_5b) 400
set_option maxRecDepth 10000 in
theorem jX9_isSeed_5b {D : va_G} {a : Nat → ClassId} {ad : Nat → Nat} {G : am_G} (g : am_Gd (EM D a ad) RX9 cX9_isSeed 5 (some .boolean) 1 G) {K5 : Int → Int → Int → Int → am_M → Option (Int × am_M)} (hK5 : ∀ (l1 : Int), ∀ (l2 : Int), ∀ (l3 : Int), ∀ (l4 : Int), ∀ h : am_M, am_J (EM D a ad) G 5 am_ei 5 [some (.inr (some 0)), some (.inl l1), some (.inl l2), some (.inl l3), some (.inl l4)] [] h (K5 l1 l2 l3 l4 h)) : ∀ (l1 : Int), ∀ (l2 : Int), ∀ (l3 : Int), ∀ (l4 : Int), ∀ h : am_M, am_J (EM D a ad) G 5 am_ei 5 [some (.inr (some 0)), some (.inl l1), some (.inl l2), some (.inl l3), some (.inl l4)] [] h (fX9_isSeed_5b K5 l1 l2 l3 l4 h) := by
  intro l1 l2 l3 l4 h
  unfold fX9_isSeed_5b
  refine am_iload g dX9_isSeed_5 rfl ?_
  refine am_aload_n g dX9_isSeed_7 rfl ?_
  refine am_getr (q := 5) (a := 6) g clX9 dX9_isSeed_8 (Nat.le_of_ble_eq_true rfl) rfl (by decide) rfl (Nat.le_of_ble_eq_true rfl) lf_X9_25 ?_
  refine am_iload_n g dX9_isSeed_11 rfl ?_
  refine am_iaload (ix := Int.toNat l1) (nI := 4) g dX9_isSeed_12 (Nat.le_of_ble_eq_true rfl) rfl rfl (Nat.zero_add _) ?_
  refine am_icmp_ge (tgt := 48) g dX9_isSeed_13 (by decide) ?_ ?_
  · refine am_iload_n g dX9_isSeed_48 rfl ?_
    exact am_zreturnG g dX9_isSeed_49
  · refine am_iload_n g dX9_isSeed_16 rfl ?_
    refine am_if_ne (tgt := 36) g dX9_isSeed_17 (by decide) ?_ ?_
    · refine am_drop 3 ?_
      exact (jX9_isSeed_36 g (jX9_isSeed_41 g hK5)) l1 l2 l4 h
    · refine am_aload_n g dX9_isSeed_20 rfl ?_
      refine am_getr (q := 4) (a := 5) g clX9 dX9_isSeed_21 (Nat.le_of_ble_eq_true rfl) rfl (by decide) rfl (Nat.le_of_ble_eq_true rfl) lf_X9_22 ?_
      refine am_bipush g dX9_isSeed_24 (am_il rfl) (am_bi rfl) ?_
      refine am_iload_n g dX9_isSeed_26 rfl ?_
      refine am_imul g dX9_isSeed_27 ?_
      refine am_iload g dX9_isSeed_28 rfl ?_
      refine am_iadd g dX9_isSeed_30 ?_
      refine am_iaload (ix := Int.toNat (am_w ((am_w (16 * l1)) + l4))) (nI := 64) g dX9_isSeed_31 (Nat.le_of_ble_eq_true rfl) rfl rfl (Nat.zero_add _) ?_
      refine am_iload_n g dX9_isSeed_32 rfl ?_
      refine am_icmp_ne (tgt := 40) g dX9_isSeed_33 (by decide) ?_ ?_
      · refine am_iconst g dX9_isSeed_40 (am_il rfl) rfl ?_
        refine am_drop 3 ?_
        exact (jX9_isSeed_41 g hK5) l1 l2 l4 0 h
      · refine am_drop 3 ?_
        exact (jX9_isSeed_36 g (jX9_isSeed_41 g hK5)) l1 l2 l4 h
theorem jX9_isSeed_5 {D : va_G} {a : Nat → ClassId} {ad : Nat → Nat} {G : am_G} (g : am_Gd (EM D a ad) RX9 cX9_isSeed 5 (some .boolean) 1 G) : ∀ (l1 : Int), ∀ (l2 : Int), ∀ (l3 : Int), ∀ (l4 : Int), ∀ h : am_M, am_J (EM D a ad) G 5 am_ei 5 [some (.inr (some 0)), some (.inl l1), some (.inl l2), some (.inl l3), some (.inl l4)] [] h (fX9_isSeed_5 l1 l2 l3 l4 h) := by
  unfold fX9_isSeed_5
  generalize 400 = n
  induction n with
  | zero => intro l1 l2 l3 l4 h; exact am_jn
  | succ n ih => exact jX9_isSeed_5b g ih
def fX9_isSeed (a1 : Int) (a2 : Int) (h : am_M) : Option (Int × am_M) := fX9_isSeed_5 a1 a2 0 0 h
set_option maxRecDepth 10000 in
theorem cX9_isSeedC {D : va_G} {a : Nat → ClassId} {ad : Nat → Nat} (a1 : Int) (a2 : Int) (h : am_M) : am_C (EM D a ad) yX9_isSeed cX9_isSeed 5 (some .boolean) 1 [.inr (some 0), .inl a1, .inl a2] h am_ei (fX9_isSeed a1 a2 h) := by
  refine am_ofJ (L := [some (.inr (some 0)), some (.inl a1), some (.inl a2), none, none]) (by decide) rfl (Nat.le_of_ble_eq_true rfl) (fun G g => ?_)
  have g : am_Gd (EM D a ad) RX9 cX9_isSeed 5 (some .boolean) 1 G := g
  unfold fX9_isSeed
  refine am_iconst g dX9_isSeed_0 (am_il rfl) rfl ?_
  refine am_istore_n g dX9_isSeed_1 (by decide) ?_
  refine am_iconst g dX9_isSeed_2 (am_il rfl) rfl ?_
  refine am_istore g dX9_isSeed_3 (by decide) ?_
  exact (jX9_isSeed_5 g) a1 a2 0 0 h
def fX9_mix_55b (K55 : Int → am_M → Option (Unit × am_M)) (l3 : Int) (h : am_M) : Option (Unit × am_M) := if l3 < 1 then some ((), h) else am_b (fX9_number (am_w (l3 + 1)) h) (fun v3 h4 => if 0 ≤ l3 ∧ l3 < 16 then am_l (h4 30 (Int.toNat l3)) (fun x5 => if 0 ≤ v3 ∧ v3 < 16 then if 0 ≤ l3 ∧ l3 < 16 then am_l (am_up h4 30 (Int.toNat l3) (h4 30 (Int.toNat v3))) (fun h6 => if 0 ≤ v3 ∧ v3 < 16 then am_l (am_up h6 30 (Int.toNat v3) x5) (fun h7 => K55 (am_w (l3 + (-1))) h7) else none) else none else none) else none)
def fX9_mix_55 : Int → am_M → Option (Unit × am_M) := am_it (fun _ _ => none) (fX9_mix_55b) 400
set_option maxRecDepth 10000 in
theorem jX9_mix_55b {D : va_G} {a : Nat → ClassId} {ad : Nat → Nat} {G : am_G} (g : am_Gd (EM D a ad) RX9 cX9_mix 6 none 2 G) {K55 : Int → am_M → Option (Unit × am_M)} (hK55 : ∀ (l3 : Int), ∀ h : am_M, am_J (EM D a ad) G 6 am_ev 55 [some (.inr (some 0)), none, none, some (.inl l3), none, none] [] h (K55 l3 h)) : ∀ (l3 : Int), ∀ h : am_M, am_J (EM D a ad) G 6 am_ev 55 [some (.inr (some 0)), none, none, some (.inl l3), none, none] [] h (fX9_mix_55b K55 l3 h) := by
  intro l3 h
  unfold fX9_mix_55b
  refine am_iload_n g dX9_mix_55 rfl ?_
  refine am_iconst g dX9_mix_56 (am_il rfl) rfl ?_
  refine am_icmp_lt (tgt := 105) g dX9_mix_57 (by decide) ?_ ?_
  · exact am_vreturn g dX9_mix_105
  · refine am_aload_n g dX9_mix_60 rfl ?_
    refine am_iload_n g dX9_mix_61 rfl ?_
    refine am_iconst g dX9_mix_62 (am_il rfl) rfl ?_
    refine am_iadd g dX9_mix_63 ?_
    refine am_Vi (as := [.inl (am_w (l3 + 1))]) (S := []) g (cX9_numberC (am_w (l3 + 1)) h) mi_X9_number lm_X9_135 clX9.1 (Nat.le_of_ble_eq_true rfl) rfl dX9_mix_64 rfl (by decide) (Nat.le_of_ble_eq_true rfl) rfl (fun v3 h4 => ?_)
    refine am_istore g dX9_mix_67 (by decide) ?_
    refine am_aload_n g dX9_mix_69 rfl ?_
    refine am_getr (q := 24) (a := 23) g clX9 dX9_mix_70 (Nat.le_of_ble_eq_true rfl) rfl (by decide) rfl (Nat.le_of_ble_eq_true rfl) lf_X9_78 ?_
    refine am_iload_n g dX9_mix_73 rfl ?_
    refine am_iaload (ix := Int.toNat l3) (nI := 16) g dX9_mix_74 (Nat.le_of_ble_eq_true rfl) rfl rfl (Nat.zero_add _) ?_
    refine am_gv (fun x5 => ?_)
    refine am_istore g dX9_mix_75 (by decide) ?_
    refine am_aload_n g dX9_mix_77 rfl ?_
    refine am_getr (q := 24) (a := 23) g clX9 dX9_mix_78 (Nat.le_of_ble_eq_true rfl) rfl (by decide) rfl (Nat.le_of_ble_eq_true rfl) lf_X9_78 ?_
    refine am_iload_n g dX9_mix_81 rfl ?_
    refine am_aload_n g dX9_mix_82 rfl ?_
    refine am_getr (q := 24) (a := 23) g clX9 dX9_mix_83 (Nat.le_of_ble_eq_true rfl) rfl (by decide) rfl (Nat.le_of_ble_eq_true rfl) lf_X9_78 ?_
    refine am_iload g dX9_mix_86 rfl ?_
    refine am_iaload (ix := Int.toNat v3) (nI := 16) g dX9_mix_88 (Nat.le_of_ble_eq_true rfl) rfl rfl (Nat.zero_add _) ?_
    refine am_iastore (ix := Int.toNat l3) (nI := 16) g dX9_mix_89 (Nat.le_of_ble_eq_true rfl) rfl rfl (Nat.zero_add _) ?_
    refine am_gm (fun h6 => ?_)
    refine am_aload_n g dX9_mix_90 rfl ?_
    refine am_getr (q := 24) (a := 23) g clX9 dX9_mix_91 (Nat.le_of_ble_eq_true rfl) rfl (by decide) rfl (Nat.le_of_ble_eq_true rfl) lf_X9_78 ?_
    refine am_iload g dX9_mix_94 rfl ?_
    refine am_iload g dX9_mix_96 rfl ?_
    refine am_iastore (ix := Int.toNat v3) (nI := 16) g dX9_mix_98 (Nat.le_of_ble_eq_true rfl) rfl rfl (Nat.zero_add _) ?_
    refine am_gm (fun h7 => ?_)
    refine am_iinc g dX9_mix_99 (by decide) rfl ?_
    refine am_goto (tgt := 55) g dX9_mix_102 (by decide) ?_
    refine am_drop 4 ?_
    refine am_drop 5 ?_
    exact hK55 (am_w (l3 + (-1))) h7
theorem jX9_mix_55 {D : va_G} {a : Nat → ClassId} {ad : Nat → Nat} {G : am_G} (g : am_Gd (EM D a ad) RX9 cX9_mix 6 none 2 G) : ∀ (l3 : Int), ∀ h : am_M, am_J (EM D a ad) G 6 am_ev 55 [some (.inr (some 0)), none, none, some (.inl l3), none, none] [] h (fX9_mix_55 l3 h) := by
  unfold fX9_mix_55
  generalize 400 = n
  induction n with
  | zero => intro l3 h; exact am_jn
  | succ n ih => exact jX9_mix_55b g ih
def fX9_mix_51 (l2 : Int) (h : am_M) : Option (Unit × am_M) := am_l (am_w (l2 - 1)) (fun x2 => fX9_mix_55 x2 h)
set_option maxRecDepth 10000 in
theorem jX9_mix_51 {D : va_G} {a : Nat → ClassId} {ad : Nat → Nat} {G : am_G} (g : am_Gd (EM D a ad) RX9 cX9_mix 6 none 2 G) : ∀ (l2 : Int), ∀ h : am_M, am_J (EM D a ad) G 6 am_ev 51 [some (.inr (some 0)), none, some (.inl l2), none, none, none] [] h (fX9_mix_51 l2 h) := by
  intro l2 h
  unfold fX9_mix_51
  refine am_iload_n g dX9_mix_51 rfl ?_
  refine am_iconst g dX9_mix_52 (am_il rfl) rfl ?_
  refine am_isub g dX9_mix_53 ?_
  refine am_gv (fun x2 => ?_)
  refine am_istore_n g dX9_mix_54 (by decide) ?_
  refine am_drop 2 ?_
  exact (jX9_mix_55 g) x2 h
def fX9_mix_16b (K16 : Int → Int → Int → am_M → Option (Unit × am_M)) (l1 : Int) (l2 : Int) (l3 : Int) (h : am_M) : Option (Unit × am_M) := if l3 < l2 then (if 0 ≤ l1 ∧ l1 < 4 then if 0 ≤ (am_w ((am_w ((am_w (16 * l1)) + (h 4 (Int.toNat l1)))) + l3)) ∧ (am_w ((am_w ((am_w (16 * l1)) + (h 4 (Int.toNat l1)))) + l3)) < 64 then if 0 ≤ l3 ∧ l3 < 16 then am_l (am_up h 30 (Int.toNat l3) (h 6 (Int.toNat (am_w ((am_w ((am_w (16 * l1)) + (h 4 (Int.toNat l1)))) + l3))))) (fun h8 => K16 l1 l2 (am_w (l3 + 1)) h8) else none else none else none) else fX9_mix_51 l2 h
def fX9_mix_16 : Int → Int → Int → am_M → Option (Unit × am_M) := am_it (fun _ _ _ _ => none) (fX9_mix_16b) 400
set_option maxRecDepth 10000 in
theorem jX9_mix_16b {D : va_G} {a : Nat → ClassId} {ad : Nat → Nat} {G : am_G} (g : am_Gd (EM D a ad) RX9 cX9_mix 6 none 2 G) {K16 : Int → Int → Int → am_M → Option (Unit × am_M)} (hK16 : ∀ (l1 : Int), ∀ (l2 : Int), ∀ (l3 : Int), ∀ h : am_M, am_J (EM D a ad) G 6 am_ev 16 [some (.inr (some 0)), some (.inl l1), some (.inl l2), some (.inl l3), none, none] [] h (K16 l1 l2 l3 h)) : ∀ (l1 : Int), ∀ (l2 : Int), ∀ (l3 : Int), ∀ h : am_M, am_J (EM D a ad) G 6 am_ev 16 [some (.inr (some 0)), some (.inl l1), some (.inl l2), some (.inl l3), none, none] [] h (fX9_mix_16b K16 l1 l2 l3 h) := by
  intro l1 l2 l3 h
  unfold fX9_mix_16b
  refine am_iload_n g dX9_mix_16 rfl ?_
  refine am_iload_n g dX9_mix_17 rfl ?_
  refine am_icmp_ge (tgt := 51) g dX9_mix_18 (by decide) ?_ ?_
  · refine am_drop 1 ?_
    refine am_drop 3 ?_
    exact (jX9_mix_51 g) l2 h
  · refine am_aload_n g dX9_mix_21 rfl ?_
    refine am_getr (q := 24) (a := 23) g clX9 dX9_mix_22 (Nat.le_of_ble_eq_true rfl) rfl (by decide) rfl (Nat.le_of_ble_eq_true rfl) lf_X9_78 ?_
    refine am_iload_n g dX9_mix_25 rfl ?_
    refine am_aload_n g dX9_mix_26 rfl ?_
    refine am_getr (q := 4) (a := 5) g clX9 dX9_mix_27 (Nat.le_of_ble_eq_true rfl) rfl (by decide) rfl (Nat.le_of_ble_eq_true rfl) lf_X9_22 ?_
    refine am_bipush g dX9_mix_30 (am_il rfl) (am_bi rfl) ?_
    refine am_iload_n g dX9_mix_32 rfl ?_
    refine am_imul g dX9_mix_33 ?_
    refine am_aload_n g dX9_mix_34 rfl ?_
    refine am_getr (q := 5) (a := 6) g clX9 dX9_mix_35 (Nat.le_of_ble_eq_true rfl) rfl (by decide) rfl (Nat.le_of_ble_eq_true rfl) lf_X9_25 ?_
    refine am_iload_n g dX9_mix_38 rfl ?_
    refine am_iaload (ix := Int.toNat l1) (nI := 4) g dX9_mix_39 (Nat.le_of_ble_eq_true rfl) rfl rfl (Nat.zero_add _) ?_
    refine am_iadd g dX9_mix_40 ?_
    refine am_iload_n g dX9_mix_41 rfl ?_
    refine am_iadd g dX9_mix_42 ?_
    refine am_iaload (ix := Int.toNat (am_w ((am_w ((am_w (16 * l1)) + (h 4 (Int.toNat l1)))) + l3))) (nI := 64) g dX9_mix_43 (Nat.le_of_ble_eq_true rfl) rfl rfl (Nat.zero_add _) ?_
    refine am_iastore (ix := Int.toNat l3) (nI := 16) g dX9_mix_44 (Nat.le_of_ble_eq_true rfl) rfl rfl (Nat.zero_add _) ?_
    refine am_gm (fun h8 => ?_)
    refine am_iinc g dX9_mix_45 (by decide) rfl ?_
    refine am_goto (tgt := 16) g dX9_mix_48 (by decide) ?_
    exact hK16 l1 l2 (am_w (l3 + 1)) h8
theorem jX9_mix_16 {D : va_G} {a : Nat → ClassId} {ad : Nat → Nat} {G : am_G} (g : am_Gd (EM D a ad) RX9 cX9_mix 6 none 2 G) : ∀ (l1 : Int), ∀ (l2 : Int), ∀ (l3 : Int), ∀ h : am_M, am_J (EM D a ad) G 6 am_ev 16 [some (.inr (some 0)), some (.inl l1), some (.inl l2), some (.inl l3), none, none] [] h (fX9_mix_16 l1 l2 l3 h) := by
  unfold fX9_mix_16
  generalize 400 = n
  induction n with
  | zero => intro l1 l2 l3 h; exact am_jn
  | succ n ih => exact jX9_mix_16b g ih
def fX9_mix (a1 : Int) (h : am_M) : Option (Unit × am_M) := if 0 ≤ a1 ∧ a1 < 4 then if 0 ≤ a1 ∧ a1 < 4 then am_l (am_w ((h 3 (Int.toNat a1)) - (h 4 (Int.toNat a1)))) (fun x1 => fX9_mix_16 a1 x1 0 h) else none else none
set_option maxRecDepth 10000 in
theorem cX9_mixC {D : va_G} {a : Nat → ClassId} {ad : Nat → Nat} (a1 : Int) (h : am_M) : am_C (EM D a ad) yX9_mix cX9_mix 6 none 2 [.inr (some 0), .inl a1] h am_ev (fX9_mix a1 h) := by
  refine am_ofJ (L := [some (.inr (some 0)), some (.inl a1), none, none, none, none]) (by decide) rfl (Nat.le_of_ble_eq_true rfl) (fun G g => ?_)
  have g : am_Gd (EM D a ad) RX9 cX9_mix 6 none 2 G := g
  unfold fX9_mix
  refine am_aload_n g dX9_mix_0 rfl ?_
  refine am_getr (q := 3) (a := 4) g clX9 dX9_mix_1 (Nat.le_of_ble_eq_true rfl) rfl (by decide) rfl (Nat.le_of_ble_eq_true rfl) lf_X9_19 ?_
  refine am_iload_n g dX9_mix_4 rfl ?_
  refine am_iaload (ix := Int.toNat a1) (nI := 4) g dX9_mix_5 (Nat.le_of_ble_eq_true rfl) rfl rfl (Nat.zero_add _) ?_
  refine am_aload_n g dX9_mix_6 rfl ?_
  refine am_getr (q := 5) (a := 6) g clX9 dX9_mix_7 (Nat.le_of_ble_eq_true rfl) rfl (by decide) rfl (Nat.le_of_ble_eq_true rfl) lf_X9_25 ?_
  refine am_iload_n g dX9_mix_10 rfl ?_
  refine am_iaload (ix := Int.toNat a1) (nI := 4) g dX9_mix_11 (Nat.le_of_ble_eq_true rfl) rfl rfl (Nat.zero_add _) ?_
  refine am_isub g dX9_mix_12 ?_
  refine am_gv (fun x1 => ?_)
  refine am_istore_n g dX9_mix_13 (by decide) ?_
  refine am_iconst g dX9_mix_14 (am_il rfl) rfl ?_
  refine am_istore_n g dX9_mix_15 (by decide) ?_
  exact (jX9_mix_16 g) a1 x1 0 h
def fX9_isOneLand (a1 : Int) (a2 : Int) (h : am_M) : Option (Int × am_M) := if a1 < 0 then some (0, h) else if a2 < 0 then some (0, h) else if 0 ≤ a1 ∧ a1 < 40 then if 0 ≤ a2 ∧ a2 < 40 then if (h 0 (Int.toNat a1)) = (h 0 (Int.toNat a2)) then some (1, h) else some (0, h) else none else none
set_option maxRecDepth 10000 in
theorem cX9_isOneLandC {D : va_G} {a : Nat → ClassId} {ad : Nat → Nat} (a1 : Int) (a2 : Int) (h : am_M) : am_C (EM D a ad) yX9_isOneLand cX9_isOneLand 3 (some .boolean) 1 [.inr (some 0), .inl a1, .inl a2] h am_ei (fX9_isOneLand a1 a2 h) := by
  refine am_ofJ (L := [some (.inr (some 0)), some (.inl a1), some (.inl a2)]) (by decide) rfl (Nat.le_of_ble_eq_true rfl) (fun G g => ?_)
  have g : am_Gd (EM D a ad) RX9 cX9_isOneLand 3 (some .boolean) 1 G := g
  unfold fX9_isOneLand
  refine am_iload_n g dX9_isOneLand_0 rfl ?_
  refine am_if_lt (tgt := 27) g dX9_isOneLand_1 (by decide) ?_ ?_
  · refine am_iconst g dX9_isOneLand_27 (am_il rfl) rfl ?_
    exact am_zreturn g dX9_isOneLand_28 (by decide)
  · refine am_iload_n g dX9_isOneLand_4 rfl ?_
    refine am_if_lt (tgt := 27) g dX9_isOneLand_5 (by decide) ?_ ?_
    · refine am_iconst g dX9_isOneLand_27 (am_il rfl) rfl ?_
      exact am_zreturn g dX9_isOneLand_28 (by decide)
    · refine am_aload_n g dX9_isOneLand_8 rfl ?_
      refine am_getr (q := 0) (a := 1) g clX9 dX9_isOneLand_9 (Nat.le_of_ble_eq_true rfl) rfl (by decide) rfl (Nat.le_of_ble_eq_true rfl) lf_X9_9 ?_
      refine am_iload_n g dX9_isOneLand_12 rfl ?_
      refine am_iaload (ix := Int.toNat a1) (nI := 40) g dX9_isOneLand_13 (Nat.le_of_ble_eq_true rfl) rfl rfl (Nat.zero_add _) ?_
      refine am_aload_n g dX9_isOneLand_14 rfl ?_
      refine am_getr (q := 0) (a := 1) g clX9 dX9_isOneLand_15 (Nat.le_of_ble_eq_true rfl) rfl (by decide) rfl (Nat.le_of_ble_eq_true rfl) lf_X9_9 ?_
      refine am_iload_n g dX9_isOneLand_18 rfl ?_
      refine am_iaload (ix := Int.toNat a2) (nI := 40) g dX9_isOneLand_19 (Nat.le_of_ble_eq_true rfl) rfl rfl (Nat.zero_add _) ?_
      refine am_icmp_ne (tgt := 27) g dX9_isOneLand_20 (by decide) ?_ ?_
      · refine am_iconst g dX9_isOneLand_27 (am_il rfl) rfl ?_
        exact am_zreturn g dX9_isOneLand_28 (by decide)
      · refine am_iconst g dX9_isOneLand_23 (am_il rfl) rfl ?_
        refine am_goto (tgt := 28) g dX9_isOneLand_24 (by decide) ?_
        exact am_zreturn g dX9_isOneLand_28 (by decide)
def fX9_part_187 (K101 : Int → Int → Int → Int → Int → am_M → Option (Unit × am_M)) (l1 : Int) (l5 : Int) (l6 : Int) (l7 : Int) (l8 : Int) (h : am_M) : Option (Unit × am_M) := K101 l1 l5 l6 l7 (am_w (l8 + 1)) h
set_option maxRecDepth 10000 in
theorem jX9_part_187 {D : va_G} {a : Nat → ClassId} {ad : Nat → Nat} {G : am_G} (g : am_Gd (EM D a ad) RX9 cX9_part 10 none 2 G) {K101 : Int → Int → Int → Int → Int → am_M → Option (Unit × am_M)} (hK101 : ∀ (l1 : Int), ∀ (l5 : Int), ∀ (l6 : Int), ∀ (l7 : Int), ∀ (l8 : Int), ∀ h : am_M, am_J (EM D a ad) G 10 am_ev 101 [some (.inr (some 0)), some (.inl l1), none, none, none, some (.inl l5), some (.inl l6), some (.inl l7), some (.inl l8), none] [] h (K101 l1 l5 l6 l7 l8 h)) : ∀ (l1 : Int), ∀ (l5 : Int), ∀ (l6 : Int), ∀ (l7 : Int), ∀ (l8 : Int), ∀ h : am_M, am_J (EM D a ad) G 10 am_ev 187 [some (.inr (some 0)), some (.inl l1), none, none, none, some (.inl l5), some (.inl l6), some (.inl l7), some (.inl l8), none] [] h (fX9_part_187 K101 l1 l5 l6 l7 l8 h) := by
  intro l1 l5 l6 l7 l8 h
  unfold fX9_part_187
  refine am_iinc g dX9_part_187 (by decide) rfl ?_
  refine am_goto (tgt := 101) g dX9_part_190 (by decide) ?_
  exact hK101 l1 l5 l6 l7 (am_w (l8 + 1)) h
def fX9_part_168 (l1 : Int) (l5 : Int) (l6 : Int) (l8 : Int) (l9 : Int) (h : am_M) : Option (Unit × am_M) := am_b (fX9_put l1 l5 l9 h) (fun _ h26 => am_b (fX9_put l1 l8 l6 h26) (fun _ h27 => some ((), h27)))
set_option maxRecDepth 10000 in
theorem jX9_part_168 {D : va_G} {a : Nat → ClassId} {ad : Nat → Nat} {G : am_G} (g : am_Gd (EM D a ad) RX9 cX9_part 10 none 2 G) : ∀ (l1 : Int), ∀ (l5 : Int), ∀ (l6 : Int), ∀ (l8 : Int), ∀ (l9 : Int), ∀ h : am_M, am_J (EM D a ad) G 10 am_ev 168 [some (.inr (some 0)), some (.inl l1), none, none, none, some (.inl l5), some (.inl l6), none, some (.inl l8), some (.inl l9)] [] h (fX9_part_168 l1 l5 l6 l8 l9 h) := by
  intro l1 l5 l6 l8 l9 h
  unfold fX9_part_168
  refine am_aload_n g dX9_part_168 rfl ?_
  refine am_iload_n g dX9_part_169 rfl ?_
  refine am_iload g dX9_part_170 rfl ?_
  refine am_iload g dX9_part_172 rfl ?_
  refine am_Vv (as := [.inl l1, .inl l5, .inl l9]) (S := []) g (cX9_putC l1 l5 l9 h) mi_X9_put lm_X9_131 clX9.1 (Nat.le_of_ble_eq_true rfl) rfl dX9_part_174 rfl (by decide) (Nat.le_of_ble_eq_true rfl) rfl (fun _ h26 => ?_)
  refine am_aload_n g dX9_part_177 rfl ?_
  refine am_iload_n g dX9_part_178 rfl ?_
  refine am_iload g dX9_part_179 rfl ?_
  refine am_iload g dX9_part_181 rfl ?_
  refine am_Vv (as := [.inl l1, .inl l8, .inl l6]) (S := []) g (cX9_putC l1 l8 l6 h26) mi_X9_put lm_X9_131 clX9.1 (Nat.le_of_ble_eq_true rfl) rfl dX9_part_183 rfl (by decide) (Nat.le_of_ble_eq_true rfl) rfl (fun _ h27 => ?_)
  exact am_vreturn g dX9_part_186
def fX9_part_101b (K101 : Int → Int → Int → Int → Int → am_M → Option (Unit × am_M)) (l1 : Int) (l5 : Int) (l6 : Int) (l7 : Int) (l8 : Int) (h : am_M) : Option (Unit × am_M) := if 0 ≤ l1 ∧ l1 < 4 then if l8 < (h 1 (Int.toNat l1)) then (am_b (fX9_at l1 l8 h) (fun v16 h17 => if v16 < 0 then (fX9_part_187 K101) l1 l5 l6 l7 l8 h17 else am_b (fX9_isSeed l1 v16 h17) (fun v18 h19 => if v18 = 0 then (am_b (fX9_isOneLand l7 v16 h19) (fun v20 h21 => if v20 = 0 then (am_b (fX9_at l1 (am_xor l8 1) h21) (fun v22 h23 => am_b (fX9_isOneLand v22 l6 h23) (fun v24 h25 => if v24 = 0 then fX9_part_168 l1 l5 l6 l8 v16 h25 else (fX9_part_187 K101) l1 l5 l6 l7 l8 h25))) else (fX9_part_187 K101) l1 l5 l6 l7 l8 h21)) else (fX9_part_187 K101) l1 l5 l6 l7 l8 h19))) else some ((), h) else none
def fX9_part_101 : Int → Int → Int → Int → Int → am_M → Option (Unit × am_M) := am_it (fun _ _ _ _ _ _ => none) (fX9_part_101b) 400
set_option maxRecDepth 10000 in
theorem jX9_part_101b {D : va_G} {a : Nat → ClassId} {ad : Nat → Nat} {G : am_G} (g : am_Gd (EM D a ad) RX9 cX9_part 10 none 2 G) {K101 : Int → Int → Int → Int → Int → am_M → Option (Unit × am_M)} (hK101 : ∀ (l1 : Int), ∀ (l5 : Int), ∀ (l6 : Int), ∀ (l7 : Int), ∀ (l8 : Int), ∀ h : am_M, am_J (EM D a ad) G 10 am_ev 101 [some (.inr (some 0)), some (.inl l1), none, none, none, some (.inl l5), some (.inl l6), some (.inl l7), some (.inl l8), none] [] h (K101 l1 l5 l6 l7 l8 h)) : ∀ (l1 : Int), ∀ (l5 : Int), ∀ (l6 : Int), ∀ (l7 : Int), ∀ (l8 : Int), ∀ h : am_M, am_J (EM D a ad) G 10 am_ev 101 [some (.inr (some 0)), some (.inl l1), none, none, none, some (.inl l5), some (.inl l6), some (.inl l7), some (.inl l8), none] [] h (fX9_part_101b K101 l1 l5 l6 l7 l8 h) := by
  intro l1 l5 l6 l7 l8 h
  unfold fX9_part_101b
  refine am_iload g dX9_part_101 rfl ?_
  refine am_aload_n g dX9_part_103 rfl ?_
  refine am_getr (q := 1) (a := 2) g clX9 dX9_part_104 (Nat.le_of_ble_eq_true rfl) rfl (by decide) rfl (Nat.le_of_ble_eq_true rfl) lf_X9_13 ?_
  refine am_iload_n g dX9_part_107 rfl ?_
  refine am_iaload (ix := Int.toNat l1) (nI := 4) g dX9_part_108 (Nat.le_of_ble_eq_true rfl) rfl rfl (Nat.zero_add _) ?_
  refine am_icmp_ge (tgt := 193) g dX9_part_109 (by decide) ?_ ?_
  · exact am_vreturn g dX9_part_193
  · refine am_aload_n g dX9_part_112 rfl ?_
    refine am_iload_n g dX9_part_113 rfl ?_
    refine am_iload g dX9_part_114 rfl ?_
    refine am_Vi (as := [.inl l1, .inl l8]) (S := []) g (cX9_atC l1 l8 h) mi_X9_at lm_X9_143 clX9.1 (Nat.le_of_ble_eq_true rfl) rfl dX9_part_116 rfl (by decide) (Nat.le_of_ble_eq_true rfl) rfl (fun v16 h17 => ?_)
    refine am_istore g dX9_part_119 (by decide) ?_
    refine am_iload g dX9_part_121 rfl ?_
    refine am_if_lt (tgt := 187) g dX9_part_123 (by decide) ?_ ?_
    · refine am_drop 9 ?_
      exact (jX9_part_187 g hK101) l1 l5 l6 l7 l8 h17
    · refine am_aload_n g dX9_part_126 rfl ?_
      refine am_iload_n g dX9_part_127 rfl ?_
      refine am_iload g dX9_part_128 rfl ?_
      refine am_Vi (as := [.inl l1, .inl v16]) (S := []) g (cX9_isSeedC l1 v16 h17) mi_X9_isSeed lm_X9_158 clX9.1 (Nat.le_of_ble_eq_true rfl) rfl dX9_part_130 rfl (by decide) (Nat.le_of_ble_eq_true rfl) rfl (fun v18 h19 => ?_)
      refine am_if_ne (tgt := 187) g dX9_part_133 (by decide) ?_ ?_
      · refine am_drop 9 ?_
        exact (jX9_part_187 g hK101) l1 l5 l6 l7 l8 h19
      · refine am_aload_n g dX9_part_136 rfl ?_
        refine am_iload g dX9_part_137 rfl ?_
        refine am_iload g dX9_part_139 rfl ?_
        refine am_Vi (as := [.inl l7, .inl v16]) (S := []) g (cX9_isOneLandC l7 v16 h19) mi_X9_isOneLand lm_X9_154 clX9.1 (Nat.le_of_ble_eq_true rfl) rfl dX9_part_141 rfl (by decide) (Nat.le_of_ble_eq_true rfl) rfl (fun v20 h21 => ?_)
        refine am_if_ne (tgt := 187) g dX9_part_144 (by decide) ?_ ?_
        · refine am_drop 9 ?_
          exact (jX9_part_187 g hK101) l1 l5 l6 l7 l8 h21
        · refine am_aload_n g dX9_part_147 rfl ?_
          refine am_aload_n g dX9_part_148 rfl ?_
          refine am_iload_n g dX9_part_149 rfl ?_
          refine am_iload g dX9_part_150 rfl ?_
          refine am_iconst g dX9_part_152 (am_il rfl) rfl ?_
          refine am_ixor g dX9_part_153 ?_
          refine am_Vi (as := [.inl l1, .inl (am_xor l8 1)]) (S := [.inr (some 0)]) g (cX9_atC l1 (am_xor l8 1) h21) mi_X9_at lm_X9_143 clX9.1 (Nat.le_of_ble_eq_true rfl) rfl dX9_part_154 rfl (by decide) (Nat.le_of_ble_eq_true rfl) rfl (fun v22 h23 => ?_)
          refine am_iload g dX9_part_157 rfl ?_
          refine am_Vi (as := [.inl v22, .inl l6]) (S := []) g (cX9_isOneLandC v22 l6 h23) mi_X9_isOneLand lm_X9_154 clX9.1 (Nat.le_of_ble_eq_true rfl) rfl dX9_part_159 rfl (by decide) (Nat.le_of_ble_eq_true rfl) rfl (fun v24 h25 => ?_)
          refine am_if_eq (tgt := 168) g dX9_part_162 (by decide) ?_ ?_
          · refine am_drop 7 ?_
            exact (jX9_part_168 g) l1 l5 l6 l8 v16 h25
          · refine am_goto (tgt := 187) g dX9_part_165 (by decide) ?_
            refine am_drop 9 ?_
            exact (jX9_part_187 g hK101) l1 l5 l6 l7 l8 h25
theorem jX9_part_101 {D : va_G} {a : Nat → ClassId} {ad : Nat → Nat} {G : am_G} (g : am_Gd (EM D a ad) RX9 cX9_part 10 none 2 G) : ∀ (l1 : Int), ∀ (l5 : Int), ∀ (l6 : Int), ∀ (l7 : Int), ∀ (l8 : Int), ∀ h : am_M, am_J (EM D a ad) G 10 am_ev 101 [some (.inr (some 0)), some (.inl l1), none, none, none, some (.inl l5), some (.inl l6), some (.inl l7), some (.inl l8), none] [] h (fX9_part_101 l1 l5 l6 l7 l8 h) := by
  unfold fX9_part_101
  generalize 400 = n
  induction n with
  | zero => intro l1 l5 l6 l7 l8 h; exact am_jn
  | succ n ih => exact jX9_part_101b g ih
def fX9_part_72 (l1 : Int) (l2 : Int) (s0 : Int) (h : am_M) : Option (Unit × am_M) := am_b (fX9_at l1 s0 h) (fun v11 h12 => am_b (fX9_at l1 (am_xor s0 1) h12) (fun v13 h14 => am_l (am_w ((am_w (2 * l2)) + 2)) (fun x15 => fX9_part_101 l1 s0 v11 v13 x15 h14)))
set_option maxRecDepth 10000 in
theorem jX9_part_72 {D : va_G} {a : Nat → ClassId} {ad : Nat → Nat} {G : am_G} (g : am_Gd (EM D a ad) RX9 cX9_part 10 none 2 G) : ∀ (l1 : Int), ∀ (l2 : Int), ∀ (s0 : Int), ∀ h : am_M, am_J (EM D a ad) G 10 am_ev 72 [some (.inr (some 0)), some (.inl l1), some (.inl l2), none, none, none, none, none, none, none] [.inl s0] h (fX9_part_72 l1 l2 s0 h) := by
  intro l1 l2 s0 h
  unfold fX9_part_72
  refine am_istore g dX9_part_72 (by decide) ?_
  refine am_aload_n g dX9_part_74 rfl ?_
  refine am_iload_n g dX9_part_75 rfl ?_
  refine am_iload g dX9_part_76 rfl ?_
  refine am_Vi (as := [.inl l1, .inl s0]) (S := []) g (cX9_atC l1 s0 h) mi_X9_at lm_X9_143 clX9.1 (Nat.le_of_ble_eq_true rfl) rfl dX9_part_78 rfl (by decide) (Nat.le_of_ble_eq_true rfl) rfl (fun v11 h12 => ?_)
  refine am_istore g dX9_part_81 (by decide) ?_
  refine am_aload_n g dX9_part_83 rfl ?_
  refine am_iload_n g dX9_part_84 rfl ?_
  refine am_iload g dX9_part_85 rfl ?_
  refine am_iconst g dX9_part_87 (am_il rfl) rfl ?_
  refine am_ixor g dX9_part_88 ?_
  refine am_Vi (as := [.inl l1, .inl (am_xor s0 1)]) (S := []) g (cX9_atC l1 (am_xor s0 1) h12) mi_X9_at lm_X9_143 clX9.1 (Nat.le_of_ble_eq_true rfl) rfl dX9_part_89 rfl (by decide) (Nat.le_of_ble_eq_true rfl) rfl (fun v13 h14 => ?_)
  refine am_istore g dX9_part_92 (by decide) ?_
  refine am_iconst g dX9_part_94 (am_il rfl) rfl ?_
  refine am_iload_n g dX9_part_95 rfl ?_
  refine am_imul g dX9_part_96 ?_
  refine am_iconst g dX9_part_97 (am_il rfl) rfl ?_
  refine am_iadd g dX9_part_98 ?_
  refine am_gv (fun x15 => ?_)
  refine am_istore g dX9_part_99 (by decide) ?_
  refine am_drop 2 ?_
  exact (jX9_part_101 g) l1 s0 v11 v13 x15 h14
def fX9_part_51 (l1 : Int) (l2 : Int) (l4 : Int) (h : am_M) : Option (Unit × am_M) := am_b (fX9_isSeed l1 l4 h) (fun v9 h10 => if v9 = 0 then fX9_part_72 l1 l2 (am_w ((am_w (2 * l2)) + 1)) h10 else fX9_part_72 l1 l2 (am_w (2 * l2)) h10)
set_option maxRecDepth 10000 in
theorem jX9_part_51 {D : va_G} {a : Nat → ClassId} {ad : Nat → Nat} {G : am_G} (g : am_Gd (EM D a ad) RX9 cX9_part 10 none 2 G) : ∀ (l1 : Int), ∀ (l2 : Int), ∀ (l4 : Int), ∀ h : am_M, am_J (EM D a ad) G 10 am_ev 51 [some (.inr (some 0)), some (.inl l1), some (.inl l2), none, some (.inl l4), none, none, none, none, none] [] h (fX9_part_51 l1 l2 l4 h) := by
  intro l1 l2 l4 h
  unfold fX9_part_51
  refine am_aload_n g dX9_part_51 rfl ?_
  refine am_iload_n g dX9_part_52 rfl ?_
  refine am_iload g dX9_part_53 rfl ?_
  refine am_Vi (as := [.inl l1, .inl l4]) (S := []) g (cX9_isSeedC l1 l4 h) mi_X9_isSeed lm_X9_158 clX9.1 (Nat.le_of_ble_eq_true rfl) rfl dX9_part_55 rfl (by decide) (Nat.le_of_ble_eq_true rfl) rfl (fun v9 h10 => ?_)
  refine am_if_eq (tgt := 67) g dX9_part_58 (by decide) ?_ ?_
  · refine am_iconst g dX9_part_67 (am_il rfl) rfl ?_
    refine am_iload_n g dX9_part_68 rfl ?_
    refine am_imul g dX9_part_69 ?_
    refine am_iconst g dX9_part_70 (am_il rfl) rfl ?_
    refine am_iadd g dX9_part_71 ?_
    refine am_drop 4 ?_
    exact (jX9_part_72 g) l1 l2 (am_w ((am_w (2 * l2)) + 1)) h10
  · refine am_iconst g dX9_part_61 (am_il rfl) rfl ?_
    refine am_iload_n g dX9_part_62 rfl ?_
    refine am_imul g dX9_part_63 ?_
    refine am_goto (tgt := 72) g dX9_part_64 (by decide) ?_
    refine am_drop 4 ?_
    exact (jX9_part_72 g) l1 l2 (am_w (2 * l2)) h10
def fX9_part (a1 : Int) (a2 : Int) (h : am_M) : Option (Unit × am_M) := am_b (fX9_at a1 (am_w (2 * a2)) h) (fun v1 h2 => am_b (fX9_at a1 (am_w ((am_w (2 * a2)) + 1)) h2) (fun v3 h4 => am_b (fX9_isOneLand v1 v3 h4) (fun v5 h6 => if v5 = 0 then some ((), h6) else am_b (fX9_isSeed a1 v1 h6) (fun v7 h8 => if v7 = 0 then fX9_part_51 a1 a2 v3 h8 else am_b (fX9_isSeed a1 v3 h8) (fun v28 h29 => if v28 = 0 then fX9_part_51 a1 a2 v3 h29 else some ((), h29))))))
set_option maxRecDepth 10000 in
theorem cX9_partC {D : va_G} {a : Nat → ClassId} {ad : Nat → Nat} (a1 : Int) (a2 : Int) (h : am_M) : am_C (EM D a ad) yX9_part cX9_part 10 none 2 [.inr (some 0), .inl a1, .inl a2] h am_ev (fX9_part a1 a2 h) := by
  refine am_ofJ (L := [some (.inr (some 0)), some (.inl a1), some (.inl a2), none, none, none, none, none, none, none]) (by decide) rfl (Nat.le_of_ble_eq_true rfl) (fun G g => ?_)
  have g : am_Gd (EM D a ad) RX9 cX9_part 10 none 2 G := g
  unfold fX9_part
  refine am_aload_n g dX9_part_0 rfl ?_
  refine am_iload_n g dX9_part_1 rfl ?_
  refine am_iconst g dX9_part_2 (am_il rfl) rfl ?_
  refine am_iload_n g dX9_part_3 rfl ?_
  refine am_imul g dX9_part_4 ?_
  refine am_Vi (as := [.inl a1, .inl (am_w (2 * a2))]) (S := []) g (cX9_atC a1 (am_w (2 * a2)) h) mi_X9_at lm_X9_143 clX9.1 (Nat.le_of_ble_eq_true rfl) rfl dX9_part_5 rfl (by decide) (Nat.le_of_ble_eq_true rfl) rfl (fun v1 h2 => ?_)
  refine am_istore_n g dX9_part_8 (by decide) ?_
  refine am_aload_n g dX9_part_9 rfl ?_
  refine am_iload_n g dX9_part_10 rfl ?_
  refine am_iconst g dX9_part_11 (am_il rfl) rfl ?_
  refine am_iload_n g dX9_part_12 rfl ?_
  refine am_imul g dX9_part_13 ?_
  refine am_iconst g dX9_part_14 (am_il rfl) rfl ?_
  refine am_iadd g dX9_part_15 ?_
  refine am_Vi (as := [.inl a1, .inl (am_w ((am_w (2 * a2)) + 1))]) (S := []) g (cX9_atC a1 (am_w ((am_w (2 * a2)) + 1)) h2) mi_X9_at lm_X9_143 clX9.1 (Nat.le_of_ble_eq_true rfl) rfl dX9_part_16 rfl (by decide) (Nat.le_of_ble_eq_true rfl) rfl (fun v3 h4 => ?_)
  refine am_istore g dX9_part_19 (by decide) ?_
  refine am_aload_n g dX9_part_21 rfl ?_
  refine am_iload_n g dX9_part_22 rfl ?_
  refine am_iload g dX9_part_23 rfl ?_
  refine am_Vi (as := [.inl v1, .inl v3]) (S := []) g (cX9_isOneLandC v1 v3 h4) mi_X9_isOneLand lm_X9_154 clX9.1 (Nat.le_of_ble_eq_true rfl) rfl dX9_part_25 rfl (by decide) (Nat.le_of_ble_eq_true rfl) rfl (fun v5 h6 => ?_)
  refine am_if_eq (tgt := 50) g dX9_part_28 (by decide) ?_ ?_
  · exact am_vreturn g dX9_part_50
  · refine am_aload_n g dX9_part_31 rfl ?_
    refine am_iload_n g dX9_part_32 rfl ?_
    refine am_iload_n g dX9_part_33 rfl ?_
    refine am_Vi (as := [.inl a1, .inl v1]) (S := []) g (cX9_isSeedC a1 v1 h6) mi_X9_isSeed lm_X9_158 clX9.1 (Nat.le_of_ble_eq_true rfl) rfl dX9_part_34 rfl (by decide) (Nat.le_of_ble_eq_true rfl) rfl (fun v7 h8 => ?_)
    refine am_if_eq (tgt := 51) g dX9_part_37 (by decide) ?_ ?_
    · refine am_drop 3 ?_
      exact (jX9_part_51 g) a1 a2 v3 h8
    · refine am_aload_n g dX9_part_40 rfl ?_
      refine am_iload_n g dX9_part_41 rfl ?_
      refine am_iload g dX9_part_42 rfl ?_
      refine am_Vi (as := [.inl a1, .inl v3]) (S := []) g (cX9_isSeedC a1 v3 h8) mi_X9_isSeed lm_X9_158 clX9.1 (Nat.le_of_ble_eq_true rfl) rfl dX9_part_44 rfl (by decide) (Nat.le_of_ble_eq_true rfl) rfl (fun v28 h29 => ?_)
      refine am_if_eq (tgt := 51) g dX9_part_47 (by decide) ?_ ?_
      · refine am_drop 3 ?_
        exact (jX9_part_51 g) a1 a2 v3 h29
      · exact am_vreturn g dX9_part_50
def fX9_seedPlace_27 (l0 : Int) (l2 : Int) (s0 : Int) (h : am_M) : Option (Int × am_M) := if s0 = l2 then some (am_w ((am_w (Int.tdiv l0 2)) - 1), h) else some (am_w (Int.tdiv l0 2), h)
set_option maxRecDepth 10000 in
theorem jX9_seedPlace_27 {D : va_G} {a : Nat → ClassId} {ad : Nat → Nat} {G : am_G} (g : am_Gd (EM D a ad) RX9 cX9_seedPlace 3 (some .int) 1 G) : ∀ (l0 : Int), ∀ (l2 : Int), ∀ (s0 : Int), ∀ h : am_M, am_J (EM D a ad) G 3 am_ei 27 [some (.inl l0), none, some (.inl l2)] [.inl s0] h (fX9_seedPlace_27 l0 l2 s0 h) := by
  intro l0 l2 s0 h
  unfold fX9_seedPlace_27
  refine am_iload_n g dX9_seedPlace_27 rfl ?_
  refine am_icmp_eq (tgt := 37) g dX9_seedPlace_28 (by decide) ?_ ?_
  · refine am_iload_n g dX9_seedPlace_37 rfl ?_
    refine am_iconst g dX9_seedPlace_38 (am_il rfl) rfl ?_
    refine am_idiv g dX9_seedPlace_39 (by decide) ?_
    refine am_iconst g dX9_seedPlace_40 (am_il rfl) rfl ?_
    refine am_isub g dX9_seedPlace_41 ?_
    exact am_ireturn g dX9_seedPlace_42
  · refine am_iload_n g dX9_seedPlace_31 rfl ?_
    refine am_iconst g dX9_seedPlace_32 (am_il rfl) rfl ?_
    refine am_idiv g dX9_seedPlace_33 (by decide) ?_
    refine am_goto (tgt := 42) g dX9_seedPlace_34 (by decide) ?_
    exact am_ireturn g dX9_seedPlace_42
def fX9_seedPlace (a1 : Int) (a2 : Int) (a3 : Int) (h : am_M) : Option (Int × am_M) := if a2 < 2 then (if a2 = 0 then some (0, h) else some (am_w (a1 - 1), h)) else if a2 = 2 then fX9_seedPlace_27 a1 a3 1 h else fX9_seedPlace_27 a1 a3 0 h
set_option maxRecDepth 10000 in
theorem cX9_seedPlaceC {D : va_G} {a : Nat → ClassId} {ad : Nat → Nat} (a1 : Int) (a2 : Int) (a3 : Int) (h : am_M) : am_C (EM D a ad) yX9_seedPlace cX9_seedPlace 3 (some .int) 1 [.inl a1, .inl a2, .inl a3] h am_ei (fX9_seedPlace a1 a2 a3 h) := by
  refine am_ofJ (L := [some (.inl a1), some (.inl a2), some (.inl a3)]) (by decide) rfl (Nat.le_of_ble_eq_true rfl) (fun G g => ?_)
  have g : am_Gd (EM D a ad) RX9 cX9_seedPlace 3 (some .int) 1 G := g
  unfold fX9_seedPlace
  refine am_iload_n g dX9_seedPlace_0 rfl ?_
  refine am_iconst g dX9_seedPlace_1 (am_il rfl) rfl ?_
  refine am_icmp_ge (tgt := 17) g dX9_seedPlace_2 (by decide) ?_ ?_
  · refine am_iload_n g dX9_seedPlace_17 rfl ?_
    refine am_iconst g dX9_seedPlace_18 (am_il rfl) rfl ?_
    refine am_icmp_ne (tgt := 26) g dX9_seedPlace_19 (by decide) ?_ ?_
    · refine am_iconst g dX9_seedPlace_26 (am_il rfl) rfl ?_
      refine am_drop 1 ?_
      exact (jX9_seedPlace_27 g) a1 a3 0 h
    · refine am_iconst g dX9_seedPlace_22 (am_il rfl) rfl ?_
      refine am_goto (tgt := 27) g dX9_seedPlace_23 (by decide) ?_
      refine am_drop 1 ?_
      exact (jX9_seedPlace_27 g) a1 a3 1 h
  · refine am_iload_n g dX9_seedPlace_5 rfl ?_
    refine am_if_ne (tgt := 13) g dX9_seedPlace_6 (by decide) ?_ ?_
    · refine am_iload_n g dX9_seedPlace_13 rfl ?_
      refine am_iconst g dX9_seedPlace_14 (am_il rfl) rfl ?_
      refine am_isub g dX9_seedPlace_15 ?_
      exact am_ireturn g dX9_seedPlace_16
    · refine am_iconst g dX9_seedPlace_9 (am_il rfl) rfl ?_
      refine am_goto (tgt := 16) g dX9_seedPlace_10 (by decide) ?_
      exact am_ireturn g dX9_seedPlace_16
