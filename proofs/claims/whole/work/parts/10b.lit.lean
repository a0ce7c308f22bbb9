def fX2_countOpenRounds_55 (K4 : Nat → Int → Int → am_M → Option (Int × am_M)) (l0 : Nat) (l1 : Int) (l2 : Int) (h : am_M) : Option (Int × am_M) := K4 l0 l1 (am_w (l2 + 1)) h
set_option maxRecDepth 10000 in
theorem jX2_countOpenRounds_55 {D : va_G} {a : Nat → ClassId} {ad : Nat → Nat} {G : am_G} (g : am_Gd (EX D a ad) RX2 cX2_countOpenRounds 5 (some .int) 2 G) {K4 : Nat → Int → Int → am_M → Option (Int × am_M)} (hK4 : ∀ (l0 : Nat), l0 < 4 → ∀ (l1 : Int), ∀ (l2 : Int), ∀ h : am_M, am_J (EX D a ad) G 5 am_ei 4 [some (.inr (some (10 + l0))), some (.inl l1), some (.inl l2), none, none] [] h (K4 l0 l1 l2 h)) : ∀ (l0 : Nat), l0 < 4 → ∀ (l1 : Int), ∀ (l2 : Int), ∀ h : am_M, am_J (EX D a ad) G 5 am_ei 55 [some (.inr (some (10 + l0))), some (.inl l1), some (.inl l2), none, none] [] h (fX2_countOpenRounds_55 K4 l0 l1 l2 h) := by
  intro l0 hl0 l1 l2 h
  unfold fX2_countOpenRounds_55
  refine am_iinc g dX2_countOpenRounds_55 (by decide) rfl ?_
  refine am_goto (tgt := 4) g dX2_countOpenRounds_58 (by decide) ?_
  exact hK4 l0 hl0 l1 (am_w (l2 + 1)) h
def fX2_countOpenRounds_4b (K4 : Nat → Int → Int → am_M → Option (Int × am_M)) (l0 : Nat) (l1 : Int) (l2 : Int) (h : am_M) : Option (Int × am_M) := if l2 < 4 then (am_b (fX2_firstOf l0 l2 h) (fun v1 h2 => if v1 < (am_w ((h2 1 l0) - 1)) then (am_b (fX2_firstOf l0 l2 h2) (fun v3 h4 => am_b (fX2_firstOf l0 (am_w (l2 + 1)) h4) (fun v5 h6 => am_b (fX2_countEnded l0 v3 v5 h6) (fun v7 h8 => if v7 < (am_w (v5 - v3)) then (fX2_countOpenRounds_55 K4) l0 (am_w (l1 + 1)) l2 h8 else (fX2_countOpenRounds_55 K4) l0 l1 l2 h8)))) else some (l1, h2))) else some (l1, h)
def fX2_countOpenRounds_4 : Nat → Int → Int → am_M → Option (Int × am_M) := am_it (fun _ _ _ _ => none) (fX2_countOpenRounds_4b) 400
set_option maxRecDepth 10000 in
theorem jX2_countOpenRounds_4b {D : va_G} {a : Nat → ClassId} {ad : Nat → Nat} {G : am_G} (g : am_Gd (EX D a ad) RX2 cX2_countOpenRounds 5 (some .int) 2 G) {K4 : Nat → Int → Int → am_M → Option (Int × am_M)} (hK4 : ∀ (l0 : Nat), l0 < 4 → ∀ (l1 : Int), ∀ (l2 : Int), ∀ h : am_M, am_J (EX D a ad) G 5 am_ei 4 [some (.inr (some (10 + l0))), some (.inl l1), some (.inl l2), none, none] [] h (K4 l0 l1 l2 h)) : ∀ (l0 : Nat), l0 < 4 → ∀ (l1 : Int), ∀ (l2 : Int), ∀ h : am_M, am_J (EX D a ad) G 5 am_ei 4 [some (.inr (some (10 + l0))), some (.inl l1), some (.inl l2), none, none] [] h (fX2_countOpenRounds_4b K4 l0 l1 l2 h) := by
  intro l0 hl0 l1 l2 h
  unfold fX2_countOpenRounds_4b
  refine am_iload_n g dX2_countOpenRounds_4 rfl ?_
  refine am_iconst g dX2_countOpenRounds_5 (am_il rfl) rfl ?_
  refine am_icmp_ge (tgt := 61) g dX2_countOpenRounds_6 (by decide) ?_ ?_
  · refine am_iload_n g dX2_countOpenRounds_61 rfl ?_
    exact am_ireturn g dX2_countOpenRounds_62
  · refine am_aload_n g dX2_countOpenRounds_9 rfl ?_
    refine am_iload_n g dX2_countOpenRounds_10 rfl ?_
    refine am_Vi (as := [.inl l2]) (S := []) g (cX2_firstOfC l0 hl0 l2 h) mi_X2_firstOf lm_X2_76 clX2.1 (Nat.lt_of_lt_of_le (Nat.add_lt_add_left hl0 10) (Nat.le_of_ble_eq_true rfl)) (sh_X2 l0 hl0) dX2_countOpenRounds_11 rfl (by decide) (Nat.le_of_ble_eq_true rfl) rfl (fun v1 h2 => ?_)
    refine am_aload_n g dX2_countOpenRounds_14 rfl ?_
    refine am_geti (q := 8) (kd := 1) (ix := l0) g clX2 dX2_countOpenRounds_15 (Nat.lt_of_lt_of_le (Nat.add_lt_add_left hl0 10) (Nat.le_of_ble_eq_true rfl)) (sh_X2 l0 hl0) (by decide) rfl lf_X2_37 ?_
    refine am_iconst g dX2_countOpenRounds_18 (am_il rfl) rfl ?_
    refine am_isub g dX2_countOpenRounds_19 ?_
    refine am_icmp_ge (tgt := 61) g dX2_countOpenRounds_20 (by decide) ?_ ?_
    · refine am_iload_n g dX2_countOpenRounds_61 rfl ?_
      exact am_ireturn g dX2_countOpenRounds_62
    · refine am_aload_n g dX2_countOpenRounds_23 rfl ?_
      refine am_iload_n g dX2_countOpenRounds_24 rfl ?_
      refine am_Vi (as := [.inl l2]) (S := []) g (cX2_firstOfC l0 hl0 l2 h2) mi_X2_firstOf lm_X2_76 clX2.1 (Nat.lt_of_lt_of_le (Nat.add_lt_add_left hl0 10) (Nat.le_of_ble_eq_true rfl)) (sh_X2 l0 hl0) dX2_countOpenRounds_25 rfl (by decide) (Nat.le_of_ble_eq_true rfl) rfl (fun v3 h4 => ?_)
      refine am_istore_n g dX2_countOpenRounds_28 (by decide) ?_
      refine am_aload_n g dX2_countOpenRounds_29 rfl ?_
      refine am_iload_n g dX2_countOpenRounds_30 rfl ?_
      refine am_iconst g dX2_countOpenRounds_31 (am_il rfl) rfl ?_
      refine am_iadd g dX2_countOpenRounds_32 ?_
      refine am_Vi (as := [.inl (am_w (l2 + 1))]) (S := []) g (cX2_firstOfC l0 hl0 (am_w (l2 + 1)) h4) mi_X2_firstOf lm_X2_76 clX2.1 (Nat.lt_of_lt_of_le (Nat.add_lt_add_left hl0 10) (Nat.le_of_ble_eq_true rfl)) (sh_X2 l0 hl0) dX2_countOpenRounds_33 rfl (by decide) (Nat.le_of_ble_eq_true rfl) rfl (fun v5 h6 => ?_)
      refine am_istore g dX2_countOpenRounds_36 (by decide) ?_
      refine am_aload_n g dX2_countOpenRounds_38 rfl ?_
      refine am_iload_n g dX2_countOpenRounds_39 rfl ?_
      refine am_iload g dX2_countOpenRounds_40 rfl ?_
      refine am_Vi (as := [.inl v3, .inl v5]) (S := []) g (cX2_countEndedC l0 hl0 v3 v5 h6) mi_X2_countEnded lm_X2_79 clX2.1 (Nat.lt_of_lt_of_le (Nat.add_lt_add_left hl0 10) (Nat.le_of_ble_eq_true rfl)) (sh_X2 l0 hl0) dX2_countOpenRounds_42 rfl (by decide) (Nat.le_of_ble_eq_true rfl) rfl (fun v7 h8 => ?_)
      refine am_iload g dX2_countOpenRounds_45 rfl ?_
      refine am_iload_n g dX2_countOpenRounds_47 rfl ?_
      refine am_isub g dX2_countOpenRounds_48 ?_
      refine am_icmp_ge (tgt := 55) g dX2_countOpenRounds_49 (by decide) ?_ ?_
      · refine am_drop 3 ?_
        refine am_drop 4 ?_
        exact (jX2_countOpenRounds_55 g hK4) l0 hl0 l1 l2 h8
      · refine am_iinc g dX2_countOpenRounds_52 (by decide) rfl ?_
        refine am_drop 3 ?_
        refine am_drop 4 ?_
        exact (jX2_countOpenRounds_55 g hK4) l0 hl0 (am_w (l1 + 1)) l2 h8
theorem jX2_countOpenRounds_4 {D : va_G} {a : Nat → ClassId} {ad : Nat → Nat} {G : am_G} (g : am_Gd (EX D a ad) RX2 cX2_countOpenRounds 5 (some .int) 2 G) : ∀ (l0 : Nat), l0 < 4 → ∀ (l1 : Int), ∀ (l2 : Int), ∀ h : am_M, am_J (EX D a ad) G 5 am_ei 4 [some (.inr (some (10 + l0))), some (.inl l1), some (.inl l2), none, none] [] h (fX2_countOpenRounds_4 l0 l1 l2 h) := by
  unfold fX2_countOpenRounds_4
  generalize 400 = n
  induction n with
  | zero => intro l0 hl0 l1 l2 h; exact am_jn
  | succ n ih => exact jX2_countOpenRounds_4b g ih
def fX2_countOpenRounds (d : Nat) (h : am_M) : Option (Int × am_M) := fX2_countOpenRounds_4 d 0 0 h
set_option maxRecDepth 10000 in
theorem cX2_countOpenRoundsC {D : va_G} {a : Nat → ClassId} {ad : Nat → Nat} (d : Nat) (hd : d < 4) (h : am_M) : am_C (EX D a ad) yX2_countOpenRounds cX2_countOpenRounds 5 (some .int) 2 [.inr (some (10 + d))] h am_ei (fX2_countOpenRounds d h) := by
  refine am_ofJ (L := [some (.inr (some (10 + d))), none, none, none, none]) (by decide) rfl (Nat.le_of_ble_eq_true rfl) (fun G g => ?_)
  have g : am_Gd (EX D a ad) RX2 cX2_countOpenRounds 5 (some .int) 2 G := g
  unfold fX2_countOpenRounds
  refine am_iconst g dX2_countOpenRounds_0 (am_il rfl) rfl ?_
  refine am_istore_n g dX2_countOpenRounds_1 (by decide) ?_
  refine am_iconst g dX2_countOpenRounds_2 (am_il rfl) rfl ?_
  refine am_istore_n g dX2_countOpenRounds_3 (by decide) ?_
  exact (jX2_countOpenRounds_4 g) d hd 0 0 h
def fX2_hasBegun_41 (K46 : Nat → Int → Int → Int → am_M → Option (Int × am_M)) (l0 : Nat) (l1 : Int) (l2 : Int) (h : am_M) : Option (Int × am_M) := K46 l0 l1 l2 1 h
set_option maxRecDepth 10000 in
theorem jX2_hasBegun_41 {D : va_G} {a : Nat → ClassId} {ad : Nat → Nat} {G : am_G} (g : am_Gd (EX D a ad) RX2 cX2_hasBegun 4 (some .boolean) 4 G) {K46 : Nat → Int → Int → Int → am_M → Option (Int × am_M)} (hK46 : ∀ (l0 : Nat), l0 < 4 → ∀ (l1 : Int), ∀ (l2 : Int), ∀ (s0 : Int), ∀ h : am_M, am_J (EX D a ad) G 4 am_ei 46 [some (.inr (some (10 + l0))), some (.inl l1), some (.inl l2), none] [.inl s0] h (K46 l0 l1 l2 s0 h)) : ∀ (l0 : Nat), l0 < 4 → ∀ (l1 : Int), ∀ (l2 : Int), ∀ h : am_M, am_J (EX D a ad) G 4 am_ei 41 [some (.inr (some (10 + l0))), some (.inl l1), some (.inl l2), none] [] h (fX2_hasBegun_41 K46 l0 l1 l2 h) := by
  intro l0 hl0 l1 l2 h
  unfold fX2_hasBegun_41
  refine am_iconst g dX2_hasBegun_41 (am_il rfl) rfl ?_
  refine am_goto (tgt := 46) g dX2_hasBegun_42 (by decide) ?_
  exact hK46 l0 hl0 l1 l2 1 h
def fX2_hasBegun_62 (K2 : Nat → Int → Int → am_M → Option (Int × am_M)) (l0 : Nat) (l1 : Int) (l2 : Int) (h : am_M) : Option (Int × am_M) := K2 l0 l1 (am_w (l2 + 1)) h
set_option maxRecDepth 10000 in
theorem jX2_hasBegun_62 {D : va_G} {a : Nat → ClassId} {ad : Nat → Nat} {G : am_G} (g : am_Gd (EX D a ad) RX2 cX2_hasBegun 4 (some .boolean) 4 G) {K2 : Nat → Int → Int → am_M → Option (Int × am_M)} (hK2 : ∀ (l0 : Nat), l0 < 4 → ∀ (l1 : Int), ∀ (l2 : Int), ∀ h : am_M, am_J (EX D a ad) G 4 am_ei 2 [some (.inr (some (10 + l0))), some (.inl l1), some (.inl l2), none] [] h (K2 l0 l1 l2 h)) : ∀ (l0 : Nat), l0 < 4 → ∀ (l1 : Int), ∀ (l2 : Int), ∀ h : am_M, am_J (EX D a ad) G 4 am_ei 62 [some (.inr (some (10 + l0))), some (.inl l1), some (.inl l2), none] [] h (fX2_hasBegun_62 K2 l0 l1 l2 h) := by
  intro l0 hl0 l1 l2 h
  unfold fX2_hasBegun_62
  refine am_iinc g dX2_hasBegun_62 (by decide) rfl ?_
  refine am_goto (tgt := 2) g dX2_hasBegun_65 (by decide) ?_
  exact hK2 l0 hl0 l1 (am_w (l2 + 1)) h
def fX2_hasBegun_46 (K2 : Nat → Int → Int → am_M → Option (Int × am_M)) (l0 : Nat) (l1 : Int) (l2 : Int) (s0 : Int) (h : am_M) : Option (Int × am_M) := if s0 = 0 then (fX2_hasBegun_62 K2) l0 l1 l2 h else am_b (fX2_sideOf l0 l2 l1 h) (fun v1 h2 => if v1 < 0 then (fX2_hasBegun_62 K2) l0 l1 l2 h2 else some (1, h2))
set_option maxRecDepth 10000 in
theorem jX2_hasBegun_46 {D : va_G} {a : Nat → ClassId} {ad : Nat → Nat} {G : am_G} (g : am_Gd (EX D a ad) RX2 cX2_hasBegun 4 (some .boolean) 4 G) {K2 : Nat → Int → Int → am_M → Option (Int × am_M)} (hK2 : ∀ (l0 : Nat), l0 < 4 → ∀ (l1 : Int), ∀ (l2 : Int), ∀ h : am_M, am_J (EX D a ad) G 4 am_ei 2 [some (.inr (some (10 + l0))), some (.inl l1), some (.inl l2), none] [] h (K2 l0 l1 l2 h)) : ∀ (l0 : Nat), l0 < 4 → ∀ (l1 : Int), ∀ (l2 : Int), ∀ (s0 : Int), ∀ h : am_M, am_J (EX D a ad) G 4 am_ei 46 [some (.inr (some (10 + l0))), some (.inl l1), some (.inl l2), none] [.inl s0] h (fX2_hasBegun_46 K2 l0 l1 l2 s0 h) := by
  intro l0 hl0 l1 l2 s0 h
  unfold fX2_hasBegun_46
  refine am_istore_n g dX2_hasBegun_46 (by decide) ?_
  refine am_iload_n g dX2_hasBegun_47 rfl ?_
  refine am_if_eq (tgt := 62) g dX2_hasBegun_48 (by decide) ?_ ?_
  · refine am_drop 3 ?_
    exact (jX2_hasBegun_62 g hK2) l0 hl0 l1 l2 h
  · refine am_aload_n g dX2_hasBegun_51 rfl ?_
    refine am_iload_n g dX2_hasBegun_52 rfl ?_
    refine am_iload_n g dX2_hasBegun_53 rfl ?_
    refine am_Vi (as := [.inl l2, .inl l1]) (S := []) g (cX2_sideOfC l0 hl0 l2 l1 h) mi_X2_sideOf lm_X2_82 clX2.1 (Nat.lt_of_lt_of_le (Nat.add_lt_add_left hl0 10) (Nat.le_of_ble_eq_true rfl)) (sh_X2 l0 hl0) dX2_hasBegun_54 rfl (by decide) (Nat.le_of_ble_eq_true rfl) rfl (fun v1 h2 => ?_)
    refine am_if_lt (tgt := 62) g dX2_hasBegun_57 (by decide) ?_ ?_
    · refine am_drop 3 ?_
      exact (jX2_hasBegun_62 g hK2) l0 hl0 l1 l2 h2
    · refine am_iconst g dX2_hasBegun_60 (am_il rfl) rfl ?_
      exact am_zreturn g dX2_hasBegun_61 (by decide)
def fX2_hasBegun_45 (K46 : Nat → Int → Int → Int → am_M → Option (Int × am_M)) (l0 : Nat) (l1 : Int) (l2 : Int) (h : am_M) : Option (Int × am_M) := K46 l0 l1 l2 0 h
set_option maxRecDepth 10000 in
theorem jX2_hasBegun_45 {D : va_G} {a : Nat → ClassId} {ad : Nat → Nat} {G : am_G} (g : am_Gd (EX D a ad) RX2 cX2_hasBegun 4 (some .boolean) 4 G) {K46 : Nat → Int → Int → Int → am_M → Option (Int × am_M)} (hK46 : ∀ (l0 : Nat), l0 < 4 → ∀ (l1 : Int), ∀ (l2 : Int), ∀ (s0 : Int), ∀ h : am_M, am_J (EX D a ad) G 4 am_ei 46 [some (.inr (some (10 + l0))), some (.inl l1), some (.inl l2), none] [.inl s0] h (K46 l0 l1 l2 s0 h)) : ∀ (l0 : Nat), l0 < 4 → ∀ (l1 : Int), ∀ (l2 : Int), ∀ h : am_M, am_J (EX D a ad) G 4 am_ei 45 [some (.inr (some (10 + l0))), some (.inl l1), some (.inl l2), none] [] h (fX2_hasBegun_45 K46 l0 l1 l2 h) := by
  intro l0 hl0 l1 l2 h
  unfold fX2_hasBegun_45
  refine am_iconst g dX2_hasBegun_45 (am_il rfl) rfl ?_
  exact hK46 l0 hl0 l1 l2 0 h
def fX2_hasBegun_2b (K2 : Nat → Int → Int → am_M → Option (Int × am_M)) (l0 : Nat) (l1 : Int) (l2 : Int) (h : am_M) : Option (Int × am_M) := if l2 < (am_w ((h 1 l0) - 1)) then (if 0 ≤ l2 ∧ l2 < 16 then if (h 9 (16 * l0 + Int.toNat l2)) ≤ 0 then (if 0 ≤ l2 ∧ l2 < 16 then if (h 20 (16 * l0 + Int.toNat l2)) = 0 then (fX2_hasBegun_45 (fX2_hasBegun_46 K2)) l0 l1 l2 h else if 0 ≤ l2 ∧ l2 < 16 then if (h 20 (16 * l0 + Int.toNat l2)) = 6 then (fX2_hasBegun_45 (fX2_hasBegun_46 K2)) l0 l1 l2 h else (fX2_hasBegun_41 (fX2_hasBegun_46 K2)) l0 l1 l2 h else none else none) else (fX2_hasBegun_41 (fX2_hasBegun_46 K2)) l0 l1 l2 h else none) else some (0, h)
def fX2_hasBegun_2 : Nat → Int → Int → am_M → Option (Int × am_M) := am_it (fun _ _ _ _ => none) (fX2_hasBegun_2b) 400
set_option maxRecDepth 10000 in
theorem jX2_hasBegun_2b {D : va_G} {a : Nat → ClassId} {ad : Nat → Nat} {G : am_G} (g : am_Gd (EX D a ad) RX2 cX2_hasBegun 4 (some .boolean) 4 G) {K2 : Nat → Int → Int → am_M → Option (Int × am_M)} (hK2 : ∀ (l0 : Nat), l0 < 4 → ∀ (l1 : Int), ∀ (l2 : Int), ∀ h : am_M, am_J (EX D a ad) G 4 am_ei 2 [some (.inr (some (10 + l0))), some (.inl l1), some (.inl l2), none] [] h (K2 l0 l1 l2 h)) : ∀ (l0 : Nat), l0 < 4 → ∀ (l1 : Int), ∀ (l2 : Int), ∀ h : am_M, am_J (EX D a ad) G 4 am_ei 2 [some (.inr (some (10 + l0))), some (.inl l1), some (.inl l2), none] [] h (fX2_hasBegun_2b K2 l0 l1 l2 h) := by
  intro l0 hl0 l1 l2 h
  unfold fX2_hasBegun_2b
  refine am_iload_n g dX2_hasBegun_2 rfl ?_
  refine am_aload_n g dX2_hasBegun_3 rfl ?_
  refine am_geti (q := 8) (kd := 1) (ix := l0) g clX2 dX2_hasBegun_4 (Nat.lt_of_lt_of_le (Nat.add_lt_add_left hl0 10) (Nat.le_of_ble_eq_true rfl)) (sh_X2 l0 hl0) (by decide) rfl lf_X2_37 ?_
  refine am_iconst g dX2_hasBegun_7 (am_il rfl) rfl ?_
  refine am_isub g dX2_hasBegun_8 ?_
  refine am_icmp_ge (tgt := 68) g dX2_hasBegun_9 (by decide) ?_ ?_
  · refine am_iconst g dX2_hasBegun_68 (am_il rfl) rfl ?_
    exact am_zreturn g dX2_hasBegun_69 (by decide)
  · refine am_aload_n g dX2_hasBegun_12 rfl ?_
    refine am_getr (q := 6) (a := 38 + l0) g clX2 dX2_hasBegun_13 (Nat.lt_of_lt_of_le (Nat.add_lt_add_left hl0 10) (Nat.le_of_ble_eq_true rfl)) (sh_X2 l0 hl0) (by decide) rfl (Nat.lt_of_lt_of_le (Nat.add_lt_add_left hl0 38) (Nat.le_of_ble_eq_true rfl)) lf_X2_31 ?_
    refine am_iload_n g dX2_hasBegun_16 rfl ?_
    refine am_iaload (ix := 16 * l0 + Int.toNat l2) (nI := 16) g dX2_hasBegun_17 (Nat.lt_of_lt_of_le (Nat.add_lt_add_left hl0 38) (Nat.le_of_ble_eq_true rfl)) (sh_X2_points l0 hl0) rfl rfl ?_
    refine am_if_gt (tgt := 41) g dX2_hasBegun_18 (by decide) ?_ ?_
    · exact (jX2_hasBegun_41 g (jX2_hasBegun_46 g hK2)) l0 hl0 l1 l2 h
    · refine am_aload_n g dX2_hasBegun_21 rfl ?_
      refine am_getr (q := 3) (a := 26 + l0) g clX2 dX2_hasBegun_22 (Nat.lt_of_lt_of_le (Nat.add_lt_add_left hl0 10) (Nat.le_of_ble_eq_true rfl)) (sh_X2 l0 hl0) (by decide) rfl (Nat.lt_of_lt_of_le (Nat.add_lt_add_left hl0 26) (Nat.le_of_ble_eq_true rfl)) lf_X2_22 ?_
      refine am_iload_n g dX2_hasBegun_25 rfl ?_
      refine am_iaload (ix := 16 * l0 + Int.toNat l2) (nI := 16) g dX2_hasBegun_26 (Nat.lt_of_lt_of_le (Nat.add_lt_add_left hl0 26) (Nat.le_of_ble_eq_true rfl)) (sh_X2_hows l0 hl0) rfl rfl ?_
      refine am_if_eq (tgt := 45) g dX2_hasBegun_27 (by decide) ?_ ?_
      · exact (jX2_hasBegun_45 g (jX2_hasBegun_46 g hK2)) l0 hl0 l1 l2 h
      · refine am_aload_n g dX2_hasBegun_30 rfl ?_
        refine am_getr (q := 3) (a := 26 + l0) g clX2 dX2_hasBegun_31 (Nat.lt_of_lt_of_le (Nat.add_lt_add_left hl0 10) (Nat.le_of_ble_eq_true rfl)) (sh_X2 l0 hl0) (by decide) rfl (Nat.lt_of_lt_of_le (Nat.add_lt_add_left hl0 26) (Nat.le_of_ble_eq_true rfl)) lf_X2_22 ?_
        refine am_iload_n g dX2_hasBegun_34 rfl ?_
        refine am_iaload (ix := 16 * l0 + Int.toNat l2) (nI := 16) g dX2_hasBegun_35 (Nat.lt_of_lt_of_le (Nat.add_lt_add_left hl0 26) (Nat.le_of_ble_eq_true rfl)) (sh_X2_hows l0 hl0) rfl rfl ?_
        refine am_bipush g dX2_hasBegun_36 (am_il rfl) (am_bi rfl) ?_
        refine am_icmp_eq (tgt := 45) g dX2_hasBegun_38 (by decide) ?_ ?_
        · exact (jX2_hasBegun_45 g (jX2_hasBegun_46 g hK2)) l0 hl0 l1 l2 h
        · exact (jX2_hasBegun_41 g (jX2_hasBegun_46 g hK2)) l0 hl0 l1 l2 h
theorem jX2_hasBegun_2 {D : va_G} {a : Nat → ClassId} {ad : Nat → Nat} {G : am_G} (g : am_Gd (EX D a ad) RX2 cX2_hasBegun 4 (some .boolean) 4 G) : ∀ (l0 : Nat), l0 < 4 → ∀ (l1 : Int), ∀ (l2 : Int), ∀ h : am_M, am_J (EX D a ad) G 4 am_ei 2 [some (.inr (some (10 + l0))), some (.inl l1), some (.inl l2), none] [] h (fX2_hasBegun_2 l0 l1 l2 h) := by
  unfold fX2_hasBegun_2
  generalize 400 = n
  induction n with
  | zero => intro l0 hl0 l1 l2 h; exact am_jn
  | succ n ih => exact jX2_hasBegun_2b g ih
def fX2_hasBegun (d : Nat) (a1 : Int) (h : am_M) : Option (Int × am_M) := fX2_hasBegun_2 d a1 0 h
set_option maxRecDepth 10000 in
theorem cX2_hasBegunC {D : va_G} {a : Nat → ClassId} {ad : Nat → Nat} (d : Nat) (hd : d < 4) (a1 : Int) (h : am_M) : am_C (EX D a ad) yX2_hasBegun cX2_hasBegun 4 (some .boolean) 4 [.inr (some (10 + d)), .inl a1] h am_ei (fX2_hasBegun d a1 h) := by
  refine am_ofJ (L := [some (.inr (some (10 + d))), some (.inl a1), none, none]) (by decide) rfl (Nat.le_of_ble_eq_true rfl) (fun G g => ?_)
  have g : am_Gd (EX D a ad) RX2 cX2_hasBegun 4 (some .boolean) 4 G := g
  unfold fX2_hasBegun
  refine am_iconst g dX2_hasBegun_0 (am_il rfl) rfl ?_
  refine am_istore_n g dX2_hasBegun_1 (by decide) ?_
  exact (jX2_hasBegun_2 g) d hd a1 0 h
def fX2_opponent_38 (K43 : Nat → Int → Int → Int → Int → Int → am_M → Option (Int × am_M)) (l0 : Nat) (l1 : Int) (l2 : Int) (l3 : Int) (l4 : Int) (h : am_M) : Option (Int × am_M) := K43 l0 l1 l2 l3 l4 1 h
set_option maxRecDepth 10000 in
theorem jX2_opponent_38 {D : va_G} {a : Nat → ClassId} {ad : Nat → Nat} {G : am_G} (g : am_Gd (EX D a ad) RX2 cX2_opponent 7 (some .int) 4 G) {K43 : Nat → Int → Int → Int → Int → Int → am_M → Option (Int × am_M)} (hK43 : ∀ (l0 : Nat), l0 < 4 → ∀ (l1 : Int), ∀ (l2 : Int), ∀ (l3 : Int), ∀ (l4 : Int), ∀ (s0 : Int), ∀ h : am_M, am_J (EX D a ad) G 7 am_ei 43 [some (.inr (some (10 + l0))), some (.inl l1), some (.inl l2), some (.inl l3), some (.inl l4), none, none] [.inl s0] h (K43 l0 l1 l2 l3 l4 s0 h)) : ∀ (l0 : Nat), l0 < 4 → ∀ (l1 : Int), ∀ (l2 : Int), ∀ (l3 : Int), ∀ (l4 : Int), ∀ h : am_M, am_J (EX D a ad) G 7 am_ei 38 [some (.inr (some (10 + l0))), some (.inl l1), some (.inl l2), some (.inl l3), some (.inl l4), none, none] [] h (fX2_opponent_38 K43 l0 l1 l2 l3 l4 h) := by
  intro l0 hl0 l1 l2 l3 l4 h
  unfold fX2_opponent_38
  refine am_iconst g dX2_opponent_38 (am_il rfl) rfl ?_
  refine am_goto (tgt := 43) g dX2_opponent_39 (by decide) ?_
  exact hK43 l0 hl0 l1 l2 l3 l4 1 h
def fX2_opponent_90 (K5 : Nat → Int → Int → Int → Int → am_M → Option (Int × am_M)) (l0 : Nat) (l1 : Int) (l2 : Int) (l3 : Int) (l4 : Int) (h : am_M) : Option (Int × am_M) := K5 l0 l1 l2 l3 (am_w (l4 + 1)) h
set_option maxRecDepth 10000 in
theorem jX2_opponent_90 {D : va_G} {a : Nat → ClassId} {ad : Nat → Nat} {G : am_G} (g : am_Gd (EX D a ad) RX2 cX2_opponent 7 (some .int) 4 G) {K5 : Nat → Int → Int → Int → Int → am_M → Option (Int × am_M)} (hK5 : ∀ (l0 : Nat), l0 < 4 → ∀ (l1 : Int), ∀ (l2 : Int), ∀ (l3 : Int), ∀ (l4 : Int), ∀ h : am_M, am_J (EX D a ad) G 7 am_ei 5 [some (.inr (some (10 + l0))), some (.inl l1), some (.inl l2), some (.inl l3), some (.inl l4), none, none] [] h (K5 l0 l1 l2 l3 l4 h)) : ∀ (l0 : Nat), l0 < 4 → ∀ (l1 : Int), ∀ (l2 : Int), ∀ (l3 : Int), ∀ (l4 : Int), ∀ h : am_M, am_J (EX D a ad) G 7 am_ei 90 [some (.inr (some (10 + l0))), some (.inl l1), some (.inl l2), some (.inl l3), some (.inl l4), none, none] [] h (fX2_opponent_90 K5 l0 l1 l2 l3 l4 h) := by
  intro l0 hl0 l1 l2 l3 l4 h
  unfold fX2_opponent_90
  refine am_iinc g dX2_opponent_90 (by decide) rfl ?_
  refine am_goto (tgt := 5) g dX2_opponent_93 (by decide) ?_
  exact hK5 l0 hl0 l1 l2 l3 (am_w (l4 + 1)) h
def fX2_opponent_76 (l0 : Nat) (l4 : Int) (l6 : Int) (h : am_M) : Option (Int × am_M) := am_b (fX2_standing l0 l4 (am_w (1 - l6)) h) (fun v1 h2 => some (v1, h2))
set_option maxRecDepth 10000 in
theorem jX2_opponent_76 {D : va_G} {a : Nat → ClassId} {ad : Nat → Nat} {G : am_G} (g : am_Gd (EX D a ad) RX2 cX2_opponent 7 (some .int) 4 G) : ∀ (l0 : Nat), l0 < 4 → ∀ (l4 : Int), ∀ (l6 : Int), ∀ h : am_M, am_J (EX D a ad) G 7 am_ei 76 [some (.inr (some (10 + l0))), none, none, none, some (.inl l4), none, some (.inl l6)] [] h (fX2_opponent_76 l0 l4 l6 h) := by
  intro l0 hl0 l4 l6 h
  unfold fX2_opponent_76
  refine am_aload_n g dX2_opponent_76 rfl ?_
  refine am_iload g dX2_opponent_77 rfl ?_
  refine am_iconst g dX2_opponent_79 (am_il rfl) rfl ?_
  refine am_iload g dX2_opponent_80 rfl ?_
  refine am_isub g dX2_opponent_82 ?_
  refine am_Vi (as := [.inl l4, .inl (am_w (1 - l6))]) (S := []) g (cX2_standingC l0 hl0 l4 (am_w (1 - l6)) h) mi_X2_standing lm_X2_69 clX2.1 (Nat.lt_of_lt_of_le (Nat.add_lt_add_left hl0 10) (Nat.le_of_ble_eq_true rfl)) (sh_X2 l0 hl0) dX2_opponent_83 rfl (by decide) (Nat.le_of_ble_eq_true rfl) rfl (fun v1 h2 => ?_)
  exact am_ireturn g dX2_opponent_86
def fX2_opponent_61 (K5 : Nat → Int → Int → Int → Int → am_M → Option (Int × am_M)) (l0 : Nat) (l1 : Int) (l2 : Int) (l3 : Int) (l4 : Int) (s0 : Int) (h : am_M) : Option (Int × am_M) := if s0 < 0 then (fX2_opponent_90 K5) l0 l1 l2 l3 l4 h else if l3 = l2 then fX2_opponent_76 l0 l4 s0 h else (fX2_opponent_90 K5) l0 l1 l2 (am_w (l3 + 1)) l4 h
set_option maxRecDepth 10000 in
theorem jX2_opponent_61 {D : va_G} {a : Nat → ClassId} {ad : Nat → Nat} {G : am_G} (g : am_Gd (EX D a ad) RX2 cX2_opponent 7 (some .int) 4 G) {K5 : Nat → Int → Int → Int → Int → am_M → Option (Int × am_M)} (hK5 : ∀ (l0 : Nat), l0 < 4 → ∀ (l1 : Int), ∀ (l2 : Int), ∀ (l3 : Int), ∀ (l4 : Int), ∀ h : am_M, am_J (EX D a ad) G 7 am_ei 5 [some (.inr (some (10 + l0))), some (.inl l1), some (.inl l2), some (.inl l3), some (.inl l4), none, none] [] h (K5 l0 l1 l2 l3 l4 h)) : ∀ (l0 : Nat), l0 < 4 → ∀ (l1 : Int), ∀ (l2 : Int), ∀ (l3 : Int), ∀ (l4 : Int), ∀ (s0 : Int), ∀ h : am_M, am_J (EX D a ad) G 7 am_ei 61 [some (.inr (some (10 + l0))), some (.inl l1), some (.inl l2), some (.inl l3), some (.inl l4), none, none] [.inl s0] h (fX2_opponent_61 K5 l0 l1 l2 l3 l4 s0 h) := by
  intro l0 hl0 l1 l2 l3 l4 s0 h
  unfold fX2_opponent_61
  refine am_istore g dX2_opponent_61 (by decide) ?_
  refine am_iload g dX2_opponent_63 rfl ?_
  refine am_if_ge (tgt := 71) g dX2_opponent_65 (by decide) ?_ ?_
  · refine am_iload_n g dX2_opponent_71 rfl ?_
    refine am_iload_n g dX2_opponent_72 rfl ?_
    refine am_icmp_ne (tgt := 87) g dX2_opponent_73 (by decide) ?_ ?_
    · refine am_iinc g dX2_opponent_87 (by decide) rfl ?_
      refine am_drop 6 ?_
      exact (jX2_opponent_90 g hK5) l0 hl0 l1 l2 (am_w (l3 + 1)) l4 h
    · refine am_drop 1 ?_
      refine am_drop 2 ?_
      refine am_drop 3 ?_
      exact (jX2_opponent_76 g) l0 hl0 l4 s0 h
  · refine am_goto (tgt := 90) g dX2_opponent_68 (by decide) ?_
    refine am_drop 6 ?_
    exact (jX2_opponent_90 g hK5) l0 hl0 l1 l2 l3 l4 h
def fX2_opponent_43 (K5 : Nat → Int → Int → Int → Int → am_M → Option (Int × am_M)) (l0 : Nat) (l1 : Int) (l2 : Int) (l3 : Int) (l4 : Int) (s0 : Int) (h : am_M) : Option (Int × am_M) := if s0 = 0 then (fX2_opponent_61 K5) l0 l1 l2 l3 l4 (-1) h else am_b (fX2_sideOf l0 l4 l1 h) (fun v3 h4 => (fX2_opponent_61 K5) l0 l1 l2 l3 l4 v3 h4)
set_option maxRecDepth 10000 in
theorem jX2_opponent_43 {D : va_G} {a : Nat → ClassId} {ad : Nat → Nat} {G : am_G} (g : am_Gd (EX D a ad) RX2 cX2_opponent 7 (some .int) 4 G) {K5 : Nat → Int → Int → Int → Int → am_M → Option (Int × am_M)} (hK5 : ∀ (l0 : Nat), l0 < 4 → ∀ (l1 : Int), ∀ (l2 : Int), ∀ (l3 : Int), ∀ (l4 : Int), ∀ h : am_M, am_J (EX D a ad) G 7 am_ei 5 [some (.inr (some (10 + l0))), some (.inl l1), some (.inl l2), some (.inl l3), some (.inl l4), none, none] [] h (K5 l0 l1 l2 l3 l4 h)) : ∀ (l0 : Nat), l0 < 4 → ∀ (l1 : Int), ∀ (l2 : Int), ∀ (l3 : Int), ∀ (l4 : Int), ∀ (s0 : Int), ∀ h : am_M, am_J (EX D a ad) G 7 am_ei 43 [some (.inr (some (10 + l0))), some (.inl l1), some (.inl l2), some (.inl l3), some (.inl l4), none, none] [.inl s0] h (fX2_opponent_43 K5 l0 l1 l2 l3 l4 s0 h) := by
  intro l0 hl0 l1 l2 l3 l4 s0 h
  unfold fX2_opponent_43
  refine am_istore g dX2_opponent_43 (by decide) ?_
  refine am_iload g dX2_opponent_45 rfl ?_
  refine am_if_eq (tgt := 60) g dX2_opponent_47 (by decide) ?_ ?_
  · refine am_iconst g dX2_opponent_60 (am_il rfl) rfl ?_
    refine am_drop 5 ?_
    exact (jX2_opponent_61 g hK5) l0 hl0 l1 l2 l3 l4 (-1) h
  · refine am_aload_n g dX2_opponent_50 rfl ?_
    refine am_iload g dX2_opponent_51 rfl ?_
    refine am_iload_n g dX2_opponent_53 rfl ?_
    refine am_Vi (as := [.inl l4, .inl l1]) (S := []) g (cX2_sideOfC l0 hl0 l4 l1 h) mi_X2_sideOf lm_X2_82 clX2.1 (Nat.lt_of_lt_of_le (Nat.add_lt_add_left hl0 10) (Nat.le_of_ble_eq_true rfl)) (sh_X2 l0 hl0) dX2_opponent_54 rfl (by decide) (Nat.le_of_ble_eq_true rfl) rfl (fun v3 h4 => ?_)
    refine am_goto (tgt := 61) g dX2_opponent_57 (by decide) ?_
    refine am_drop 5 ?_
    exact (jX2_opponent_61 g hK5) l0 hl0 l1 l2 l3 l4 v3 h4
def fX2_opponent_5b (K5 : Nat → Int → Int → Int → Int → am_M → Option (Int × am_M)) (l0 : Nat) (l1 : Int) (l2 : Int) (l3 : Int) (l4 : Int) (h : am_M) : Option (Int × am_M) := if l4 < (am_w ((h 1 l0) - 1)) then (if 0 ≤ l4 ∧ l4 < 16 then if (h 20 (16 * l0 + Int.toNat l4)) = 3 then (fX2_opponent_38 (fX2_opponent_43 K5)) l0 l1 l2 l3 l4 h else if 0 ≤ l4 ∧ l4 < 16 then if (h 20 (16 * l0 + Int.toNat l4)) = 5 then (fX2_opponent_38 (fX2_opponent_43 K5)) l0 l1 l2 l3 l4 h else (fX2_opponent_43 K5) l0 l1 l2 l3 l4 0 h else none else none) else some ((-1), h)
def fX2_opponent_5 : Nat → Int → Int → Int → Int → am_M → Option (Int × am_M) := am_it (fun _ _ _ _ _ _ => none) (fX2_opponent_5b) 400
set_option maxRecDepth 10000 in
theorem jX2_opponent_5b {D : va_G} {a : Nat → ClassId} {ad : Nat → Nat} {G : am_G} (g : am_Gd (EX D a ad) RX2 cX2_opponent 7 (some .int) 4 G) {K5 : Nat → Int → Int → Int → Int → am_M → Option (Int × am_M)} (hK5 : ∀ (l0 : Nat), l0 < 4 → ∀ (l1 : Int), ∀ (l2 : Int), ∀ (l3 : Int), ∀ (l4 : Int), ∀ h : am_M, am_J (EX D a ad) G 7 am_ei 5 [some (.inr (some (10 + l0))), some (.inl l1), some (.inl l2), some (.inl l3), some (.inl l4), none, none] [] h (K5 l0 l1 l2 l3 l4 h)) : ∀ (l0 : Nat), l0 < 4 → ∀ (l1 : Int), ∀ (l2 : Int), ∀ (l3 : Int), ∀ (l4 : Int), ∀ h : am_M, am_J (EX D a ad) G 7 am_ei 5 [some (.inr (some (10 + l0))), some (.inl l1), some (.inl l2), some (.inl l3), some (.inl l4), none, none] [] h (fX2_opponent_5b K5 l0 l1 l2 l3 l4 h) := by
  intro l0 hl0 l1 l2 l3 l4 h
  unfold fX2_opponent_5b
  refine am_iload g dX2_opponent_5 rfl ?_
  refine am_aload_n g dX2_opponent_7 rfl ?_
  refine am_geti (q := 8) (kd := 1) (ix := l0) g clX2 dX2_opponent_8 (Nat.lt_of_lt_of_le (Nat.add_lt_add_left hl0 10) (Nat.le_of_ble_eq_true rfl)) (sh_X2 l0 hl0) (by decide) rfl lf_X2_37 ?_
  refine am_iconst g dX2_opponent_11 (am_il rfl) rfl ?_
  refine am_isub g dX2_opponent_12 ?_
  refine am_icmp_ge (tgt := 96) g dX2_opponent_13 (by decide) ?_ ?_
  · refine am_iconst g dX2_opponent_96 (am_il rfl) rfl ?_
    exact am_ireturn g dX2_opponent_97
  · refine am_aload_n g dX2_opponent_16 rfl ?_
    refine am_getr (q := 3) (a := 26 + l0) g clX2 dX2_opponent_17 (Nat.lt_of_lt_of_le (Nat.add_lt_add_left hl0 10) (Nat.le_of_ble_eq_true rfl)) (sh_X2 l0 hl0) (by decide) rfl (Nat.lt_of_lt_of_le (Nat.add_lt_add_left hl0 26) (Nat.le_of_ble_eq_true rfl)) lf_X2_22 ?_
    refine am_iload g dX2_opponent_20 rfl ?_
    refine am_iaload (ix := 16 * l0 + Int.toNat l4) (nI := 16) g dX2_opponent_22 (Nat.lt_of_lt_of_le (Nat.add_lt_add_left hl0 26) (Nat.le_of_ble_eq_true rfl)) (sh_X2_hows l0 hl0) rfl rfl ?_
    refine am_iconst g dX2_opponent_23 (am_il rfl) rfl ?_
    refine am_icmp_eq (tgt := 38) g dX2_opponent_24 (by decide) ?_ ?_
    · exact (jX2_opponent_38 g (jX2_opponent_43 g hK5)) l0 hl0 l1 l2 l3 l4 h
    · refine am_aload_n g dX2_opponent_27 rfl ?_
      refine am_getr (q := 3) (a := 26 + l0) g clX2 dX2_opponent_28 (Nat.lt_of_lt_of_le (Nat.add_lt_add_left hl0 10) (Nat.le_of_ble_eq_true rfl)) (sh_X2 l0 hl0) (by decide) rfl (Nat.lt_of_lt_of_le (Nat.add_lt_add_left hl0 26) (Nat.le_of_ble_eq_true rfl)) lf_X2_22 ?_
      refine am_iload g dX2_opponent_31 rfl ?_
      refine am_iaload (ix := 16 * l0 + Int.toNat l4) (nI := 16) g dX2_opponent_33 (Nat.lt_of_lt_of_le (Nat.add_lt_add_left hl0 26) (Nat.le_of_ble_eq_true rfl)) (sh_X2_hows l0 hl0) rfl rfl ?_
      refine am_iconst g dX2_opponent_34 (am_il rfl) rfl ?_
      refine am_icmp_ne (tgt := 42) g dX2_opponent_35 (by decide) ?_ ?_
      · refine am_iconst g dX2_opponent_42 (am_il rfl) rfl ?_
        exact (jX2_opponent_43 g hK5) l0 hl0 l1 l2 l3 l4 0 h
      · exact (jX2_opponent_38 g (jX2_opponent_43 g hK5)) l0 hl0 l1 l2 l3 l4 h
theorem jX2_opponent_5 {D : va_G} {a : Nat → ClassId} {ad : Nat → Nat} {G : am_G} (g : am_Gd (EX D a ad) RX2 cX2_opponent 7 (some .int) 4 G) : ∀ (l0 : Nat), l0 < 4 → ∀ (l1 : Int), ∀ (l2 : Int), ∀ (l3 : Int), ∀ (l4 : Int), ∀ h : am_M, am_J (EX D a ad) G 7 am_ei 5 [some (.inr (some (10 + l0))), some (.inl l1), some (.inl l2), some (.inl l3), some (.inl l4), none, none] [] h (fX2_opponent_5 l0 l1 l2 l3 l4 h) := by
  unfold fX2_opponent_5
  generalize 400 = n
  induction n with
  | zero => intro l0 hl0 l1 l2 l3 l4 h; exact am_jn
  | succ n ih => exact jX2_opponent_5b g ih
def fX2_opponent (d : Nat) (a1 : Int) (a2 : Int) (h : am_M) : Option (Int × am_M) := fX2_opponent_5 d a1 a2 0 0 h
set_option maxRecDepth 10000 in
theorem cX2_opponentC {D : va_G} {a : Nat → ClassId} {ad : Nat → Nat} (d : Nat) (hd : d < 4) (a1 : Int) (a2 : Int) (h : am_M) : am_C (EX D a ad) yX2_opponent cX2_opponent 7 (some .int) 4 [.inr (some (10 + d)), .inl a1, .inl a2] h am_ei (fX2_opponent d a1 a2 h) := by
  refine am_ofJ (L := [some (.inr (some (10 + d))), some (.inl a1), some (.inl a2), none, none, none, none]) (by decide) rfl (Nat.le_of_ble_eq_true rfl) (fun G g => ?_)
  have g : am_Gd (EX D a ad) RX2 cX2_opponent 7 (some .int) 4 G := g
  unfold fX2_opponent
  refine am_iconst g dX2_opponent_0 (am_il rfl) rfl ?_
  refine am_istore_n g dX2_opponent_1 (by decide) ?_
  refine am_iconst g dX2_opponent_2 (am_il rfl) rfl ?_
  refine am_istore g dX2_opponent_3 (by decide) ?_
  exact (jX2_opponent_5 g) d hd a1 a2 0 0 h
def fX2_commonRound_2b (K2 : Int → Int → Int → am_M → Option (Int × am_M)) (l1 : Int) (l2 : Int) (l3 : Int) (h : am_M) : Option (Int × am_M) := if l3 < 4 then (if (am_shr l1 (am_w (l3 + 1))) = (am_shr l2 (am_w (l3 + 1))) then some (l3, h) else K2 l1 l2 (am_w (l3 + 1)) h) else some (l3, h)
def fX2_commonRound_2 : Int → Int → Int → am_M → Option (Int × am_M) := am_it (fun _ _ _ _ => none) (fX2_commonRound_2b) 400
set_option maxRecDepth 10000 in
theorem jX2_commonRound_2b {D : va_G} {a : Nat → ClassId} {ad : Nat → Nat} {G : am_G} (g : am_Gd (EX D a ad) RX2 cX2_commonRound 4 (some .int) 1 G) {K2 : Int → Int → Int → am_M → Option (Int × am_M)} (hK2 : ∀ (l1 : Int), ∀ (l2 : Int), ∀ (l3 : Int), ∀ h : am_M, am_J (EX D a ad) G 4 am_ei 2 [none, some (.inl l1), some (.inl l2), some (.inl l3)] [] h (K2 l1 l2 l3 h)) : ∀ (l1 : Int), ∀ (l2 : Int), ∀ (l3 : Int), ∀ h : am_M, am_J (EX D a ad) G 4 am_ei 2 [none, some (.inl l1), some (.inl l2), some (.inl l3)] [] h (fX2_commonRound_2b K2 l1 l2 l3 h) := by
  intro l1 l2 l3 h
  unfold fX2_commonRound_2b
  refine am_iload_n g dX2_commonRound_2 rfl ?_
  refine am_iconst g dX2_commonRound_3 (am_il rfl) rfl ?_
  refine am_icmp_ge (tgt := 26) g dX2_commonRound_4 (by decide) ?_ ?_
  · refine am_iload_n g dX2_commonRound_26 rfl ?_
    exact am_ireturn g dX2_commonRound_27
  · refine am_iload_n g dX2_commonRound_7 rfl ?_
    refine am_iload_n g dX2_commonRound_8 rfl ?_
    refine am_iconst g dX2_commonRound_9 (am_il rfl) rfl ?_
    refine am_iadd g dX2_commonRound_10 ?_
    refine am_ishr g dX2_commonRound_11 ?_
    refine am_iload_n g dX2_commonRound_12 rfl ?_
    refine am_iload_n g dX2_commonRound_13 rfl ?_
    refine am_iconst g dX2_commonRound_14 (am_il rfl) rfl ?_
    refine am_iadd g dX2_commonRound_15 ?_
    refine am_ishr g dX2_commonRound_16 ?_
    refine am_icmp_eq (tgt := 26) g dX2_commonRound_17 (by decide) ?_ ?_
    · refine am_iload_n g dX2_commonRound_26 rfl ?_
      exact am_ireturn g dX2_commonRound_27
    · refine am_iinc g dX2_commonRound_20 (by decide) rfl ?_
      refine am_goto (tgt := 2) g dX2_commonRound_23 (by decide) ?_
      exact hK2 l1 l2 (am_w (l3 + 1)) h
theorem jX2_commonRound_2 {D : va_G} {a : Nat → ClassId} {ad : Nat → Nat} {G : am_G} (g : am_Gd (EX D a ad) RX2 cX2_commonRound 4 (some .int) 1 G) : ∀ (l1 : Int), ∀ (l2 : Int), ∀ (l3 : Int), ∀ h : am_M, am_J (EX D a ad) G 4 am_ei 2 [none, some (.inl l1), some (.inl l2), some (.inl l3)] [] h (fX2_commonRound_2 l1 l2 l3 h) := by
  unfold fX2_commonRound_2
  generalize 400 = n
  induction n with
  | zero => intro l1 l2 l3 h; exact am_jn
  | succ n ih => exact jX2_commonRound_2b g ih
def fX2_commonRound (d : Nat) (a1 : Int) (a2 : Int) (h : am_M) : Option (Int × am_M) := fX2_commonRound_2 a1 a2 0 h
set_option maxRecDepth 10000 in
theorem cX2_commonRoundC {D : va_G} {a : Nat → ClassId} {ad : Nat → Nat} (d : Nat) (hd : d < 4) (a1 : Int) (a2 : Int) (h : am_M) : am_C (EX D a ad) yX2_commonRound cX2_commonRound 4 (some .int) 1 [.inr (some (10 + d)), .inl a1, .inl a2] h am_ei (fX2_commonRound d a1 a2 h) := by
  refine am_ofJ (L := [some (.inr (some (10 + d))), some (.inl a1), some (.inl a2), none]) (by decide) rfl (Nat.le_of_ble_eq_true rfl) (fun G g => ?_)
  have g : am_Gd (EX D a ad) RX2 cX2_commonRound 4 (some .int) 1 G := g
  unfold fX2_commonRound
  refine am_iconst g dX2_commonRound_0 (am_il rfl) rfl ?_
  refine am_istore_n g dX2_commonRound_1 (by decide) ?_
  refine am_drop 0 ?_
  exact (jX2_commonRound_2 g) a1 a2 0 h
def fX2_isOutAhead_39 (K2 : Nat → Int → Int → Int → am_M → Option (Int × am_M)) (l0 : Nat) (l1 : Int) (l2 : Int) (l3 : Int) (h : am_M) : Option (Int × am_M) := K2 l0 l1 l2 (am_w (l3 + 1)) h
set_option maxRecDepth 10000 in
theorem jX2_isOutAhead_39 {D : va_G} {a : Nat → ClassId} {ad : Nat → Nat} {G : am_G} (g : am_Gd (EX D a ad) RX2 cX2_isOutAhead 4 (some .boolean) 3 G) {K2 : Nat → Int → Int → Int → am_M → Option (Int × am_M)} (hK2 : ∀ (l0 : Nat), l0 < 4 → ∀ (l1 : Int), ∀ (l2 : Int), ∀ (l3 : Int), ∀ h : am_M, am_J (EX D a ad) G 4 am_ei 2 [some (.inr (some (10 + l0))), some (.inl l1), some (.inl l2), some (.inl l3)] [] h (K2 l0 l1 l2 l3 h)) : ∀ (l0 : Nat), l0 < 4 → ∀ (l1 : Int), ∀ (l2 : Int), ∀ (l3 : Int), ∀ h : am_M, am_J (EX D a ad) G 4 am_ei 39 [some (.inr (some (10 + l0))), some (.inl l1), some (.inl l2), some (.inl l3)] [] h (fX2_isOutAhead_39 K2 l0 l1 l2 l3 h) := by
  intro l0 hl0 l1 l2 l3 h
  unfold fX2_isOutAhead_39
  refine am_iinc g dX2_isOutAhead_39 (by decide) rfl ?_
  refine am_goto (tgt := 2) g dX2_isOutAhead_42 (by decide) ?_
  exact hK2 l0 hl0 l1 l2 (am_w (l3 + 1)) h
def fX2_isOutAhead_2b (K2 : Nat → Int → Int → Int → am_M → Option (Int × am_M)) (l0 : Nat) (l1 : Int) (l2 : Int) (l3 : Int) (h : am_M) : Option (Int × am_M) := am_b (fX2_firstOf l0 l2 h) (fun v1 h2 => if l3 < v1 then (if 0 ≤ l3 ∧ l3 < 16 then if (h2 20 (16 * l0 + Int.toNat l3)) = 0 then (fX2_isOutAhead_39 K2) l0 l1 l2 l3 h2 else if 0 ≤ l3 ∧ l3 < 16 then am_b (fX2_standing l0 l3 (am_w (1 - (h2 21 (16 * l0 + Int.toNat l3)))) h2) (fun v3 h4 => if v3 = l1 then some (1, h4) else (fX2_isOutAhead_39 K2) l0 l1 l2 l3 h4) else none else none) else some (0, h2))
def fX2_isOutAhead_2 : Nat → Int → Int → Int → am_M → Option (Int × am_M) := am_it (fun _ _ _ _ _ => none) (fX2_isOutAhead_2b) 400
set_option maxRecDepth 10000 in
theorem jX2_isOutAhead_2b {D : va_G} {a : Nat → ClassId} {ad : Nat → Nat} {G : am_G} (g : am_Gd (EX D a ad) RX2 cX2_isOutAhead 4 (some .boolean) 3 G) {K2 : Nat → Int → Int → Int → am_M → Option (Int × am_M)} (hK2 : ∀ (l0 : Nat), l0 < 4 → ∀ (l1 : Int), ∀ (l2 : Int), ∀ (l3 : Int), ∀ h : am_M, am_J (EX D a ad) G 4 am_ei 2 [some (.inr (some (10 + l0))), some (.inl l1), some (.inl l2), some (.inl l3)] [] h (K2 l0 l1 l2 l3 h)) : ∀ (l0 : Nat), l0 < 4 → ∀ (l1 : Int), ∀ (l2 : Int), ∀ (l3 : Int), ∀ h : am_M, am_J (EX D a ad) G 4 am_ei 2 [some (.inr (some (10 + l0))), some (.inl l1), some (.inl l2), some (.inl l3)] [] h (fX2_isOutAhead_2b K2 l0 l1 l2 l3 h) := by
  intro l0 hl0 l1 l2 l3 h
  unfold fX2_isOutAhead_2b
  refine am_iload_n g dX2_isOutAhead_2 rfl ?_
  refine am_aload_n g dX2_isOutAhead_3 rfl ?_
  refine am_iload_n g dX2_isOutAhead_4 rfl ?_
  refine am_Vi (as := [.inl l2]) (S := [.inl l3]) g (cX2_firstOfC l0 hl0 l2 h) mi_X2_firstOf lm_X2_76 clX2.1 (Nat.lt_of_lt_of_le (Nat.add_lt_add_left hl0 10) (Nat.le_of_ble_eq_true rfl)) (sh_X2 l0 hl0) dX2_isOutAhead_5 rfl (by decide) (Nat.le_of_ble_eq_true rfl) rfl (fun v1 h2 => ?_)
  refine am_icmp_ge (tgt := 45) g dX2_isOutAhead_8 (by decide) ?_ ?_
  · refine am_iconst g dX2_isOutAhead_45 (am_il rfl) rfl ?_
    exact am_zreturn g dX2_isOutAhead_46 (by decide)
  · refine am_aload_n g dX2_isOutAhead_11 rfl ?_
    refine am_getr (q := 3) (a := 26 + l0) g clX2 dX2_isOutAhead_12 (Nat.lt_of_lt_of_le (Nat.add_lt_add_left hl0 10) (Nat.le_of_ble_eq_true rfl)) (sh_X2 l0 hl0) (by decide) rfl (Nat.lt_of_lt_of_le (Nat.add_lt_add_left hl0 26) (Nat.le_of_ble_eq_true rfl)) lf_X2_22 ?_
    refine am_iload_n g dX2_isOutAhead_15 rfl ?_
    refine am_iaload (ix := 16 * l0 + Int.toNat l3) (nI := 16) g dX2_isOutAhead_16 (Nat.lt_of_lt_of_le (Nat.add_lt_add_left hl0 26) (Nat.le_of_ble_eq_true rfl)) (sh_X2_hows l0 hl0) rfl rfl ?_
    refine am_if_eq (tgt := 39) g dX2_isOutAhead_17 (by decide) ?_ ?_
    · exact (jX2_isOutAhead_39 g hK2) l0 hl0 l1 l2 l3 h2
    · refine am_aload_n g dX2_isOutAhead_20 rfl ?_
      refine am_iload_n g dX2_isOutAhead_21 rfl ?_
      refine am_iconst g dX2_isOutAhead_22 (am_il rfl) rfl ?_
      refine am_aload_n g dX2_isOutAhead_23 rfl ?_
      refine am_getr (q := 4) (a := 30 + l0) g clX2 dX2_isOutAhead_24 (Nat.lt_of_lt_of_le (Nat.add_lt_add_left hl0 10) (Nat.le_of_ble_eq_true rfl)) (sh_X2 l0 hl0) (by decide) rfl (Nat.lt_of_lt_of_le (Nat.add_lt_add_left hl0 30) (Nat.le_of_ble_eq_true rfl)) lf_X2_25 ?_
      refine am_iload_n g dX2_isOutAhead_27 rfl ?_
      refine am_iaload (ix := 16 * l0 + Int.toNat l3) (nI := 16) g dX2_isOutAhead_28 (Nat.lt_of_lt_of_le (Nat.add_lt_add_left hl0 30) (Nat.le_of_ble_eq_true rfl)) (sh_X2_winners l0 hl0) rfl rfl ?_
      refine am_isub g dX2_isOutAhead_29 ?_
      refine am_Vi (as := [.inl l3, .inl (am_w (1 - (h2 21 (16 * l0 + Int.toNat l3))))]) (S := []) g (cX2_standingC l0 hl0 l3 (am_w (1 - (h2 21 (16 * l0 + Int.toNat l3)))) h2) mi_X2_standing lm_X2_69 clX2.1 (Nat.lt_of_lt_of_le (Nat.add_lt_add_left hl0 10) (Nat.le_of_ble_eq_true rfl)) (sh_X2 l0 hl0) dX2_isOutAhead_30 rfl (by decide) (Nat.le_of_ble_eq_true rfl) rfl (fun v3 h4 => ?_)
      refine am_iload_n g dX2_isOutAhead_33 rfl ?_
      refine am_icmp_ne (tgt := 39) g dX2_isOutAhead_34 (by decide) ?_ ?_
      · exact (jX2_isOutAhead_39 g hK2) l0 hl0 l1 l2 l3 h4
      · refine am_iconst g dX2_isOutAhead_37 (am_il rfl) rfl ?_
        exact am_zreturn g dX2_isOutAhead_38 (by decide)
theorem jX2_isOutAhead_2 {D : va_G} {a : Nat → ClassId} {ad : Nat → Nat} {G : am_G} (g : am_Gd (EX D a ad) RX2 cX2_isOutAhead 4 (some .boolean) 3 G) : ∀ (l0 : Nat), l0 < 4 → ∀ (l1 : Int), ∀ (l2 : Int), ∀ (l3 : Int), ∀ h : am_M, am_J (EX D a ad) G 4 am_ei 2 [some (.inr (some (10 + l0))), some (.inl l1), some (.inl l2), some (.inl l3)] [] h (fX2_isOutAhead_2 l0 l1 l2 l3 h) := by
  unfold fX2_isOutAhead_2
  generalize 400 = n
  induction n with
  | zero => intro l0 hl0 l1 l2 l3 h; exact am_jn
  | succ n ih => exact jX2_isOutAhead_2b g ih
def fX2_isOutAhead (d : Nat) (a1 : Int) (a2 : Int) (h : am_M) : Option (Int × am_M) := fX2_isOutAhead_2 d a1 a2 0 h
set_option maxRecDepth 10000 in
theorem cX2_isOutAheadC {D : va_G} {a : Nat → ClassId} {ad : Nat → Nat} (d : Nat) (hd : d < 4) (a1 : Int) (a2 : Int) (h : am_M) : am_C (EX D a ad) yX2_isOutAhead cX2_isOutAhead 4 (some .boolean) 3 [.inr (some (10 + d)), .inl a1, .inl a2] h am_ei (fX2_isOutAhead d a1 a2 h) := by
  refine am_ofJ (L := [some (.inr (some (10 + d))), some (.inl a1), some (.inl a2), none]) (by decide) rfl (Nat.le_of_ble_eq_true rfl) (fun G g => ?_)
  have g : am_Gd (EX D a ad) RX2 cX2_isOutAhead 4 (some .boolean) 3 G := g
  unfold fX2_isOutAhead
  refine am_iconst g dX2_isOutAhead_0 (am_il rfl) rfl ?_
  refine am_istore_n g dX2_isOutAhead_1 (by decide) ?_
  exact (jX2_isOutAhead_2 g) d hd a1 a2 0 h
def fX3_playerOf (a2 : Int) (a3 : Int) (h : am_M) : Option (Int × am_M) := am_b (fX0_laidWith a2 h) (fun v1 h2 => am_on v1 10 4 (some ((-2), h2)) (fun d3 => am_b (fX8_numberOf a2 h2) (fun v4 h5 => am_b (fX2_standing d3 v4 a3 h5) (fun v6 h7 => some (v6, h7)))))
set_option maxRecDepth 10000 in
theorem cX3_playerOfC {D : va_G} {a : Nat → ClassId} {ad : Nat → Nat} (a2 : Int) (a3 : Int) (h : am_M) : am_C (EX D a ad) yX3_playerOf cX3_playerOf 4 (some .int) 3 [.inr (some 1), .inl a2, .inl a3] h am_ei (fX3_playerOf a2 a3 h) := by
  refine am_ofJ (L := [some (.inr (some 1)), some (.inl a2), some (.inl a3), none]) (by decide) rfl (Nat.le_of_ble_eq_true rfl) (fun G g => ?_)
  have g : am_Gd (EX D a ad) RX3 cX3_playerOf 4 (some .int) 3 G := g
  unfold fX3_playerOf
  refine am_aload_n g dX3_playerOf_0 rfl ?_
  refine am_iload_n g dX3_playerOf_1 rfl ?_
  refine am_Vr (as := [.inl a2]) (S := []) g (cX0_laidWithC a2 h) mi_X0_laidWith lm_X3_81 clX0.1 (Nat.le_of_ble_eq_true rfl) rfl dX3_playerOf_2 rfl (by decide) (Nat.le_of_ble_eq_true rfl) rfl (fun v1 h2 => ?_)
  refine am_astore_n g dX3_playerOf_5 (by decide) ?_
  refine am_aload_n g dX3_playerOf_6 rfl ?_
  refine am_iononnull (b := 10) (n := 4) (Lf := fun r_ => [some (.inr (some 1)), some (.inl a2), some (.inl a3), some (.inr r_)]) (tgt := 15) g dX3_playerOf_7 (by decide) (fun d3 hd3 => ?_) ?_
  · refine am_aload_n g dX3_playerOf_15 rfl ?_
    refine am_iload_n g dX3_playerOf_16 rfl ?_
    refine am_SNi (as := [.inl a2]) (S := [.inr (some (10 + d3))]) g (cX8_numberOfC a2 h2) mi_X8_numberOf ln_X3_85 dX3_playerOf_17 rfl (by decide) (Nat.le_of_ble_eq_true rfl) rfl (fun v4 h5 => ?_)
    refine am_iload_n g dX3_playerOf_20 rfl ?_
    refine am_Vi (as := [.inl v4, .inl a3]) (S := []) g (cX2_standingC d3 hd3 v4 a3 h5) mi_X2_standing lm_X3_89 clX2.1 (Nat.lt_of_lt_of_le (Nat.add_lt_add_left hd3 10) (Nat.le_of_ble_eq_true rfl)) (sh_X2 d3 hd3) dX3_playerOf_21 rfl (by decide) (Nat.le_of_ble_eq_true rfl) rfl (fun v6 h7 => ?_)
    exact am_ireturn g dX3_playerOf_24
  · refine am_bipush g dX3_playerOf_10 (am_il rfl) (am_bi rfl) ?_
    refine am_goto (tgt := 24) g dX3_playerOf_12 (by decide) ?_
    exact am_ireturn g dX3_playerOf_24
def fX8_isPlayer (a1 : Int) (h : am_M) : Option (Int × am_M) := if a1 < 0 then some (0, h) else if a1 < 40 then some (1, h) else some (0, h)
set_option maxRecDepth 10000 in
theorem cX8_isPlayerC {D : va_G} {a : Nat → ClassId} {ad : Nat → Nat} (a1 : Int) (h : am_M) : am_C (EX D a ad) yX8_isPlayer cX8_isPlayer 1 (some .boolean) 1 [.inl a1] h am_ei (fX8_isPlayer a1 h) := by
  refine am_ofJ (L := [some (.inl a1)]) (by decide) rfl (Nat.le_of_ble_eq_true rfl) (fun G g => ?_)
  have g : am_Gd (EX D a ad) RX8 cX8_isPlayer 1 (some .boolean) 1 G := g
  unfold fX8_isPlayer
  refine am_iload_n g dX8_isPlayer_0 rfl ?_
  refine am_if_lt (tgt := 14) g dX8_isPlayer_1 (by decide) ?_ ?_
  · refine am_iconst g dX8_isPlayer_14 (am_il rfl) rfl ?_
    exact am_zreturn g dX8_isPlayer_15 (by decide)
  · refine am_iload_n g dX8_isPlayer_4 rfl ?_
    refine am_bipush g dX8_isPlayer_5 (am_il rfl) (am_bi rfl) ?_
    refine am_icmp_ge (tgt := 14) g dX8_isPlayer_7 (by decide) ?_ ?_
    · refine am_iconst g dX8_isPlayer_14 (am_il rfl) rfl ?_
      exact am_zreturn g dX8_isPlayer_15 (by decide)
    · refine am_iconst g dX8_isPlayer_10 (am_il rfl) rfl ?_
      refine am_goto (tgt := 15) g dX8_isPlayer_11 (by decide) ?_
      exact am_zreturn g dX8_isPlayer_15 (by decide)
def fX3_occupy_31 (K2 : Int → Int → am_M → Option (Unit × am_M)) (l2 : Int) (l3 : Int) (h : am_M) : Option (Unit × am_M) := K2 l2 (am_w (l3 + 1)) h
set_option maxRecDepth 10000 in
theorem jX3_occupy_31 {D : va_G} {a : Nat → ClassId} {ad : Nat → Nat} {G : am_G} (g : am_Gd (EX D a ad) RX3 cX3_occupy 5 none 4 G) {K2 : Int → Int → am_M → Option (Unit × am_M)} (hK2 : ∀ (l2 : Int), ∀ (l3 : Int), ∀ h : am_M, am_J (EX D a ad) G 5 am_ev 2 [some (.inr (some 77)), some (.inr (some 1)), some (.inl l2), some (.inl l3), none] [] h (K2 l2 l3 h)) : ∀ (l2 : Int), ∀ (l3 : Int), ∀ h : am_M, am_J (EX D a ad) G 5 am_ev 31 [some (.inr (some 77)), some (.inr (some 1)), some (.inl l2), some (.inl l3), none] [] h (fX3_occupy_31 K2 l2 l3 h) := by
  intro l2 l3 h
  unfold fX3_occupy_31
  refine am_iinc g dX3_occupy_31 (by decide) rfl ?_
  refine am_goto (tgt := 2) g dX3_occupy_34 (by decide) ?_
  exact hK2 l2 (am_w (l3 + 1)) h
def fX3_occupy_2b (K2 : Int → Int → am_M → Option (Unit × am_M)) (l2 : Int) (l3 : Int) (h : am_M) : Option (Unit × am_M) := if l3 < 2 then (am_b (fX3_playerOf l2 l3 h) (fun v1 h2 => am_b (fX8_isPlayer v1 h2) (fun v3 h4 => if v3 = 0 then (fX3_occupy_31 K2) l2 l3 h4 else if 0 ≤ v1 ∧ v1 < 40 then am_l (am_up h4 49 (Int.toNat v1) 1) (fun h5 => (fX3_occupy_31 K2) l2 l3 h5) else none))) else some ((), h)
def fX3_occupy_2 : Int → Int → am_M → Option (Unit × am_M) := am_it (fun _ _ _ => none) (fX3_occupy_2b) 400
set_option maxRecDepth 10000 in
theorem jX3_occupy_2b {D : va_G} {a : Nat → ClassId} {ad : Nat → Nat} {G : am_G} (g : am_Gd (EX D a ad) RX3 cX3_occupy 5 none 4 G) {K2 : Int → Int → am_M → Option (Unit × am_M)} (hK2 : ∀ (l2 : Int), ∀ (l3 : Int), ∀ h : am_M, am_J (EX D a ad) G 5 am_ev 2 [some (.inr (some 77)), some (.inr (some 1)), some (.inl l2), some (.inl l3), none] [] h (K2 l2 l3 h)) : ∀ (l2 : Int), ∀ (l3 : Int), ∀ h : am_M, am_J (EX D a ad) G 5 am_ev 2 [some (.inr (some 77)), some (.inr (some 1)), some (.inl l2), some (.inl l3), none] [] h (fX3_occupy_2b K2 l2 l3 h) := by
  intro l2 l3 h
  unfold fX3_occupy_2b
  refine am_iload_n g dX3_occupy_2 rfl ?_
  refine am_iconst g dX3_occupy_3 (am_il rfl) rfl ?_
  refine am_icmp_ge (tgt := 37) g dX3_occupy_4 (by decide) ?_ ?_
  · exact am_vreturn g dX3_occupy_37
  · refine am_aload_n g dX3_occupy_7 rfl ?_
    refine am_iload_n g dX3_occupy_8 rfl ?_
    refine am_iload_n g dX3_occupy_9 rfl ?_
    refine am_Si (as := [.inr (some 1), .inl l2, .inl l3]) (S := []) g (cX3_playerOfC l2 l3 h) mi_X3_playerOf lm_X3_74 dX3_occupy_10 rfl (by decide) (Nat.le_of_ble_eq_true rfl) rfl (fun v1 h2 => ?_)
    refine am_istore g dX3_occupy_13 (by decide) ?_
    refine am_iload g dX3_occupy_15 rfl ?_
    refine am_SNi (as := [.inl v1]) (S := []) g (cX8_isPlayerC v1 h2) mi_X8_isPlayer ln_X3_77 dX3_occupy_17 rfl (by decide) (Nat.le_of_ble_eq_true rfl) rfl (fun v3 h4 => ?_)
    refine am_if_eq (tgt := 31) g dX3_occupy_20 (by decide) ?_ ?_
    · refine am_drop 4 ?_
      exact (jX3_occupy_31 g hK2) l2 l3 h4
    · refine am_aload_n g dX3_occupy_23 rfl ?_
      refine am_getr (q := 1) (a := 79) g clX3 dX3_occupy_24 (Nat.le_of_ble_eq_true rfl) rfl (by decide) rfl (Nat.le_of_ble_eq_true rfl) lf_X3_15 ?_
      refine am_iload g dX3_occupy_27 rfl ?_
      refine am_iconst g dX3_occupy_29 (am_il rfl) rfl ?_
      refine am_zastoreB (ix := Int.toNat v1) (nI := 40) g dX3_occupy_30 (Nat.le_of_ble_eq_true rfl) rfl rfl (Nat.zero_add _) (by decide) ?_
      refine am_gm (fun h5 => ?_)
      refine am_drop 4 ?_
      exact (jX3_occupy_31 g hK2) l2 l3 h5
theorem jX3_occupy_2 {D : va_G} {a : Nat → ClassId} {ad : Nat → Nat} {G : am_G} (g : am_Gd (EX D a ad) RX3 cX3_occupy 5 none 4 G) : ∀ (l2 : Int), ∀ (l3 : Int), ∀ h : am_M, am_J (EX D a ad) G 5 am_ev 2 [some (.inr (some 77)), some (.inr (some 1)), some (.inl l2), some (.inl l3), none] [] h (fX3_occupy_2 l2 l3 h) := by
  unfold fX3_occupy_2
  generalize 400 = n
  induction n with
  | zero => intro l2 l3 h; exact am_jn
  | succ n ih => exact jX3_occupy_2b g ih
def fX3_occupy (a2 : Int) (h : am_M) : Option (Unit × am_M) := fX3_occupy_2 a2 0 h
set_option maxRecDepth 10000 in
theorem cX3_occupyC {D : va_G} {a : Nat → ClassId} {ad : Nat → Nat} (a2 : Int) (h : am_M) : am_C (EX D a ad) yX3_occupy cX3_occupy 5 none 4 [.inr (some 77), .inr (some 1), .inl a2] h am_ev (fX3_occupy a2 h) := by
  refine am_ofJ (L := [some (.inr (some 77)), some (.inr (some 1)), some (.inl a2), none, none]) (by decide) rfl (Nat.le_of_ble_eq_true rfl) (fun G g => ?_)
  have g : am_Gd (EX D a ad) RX3 cX3_occupy 5 none 4 G := g
  unfold fX3_occupy
  refine am_iconst g dX3_occupy_0 (am_il rfl) rfl ?_
  refine am_istore_n g dX3_occupy_1 (by decide) ?_
  exact (jX3_occupy_2 g) a2 0 h
def fX6_note (d : Nat) (a1 : Int) (a2 : Int) (h : am_M) : Option (Unit × am_M) := am_b (fX8_isPlayer a1 h) (fun v1 h2 => if v1 = 0 then some ((), h2) else if 0 ≤ a1 ∧ a1 < 40 then if 0 ≤ a1 ∧ a1 < 40 then am_l (am_up h2 41 (40 * d + Int.toNat a1) (max (h2 41 (40 * d + Int.toNat a1)) a2)) (fun h3 => some ((), h3)) else none else none)
set_option maxRecDepth 10000 in
theorem cX6_noteC {D : va_G} {a : Nat → ClassId} {ad : Nat → Nat} (d : Nat) (hd : d < 3) (a1 : Int) (a2 : Int) (h : am_M) : am_C (EX D a ad) yX6_note cX6_note 3 none 2 [.inr (some (64 + d)), .inl a1, .inl a2] h am_ev (fX6_note d a1 a2 h) := by
  refine am_ofJ (L := [some (.inr (some (64 + d))), some (.inl a1), some (.inl a2)]) (by decide) rfl (Nat.le_of_ble_eq_true rfl) (fun G g => ?_)
  have g : am_Gd (EX D a ad) RX6 cX6_note 3 none 2 G := g
  unfold fX6_note
  refine am_iload_n g dX6_note_0 rfl ?_
  refine am_SNi (as := [.inl a1]) (S := []) g (cX8_isPlayerC a1 h) mi_X8_isPlayer ln_X6_38 dX6_note_1 rfl (by decide) (Nat.le_of_ble_eq_true rfl) rfl (fun v1 h2 => ?_)
  refine am_if_eq (tgt := 23) g dX6_note_4 (by decide) ?_ ?_
  · exact am_vreturn g dX6_note_23
  · refine am_aload_n g dX6_note_7 rfl ?_
    refine am_getr (q := 0) (a := 67 + d) g clX6 dX6_note_8 (Nat.lt_of_lt_of_le (Nat.add_lt_add_left hd 64) (Nat.le_of_ble_eq_true rfl)) (sh_X6 d hd) (by decide) rfl (Nat.lt_of_lt_of_le (Nat.add_lt_add_left hd 67) (Nat.le_of_ble_eq_true rfl)) lf_X6_9 ?_
    refine am_iload_n g dX6_note_11 rfl ?_
    refine am_aload_n g dX6_note_12 rfl ?_
    refine am_getr (q := 0) (a := 67 + d) g clX6 dX6_note_13 (Nat.lt_of_lt_of_le (Nat.add_lt_add_left hd 64) (Nat.le_of_ble_eq_true rfl)) (sh_X6 d hd) (by decide) rfl (Nat.lt_of_lt_of_le (Nat.add_lt_add_left hd 67) (Nat.le_of_ble_eq_true rfl)) lf_X6_9 ?_
    refine am_iload_n g dX6_note_16 rfl ?_
    refine am_iaload (ix := 40 * d + Int.toNat a1) (nI := 40) g dX6_note_17 (Nat.lt_of_lt_of_le (Nat.add_lt_add_left hd 67) (Nat.le_of_ble_eq_true rfl)) (sh_X6_latest d hd) rfl rfl ?_
    refine am_iload_n g dX6_note_18 rfl ?_
    refine am_max g lm_X6_42 l_max1 l_max2 l_max3 dX6_note_19 (by decide) (Nat.le_of_ble_eq_true rfl) ?_
    refine am_iastore (ix := 40 * d + Int.toNat a1) (nI := 40) g dX6_note_22 (Nat.lt_of_lt_of_le (Nat.add_lt_add_left hd 67) (Nat.le_of_ble_eq_true rfl)) (sh_X6_latest d hd) rfl rfl ?_
    refine am_gm (fun h3 => ?_)
    exact am_vreturn g dX6_note_23
def fX6_gather_91 (K23 : Nat → Int → am_M → Option (Unit × am_M)) (l0 : Nat) (l2 : Int) (h : am_M) : Option (Unit × am_M) := K23 l0 (am_w (l2 + 1)) h
set_option maxRecDepth 10000 in
theorem jX6_gather_91 {D : va_G} {a : Nat → ClassId} {ad : Nat → Nat} {G : am_G} (g : am_Gd (EX D a ad) RX6 cX6_gather 5 none 3 G) {K23 : Nat → Int → am_M → Option (Unit × am_M)} (hK23 : ∀ (l0 : Nat), l0 < 3 → ∀ (l2 : Int), ∀ h : am_M, am_J (EX D a ad) G 5 am_ev 23 [some (.inr (some (64 + l0))), some (.inr (some 1)), some (.inl l2), none, none] [] h (K23 l0 l2 h)) : ∀ (l0 : Nat), l0 < 3 → ∀ (l2 : Int), ∀ h : am_M, am_J (EX D a ad) G 5 am_ev 91 [some (.inr (some (64 + l0))), some (.inr (some 1)), some (.inl l2), none, none] [] h (fX6_gather_91 K23 l0 l2 h) := by
  intro l0 hl0 l2 h
  unfold fX6_gather_91
  refine am_iinc g dX6_gather_91 (by decide) rfl ?_
  refine am_goto (tgt := 23) g dX6_gather_94 (by decide) ?_
  exact hK23 l0 hl0 (am_w (l2 + 1)) h
def fX6_gather_23b (K23 : Nat → Int → am_M → Option (Unit × am_M)) (l0 : Nat) (l2 : Int) (h : am_M) : Option (Unit × am_M) := if l2 < 64 then (am_b (fX0_laidWith l2 h) (fun v1 h2 => am_b (fX8_numberOf l2 h2) (fun v3 h4 => am_on v1 10 4 ((fX6_gather_91 K23) l0 l2 h4) (fun d5 => if 0 ≤ v3 ∧ v3 < 16 then if (h4 10 (16 * d5 + Int.toNat v3)) < 0 then (fX6_gather_91 K23) l0 l2 h4 else am_b (fX2_standing d5 v3 0 h4) (fun v6 h7 => if 0 ≤ v3 ∧ v3 < 16 then am_b (fX6_note l0 v6 (h7 10 (16 * d5 + Int.toNat v3)) h7) (fun _ h8 => am_b (fX2_standing d5 v3 1 h8) (fun v9 h10 => if 0 ≤ v3 ∧ v3 < 16 then am_b (fX6_note l0 v9 (h10 10 (16 * d5 + Int.toNat v3)) h10) (fun _ h11 => (fX6_gather_91 K23) l0 l2 h11) else none)) else none) else none)))) else some ((), h)
def fX6_gather_23 : Nat → Int → am_M → Option (Unit × am_M) := am_it (fun _ _ _ => none) (fX6_gather_23b) 400
set_option maxRecDepth 10000 in
theorem jX6_gather_23b {D : va_G} {a : Nat → ClassId} {ad : Nat → Nat} {G : am_G} (g : am_Gd (EX D a ad) RX6 cX6_gather 5 none 3 G) {K23 : Nat → Int → am_M → Option (Unit × am_M)} (hK23 : ∀ (l0 : Nat), l0 < 3 → ∀ (l2 : Int), ∀ h : am_M, am_J (EX D a ad) G 5 am_ev 23 [some (.inr (some (64 + l0))), some (.inr (some 1)), some (.inl l2), none, none] [] h (K23 l0 l2 h)) : ∀ (l0 : Nat), l0 < 3 → ∀ (l2 : Int), ∀ h : am_M, am_J (EX D a ad) G 5 am_ev 23 [some (.inr (some (64 + l0))), some (.inr (some 1)), some (.inl l2), none, none] [] h (fX6_gather_23b K23 l0 l2 h) := by
  intro l0 hl0 l2 h
  unfold fX6_gather_23b
  refine am_iload_n g dX6_gather_23 rfl ?_
  refine am_bipush g dX6_gather_24 (am_il rfl) (am_bi rfl) ?_
  refine am_icmp_ge (tgt := 97) g dX6_gather_26 (by decide) ?_ ?_
  · exact am_vreturn g dX6_gather_97
  · refine am_aload_n g dX6_gather_29 rfl ?_
    refine am_iload_n g dX6_gather_30 rfl ?_
    refine am_Vr (as := [.inl l2]) (S := []) g (cX0_laidWithC l2 h) mi_X0_laidWith lm_X6_15 clX0.1 (Nat.le_of_ble_eq_true rfl) rfl dX6_gather_31 rfl (by decide) (Nat.le_of_ble_eq_true rfl) rfl (fun v1 h2 => ?_)
    refine am_astore_n g dX6_gather_34 (by decide) ?_
    refine am_iload_n g dX6_gather_35 rfl ?_
    refine am_SNi (as := [.inl l2]) (S := []) g (cX8_numberOfC l2 h2) mi_X8_numberOf ln_X6_21 dX6_gather_36 rfl (by decide) (Nat.le_of_ble_eq_true rfl) rfl (fun v3 h4 => ?_)
    refine am_istore g dX6_gather_39 (by decide) ?_
    refine am_aload_n g dX6_gather_41 rfl ?_
    refine am_ionull (b := 10) (n := 4) (Lf := fun r_ => [some (.inr (some (64 + l0))), some (.inr (some 1)), some (.inl l2), some (.inr r_), some (.inl v3)]) (tgt := 91) g dX6_gather_42 (by decide) ?_ (fun d5 hd5 => ?_)
    · refine am_drop 3 ?_
      refine am_drop 4 ?_
      exact (jX6_gather_91 g hK23) l0 hl0 l2 h4
    · refine am_aload_n g dX6_gather_45 rfl ?_
      refine am_getr (q := 5) (a := 34 + d5) g clX2 dX6_gather_46 (Nat.lt_of_lt_of_le (Nat.add_lt_add_left hd5 10) (Nat.le_of_ble_eq_true rfl)) (sh_X2 d5 hd5) (by decide) rfl (Nat.lt_of_lt_of_le (Nat.add_lt_add_left hd5 34) (Nat.le_of_ble_eq_true rfl)) lf_X6_25 ?_
      refine am_iload g dX6_gather_49 rfl ?_
      refine am_iaload (ix := 16 * d5 + Int.toNat v3) (nI := 16) g dX6_gather_51 (Nat.lt_of_lt_of_le (Nat.add_lt_add_left hd5 34) (Nat.le_of_ble_eq_true rfl)) (sh_X2_realEnds d5 hd5) rfl rfl ?_
      refine am_if_lt (tgt := 91) g dX6_gather_52 (by decide) ?_ ?_
      · refine am_drop 3 ?_
        refine am_drop 4 ?_
        exact (jX6_gather_91 g hK23) l0 hl0 l2 h4
      · refine am_aload_n g dX6_gather_55 rfl ?_
        refine am_aload_n g dX6_gather_56 rfl ?_
        refine am_iload g dX6_gather_57 rfl ?_
        refine am_iconst g dX6_gather_59 (am_il rfl) rfl ?_
        refine am_Vi (as := [.inl v3, .inl 0]) (S := [.inr (some (64 + l0))]) g (cX2_standingC d5 hd5 v3 0 h4) mi_X2_standing lm_X6_30 clX2.1 (Nat.lt_of_lt_of_le (Nat.add_lt_add_left hd5 10) (Nat.le_of_ble_eq_true rfl)) (sh_X2 d5 hd5) dX6_gather_60 rfl (by decide) (Nat.le_of_ble_eq_true rfl) rfl (fun v6 h7 => ?_)
        refine am_aload_n g dX6_gather_63 rfl ?_
        refine am_getr (q := 5) (a := 34 + d5) g clX2 dX6_gather_64 (Nat.lt_of_lt_of_le (Nat.add_lt_add_left hd5 10) (Nat.le_of_ble_eq_true rfl)) (sh_X2 d5 hd5) (by decide) rfl (Nat.lt_of_lt_of_le (Nat.add_lt_add_left hd5 34) (Nat.le_of_ble_eq_true rfl)) lf_X6_25 ?_
        refine am_iload g dX6_gather_67 rfl ?_
        refine am_iaload (ix := 16 * d5 + Int.toNat v3) (nI := 16) g dX6_gather_69 (Nat.lt_of_lt_of_le (Nat.add_lt_add_left hd5 34) (Nat.le_of_ble_eq_true rfl)) (sh_X2_realEnds d5 hd5) rfl rfl ?_
        refine am_Vv (as := [.inl v6, .inl (h7 10 (16 * d5 + Int.toNat v3))]) (S := []) g (cX6_noteC l0 hl0 v6 (h7 10 (16 * d5 + Int.toNat v3)) h7) mi_X6_note lm_X6_34 clX6.1 (Nat.lt_of_lt_of_le (Nat.add_lt_add_left hl0 64) (Nat.le_of_ble_eq_true rfl)) (sh_X6 l0 hl0) dX6_gather_70 rfl (by decide) (Nat.le_of_ble_eq_true rfl) rfl (fun _ h8 => ?_)
        refine am_aload_n g dX6_gather_73 rfl ?_
        refine am_aload_n g dX6_gather_74 rfl ?_
        refine am_iload g dX6_gather_75 rfl ?_
        refine am_iconst g dX6_gather_77 (am_il rfl) rfl ?_
        refine am_Vi (as := [.inl v3, .inl 1]) (S := [.inr (some (64 + l0))]) g (cX2_standingC d5 hd5 v3 1 h8) mi_X2_standing lm_X6_30 clX2.1 (Nat.lt_of_lt_of_le (Nat.add_lt_add_left hd5 10) (Nat.le_of_ble_eq_true rfl)) (sh_X2 d5 hd5) dX6_gather_78 rfl (by decide) (Nat.le_of_ble_eq_true rfl) rfl (fun v9 h10 => ?_)
        refine am_aload_n g dX6_gather_81 rfl ?_
        refine am_getr (q := 5) (a := 34 + d5) g clX2 dX6_gather_82 (Nat.lt_of_lt_of_le (Nat.add_lt_add_left hd5 10) (Nat.le_of_ble_eq_true rfl)) (sh_X2 d5 hd5) (by decide) rfl (Nat.lt_of_lt_of_le (Nat.add_lt_add_left hd5 34) (Nat.le_of_ble_eq_true rfl)) lf_X6_25 ?_
        refine am_iload g dX6_gather_85 rfl ?_
        refine am_iaload (ix := 16 * d5 + Int.toNat v3) (nI := 16) g dX6_gather_87 (Nat.lt_of_lt_of_le (Nat.add_lt_add_left hd5 34) (Nat.le_of_ble_eq_true rfl)) (sh_X2_realEnds d5 hd5) rfl rfl ?_
        refine am_Vv (as := [.inl v9, .inl (h10 10 (16 * d5 + Int.toNat v3))]) (S := []) g (cX6_noteC l0 hl0 v9 (h10 10 (16 * d5 + Int.toNat v3)) h10) mi_X6_note lm_X6_34 clX6.1 (Nat.lt_of_lt_of_le (Nat.add_lt_add_left hl0 64) (Nat.le_of_ble_eq_true rfl)) (sh_X6 l0 hl0) dX6_gather_88 rfl (by decide) (Nat.le_of_ble_eq_true rfl) rfl (fun _ h11 => ?_)
        refine am_drop 3 ?_
        refine am_drop 4 ?_
        exact (jX6_gather_91 g hK23) l0 hl0 l2 h11
theorem jX6_gather_23 {D : va_G} {a : Nat → ClassId} {ad : Nat → Nat} {G : am_G} (g : am_Gd (EX D a ad) RX6 cX6_gather 5 none 3 G) : ∀ (l0 : Nat), l0 < 3 → ∀ (l2 : Int), ∀ h : am_M, am_J (EX D a ad) G 5 am_ev 23 [some (.inr (some (64 + l0))), some (.inr (some 1)), some (.inl l2), none, none] [] h (fX6_gather_23 l0 l2 h) := by
  unfold fX6_gather_23
  generalize 400 = n
  induction n with
  | zero => intro l0 hl0 l2 h; exact am_jn
  | succ n ih => exact jX6_gather_23b g ih
def fX6_gather_21 (l0 : Nat) (h : am_M) : Option (Unit × am_M) := fX6_gather_23 l0 0 h
set_option maxRecDepth 10000 in
theorem jX6_gather_21 {D : va_G} {a : Nat → ClassId} {ad : Nat → Nat} {G : am_G} (g : am_Gd (EX D a ad) RX6 cX6_gather 5 none 3 G) : ∀ (l0 : Nat), l0 < 3 → ∀ h : am_M, am_J (EX D a ad) G 5 am_ev 21 [some (.inr (some (64 + l0))), some (.inr (some 1)), none, none, none] [] h (fX6_gather_21 l0 h) := by
  intro l0 hl0 h
  unfold fX6_gather_21
  refine am_iconst g dX6_gather_21 (am_il rfl) rfl ?_
  refine am_istore_n g dX6_gather_22 (by decide) ?_
  exact (jX6_gather_23 g) l0 hl0 0 h
def fX6_gather_2b (K2 : Nat → Int → am_M → Option (Unit × am_M)) (l0 : Nat) (l2 : Int) (h : am_M) : Option (Unit × am_M) := if l2 < 40 then (if 0 ≤ l2 ∧ l2 < 40 then am_l (am_up h 41 (40 * l0 + Int.toNat l2) (-1)) (fun h12 => K2 l0 (am_w (l2 + 1)) h12) else none) else fX6_gather_21 l0 h
def fX6_gather_2 : Nat → Int → am_M → Option (Unit × am_M) := am_it (fun _ _ _ => none) (fX6_gather_2b) 400
set_option maxRecDepth 10000 in
theorem jX6_gather_2b {D : va_G} {a : Nat → ClassId} {ad : Nat → Nat} {G : am_G} (g : am_Gd (EX D a ad) RX6 cX6_gather 5 none 3 G) {K2 : Nat → Int → am_M → Option (Unit × am_M)} (hK2 : ∀ (l0 : Nat), l0 < 3 → ∀ (l2 : Int), ∀ h : am_M, am_J (EX D a ad) G 5 am_ev 2 [some (.inr (some (64 + l0))), some (.inr (some 1)), some (.inl l2), none, none] [] h (K2 l0 l2 h)) : ∀ (l0 : Nat), l0 < 3 → ∀ (l2 : Int), ∀ h : am_M, am_J (EX D a ad) G 5 am_ev 2 [some (.inr (some (64 + l0))), some (.inr (some 1)), some (.inl l2), none, none] [] h (fX6_gather_2b K2 l0 l2 h) := by
  intro l0 hl0 l2 h
  unfold fX6_gather_2b
  refine am_iload_n g dX6_gather_2 rfl ?_
  refine am_bipush g dX6_gather_3 (am_il rfl) (am_bi rfl) ?_
  refine am_icmp_ge (tgt := 21) g dX6_gather_5 (by decide) ?_ ?_
  · refine am_drop 2 ?_
    exact (jX6_gather_21 g) l0 hl0 h
  · refine am_aload_n g dX6_gather_8 rfl ?_
    refine am_getr (q := 0) (a := 67 + l0) g clX6 dX6_gather_9 (Nat.lt_of_lt_of_le (Nat.add_lt_add_left hl0 64) (Nat.le_of_ble_eq_true rfl)) (sh_X6 l0 hl0) (by decide) rfl (Nat.lt_of_lt_of_le (Nat.add_lt_add_left hl0 67) (Nat.le_of_ble_eq_true rfl)) lf_X6_9 ?_
    refine am_iload_n g dX6_gather_12 rfl ?_
    refine am_iconst g dX6_gather_13 (am_il rfl) rfl ?_
    refine am_iastore (ix := 40 * l0 + Int.toNat l2) (nI := 40) g dX6_gather_14 (Nat.lt_of_lt_of_le (Nat.add_lt_add_left hl0 67) (Nat.le_of_ble_eq_true rfl)) (sh_X6_latest l0 hl0) rfl rfl ?_
    refine am_gm (fun h12 => ?_)
    refine am_iinc g dX6_gather_15 (by decide) rfl ?_
    refine am_goto (tgt := 2) g dX6_gather_18 (by decide) ?_
    exact hK2 l0 hl0 (am_w (l2 + 1)) h12
theorem jX6_gather_2 {D : va_G} {a : Nat → ClassId} {ad : Nat → Nat} {G : am_G} (g : am_Gd (EX D a ad) RX6 cX6_gather 5 none 3 G) : ∀ (l0 : Nat), l0 < 3 → ∀ (l2 : Int), ∀ h : am_M, am_J (EX D a ad) G 5 am_ev 2 [some (.inr (some (64 + l0))), some (.inr (some 1)), some (.inl l2), none, none] [] h (fX6_gather_2 l0 l2 h) := by
  unfold fX6_gather_2
  generalize 400 = n
  induction n with
  | zero => intro l0 hl0 l2 h; exact am_jn
  | succ n ih => exact jX6_gather_2b g ih
def fX6_gather (d : Nat) (h : am_M) : Option (Unit × am_M) := fX6_gather_2 d 0 h
set_option maxRecDepth 10000 in
theorem cX6_gatherC {D : va_G} {a : Nat → ClassId} {ad : Nat → Nat} (d : Nat) (hd : d < 3) (h : am_M) : am_C (EX D a ad) yX6_gather cX6_gather 5 none 3 [.inr (some (64 + d)), .inr (some 1)] h am_ev (fX6_gather d h) := by
  refine am_ofJ (L := [some (.inr (some (64 + d))), some (.inr (some 1)), none, none, none]) (by decide) rfl (Nat.le_of_ble_eq_true rfl) (fun G g => ?_)
  have g : am_Gd (EX D a ad) RX6 cX6_gather 5 none 3 G := g
  unfold fX6_gather
  refine am_iconst g dX6_gather_0 (am_il rfl) rfl ?_
  refine am_istore_n g dX6_gather_1 (by decide) ?_
  exact (jX6_gather_2 g) d hd 0 h
def fX6_readyAt (d : Nat) (a1 : Int) (a2 : Int) (h : am_M) : Option (Int × am_M) := am_b (fX8_isPlayer a1 h) (fun v1 h2 => if v1 = 0 then some ((-2147483648), h2) else if 0 ≤ a1 ∧ a1 < 40 then if (h2 41 (40 * d + Int.toNat a1)) < 0 then some ((-2147483648), h2) else if 0 ≤ a1 ∧ a1 < 40 then some (am_w ((h2 41 (40 * d + Int.toNat a1)) + a2), h2) else none else none)
set_option maxRecDepth 10000 in
theorem cX6_readyAtC {D : va_G} {a : Nat → ClassId} {ad : Nat → Nat} (d : Nat) (hd : d < 3) (a1 : Int) (a2 : Int) (h : am_M) : am_C (EX D a ad) yX6_readyAt cX6_readyAt 3 (some .int) 2 [.inr (some (64 + d)), .inl a1, .inl a2] h am_ei (fX6_readyAt d a1 a2 h) := by
  refine am_ofJ (L := [some (.inr (some (64 + d))), some (.inl a1), some (.inl a2)]) (by decide) rfl (Nat.le_of_ble_eq_true rfl) (fun G g => ?_)
  have g : am_Gd (EX D a ad) RX6 cX6_readyAt 3 (some .int) 2 G := g
  unfold fX6_readyAt
  refine am_iload_n g dX6_readyAt_0 rfl ?_
  refine am_SNi (as := [.inl a1]) (S := []) g (cX8_isPlayerC a1 h) mi_X8_isPlayer ln_X6_38 dX6_readyAt_1 rfl (by decide) (Nat.le_of_ble_eq_true rfl) rfl (fun v1 h2 => ?_)
  refine am_if_eq (tgt := 16) g dX6_readyAt_4 (by decide) ?_ ?_
  · refine am_ldc (n := (-2147483648)) g dX6_readyAt_16 (am_il rfl) lc_X6_47 rfl ?_
    exact am_ireturn g dX6_readyAt_18
  · refine am_aload_n g dX6_readyAt_7 rfl ?_
    refine am_getr (q := 0) (a := 67 + d) g clX6 dX6_readyAt_8 (Nat.lt_of_lt_of_le (Nat.add_lt_add_left hd 64) (Nat.le_of_ble_eq_true rfl)) (sh_X6 d hd) (by decide) rfl (Nat.lt_of_lt_of_le (Nat.add_lt_add_left hd 67) (Nat.le_of_ble_eq_true rfl)) lf_X6_9 ?_
    refine am_iload_n g dX6_readyAt_11 rfl ?_
    refine am_iaload (ix := 40 * d + Int.toNat a1) (nI := 40) g dX6_readyAt_12 (Nat.lt_of_lt_of_le (Nat.add_lt_add_left hd 67) (Nat.le_of_ble_eq_true rfl)) (sh_X6_latest d hd) rfl rfl ?_
    refine am_if_ge (tgt := 19) g dX6_readyAt_13 (by decide) ?_ ?_
    · refine am_aload_n g dX6_readyAt_19 rfl ?_
      refine am_getr (q := 0) (a := 67 + d) g clX6 dX6_readyAt_20 (Nat.lt_of_lt_of_le (Nat.add_lt_add_left hd 64) (Nat.le_of_ble_eq_true rfl)) (sh_X6 d hd) (by decide) rfl (Nat.lt_of_lt_of_le (Nat.add_lt_add_left hd 67) (Nat.le_of_ble_eq_true rfl)) lf_X6_9 ?_
      refine am_iload_n g dX6_readyAt_23 rfl ?_
      refine am_iaload (ix := 40 * d + Int.toNat a1) (nI := 40) g dX6_readyAt_24 (Nat.lt_of_lt_of_le (Nat.add_lt_add_left hd 67) (Nat.le_of_ble_eq_true rfl)) (sh_X6_latest d hd) rfl rfl ?_
      refine am_iload_n g dX6_readyAt_25 rfl ?_
      refine am_iadd g dX6_readyAt_26 ?_
      exact am_ireturn g dX6_readyAt_27
    · refine am_ldc (n := (-2147483648)) g dX6_readyAt_16 (am_il rfl) lc_X6_47 rfl ?_
      exact am_ireturn g dX6_readyAt_18
def fX6_hindrance (d : Nat) (a2 : Int) (a3 : Int) (h : am_M) : Option (Int × am_M) := am_b (fX0_laidWith a2 h) (fun v1 h2 => am_on v1 10 4 (some (1, h2)) (fun d3 => am_b (fX8_numberOf a2 h2) (fun v4 h5 => am_l (h5 18 0) (fun x6 => am_b (fX2_isKnown d3 v4 h5) (fun v7 h8 => if v7 = 0 then some (2, h8) else if 0 ≤ v4 ∧ v4 < 16 then if (h8 20 (16 * d3 + Int.toNat v4)) = 0 then (if 0 ≤ v4 ∧ v4 < 16 then if (h8 9 (16 * d3 + Int.toNat v4)) ≤ 0 then (am_b (fX2_standing d3 v4 0 h8) (fun v9 h10 => am_b (fX6_readyAt d v9 x6 h10) (fun v11 h12 => if a3 < v11 then some (5, h12) else am_b (fX2_standing d3 v4 1 h12) (fun v13 h14 => am_b (fX6_readyAt d v13 x6 h14) (fun v15 h16 => if a3 < v15 then some (6, h16) else some (0, h16)))))) else some (4, h8) else none) else some (3, h8) else none)))))
set_option maxRecDepth 10000 in
theorem cX6_hindranceC {D : va_G} {a : Nat → ClassId} {ad : Nat → Nat} (d : Nat) (hd : d < 3) (a2 : Int) (a3 : Int) (h : am_M) : am_C (EX D a ad) yX6_hindrance cX6_hindrance 7 (some .int) 4 [.inr (some (64 + d)), .inr (some 1), .inl a2, .inl a3] h am_ei (fX6_hindrance d a2 a3 h) := by
  refine am_ofJ (L := [some (.inr (some (64 + d))), some (.inr (some 1)), some (.inl a2), some (.inl a3), none, none, none]) (by decide) rfl (Nat.le_of_ble_eq_true rfl) (fun G g => ?_)
  have g : am_Gd (EX D a ad) RX6 cX6_hindrance 7 (some .int) 4 G := g
  unfold fX6_hindrance
  refine am_aload_n g dX6_hindrance_0 rfl ?_
  refine am_iload_n g dX6_hindrance_1 rfl ?_
  refine am_Vr (as := [.inl a2]) (S := []) g (cX0_laidWithC a2 h) mi_X0_laidWith lm_X6_15 clX0.1 (Nat.le_of_ble_eq_true rfl) rfl dX6_hindrance_2 rfl (by decide) (Nat.le_of_ble_eq_true rfl) rfl (fun v1 h2 => ?_)
  refine am_astore g dX6_hindrance_5 (by decide) ?_
  refine am_aload g dX6_hindrance_7 rfl ?_
  refine am_iononnull (b := 10) (n := 4) (Lf := fun r_ => [some (.inr (some (64 + d))), some (.inr (some 1)), some (.inl a2), some (.inl a3), some (.inr r_), none, none]) (tgt := 14) g dX6_hindrance_9 (by decide) (fun d3 hd3 => ?_) ?_
  · refine am_iload_n g dX6_hindrance_14 rfl ?_
    refine am_SNi (as := [.inl a2]) (S := []) g (cX8_numberOfC a2 h2) mi_X8_numberOf ln_X6_21 dX6_hindrance_15 rfl (by decide) (Nat.le_of_ble_eq_true rfl) rfl (fun v4 h5 => ?_)
    refine am_istore g dX6_hindrance_18 (by decide) ?_
    refine am_aload_n g dX6_hindrance_20 rfl ?_
    refine am_getr (q := 3) (a := 5) g clX0 dX6_hindrance_21 (Nat.le_of_ble_eq_true rfl) rfl (by decide) rfl (Nat.le_of_ble_eq_true rfl) lf_X6_48 ?_
    refine am_iconst g dX6_hindrance_24 (am_il rfl) rfl ?_
    refine am_ialoadC (ix := 0) (nI := 4) g dX6_hindrance_25 (Nat.le_of_ble_eq_true rfl) rfl rfl rfl rfl ?_
    refine am_gv (fun x6 => ?_)
    refine am_istore g dX6_hindrance_26 (by decide) ?_
    refine am_aload g dX6_hindrance_28 rfl ?_
    refine am_iload g dX6_hindrance_30 rfl ?_
    refine am_Vi (as := [.inl v4]) (S := []) g (cX2_isKnownC d3 hd3 v4 h5) mi_X2_isKnown lm_X6_51 clX2.1 (Nat.lt_of_lt_of_le (Nat.add_lt_add_left hd3 10) (Nat.le_of_ble_eq_true rfl)) (sh_X2 d3 hd3) dX6_hindrance_32 rfl (by decide) (Nat.le_of_ble_eq_true rfl) rfl (fun v7 h8 => ?_)
    refine am_if_ne (tgt := 40) g dX6_hindrance_35 (by decide) ?_ ?_
    · refine am_aload g dX6_hindrance_40 rfl ?_
      refine am_getr (q := 3) (a := 26 + d3) g clX2 dX6_hindrance_42 (Nat.lt_of_lt_of_le (Nat.add_lt_add_left hd3 10) (Nat.le_of_ble_eq_true rfl)) (sh_X2 d3 hd3) (by decide) rfl (Nat.lt_of_lt_of_le (Nat.add_lt_add_left hd3 26) (Nat.le_of_ble_eq_true rfl)) lf_X6_54 ?_
      refine am_iload g dX6_hindrance_45 rfl ?_
      refine am_iaload (ix := 16 * d3 + Int.toNat v4) (nI := 16) g dX6_hindrance_47 (Nat.lt_of_lt_of_le (Nat.add_lt_add_left hd3 26) (Nat.le_of_ble_eq_true rfl)) (sh_X2_hows d3 hd3) rfl rfl ?_
      refine am_if_eq (tgt := 53) g dX6_hindrance_48 (by decide) ?_ ?_
      · refine am_aload g dX6_hindrance_53 rfl ?_
        refine am_getr (q := 6) (a := 38 + d3) g clX2 dX6_hindrance_55 (Nat.lt_of_lt_of_le (Nat.add_lt_add_left hd3 10) (Nat.le_of_ble_eq_true rfl)) (sh_X2 d3 hd3) (by decide) rfl (Nat.lt_of_lt_of_le (Nat.add_lt_add_left hd3 38) (Nat.le_of_ble_eq_true rfl)) lf_X6_57 ?_
        refine am_iload g dX6_hindrance_58 rfl ?_
        refine am_iaload (ix := 16 * d3 + Int.toNat v4) (nI := 16) g dX6_hindrance_60 (Nat.lt_of_lt_of_le (Nat.add_lt_add_left hd3 38) (Nat.le_of_ble_eq_true rfl)) (sh_X2_points d3 hd3) rfl rfl ?_
        refine am_if_le (tgt := 66) g dX6_hindrance_61 (by decide) ?_ ?_
        · refine am_iload_n g dX6_hindrance_66 rfl ?_
          refine am_aload_n g dX6_hindrance_67 rfl ?_
          refine am_aload g dX6_hindrance_68 rfl ?_
          refine am_iload g dX6_hindrance_70 rfl ?_
          refine am_iconst g dX6_hindrance_72 (am_il rfl) rfl ?_
          refine am_Vi (as := [.inl v4, .inl 0]) (S := [.inr (some (64 + d)), .inl a3]) g (cX2_standingC d3 hd3 v4 0 h8) mi_X2_standing lm_X6_30 clX2.1 (Nat.lt_of_lt_of_le (Nat.add_lt_add_left hd3 10) (Nat.le_of_ble_eq_true rfl)) (sh_X2 d3 hd3) dX6_hindrance_73 rfl (by decide) (Nat.le_of_ble_eq_true rfl) rfl (fun v9 h10 => ?_)
          refine am_iload g dX6_hindrance_76 rfl ?_
          refine am_Vi (as := [.inl v9, .inl x6]) (S := [.inl a3]) g (cX6_readyAtC d hd v9 x6 h10) mi_X6_readyAt lm_X6_60 clX6.1 (Nat.lt_of_lt_of_le (Nat.add_lt_add_left hd 64) (Nat.le_of_ble_eq_true rfl)) (sh_X6 d hd) dX6_hindrance_78 rfl (by decide) (Nat.le_of_ble_eq_true rfl) rfl (fun v11 h12 => ?_)
          refine am_icmp_ge (tgt := 86) g dX6_hindrance_81 (by decide) ?_ ?_
          · refine am_iload_n g dX6_hindrance_86 rfl ?_
            refine am_aload_n g dX6_hindrance_87 rfl ?_
            refine am_aload g dX6_hindrance_88 rfl ?_
            refine am_iload g dX6_hindrance_90 rfl ?_
            refine am_iconst g dX6_hindrance_92 (am_il rfl) rfl ?_
            refine am_Vi (as := [.inl v4, .inl 1]) (S := [.inr (some (64 + d)), .inl a3]) g (cX2_standingC d3 hd3 v4 1 h12) mi_X2_standing lm_X6_30 clX2.1 (Nat.lt_of_lt_of_le (Nat.add_lt_add_left hd3 10) (Nat.le_of_ble_eq_true rfl)) (sh_X2 d3 hd3) dX6_hindrance_93 rfl (by decide) (Nat.le_of_ble_eq_true rfl) rfl (fun v13 h14 => ?_)
            refine am_iload g dX6_hindrance_96 rfl ?_
            refine am_Vi (as := [.inl v13, .inl x6]) (S := [.inl a3]) g (cX6_readyAtC d hd v13 x6 h14) mi_X6_readyAt lm_X6_60 clX6.1 (Nat.lt_of_lt_of_le (Nat.add_lt_add_left hd 64) (Nat.le_of_ble_eq_true rfl)) (sh_X6 d hd) dX6_hindrance_98 rfl (by decide) (Nat.le_of_ble_eq_true rfl) rfl (fun v15 h16 => ?_)
            refine am_icmp_ge (tgt := 109) g dX6_hindrance_101 (by decide) ?_ ?_
            · refine am_iconst g dX6_hindrance_109 (am_il rfl) rfl ?_
              exact am_ireturn g dX6_hindrance_110
            · refine am_bipush g dX6_hindrance_104 (am_il rfl) (am_bi rfl) ?_
              refine am_goto (tgt := 110) g dX6_hindrance_106 (by decide) ?_
              exact am_ireturn g dX6_hindrance_110
          · refine am_iconst g dX6_hindrance_84 (am_il rfl) rfl ?_
            exact am_ireturn g dX6_hindrance_85
        · refine am_iconst g dX6_hindrance_64 (am_il rfl) rfl ?_
          exact am_ireturn g dX6_hindrance_65
      · refine am_iconst g dX6_hindrance_51 (am_il rfl) rfl ?_
        exact am_ireturn g dX6_hindrance_52
    · refine am_iconst g dX6_hindrance_38 (am_il rfl) rfl ?_
      exact am_ireturn g dX6_hindrance_39
  · refine am_iconst g dX6_hindrance_12 (am_il rfl) rfl ?_
    exact am_ireturn g dX6_hindrance_13
def fX3_prepare_69b (K69 : Int → am_M → Option (Unit × am_M)) (l3 : Int) (h : am_M) : Option (Unit × am_M) := if l3 < 6 then (if 0 ≤ l3 ∧ l3 < 6 then am_b (fX0_isRainedOff (Int.toNat l3) h) (fun v4 h5 => if v4 = 0 ∨ v4 = 1 then if 0 ≤ l3 ∧ l3 < 6 then am_l (am_up h5 50 (Int.toNat l3) v4) (fun h6 => K69 (am_w (l3 + 1)) h6) else none else none) else none) else some ((), h)
def fX3_prepare_69 : Int → am_M → Option (Unit × am_M) := am_it (fun _ _ => none) (fX3_prepare_69b) 400
set_option maxRecDepth 10000 in
theorem jX3_prepare_69b {D : va_G} {a : Nat → ClassId} {ad : Nat → Nat} {G : am_G} (g : am_Gd (EX D a ad) RX3 cX3_prepare 4 none 5 G) {K69 : Int → am_M → Option (Unit × am_M)} (hK69 : ∀ (l3 : Int), ∀ h : am_M, am_J (EX D a ad) G 4 am_ev 69 [some (.inr (some 77)), some (.inr (some 1)), none, some (.inl l3)] [] h (K69 l3 h)) : ∀ (l3 : Int), ∀ h : am_M, am_J (EX D a ad) G 4 am_ev 69 [some (.inr (some 77)), some (.inr (some 1)), none, some (.inl l3)] [] h (fX3_prepare_69b K69 l3 h) := by
  intro l3 h
  unfold fX3_prepare_69b
  refine am_iload_n g dX3_prepare_69 rfl ?_
  refine am_bipush g dX3_prepare_70 (am_il rfl) (am_bi rfl) ?_
  refine am_icmp_ge (tgt := 97) g dX3_prepare_72 (by decide) ?_ ?_
  · exact am_vreturn g dX3_prepare_97
  · refine am_aload_n g dX3_prepare_75 rfl ?_
    refine am_getr (q := 2) (a := 80) g clX3 dX3_prepare_76 (Nat.le_of_ble_eq_true rfl) rfl (by decide) rfl (Nat.le_of_ble_eq_true rfl) lf_X3_18 ?_
    refine am_iload_n g dX3_prepare_79 rfl ?_
    refine am_aload_n g dX3_prepare_80 rfl ?_
    refine am_aload_n g dX3_prepare_81 rfl ?_
    refine am_getr (q := 2) (a := 4) g clX0 dX3_prepare_82 (Nat.le_of_ble_eq_true rfl) rfl (by decide) rfl (Nat.le_of_ble_eq_true rfl) lf_X3_50 ?_
    refine am_iload_n g dX3_prepare_85 rfl ?_
    refine am_aaload (b := 46) (n := 6) (nI := 6) g dX3_prepare_86 (Nat.le_of_ble_eq_true rfl) rfl rfl rfl (Nat.le_of_ble_eq_true rfl) (fun c2 => ?_)
    have hd3 : Int.toNat l3 < 6 := by omega
    refine am_Vi (as := [.inr (some (46 + (Int.toNat l3)))]) (S := [.inl l3, .inr (some 80)]) g (cX0_isRainedOffC (Int.toNat l3) hd3 h) mi_X0_isRainedOff lm_X3_56 clX0.1 (Nat.le_of_ble_eq_true rfl) rfl dX3_prepare_87 rfl (by decide) (Nat.le_of_ble_eq_true rfl) rfl (fun v4 h5 => ?_)
    refine am_zastore (ix := Int.toNat l3) (nI := 6) g dX3_prepare_90 (Nat.le_of_ble_eq_true rfl) rfl rfl (Nat.zero_add _) ?_
    refine am_gm (fun h6 => ?_)
    refine am_iinc g dX3_prepare_91 (by decide) rfl ?_
    refine am_goto (tgt := 69) g dX3_prepare_94 (by decide) ?_
    exact hK69 (am_w (l3 + 1)) h6
theorem jX3_prepare_69 {D : va_G} {a : Nat → ClassId} {ad : Nat → Nat} {G : am_G} (g : am_Gd (EX D a ad) RX3 cX3_prepare 4 none 5 G) : ∀ (l3 : Int), ∀ h : am_M, am_J (EX D a ad) G 4 am_ev 69 [some (.inr (some 77)), some (.inr (some 1)), none, some (.inl l3)] [] h (fX3_prepare_69 l3 h) := by
  unfold fX3_prepare_69
  generalize 400 = n
  induction n with
  | zero => intro l3 h; exact am_jn
  | succ n ih => exact jX3_prepare_69b g ih
def fX3_prepare_67 (h : am_M) : Option (Unit × am_M) := fX3_prepare_69 0 h
set_option maxRecDepth 10000 in
theorem jX3_prepare_67 {D : va_G} {a : Nat → ClassId} {ad : Nat → Nat} {G : am_G} (g : am_Gd (EX D a ad) RX3 cX3_prepare 4 none 5 G) : ∀ h : am_M, am_J (EX D a ad) G 4 am_ev 67 [some (.inr (some 77)), some (.inr (some 1)), none, none] [] h (fX3_prepare_67 h) := by
  intro h
  unfold fX3_prepare_67
  refine am_iconst g dX3_prepare_67 (am_il rfl) rfl ?_
  refine am_istore_n g dX3_prepare_68 (by decide) ?_
  exact (jX3_prepare_69 g) 0 h
def fX3_prepare_48b (K48 : Int → am_M → Option (Unit × am_M)) (l3 : Int) (h : am_M) : Option (Unit × am_M) := if l3 < 40 then (if 0 ≤ l3 ∧ l3 < 40 then am_l (am_up h 49 (Int.toNat l3) 0) (fun h7 => K48 (am_w (l3 + 1)) h7) else none) else fX3_prepare_67 h
def fX3_prepare_48 : Int → am_M → Option (Unit × am_M) := am_it (fun _ _ => none) (fX3_prepare_48b) 400
set_option maxRecDepth 10000 in
theorem jX3_prepare_48b {D : va_G} {a : Nat → ClassId} {ad : Nat → Nat} {G : am_G} (g : am_Gd (EX D a ad) RX3 cX3_prepare 4 none 5 G) {K48 : Int → am_M → Option (Unit × am_M)} (hK48 : ∀ (l3 : Int), ∀ h : am_M, am_J (EX D a ad) G 4 am_ev 48 [some (.inr (some 77)), some (.inr (some 1)), none, some (.inl l3)] [] h (K48 l3 h)) : ∀ (l3 : Int), ∀ h : am_M, am_J (EX D a ad) G 4 am_ev 48 [some (.inr (some 77)), some (.inr (some 1)), none, some (.inl l3)] [] h (fX3_prepare_48b K48 l3 h) := by
  intro l3 h
  unfold fX3_prepare_48b
  refine am_iload_n g dX3_prepare_48 rfl ?_
  refine am_bipush g dX3_prepare_49 (am_il rfl) (am_bi rfl) ?_
  refine am_icmp_ge (tgt := 67) g dX3_prepare_51 (by decide) ?_ ?_
  · refine am_drop 3 ?_
    exact (jX3_prepare_67 g) h
  · refine am_aload_n g dX3_prepare_54 rfl ?_
    refine am_getr (q := 1) (a := 79) g clX3 dX3_prepare_55 (Nat.le_of_ble_eq_true rfl) rfl (by decide) rfl (Nat.le_of_ble_eq_true rfl) lf_X3_15 ?_
    refine am_iload_n g dX3_prepare_58 rfl ?_
    refine am_iconst g dX3_prepare_59 (am_il rfl) rfl ?_
    refine am_zastoreB (ix := Int.toNat l3) (nI := 40) g dX3_prepare_60 (Nat.le_of_ble_eq_true rfl) rfl rfl (Nat.zero_add _) (by decide) ?_
    refine am_gm (fun h7 => ?_)
    refine am_iinc g dX3_prepare_61 (by decide) rfl ?_
    refine am_goto (tgt := 48) g dX3_prepare_64 (by decide) ?_
    exact hK48 (am_w (l3 + 1)) h7
theorem jX3_prepare_48 {D : va_G} {a : Nat → ClassId} {ad : Nat → Nat} {G : am_G} (g : am_Gd (EX D a ad) RX3 cX3_prepare 4 none 5 G) : ∀ (l3 : Int), ∀ h : am_M, am_J (EX D a ad) G 4 am_ev 48 [some (.inr (some 77)), some (.inr (some 1)), none, some (.inl l3)] [] h (fX3_prepare_48 l3 h) := by
  unfold fX3_prepare_48
  generalize 400 = n
  induction n with
  | zero => intro l3 h; exact am_jn
  | succ n ih => exact jX3_prepare_48b g ih
def fX3_prepare_46 (h : am_M) : Option (Unit × am_M) := fX3_prepare_48 0 h
set_option maxRecDepth 10000 in
theorem jX3_prepare_46 {D : va_G} {a : Nat → ClassId} {ad : Nat → Nat} {G : am_G} (g : am_Gd (EX D a ad) RX3 cX3_prepare 4 none 5 G) : ∀ h : am_M, am_J (EX D a ad) G 4 am_ev 46 [some (.inr (some 77)), some (.inr (some 1)), none, none] [] h (fX3_prepare_46 h) := by
  intro h
  unfold fX3_prepare_46
  refine am_iconst g dX3_prepare_46 (am_il rfl) rfl ?_
  refine am_istore_n g dX3_prepare_47 (by decide) ?_
  exact (jX3_prepare_48 g) 0 h
def fX3_prepare_39 (K10 : Int → Int → am_M → Option (Unit × am_M)) (l2 : Int) (l3 : Int) (s0 : Int) (s1 : Int) (h : am_M) : Option (Unit × am_M) := if s0 = 0 ∨ s0 = 1 then if 0 ≤ s1 ∧ s1 < 64 then am_l (am_up h 48 (Int.toNat s1) s0) (fun h10 => K10 l2 (am_w (l3 + 1)) h10) else none else none
set_option maxRecDepth 10000 in
theorem jX3_prepare_39 {D : va_G} {a : Nat → ClassId} {ad : Nat → Nat} {G : am_G} (g : am_Gd (EX D a ad) RX3 cX3_prepare 4 none 5 G) {K10 : Int → Int → am_M → Option (Unit × am_M)} (hK10 : ∀ (l2 : Int), ∀ (l3 : Int), ∀ h : am_M, am_J (EX D a ad) G 4 am_ev 10 [some (.inr (some 77)), some (.inr (some 1)), some (.inl l2), some (.inl l3)] [] h (K10 l2 l3 h)) : ∀ (l2 : Int), ∀ (l3 : Int), ∀ (s0 : Int), ∀ (s1 : Int), ∀ h : am_M, am_J (EX D a ad) G 4 am_ev 39 [some (.inr (some 77)), some (.inr (some 1)), some (.inl l2), some (.inl l3)] [.inl s0, .inl s1, .inr (some 78)] h (fX3_prepare_39 K10 l2 l3 s0 s1 h) := by
  intro l2 l3 s0 s1 h
  unfold fX3_prepare_39
  refine am_zastore (ix := Int.toNat s1) (nI := 64) g dX3_prepare_39 (Nat.le_of_ble_eq_true rfl) rfl rfl (Nat.zero_add _) ?_
  refine am_gm (fun h10 => ?_)
  refine am_iinc g dX3_prepare_40 (by decide) rfl ?_
  refine am_goto (tgt := 10) g dX3_prepare_43 (by decide) ?_
  exact hK10 l2 (am_w (l3 + 1)) h10
def fX3_prepare_10b (K10 : Int → Int → am_M → Option (Unit × am_M)) (l2 : Int) (l3 : Int) (h : am_M) : Option (Unit × am_M) := if l3 < 64 then (am_b (fX6_hindrance 2 l3 l2 h) (fun v8 h9 => if v8 = 0 then (fX3_prepare_39 K10) l2 l3 1 l3 h9 else (fX3_prepare_39 K10) l2 l3 0 l3 h9)) else fX3_prepare_46 h
def fX3_prepare_10 : Int → Int → am_M → Option (Unit × am_M) := am_it (fun _ _ _ => none) (fX3_prepare_10b) 400
set_option maxRecDepth 10000 in
theorem jX3_prepare_10b {D : va_G} {a : Nat → ClassId} {ad : Nat → Nat} {G : am_G} (g : am_Gd (EX D a ad) RX3 cX3_prepare 4 none 5 G) {K10 : Int → Int → am_M → Option (Unit × am_M)} (hK10 : ∀ (l2 : Int), ∀ (l3 : Int), ∀ h : am_M, am_J (EX D a ad) G 4 am_ev 10 [some (.inr (some 77)), some (.inr (some 1)), some (.inl l2), some (.inl l3)] [] h (K10 l2 l3 h)) : ∀ (l2 : Int), ∀ (l3 : Int), ∀ h : am_M, am_J (EX D a ad) G 4 am_ev 10 [some (.inr (some 77)), some (.inr (some 1)), some (.inl l2), some (.inl l3)] [] h (fX3_prepare_10b K10 l2 l3 h) := by
  intro l2 l3 h
  unfold fX3_prepare_10b
  refine am_iload_n g dX3_prepare_10 rfl ?_
  refine am_bipush g dX3_prepare_11 (am_il rfl) (am_bi rfl) ?_
  refine am_icmp_ge (tgt := 46) g dX3_prepare_13 (by decide) ?_ ?_
  · refine am_drop 2 ?_
    refine am_drop 3 ?_
    exact (jX3_prepare_46 g) h
  · refine am_aload_n g dX3_prepare_16 rfl ?_
    refine am_getr (q := 0) (a := 78) g clX3 dX3_prepare_17 (Nat.le_of_ble_eq_true rfl) rfl (by decide) rfl (Nat.le_of_ble_eq_true rfl) lf_X3_9 ?_
    refine am_iload_n g dX3_prepare_20 rfl ?_
    refine am_aload_n g dX3_prepare_21 rfl ?_
    refine am_getr (q := 3) (a := 64 + 2) g clX3 dX3_prepare_22 (Nat.le_of_ble_eq_true rfl) rfl (by decide) rfl (Nat.lt_of_lt_of_le (Nat.add_lt_add_left (show 2 < 3 by decide) 64) (Nat.le_of_ble_eq_true rfl)) lf_X3_24 ?_
    refine am_aload_n g dX3_prepare_25 rfl ?_
    refine am_iload_n g dX3_prepare_26 rfl ?_
    refine am_iload_n g dX3_prepare_27 rfl ?_
    refine am_Vi (as := [.inr (some 1), .inl l3, .inl l2]) (S := [.inl l3, .inr (some 78)]) g (cX6_hindranceC 2 (show 2 < 3 by decide) l3 l2 h) mi_X6_hindrance lm_X3_46 clX6.1 (Nat.lt_of_lt_of_le (Nat.add_lt_add_left (show 2 < 3 by decide) 64) (Nat.le_of_ble_eq_true rfl)) (sh_X6 2 (show 2 < 3 by decide)) dX3_prepare_28 rfl (by decide) (Nat.le_of_ble_eq_true rfl) rfl (fun v8 h9 => ?_)
    refine am_if_ne (tgt := 38) g dX3_prepare_31 (by decide) ?_ ?_
    · refine am_iconst g dX3_prepare_38 (am_il rfl) rfl ?_
      exact (jX3_prepare_39 g hK10) l2 l3 0 l3 h9
    · refine am_iconst g dX3_prepare_34 (am_il rfl) rfl ?_
      refine am_goto (tgt := 39) g dX3_prepare_35 (by decide) ?_
      exact (jX3_prepare_39 g hK10) l2 l3 1 l3 h9
theorem jX3_prepare_10 {D : va_G} {a : Nat → ClassId} {ad : Nat → Nat} {G : am_G} (g : am_Gd (EX D a ad) RX3 cX3_prepare 4 none 5 G) : ∀ (l2 : Int), ∀ (l3 : Int), ∀ h : am_M, am_J (EX D a ad) G 4 am_ev 10 [some (.inr (some 77)), some (.inr (some 1)), some (.inl l2), some (.inl l3)] [] h (fX3_prepare_10 l2 l3 h) := by
  unfold fX3_prepare_10
  generalize 400 = n
  induction n with
  | zero => intro l2 l3 h; exact am_jn
  | succ n ih => exact jX3_prepare_10b g ih
def fX3_prepare (a2 : Int) (h : am_M) : Option (Unit × am_M) := am_b (fX6_gather 2 h) (fun _ h1 => fX3_prepare_10 a2 0 h1)
set_option maxRecDepth 10000 in
theorem cX3_prepareC {D : va_G} {a : Nat → ClassId} {ad : Nat → Nat} (a2 : Int) (h : am_M) : am_C (EX D a ad) yX3_prepare cX3_prepare 4 none 5 [.inr (some 77), .inr (some 1), .inl a2] h am_ev (fX3_prepare a2 h) := by
  refine am_ofJ (L := [some (.inr (some 77)), some (.inr (some 1)), some (.inl a2), none]) (by decide) rfl (Nat.le_of_ble_eq_true rfl) (fun G g => ?_)
  have g : am_Gd (EX D a ad) RX3 cX3_prepare 4 none 5 G := g
  unfold fX3_prepare
  refine am_aload_n g dX3_prepare_0 rfl ?_
  refine am_getr (q := 3) (a := 64 + 2) g clX3 dX3_prepare_1 (Nat.le_of_ble_eq_true rfl) rfl (by decide) rfl (Nat.lt_of_lt_of_le (Nat.add_lt_add_left (show 2 < 3 by decide) 64) (Nat.le_of_ble_eq_true rfl)) lf_X3_24 ?_
  refine am_aload_n g dX3_prepare_4 rfl ?_
  refine am_Vv (as := [.inr (some 1)]) (S := []) g (cX6_gatherC 2 (show 2 < 3 by decide) h) mi_X6_gather lm_X3_42 clX6.1 (Nat.lt_of_lt_of_le (Nat.add_lt_add_left (show 2 < 3 by decide) 64) (Nat.le_of_ble_eq_true rfl)) (sh_X6 2 (show 2 < 3 by decide)) dX3_prepare_5 rfl (by decide) (Nat.le_of_ble_eq_true rfl) rfl (fun _ h1 => ?_)
  refine am_iconst g dX3_prepare_8 (am_il rfl) rfl ?_
  refine am_istore_n g dX3_prepare_9 (by decide) ?_
  exact (jX3_prepare_10 g) a2 0 h1
def fX3_worthiestCourt_46 (K4 : Int → Int → am_M → Option (Int × am_M)) (l2 : Int) (l3 : Int) (h : am_M) : Option (Int × am_M) := K4 l2 (am_w (l3 + 1)) h
set_option maxRecDepth 10000 in
theorem jX3_worthiestCourt_46 {D : va_G} {a : Nat → ClassId} {ad : Nat → Nat} {G : am_G} (g : am_Gd (EX D a ad) RX3 cX3_worthiestCourt 4 (some .int) 1 G) {K4 : Int → Int → am_M → Option (Int × am_M)} (hK4 : ∀ (l2 : Int), ∀ (l3 : Int), ∀ h : am_M, am_J (EX D a ad) G 4 am_ei 4 [some (.inr (some 77)), some (.inr (some 1)), some (.inl l2), some (.inl l3)] [] h (K4 l2 l3 h)) : ∀ (l2 : Int), ∀ (l3 : Int), ∀ h : am_M, am_J (EX D a ad) G 4 am_ei 46 [some (.inr (some 77)), some (.inr (some 1)), some (.inl l2), some (.inl l3)] [] h (fX3_worthiestCourt_46 K4 l2 l3 h) := by
  intro l2 l3 h
  unfold fX3_worthiestCourt_46
  refine am_iinc g dX3_worthiestCourt_46 (by decide) rfl ?_
  refine am_goto (tgt := 4) g dX3_worthiestCourt_49 (by decide) ?_
  exact hK4 l2 (am_w (l3 + 1)) h
def fX3_worthiestCourt_44 (K46 : Int → Int → am_M → Option (Int × am_M)) (l3 : Int) (h : am_M) : Option (Int × am_M) := K46 l3 l3 h
set_option maxRecDepth 10000 in
theorem jX3_worthiestCourt_44 {D : va_G} {a : Nat → ClassId} {ad : Nat → Nat} {G : am_G} (g : am_Gd (EX D a ad) RX3 cX3_worthiestCourt 4 (some .int) 1 G) {K46 : Int → Int → am_M → Option (Int × am_M)} (hK46 : ∀ (l2 : Int), ∀ (l3 : Int), ∀ h : am_M, am_J (EX D a ad) G 4 am_ei 46 [some (.inr (some 77)), some (.inr (some 1)), some (.inl l2), some (.inl l3)] [] h (K46 l2 l3 h)) : ∀ (l3 : Int), ∀ h : am_M, am_J (EX D a ad) G 4 am_ei 44 [some (.inr (some 77)), some (.inr (some 1)), none, some (.inl l3)] [] h (fX3_worthiestCourt_44 K46 l3 h) := by
  intro l3 h
  unfold fX3_worthiestCourt_44
  refine am_iload_n g dX3_worthiestCourt_44 rfl ?_
  refine am_istore_n g dX3_worthiestCourt_45 (by decide) ?_
  exact hK46 l3 l3 h
def fX3_worthiestCourt_4b (K4 : Int → Int → am_M → Option (Int × am_M)) (l2 : Int) (l3 : Int) (h : am_M) : Option (Int × am_M) := if l3 < 6 then (if 0 ≤ l3 ∧ l3 < 6 then if (h 50 (Int.toNat l3)) = 0 then (if l2 < 0 then (fX3_worthiestCourt_44 (fX3_worthiestCourt_46 K4)) l3 h else if 0 ≤ l3 ∧ l3 < 6 then if 0 ≤ l2 ∧ l2 < 6 then if (h 14 (Int.toNat l3)) ≤ (h 14 (Int.toNat l2)) then (fX3_worthiestCourt_46 K4) l2 l3 h else (fX3_worthiestCourt_44 (fX3_worthiestCourt_46 K4)) l3 h else none else none) else (fX3_worthiestCourt_46 K4) l2 l3 h else none) else some (l2, h)
def fX3_worthiestCourt_4 : Int → Int → am_M → Option (Int × am_M) := am_it (fun _ _ _ => none) (fX3_worthiestCourt_4b) 400
set_option maxRecDepth 10000 in
theorem jX3_worthiestCourt_4b {D : va_G} {a : Nat → ClassId} {ad : Nat → Nat} {G : am_G} (g : am_Gd (EX D a ad) RX3 cX3_worthiestCourt 4 (some .int) 1 G) {K4 : Int → Int → am_M → Option (Int × am_M)} (hK4 : ∀ (l2 : Int), ∀ (l3 : Int), ∀ h : am_M, am_J (EX D a ad) G 4 am_ei 4 [some (.inr (some 77)), some (.inr (some 1)), some (.inl l2), some (.inl l3)] [] h (K4 l2 l3 h)) : ∀ (l2 : Int), ∀ (l3 : Int), ∀ h : am_M, am_J (EX D a ad) G 4 am_ei 4 [some (.inr (some 77)), some (.inr (some 1)), some (.inl l2), some (.inl l3)] [] h (fX3_worthiestCourt_4b K4 l2 l3 h) := by
  intro l2 l3 h
  unfold fX3_worthiestCourt_4b
  refine am_iload_n g dX3_worthiestCourt_4 rfl ?_
  refine am_bipush g dX3_worthiestCourt_5 (am_il rfl) (am_bi rfl) ?_
  refine am_icmp_ge (tgt := 52) g dX3_worthiestCourt_7 (by decide) ?_ ?_
  · refine am_iload_n g dX3_worthiestCourt_52 rfl ?_
    exact am_ireturn g dX3_worthiestCourt_53
  · refine am_aload_n g dX3_worthiestCourt_10 rfl ?_
    refine am_getr (q := 2) (a := 80) g clX3 dX3_worthiestCourt_11 (Nat.le_of_ble_eq_true rfl) rfl (by decide) rfl (Nat.le_of_ble_eq_true rfl) lf_X3_18 ?_
    refine am_iload_n g dX3_worthiestCourt_14 rfl ?_
    refine am_zaload (ix := Int.toNat l3) (nI := 6) g dX3_worthiestCourt_15 (Nat.le_of_ble_eq_true rfl) rfl rfl (Nat.zero_add _) ?_
    refine am_if_ne (tgt := 46) g dX3_worthiestCourt_16 (by decide) ?_ ?_
    · exact (jX3_worthiestCourt_46 g hK4) l2 l3 h
    · refine am_iload_n g dX3_worthiestCourt_19 rfl ?_
      refine am_if_lt (tgt := 44) g dX3_worthiestCourt_20 (by decide) ?_ ?_
      · refine am_drop 2 ?_
        exact (jX3_worthiestCourt_44 g (jX3_worthiestCourt_46 g hK4)) l3 h
      · refine am_aload_n g dX3_worthiestCourt_23 rfl ?_
        refine am_getr (q := 2) (a := 4) g clX0 dX3_worthiestCourt_24 (Nat.le_of_ble_eq_true rfl) rfl (by decide) rfl (Nat.le_of_ble_eq_true rfl) lf_X3_50 ?_
        refine am_iload_n g dX3_worthiestCourt_27 rfl ?_
        refine am_aaload (b := 46) (n := 6) (nI := 6) g dX3_worthiestCourt_28 (Nat.le_of_ble_eq_true rfl) rfl rfl rfl (Nat.le_of_ble_eq_true rfl) (fun c1 => ?_)
        have hd2 : Int.toNat l3 < 6 := by omega
        refine am_geti (q := 4) (kd := 14) (ix := Int.toNat l3) g clX1 dX3_worthiestCourt_29 (Nat.lt_of_lt_of_le (Nat.add_lt_add_left hd2 46) (Nat.le_of_ble_eq_true rfl)) (sh_X1 (Int.toNat l3) hd2) (by decide) rfl lf_X3_68 ?_
        refine am_aload_n g dX3_worthiestCourt_32 rfl ?_
        refine am_getr (q := 2) (a := 4) g clX0 dX3_worthiestCourt_33 (Nat.le_of_ble_eq_true rfl) rfl (by decide) rfl (Nat.le_of_ble_eq_true rfl) lf_X3_50 ?_
        refine am_iload_n g dX3_worthiestCourt_36 rfl ?_
        refine am_aaload (b := 46) (n := 6) (nI := 6) g dX3_worthiestCourt_37 (Nat.le_of_ble_eq_true rfl) rfl rfl rfl (Nat.le_of_ble_eq_true rfl) (fun c3 => ?_)
        have hd4 : Int.toNat l2 < 6 := by omega
        refine am_geti (q := 4) (kd := 14) (ix := Int.toNat l2) g clX1 dX3_worthiestCourt_38 (Nat.lt_of_lt_of_le (Nat.add_lt_add_left hd4 46) (Nat.le_of_ble_eq_true rfl)) (sh_X1 (Int.toNat l2) hd4) (by decide) rfl lf_X3_68 ?_
        refine am_icmp_le (tgt := 46) g dX3_worthiestCourt_41 (by decide) ?_ ?_
        · exact (jX3_worthiestCourt_46 g hK4) l2 l3 h
        · refine am_drop 2 ?_
          exact (jX3_worthiestCourt_44 g (jX3_worthiestCourt_46 g hK4)) l3 h
theorem jX3_worthiestCourt_4 {D : va_G} {a : Nat → ClassId} {ad : Nat → Nat} {G : am_G} (g : am_Gd (EX D a ad) RX3 cX3_worthiestCourt 4 (some .int) 1 G) : ∀ (l2 : Int), ∀ (l3 : Int), ∀ h : am_M, am_J (EX D a ad) G 4 am_ei 4 [some (.inr (some 77)), some (.inr (some 1)), some (.inl l2), some (.inl l3)] [] h (fX3_worthiestCourt_4 l2 l3 h) := by
  unfold fX3_worthiestCourt_4
  generalize 400 = n
  induction n with
  | zero => intro l2 l3 h; exact am_jn
  | succ n ih => exact jX3_worthiestCourt_4b g ih
def fX3_worthiestCourt (h : am_M) : Option (Int × am_M) := fX3_worthiestCourt_4 (-1) 0 h
set_option maxRecDepth 10000 in
theorem cX3_worthiestCourtC {D : va_G} {a : Nat → ClassId} {ad : Nat → Nat}  (h : am_M) : am_C (EX D a ad) yX3_worthiestCourt cX3_worthiestCourt 4 (some .int) 1 [.inr (some 77), .inr (some 1)] h am_ei (fX3_worthiestCourt h) := by
  refine am_ofJ (L := [some (.inr (some 77)), some (.inr (some 1)), none, none]) (by decide) rfl (Nat.le_of_ble_eq_true rfl) (fun G g => ?_)
  have g : am_Gd (EX D a ad) RX3 cX3_worthiestCourt 4 (some .int) 1 G := g
  unfold fX3_worthiestCourt
  refine am_iconst g dX3_worthiestCourt_0 (am_il rfl) rfl ?_
  refine am_istore_n g dX3_worthiestCourt_1 (by decide) ?_
  refine am_iconst g dX3_worthiestCourt_2 (am_il rfl) rfl ?_
  refine am_istore_n g dX3_worthiestCourt_3 (by decide) ?_
  exact (jX3_worthiestCourt_4 g) (-1) 0 h
def fX3_isBusy (a2 : Int) (a3 : Int) (h : am_M) : Option (Int × am_M) := am_b (fX3_playerOf a2 a3 h) (fun v1 h2 => am_b (fX8_isPlayer v1 h2) (fun v3 h4 => if v3 = 0 then some (0, h4) else if 0 ≤ v1 ∧ v1 < 40 then if (h4 49 (Int.toNat v1)) = 0 then some (0, h4) else some (1, h4) else none))
set_option maxRecDepth 10000 in
theorem cX3_isBusyC {D : va_G} {a : Nat → ClassId} {ad : Nat → Nat} (a2 : Int) (a3 : Int) (h : am_M) : am_C (EX D a ad) yX3_isBusy cX3_isBusy 5 (some .boolean) 4 [.inr (some 77), .inr (some 1), .inl a2, .inl a3] h am_ei (fX3_isBusy a2 a3 h) := by
  refine am_ofJ (L := [some (.inr (some 77)), some (.inr (some 1)), some (.inl a2), some (.inl a3), none]) (by decide) rfl (Nat.le_of_ble_eq_true rfl) (fun G g => ?_)
  have g : am_Gd (EX D a ad) RX3 cX3_isBusy 5 (some .boolean) 4 G := g
  unfold fX3_isBusy
  refine am_aload_n g dX3_isBusy_0 rfl ?_
  refine am_iload_n g dX3_isBusy_1 rfl ?_
  refine am_iload_n g dX3_isBusy_2 rfl ?_
  refine am_Si (as := [.inr (some 1), .inl a2, .inl a3]) (S := []) g (cX3_playerOfC a2 a3 h) mi_X3_playerOf lm_X3_74 dX3_isBusy_3 rfl (by decide) (Nat.le_of_ble_eq_true rfl) rfl (fun v1 h2 => ?_)
  refine am_istore g dX3_isBusy_6 (by decide) ?_
  refine am_iload g dX3_isBusy_8 rfl ?_
  refine am_SNi (as := [.inl v1]) (S := []) g (cX8_isPlayerC v1 h2) mi_X8_isPlayer ln_X3_77 dX3_isBusy_10 rfl (by decide) (Nat.le_of_ble_eq_true rfl) rfl (fun v3 h4 => ?_)
  refine am_if_eq (tgt := 30) g dX3_isBusy_13 (by decide) ?_ ?_
  · refine am_iconst g dX3_isBusy_30 (am_il rfl) rfl ?_
    exact am_zreturn g dX3_isBusy_31 (by decide)
  · refine am_aload_n g dX3_isBusy_16 rfl ?_
    refine am_getr (q := 1) (a := 79) g clX3 dX3_isBusy_17 (Nat.le_of_ble_eq_true rfl) rfl (by decide) rfl (Nat.le_of_ble_eq_true rfl) lf_X3_15 ?_
    refine am_iload g dX3_isBusy_20 rfl ?_
    refine am_zaload (ix := Int.toNat v1) (nI := 40) g dX3_isBusy_22 (Nat.le_of_ble_eq_true rfl) rfl rfl (Nat.zero_add _) ?_
    refine am_if_eq (tgt := 30) g dX3_isBusy_23 (by decide) ?_ ?_
    · refine am_iconst g dX3_isBusy_30 (am_il rfl) rfl ?_
      exact am_zreturn g dX3_isBusy_31 (by decide)
    · refine am_iconst g dX3_isBusy_26 (am_il rfl) rfl ?_
      refine am_goto (tgt := 31) g dX3_isBusy_27 (by decide) ?_
      exact am_zreturn g dX3_isBusy_31 (by decide)
