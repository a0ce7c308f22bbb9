def fX9_held (a1 : Int) (a2 : Int) (h : am_M) : Option (Int × am_M) := am_b (fX9_isSlot a1 a2 h) (fun v1 h2 => if v1 = 0 then some ((-2000), h2) else if 0 ≤ (am_w ((am_w (6 * a1)) + a2)) ∧ (am_w ((am_w (6 * a1)) + a2)) < 36 then some (h2 17 (Int.toNat (am_w ((am_w (6 * a1)) + a2))), h2) else none)
set_option maxRecDepth 10000 in
theorem cX9_heldC {D : va_G} {a : Nat → ClassId} {ad : Nat → Nat} (a1 : Int) (a2 : Int) (h : am_M) : am_C (EM D a ad) yX9_held cX9_held 3 (some .int) 4 [.inr (some 0), .inl a1, .inl a2] h am_ei (fX9_held a1 a2 h) := by
  refine am_ofJ (L := [some (.inr (some 0)), some (.inl a1), some (.inl a2)]) (by decide) rfl (Nat.le_of_ble_eq_true rfl) (fun G g => ?_)
  have g : am_Gd (EM D a ad) RX9 cX9_held 3 (some .int) 4 G := g
  unfold fX9_held
  refine am_aload_n g dX9_held_0 rfl ?_
  refine am_iload_n g dX9_held_1 rfl ?_
  refine am_iload_n g dX9_held_2 rfl ?_
  refine am_Vi (as := [.inl a1, .inl a2]) (S := []) g (cX9_isSlotC a1 a2 h) mi_X9_isSlot lm_X9_250 clX9.1 (Nat.le_of_ble_eq_true rfl) rfl dX9_held_3 rfl (by decide) (Nat.le_of_ble_eq_true rfl) rfl (fun v1 h2 => ?_)
  refine am_if_eq (tgt := 23) g dX9_held_6 (by decide) ?_ ?_
  · refine am_sipush g dX9_held_23 (am_il rfl) (am_si rfl) ?_
    exact am_ireturn g dX9_held_26
  · refine am_aload_n g dX9_held_9 rfl ?_
    refine am_getr (q := 20) (a := 21) g clX9 dX9_held_10 (Nat.le_of_ble_eq_true rfl) rfl (by decide) rfl (Nat.le_of_ble_eq_true rfl) lf_X9_72 ?_
    refine am_bipush g dX9_held_13 (am_il rfl) (am_bi rfl) ?_
    refine am_iload_n g dX9_held_15 rfl ?_
    refine am_imul g dX9_held_16 ?_
    refine am_iload_n g dX9_held_17 rfl ?_
    refine am_iadd g dX9_held_18 ?_
    refine am_iaload (ix := Int.toNat (am_w ((am_w (6 * a1)) + a2))) (nI := 36) g dX9_held_19 (Nat.le_of_ble_eq_true rfl) rfl rfl (Nat.zero_add _) ?_
    refine am_goto (tgt := 26) g dX9_held_20 (by decide) ?_
    exact am_ireturn g dX9_held_26
def fX9_isAhead (a1 : Int) (a2 : Int) (a3 : Int) (a4 : Int) (h : am_M) : Option (Int × am_M) := if a2 < a4 then some (1, h) else if a2 = a4 then (if a1 < a3 then some (1, h) else some (0, h)) else some (0, h)
set_option maxRecDepth 10000 in
theorem cX9_isAheadC {D : va_G} {a : Nat → ClassId} {ad : Nat → Nat} (a1 : Int) (a2 : Int) (a3 : Int) (a4 : Int) (h : am_M) : am_C (EM D a ad) yX9_isAhead cX9_isAhead 4 (some .boolean) 1 [.inl a1, .inl a2, .inl a3, .inl a4] h am_ei (fX9_isAhead a1 a2 a3 a4 h) := by
  refine am_ofJ (L := [some (.inl a1), some (.inl a2), some (.inl a3), some (.inl a4)]) (by decide) rfl (Nat.le_of_ble_eq_true rfl) (fun G g => ?_)
  have g : am_Gd (EM D a ad) RX9 cX9_isAhead 4 (some .boolean) 1 G := g
  unfold fX9_isAhead
  refine am_iload_n g dX9_isAhead_0 rfl ?_
  refine am_iload_n g dX9_isAhead_1 rfl ?_
  refine am_icmp_lt (tgt := 15) g dX9_isAhead_2 (by decide) ?_ ?_
  · refine am_iconst g dX9_isAhead_15 (am_il rfl) rfl ?_
    refine am_goto (tgt := 20) g dX9_isAhead_16 (by decide) ?_
    exact am_zreturn g dX9_isAhead_20 (by decide)
  · refine am_iload_n g dX9_isAhead_5 rfl ?_
    refine am_iload_n g dX9_isAhead_6 rfl ?_
    refine am_icmp_ne (tgt := 19) g dX9_isAhead_7 (by decide) ?_ ?_
    · refine am_iconst g dX9_isAhead_19 (am_il rfl) rfl ?_
      exact am_zreturn g dX9_isAhead_20 (by decide)
    · refine am_iload_n g dX9_isAhead_10 rfl ?_
      refine am_iload_n g dX9_isAhead_11 rfl ?_
      refine am_icmp_ge (tgt := 19) g dX9_isAhead_12 (by decide) ?_ ?_
      · refine am_iconst g dX9_isAhead_19 (am_il rfl) rfl ?_
        exact am_zreturn g dX9_isAhead_20 (by decide)
      · refine am_iconst g dX9_isAhead_15 (am_il rfl) rfl ?_
        refine am_goto (tgt := 20) g dX9_isAhead_16 (by decide) ?_
        exact am_zreturn g dX9_isAhead_20 (by decide)
def fX9_isOn (a1 : Int) (a2 : Int) (h : am_M) : Option (Int × am_M) := if a2 < 0 then some (0, h) else am_b (fX9_sideOf 8 a1 0 h) (fun v1 h2 => if v1 = a2 then some (1, h2) else am_b (fX9_sideOf 8 a1 1 h2) (fun v3 h4 => if v3 = a2 then some (1, h4) else some (0, h4)))
set_option maxRecDepth 10000 in
theorem cX9_isOnC {D : va_G} {a : Nat → ClassId} {ad : Nat → Nat} (a1 : Int) (a2 : Int) (h : am_M) : am_C (EM D a ad) yX9_isOn cX9_isOn 3 (some .boolean) 40 [.inr (some 0), .inl a1, .inl a2] h am_ei (fX9_isOn a1 a2 h) := by
  refine am_ofJ (L := [some (.inr (some 0)), some (.inl a1), some (.inl a2)]) (by decide) rfl (Nat.le_of_ble_eq_true rfl) (fun G g => ?_)
  have g : am_Gd (EM D a ad) RX9 cX9_isOn 3 (some .boolean) 40 G := g
  unfold fX9_isOn
  refine am_iload_n g dX9_isOn_0 rfl ?_
  refine am_if_lt (tgt := 28) g dX9_isOn_1 (by decide) ?_ ?_
  · refine am_iconst g dX9_isOn_28 (am_il rfl) rfl ?_
    exact am_zreturn g dX9_isOn_29 (by decide)
  · refine am_aload_n g dX9_isOn_4 rfl ?_
    refine am_iload_n g dX9_isOn_5 rfl ?_
    refine am_iconst g dX9_isOn_6 (am_il rfl) rfl ?_
    refine am_Vi (as := [.inl a1, .inl 0]) (S := []) g (cX9_sideOfC a1 0 h) mi_X9_sideOf lm_X9_173 clX9.1 (Nat.le_of_ble_eq_true rfl) rfl dX9_isOn_7 rfl (by decide) (Nat.le_of_ble_eq_true rfl) rfl (fun v1 h2 => ?_)
    refine am_iload_n g dX9_isOn_10 rfl ?_
    refine am_icmp_eq (tgt := 24) g dX9_isOn_11 (by decide) ?_ ?_
    · refine am_iconst g dX9_isOn_24 (am_il rfl) rfl ?_
      refine am_goto (tgt := 29) g dX9_isOn_25 (by decide) ?_
      exact am_zreturn g dX9_isOn_29 (by decide)
    · refine am_aload_n g dX9_isOn_14 rfl ?_
      refine am_iload_n g dX9_isOn_15 rfl ?_
      refine am_iconst g dX9_isOn_16 (am_il rfl) rfl ?_
      refine am_Vi (as := [.inl a1, .inl 1]) (S := []) g (cX9_sideOfC a1 1 h2) mi_X9_sideOf lm_X9_173 clX9.1 (Nat.le_of_ble_eq_true rfl) rfl dX9_isOn_17 rfl (by decide) (Nat.le_of_ble_eq_true rfl) rfl (fun v3 h4 => ?_)
      refine am_iload_n g dX9_isOn_20 rfl ?_
      refine am_icmp_ne (tgt := 28) g dX9_isOn_21 (by decide) ?_ ?_
      · refine am_iconst g dX9_isOn_28 (am_il rfl) rfl ?_
        exact am_zreturn g dX9_isOn_29 (by decide)
      · refine am_iconst g dX9_isOn_24 (am_il rfl) rfl ?_
        refine am_goto (tgt := 29) g dX9_isOn_25 (by decide) ?_
        exact am_zreturn g dX9_isOn_29 (by decide)
def fX9_lastEnd_55 (K4 : Int → Int → Int → am_M → Option (Int × am_M)) (l1 : Int) (l2 : Int) (l3 : Int) (h : am_M) : Option (Int × am_M) := K4 l1 l2 (am_w (l3 + 1)) h
set_option maxRecDepth 10000 in
theorem jX9_lastEnd_55 {D : va_G} {a : Nat → ClassId} {ad : Nat → Nat} {G : am_G} (g : am_Gd (EM D a ad) RX9 cX9_lastEnd 4 (some .int) 41 G) {K4 : Int → Int → Int → am_M → Option (Int × am_M)} (hK4 : ∀ (l1 : Int), ∀ (l2 : Int), ∀ (l3 : Int), ∀ h : am_M, am_J (EM D a ad) G 4 am_ei 4 [some (.inr (some 0)), some (.inl l1), some (.inl l2), some (.inl l3)] [] h (K4 l1 l2 l3 h)) : ∀ (l1 : Int), ∀ (l2 : Int), ∀ (l3 : Int), ∀ h : am_M, am_J (EM D a ad) G 4 am_ei 55 [some (.inr (some 0)), some (.inl l1), some (.inl l2), some (.inl l3)] [] h (fX9_lastEnd_55 K4 l1 l2 l3 h) := by
  intro l1 l2 l3 h
  unfold fX9_lastEnd_55
  refine am_iinc g dX9_lastEnd_55 (by decide) rfl ?_
  refine am_goto (tgt := 4) g dX9_lastEnd_58 (by decide) ?_
  exact hK4 l1 l2 (am_w (l3 + 1)) h
def fX9_lastEnd_4b (K4 : Int → Int → Int → am_M → Option (Int × am_M)) (l1 : Int) (l2 : Int) (l3 : Int) (h : am_M) : Option (Int × am_M) := if l3 < 64 then (am_b (fX9_isMatch l3 h) (fun v1 h2 => if v1 = 0 then (fX9_lastEnd_55 K4) l1 l2 l3 h2 else am_b (fX9_isEnded l3 h2) (fun v3 h4 => if v3 = 0 then (fX9_lastEnd_55 K4) l1 l2 l3 h4 else if 0 ≤ l3 ∧ l3 < 64 then if (h4 10 (Int.toNat l3)) < 0 then (fX9_lastEnd_55 K4) l1 l2 l3 h4 else am_b (fX9_isOn l3 l1 h4) (fun v5 h6 => if v5 = 0 then (fX9_lastEnd_55 K4) l1 l2 l3 h6 else if 0 ≤ l3 ∧ l3 < 64 then am_l (max l2 (h6 10 (Int.toNat l3))) (fun x7 => (fX9_lastEnd_55 K4) l1 x7 l3 h6) else none) else none))) else some (l2, h)
def fX9_lastEnd_4 : Int → Int → Int → am_M → Option (Int × am_M) := am_it (fun _ _ _ _ => none) (fX9_lastEnd_4b) 400
set_option maxRecDepth 10000 in
theorem jX9_lastEnd_4b {D : va_G} {a : Nat → ClassId} {ad : Nat → Nat} {G : am_G} (g : am_Gd (EM D a ad) RX9 cX9_lastEnd 4 (some .int) 41 G) {K4 : Int → Int → Int → am_M → Option (Int × am_M)} (hK4 : ∀ (l1 : Int), ∀ (l2 : Int), ∀ (l3 : Int), ∀ h : am_M, am_J (EM D a ad) G 4 am_ei 4 [some (.inr (some 0)), some (.inl l1), some (.inl l2), some (.inl l3)] [] h (K4 l1 l2 l3 h)) : ∀ (l1 : Int), ∀ (l2 : Int), ∀ (l3 : Int), ∀ h : am_M, am_J (EM D a ad) G 4 am_ei 4 [some (.inr (some 0)), some (.inl l1), some (.inl l2), some (.inl l3)] [] h (fX9_lastEnd_4b K4 l1 l2 l3 h) := by
  intro l1 l2 l3 h
  unfold fX9_lastEnd_4b
  refine am_iload_n g dX9_lastEnd_4 rfl ?_
  refine am_bipush g dX9_lastEnd_5 (am_il rfl) (am_bi rfl) ?_
  refine am_icmp_ge (tgt := 61) g dX9_lastEnd_7 (by decide) ?_ ?_
  · refine am_iload_n g dX9_lastEnd_61 rfl ?_
    exact am_ireturn g dX9_lastEnd_62
  · refine am_aload_n g dX9_lastEnd_10 rfl ?_
    refine am_iload_n g dX9_lastEnd_11 rfl ?_
    refine am_Vi (as := [.inl l3]) (S := []) g (cX9_isMatchC l3 h) mi_X9_isMatch lm_X9_191 clX9.1 (Nat.le_of_ble_eq_true rfl) rfl dX9_lastEnd_12 rfl (by decide) (Nat.le_of_ble_eq_true rfl) rfl (fun v1 h2 => ?_)
    refine am_if_eq (tgt := 55) g dX9_lastEnd_15 (by decide) ?_ ?_
    · exact (jX9_lastEnd_55 g hK4) l1 l2 l3 h2
    · refine am_aload_n g dX9_lastEnd_18 rfl ?_
      refine am_iload_n g dX9_lastEnd_19 rfl ?_
      refine am_Vi (as := [.inl l3]) (S := []) g (cX9_isEndedC l3 h2) mi_X9_isEnded lm_X9_161 clX9.1 (Nat.le_of_ble_eq_true rfl) rfl dX9_lastEnd_20 rfl (by decide) (Nat.le_of_ble_eq_true rfl) rfl (fun v3 h4 => ?_)
      refine am_if_eq (tgt := 55) g dX9_lastEnd_23 (by decide) ?_ ?_
      · exact (jX9_lastEnd_55 g hK4) l1 l2 l3 h4
      · refine am_aload_n g dX9_lastEnd_26 rfl ?_
        refine am_getr (q := 13) (a := 14) g clX9 dX9_lastEnd_27 (Nat.le_of_ble_eq_true rfl) rfl (by decide) rfl (Nat.le_of_ble_eq_true rfl) lf_X9_51 ?_
        refine am_iload_n g dX9_lastEnd_30 rfl ?_
        refine am_iaload (ix := Int.toNat l3) (nI := 64) g dX9_lastEnd_31 (Nat.le_of_ble_eq_true rfl) rfl rfl (Nat.zero_add _) ?_
        refine am_if_lt (tgt := 55) g dX9_lastEnd_32 (by decide) ?_ ?_
        · exact (jX9_lastEnd_55 g hK4) l1 l2 l3 h4
        · refine am_aload_n g dX9_lastEnd_35 rfl ?_
          refine am_iload_n g dX9_lastEnd_36 rfl ?_
          refine am_iload_n g dX9_lastEnd_37 rfl ?_
          refine am_Vi (as := [.inl l3, .inl l1]) (S := []) g (cX9_isOnC l3 l1 h4) mi_X9_isOn lm_X9_270 clX9.1 (Nat.le_of_ble_eq_true rfl) rfl dX9_lastEnd_38 rfl (by decide) (Nat.le_of_ble_eq_true rfl) rfl (fun v5 h6 => ?_)
          refine am_if_eq (tgt := 55) g dX9_lastEnd_41 (by decide) ?_ ?_
          · exact (jX9_lastEnd_55 g hK4) l1 l2 l3 h6
          · refine am_iload_n g dX9_lastEnd_44 rfl ?_
            refine am_aload_n g dX9_lastEnd_45 rfl ?_
            refine am_getr (q := 13) (a := 14) g clX9 dX9_lastEnd_46 (Nat.le_of_ble_eq_true rfl) rfl (by decide) rfl (Nat.le_of_ble_eq_true rfl) lf_X9_51 ?_
            refine am_iload_n g dX9_lastEnd_49 rfl ?_
            refine am_iaload (ix := Int.toNat l3) (nI := 64) g dX9_lastEnd_50 (Nat.le_of_ble_eq_true rfl) rfl rfl (Nat.zero_add _) ?_
            refine am_max g lm_X9_194 l_max1 l_max2 l_max3 dX9_lastEnd_51 (by decide) (Nat.le_of_ble_eq_true rfl) ?_
            refine am_gv (fun x7 => ?_)
            refine am_istore_n g dX9_lastEnd_54 (by decide) ?_
            exact (jX9_lastEnd_55 g hK4) l1 x7 l3 h6
theorem jX9_lastEnd_4 {D : va_G} {a : Nat → ClassId} {ad : Nat → Nat} {G : am_G} (g : am_Gd (EM D a ad) RX9 cX9_lastEnd 4 (some .int) 41 G) : ∀ (l1 : Int), ∀ (l2 : Int), ∀ (l3 : Int), ∀ h : am_M, am_J (EM D a ad) G 4 am_ei 4 [some (.inr (some 0)), some (.inl l1), some (.inl l2), some (.inl l3)] [] h (fX9_lastEnd_4 l1 l2 l3 h) := by
  unfold fX9_lastEnd_4
  generalize 400 = n
  induction n with
  | zero => intro l1 l2 l3 h; exact am_jn
  | succ n ih => exact jX9_lastEnd_4b g ih
def fX9_lastEnd (a1 : Int) (h : am_M) : Option (Int × am_M) := fX9_lastEnd_4 a1 (-1) 0 h
set_option maxRecDepth 10000 in
theorem cX9_lastEndC {D : va_G} {a : Nat → ClassId} {ad : Nat → Nat} (a1 : Int) (h : am_M) : am_C (EM D a ad) yX9_lastEnd cX9_lastEnd 4 (some .int) 41 [.inr (some 0), .inl a1] h am_ei (fX9_lastEnd a1 h) := by
  refine am_ofJ (L := [some (.inr (some 0)), some (.inl a1), none, none]) (by decide) rfl (Nat.le_of_ble_eq_true rfl) (fun G g => ?_)
  have g : am_Gd (EM D a ad) RX9 cX9_lastEnd 4 (some .int) 41 G := g
  unfold fX9_lastEnd
  refine am_iconst g dX9_lastEnd_0 (am_il rfl) rfl ?_
  refine am_istore_n g dX9_lastEnd_1 (by decide) ?_
  refine am_iconst g dX9_lastEnd_2 (am_il rfl) rfl ?_
  refine am_istore_n g dX9_lastEnd_3 (by decide) ?_
  exact (jX9_lastEnd_4 g) a1 (-1) 0 h
def fX9_earliest_216 (K68 : Int → Int → Int → Int → Int → am_M → Option (Int × am_M)) (l1 : Int) (l2 : Int) (l3 : Int) (l4 : Int) (l5 : Int) (h : am_M) : Option (Int × am_M) := K68 l1 l2 l3 l4 (am_w (l5 + 1)) h
set_option maxRecDepth 10000 in
theorem jX9_earliest_216 {D : va_G} {a : Nat → ClassId} {ad : Nat → Nat} {G : am_G} (g : am_Gd (EM D a ad) RX9 cX9_earliest 8 (some .int) 42 G) {K68 : Int → Int → Int → Int → Int → am_M → Option (Int × am_M)} (hK68 : ∀ (l1 : Int), ∀ (l2 : Int), ∀ (l3 : Int), ∀ (l4 : Int), ∀ (l5 : Int), ∀ h : am_M, am_J (EM D a ad) G 8 am_ei 68 [some (.inr (some 0)), some (.inl l1), some (.inl l2), some (.inl l3), some (.inl l4), some (.inl l5), none, none] [] h (K68 l1 l2 l3 l4 l5 h)) : ∀ (l1 : Int), ∀ (l2 : Int), ∀ (l3 : Int), ∀ (l4 : Int), ∀ (l5 : Int), ∀ h : am_M, am_J (EM D a ad) G 8 am_ei 216 [some (.inr (some 0)), some (.inl l1), some (.inl l2), some (.inl l3), some (.inl l4), some (.inl l5), none, none] [] h (fX9_earliest_216 K68 l1 l2 l3 l4 l5 h) := by
  intro l1 l2 l3 l4 l5 h
  unfold fX9_earliest_216
  refine am_iinc g dX9_earliest_216 (by decide) rfl ?_
  refine am_goto (tgt := 68) g dX9_earliest_219 (by decide) ?_
  exact hK68 l1 l2 l3 l4 (am_w (l5 + 1)) h
def fX9_earliest_178 (K183 : Int → Int → Int → Int → Int → Int → Int → am_M → Option (Int × am_M)) (l1 : Int) (l2 : Int) (l3 : Int) (l4 : Int) (l5 : Int) (l6 : Int) (h : am_M) : Option (Int × am_M) := K183 l1 l2 l3 l4 l5 l6 1 h
set_option maxRecDepth 10000 in
theorem jX9_earliest_178 {D : va_G} {a : Nat → ClassId} {ad : Nat → Nat} {G : am_G} (g : am_Gd (EM D a ad) RX9 cX9_earliest 8 (some .int) 42 G) {K183 : Int → Int → Int → Int → Int → Int → Int → am_M → Option (Int × am_M)} (hK183 : ∀ (l1 : Int), ∀ (l2 : Int), ∀ (l3 : Int), ∀ (l4 : Int), ∀ (l5 : Int), ∀ (l6 : Int), ∀ (s0 : Int), ∀ h : am_M, am_J (EM D a ad) G 8 am_ei 183 [some (.inr (some 0)), some (.inl l1), some (.inl l2), some (.inl l3), some (.inl l4), some (.inl l5), some (.inl l6), none] [.inl s0] h (K183 l1 l2 l3 l4 l5 l6 s0 h)) : ∀ (l1 : Int), ∀ (l2 : Int), ∀ (l3 : Int), ∀ (l4 : Int), ∀ (l5 : Int), ∀ (l6 : Int), ∀ h : am_M, am_J (EM D a ad) G 8 am_ei 178 [some (.inr (some 0)), some (.inl l1), some (.inl l2), some (.inl l3), some (.inl l4), some (.inl l5), some (.inl l6), none] [] h (fX9_earliest_178 K183 l1 l2 l3 l4 l5 l6 h) := by
  intro l1 l2 l3 l4 l5 l6 h
  unfold fX9_earliest_178
  refine am_iconst g dX9_earliest_178 (am_il rfl) rfl ?_
  refine am_goto (tgt := 183) g dX9_earliest_179 (by decide) ?_
  exact hK183 l1 l2 l3 l4 l5 l6 1 h
def fX9_earliest_195 (K216 : Int → Int → Int → Int → Int → am_M → Option (Int × am_M)) (l1 : Int) (l2 : Int) (l3 : Int) (l4 : Int) (l5 : Int) (h : am_M) : Option (Int × am_M) := if 0 ≤ l5 ∧ l5 < 36 then am_l (max l4 (am_w ((h 43 (Int.toNat l5)) + (h 18 0)))) (fun x9 => K216 l1 l2 l3 x9 l5 h) else none
set_option maxRecDepth 10000 in
theorem jX9_earliest_195 {D : va_G} {a : Nat → ClassId} {ad : Nat → Nat} {G : am_G} (g : am_Gd (EM D a ad) RX9 cX9_earliest 8 (some .int) 42 G) {K216 : Int → Int → Int → Int → Int → am_M → Option (Int × am_M)} (hK216 : ∀ (l1 : Int), ∀ (l2 : Int), ∀ (l3 : Int), ∀ (l4 : Int), ∀ (l5 : Int), ∀ h : am_M, am_J (EM D a ad) G 8 am_ei 216 [some (.inr (some 0)), some (.inl l1), some (.inl l2), some (.inl l3), some (.inl l4), some (.inl l5), none, none] [] h (K216 l1 l2 l3 l4 l5 h)) : ∀ (l1 : Int), ∀ (l2 : Int), ∀ (l3 : Int), ∀ (l4 : Int), ∀ (l5 : Int), ∀ h : am_M, am_J (EM D a ad) G 8 am_ei 195 [some (.inr (some 0)), some (.inl l1), some (.inl l2), some (.inl l3), some (.inl l4), some (.inl l5), none, none] [] h (fX9_earliest_195 K216 l1 l2 l3 l4 l5 h) := by
  intro l1 l2 l3 l4 l5 h
  unfold fX9_earliest_195
  refine am_iload g dX9_earliest_195 rfl ?_
  refine am_aload_n g dX9_earliest_197 rfl ?_
  refine am_getr (q := 35) (a := 30) g clX9 dX9_earliest_198 (Nat.le_of_ble_eq_true rfl) rfl (by decide) rfl (Nat.le_of_ble_eq_true rfl) lf_X9_99 ?_
  refine am_iload g dX9_earliest_201 rfl ?_
  refine am_iaload (ix := Int.toNat l5) (nI := 36) g dX9_earliest_203 (Nat.le_of_ble_eq_true rfl) rfl rfl (Nat.zero_add _) ?_
  refine am_aload_n g dX9_earliest_204 rfl ?_
  refine am_getr (q := 21) (a := 22) g clX9 dX9_earliest_205 (Nat.le_of_ble_eq_true rfl) rfl (by decide) rfl (Nat.le_of_ble_eq_true rfl) lf_X9_75 ?_
  refine am_iconst g dX9_earliest_208 (am_il rfl) rfl ?_
  refine am_ialoadC (ix := 0) (nI := 4) g dX9_earliest_209 (Nat.le_of_ble_eq_true rfl) rfl rfl rfl rfl ?_
  refine am_iadd g dX9_earliest_210 ?_
  refine am_max g lm_X9_194 l_max1 l_max2 l_max3 dX9_earliest_211 (by decide) (Nat.le_of_ble_eq_true rfl) ?_
  refine am_gv (fun x9 => ?_)
  refine am_istore g dX9_earliest_214 (by decide) ?_
  exact hK216 l1 l2 l3 x9 l5 h
def fX9_earliest_183 (K216 : Int → Int → Int → Int → Int → am_M → Option (Int × am_M)) (l1 : Int) (l2 : Int) (l3 : Int) (l4 : Int) (l5 : Int) (l6 : Int) (s0 : Int) (h : am_M) : Option (Int × am_M) := if l6 = 0 then (if s0 = 0 then K216 l1 l2 l3 l4 l5 h else (fX9_earliest_195 K216) l1 l2 l3 l4 l5 h) else (fX9_earliest_195 K216) l1 l2 l3 l4 l5 h
set_option maxRecDepth 10000 in
theorem jX9_earliest_183 {D : va_G} {a : Nat → ClassId} {ad : Nat → Nat} {G : am_G} (g : am_Gd (EM D a ad) RX9 cX9_earliest 8 (some .int) 42 G) {K216 : Int → Int → Int → Int → Int → am_M → Option (Int × am_M)} (hK216 : ∀ (l1 : Int), ∀ (l2 : Int), ∀ (l3 : Int), ∀ (l4 : Int), ∀ (l5 : Int), ∀ h : am_M, am_J (EM D a ad) G 8 am_ei 216 [some (.inr (some 0)), some (.inl l1), some (.inl l2), some (.inl l3), some (.inl l4), some (.inl l5), none, none] [] h (K216 l1 l2 l3 l4 l5 h)) : ∀ (l1 : Int), ∀ (l2 : Int), ∀ (l3 : Int), ∀ (l4 : Int), ∀ (l5 : Int), ∀ (l6 : Int), ∀ (s0 : Int), ∀ h : am_M, am_J (EM D a ad) G 8 am_ei 183 [some (.inr (some 0)), some (.inl l1), some (.inl l2), some (.inl l3), some (.inl l4), some (.inl l5), some (.inl l6), none] [.inl s0] h (fX9_earliest_183 K216 l1 l2 l3 l4 l5 l6 s0 h) := by
  intro l1 l2 l3 l4 l5 l6 s0 h
  unfold fX9_earliest_183
  refine am_istore g dX9_earliest_183 (by decide) ?_
  refine am_iload g dX9_earliest_185 rfl ?_
  refine am_if_ne (tgt := 195) g dX9_earliest_187 (by decide) ?_ ?_
  · refine am_drop 6 ?_
    refine am_drop 7 ?_
    exact (jX9_earliest_195 g hK216) l1 l2 l3 l4 l5 h
  · refine am_iload g dX9_earliest_190 rfl ?_
    refine am_if_eq (tgt := 216) g dX9_earliest_192 (by decide) ?_ ?_
    · refine am_drop 6 ?_
      refine am_drop 7 ?_
      exact hK216 l1 l2 l3 l4 l5 h
    · refine am_drop 6 ?_
      refine am_drop 7 ?_
      exact (jX9_earliest_195 g hK216) l1 l2 l3 l4 l5 h
def fX9_earliest_136 (K216 : Int → Int → Int → Int → Int → am_M → Option (Int × am_M)) (l1 : Int) (l2 : Int) (l3 : Int) (l4 : Int) (l5 : Int) (s0 : Int) (h : am_M) : Option (Int × am_M) := if 0 ≤ l5 ∧ l5 < 36 then am_b (fX9_sideOf 8 l1 0 h) (fun v5 h6 => am_b (fX9_isOn (h 17 (Int.toNat l5)) v5 h6) (fun v7 h8 => if v7 = 0 then (if 0 ≤ l5 ∧ l5 < 36 then am_b (fX9_sideOf 8 l1 1 h8) (fun v10 h11 => am_b (fX9_isOn (h8 17 (Int.toNat l5)) v10 h11) (fun v12 h13 => if v12 = 0 then (fX9_earliest_183 K216) l1 l2 l3 l4 l5 s0 0 h13 else (fX9_earliest_178 (fX9_earliest_183 K216)) l1 l2 l3 l4 l5 s0 h13)) else none) else (fX9_earliest_178 (fX9_earliest_183 K216)) l1 l2 l3 l4 l5 s0 h8)) else none
set_option maxRecDepth 10000 in
theorem jX9_earliest_136 {D : va_G} {a : Nat → ClassId} {ad : Nat → Nat} {G : am_G} (g : am_Gd (EM D a ad) RX9 cX9_earliest 8 (some .int) 42 G) {K216 : Int → Int → Int → Int → Int → am_M → Option (Int × am_M)} (hK216 : ∀ (l1 : Int), ∀ (l2 : Int), ∀ (l3 : Int), ∀ (l4 : Int), ∀ (l5 : Int), ∀ h : am_M, am_J (EM D a ad) G 8 am_ei 216 [some (.inr (some 0)), some (.inl l1), some (.inl l2), some (.inl l3), some (.inl l4), some (.inl l5), none, none] [] h (K216 l1 l2 l3 l4 l5 h)) : ∀ (l1 : Int), ∀ (l2 : Int), ∀ (l3 : Int), ∀ (l4 : Int), ∀ (l5 : Int), ∀ (s0 : Int), ∀ h : am_M, am_J (EM D a ad) G 8 am_ei 136 [some (.inr (some 0)), some (.inl l1), some (.inl l2), some (.inl l3), some (.inl l4), some (.inl l5), none, none] [.inl s0] h (fX9_earliest_136 K216 l1 l2 l3 l4 l5 s0 h) := by
  intro l1 l2 l3 l4 l5 s0 h
  unfold fX9_earliest_136
  refine am_istore g dX9_earliest_136 (by decide) ?_
  refine am_aload_n g dX9_earliest_138 rfl ?_
  refine am_aload_n g dX9_earliest_139 rfl ?_
  refine am_getr (q := 20) (a := 21) g clX9 dX9_earliest_140 (Nat.le_of_ble_eq_true rfl) rfl (by decide) rfl (Nat.le_of_ble_eq_true rfl) lf_X9_72 ?_
  refine am_iload g dX9_earliest_143 rfl ?_
  refine am_iaload (ix := Int.toNat l5) (nI := 36) g dX9_earliest_145 (Nat.le_of_ble_eq_true rfl) rfl rfl (Nat.zero_add _) ?_
  refine am_aload_n g dX9_earliest_146 rfl ?_
  refine am_iload_n g dX9_earliest_147 rfl ?_
  refine am_iconst g dX9_earliest_148 (am_il rfl) rfl ?_
  refine am_Vi (as := [.inl l1, .inl 0]) (S := [.inl (h 17 (Int.toNat l5)), .inr (some 0)]) g (cX9_sideOfC l1 0 h) mi_X9_sideOf lm_X9_173 clX9.1 (Nat.le_of_ble_eq_true rfl) rfl dX9_earliest_149 rfl (by decide) (Nat.le_of_ble_eq_true rfl) rfl (fun v5 h6 => ?_)
  refine am_Vi (as := [.inl (h 17 (Int.toNat l5)), .inl v5]) (S := []) g (cX9_isOnC (h 17 (Int.toNat l5)) v5 h6) mi_X9_isOn lm_X9_270 clX9.1 (Nat.le_of_ble_eq_true rfl) rfl dX9_earliest_152 rfl (by decide) (Nat.le_of_ble_eq_true rfl) rfl (fun v7 h8 => ?_)
  refine am_if_ne (tgt := 178) g dX9_earliest_155 (by decide) ?_ ?_
  · exact (jX9_earliest_178 g (jX9_earliest_183 g hK216)) l1 l2 l3 l4 l5 s0 h8
  · refine am_aload_n g dX9_earliest_158 rfl ?_
    refine am_aload_n g dX9_earliest_159 rfl ?_
    refine am_getr (q := 20) (a := 21) g clX9 dX9_earliest_160 (Nat.le_of_ble_eq_true rfl) rfl (by decide) rfl (Nat.le_of_ble_eq_true rfl) lf_X9_72 ?_
    refine am_iload g dX9_earliest_163 rfl ?_
    refine am_iaload (ix := Int.toNat l5) (nI := 36) g dX9_earliest_165 (Nat.le_of_ble_eq_true rfl) rfl rfl (Nat.zero_add _) ?_
    refine am_aload_n g dX9_earliest_166 rfl ?_
    refine am_iload_n g dX9_earliest_167 rfl ?_
    refine am_iconst g dX9_earliest_168 (am_il rfl) rfl ?_
    refine am_Vi (as := [.inl l1, .inl 1]) (S := [.inl (h8 17 (Int.toNat l5)), .inr (some 0)]) g (cX9_sideOfC l1 1 h8) mi_X9_sideOf lm_X9_173 clX9.1 (Nat.le_of_ble_eq_true rfl) rfl dX9_earliest_169 rfl (by decide) (Nat.le_of_ble_eq_true rfl) rfl (fun v10 h11 => ?_)
    refine am_Vi (as := [.inl (h8 17 (Int.toNat l5)), .inl v10]) (S := []) g (cX9_isOnC (h8 17 (Int.toNat l5)) v10 h11) mi_X9_isOn lm_X9_270 clX9.1 (Nat.le_of_ble_eq_true rfl) rfl dX9_earliest_172 rfl (by decide) (Nat.le_of_ble_eq_true rfl) rfl (fun v12 h13 => ?_)
    refine am_if_eq (tgt := 182) g dX9_earliest_175 (by decide) ?_ ?_
    · refine am_iconst g dX9_earliest_182 (am_il rfl) rfl ?_
      exact (jX9_earliest_183 g hK216) l1 l2 l3 l4 l5 s0 0 h13
    · exact (jX9_earliest_178 g (jX9_earliest_183 g hK216)) l1 l2 l3 l4 l5 s0 h13
def fX9_earliest_68b (K68 : Int → Int → Int → Int → Int → am_M → Option (Int × am_M)) (l1 : Int) (l2 : Int) (l3 : Int) (l4 : Int) (l5 : Int) (h : am_M) : Option (Int × am_M) := if l5 < 36 then (if 0 ≤ l5 ∧ l5 < 36 then if (h 52 (Int.toNat l5)) = 0 then (fX9_earliest_216 K68) l1 l2 l3 l4 l5 h else if 0 ≤ l5 ∧ l5 < 36 then if (h 17 (Int.toNat l5)) < 0 then (fX9_earliest_216 K68) l1 l2 l3 l4 l5 h else am_b (fX9_isAhead (am_w (Int.tdiv l5 6)) (Int.tmod l5 6) l2 l3 h) (fun v1 h2 => if v1 = 0 then (fX9_earliest_216 K68) l1 l2 l3 l4 l5 h2 else if 0 ≤ l5 ∧ l5 < 36 then am_b (fX9_fedBy (h2 17 (Int.toNat l5)) h2) (fun v3 h4 => if v3 = l1 then (fX9_earliest_136 (fX9_earliest_216 K68)) l1 l2 l3 l4 l5 1 h4 else (fX9_earliest_136 (fX9_earliest_216 K68)) l1 l2 l3 l4 l5 0 h4) else none) else none else none) else some (l4, h)
def fX9_earliest_68 : Int → Int → Int → Int → Int → am_M → Option (Int × am_M) := am_it (fun _ _ _ _ _ _ => none) (fX9_earliest_68b) 400
set_option maxRecDepth 10000 in
theorem jX9_earliest_68b {D : va_G} {a : Nat → ClassId} {ad : Nat → Nat} {G : am_G} (g : am_Gd (EM D a ad) RX9 cX9_earliest 8 (some .int) 42 G) {K68 : Int → Int → Int → Int → Int → am_M → Option (Int × am_M)} (hK68 : ∀ (l1 : Int), ∀ (l2 : Int), ∀ (l3 : Int), ∀ (l4 : Int), ∀ (l5 : Int), ∀ h : am_M, am_J (EM D a ad) G 8 am_ei 68 [some (.inr (some 0)), some (.inl l1), some (.inl l2), some (.inl l3), some (.inl l4), some (.inl l5), none, none] [] h (K68 l1 l2 l3 l4 l5 h)) : ∀ (l1 : Int), ∀ (l2 : Int), ∀ (l3 : Int), ∀ (l4 : Int), ∀ (l5 : Int), ∀ h : am_M, am_J (EM D a ad) G 8 am_ei 68 [some (.inr (some 0)), some (.inl l1), some (.inl l2), some (.inl l3), some (.inl l4), some (.inl l5), none, none] [] h (fX9_earliest_68b K68 l1 l2 l3 l4 l5 h) := by
  intro l1 l2 l3 l4 l5 h
  unfold fX9_earliest_68b
  refine am_iload g dX9_earliest_68 rfl ?_
  refine am_bipush g dX9_earliest_70 (am_il rfl) (am_bi rfl) ?_
  refine am_icmp_ge (tgt := 222) g dX9_earliest_72 (by decide) ?_ ?_
  · refine am_iload g dX9_earliest_222 rfl ?_
    exact am_ireturn g dX9_earliest_224
  · refine am_aload_n g dX9_earliest_75 rfl ?_
    refine am_getr (q := 33) (a := 28) g clX9 dX9_earliest_76 (Nat.le_of_ble_eq_true rfl) rfl (by decide) rfl (Nat.le_of_ble_eq_true rfl) lf_X9_93 ?_
    refine am_iload g dX9_earliest_79 rfl ?_
    refine am_zaload (ix := Int.toNat l5) (nI := 36) g dX9_earliest_81 (Nat.le_of_ble_eq_true rfl) rfl rfl (Nat.zero_add _) ?_
    refine am_if_eq (tgt := 216) g dX9_earliest_82 (by decide) ?_ ?_
    · exact (jX9_earliest_216 g hK68) l1 l2 l3 l4 l5 h
    · refine am_aload_n g dX9_earliest_85 rfl ?_
      refine am_getr (q := 20) (a := 21) g clX9 dX9_earliest_86 (Nat.le_of_ble_eq_true rfl) rfl (by decide) rfl (Nat.le_of_ble_eq_true rfl) lf_X9_72 ?_
      refine am_iload g dX9_earliest_89 rfl ?_
      refine am_iaload (ix := Int.toNat l5) (nI := 36) g dX9_earliest_91 (Nat.le_of_ble_eq_true rfl) rfl rfl (Nat.zero_add _) ?_
      refine am_if_lt (tgt := 216) g dX9_earliest_92 (by decide) ?_ ?_
      · exact (jX9_earliest_216 g hK68) l1 l2 l3 l4 l5 h
      · refine am_iload g dX9_earliest_95 rfl ?_
        refine am_bipush g dX9_earliest_97 (am_il rfl) (am_bi rfl) ?_
        refine am_idiv g dX9_earliest_99 (by decide) ?_
        refine am_iload g dX9_earliest_100 rfl ?_
        refine am_bipush g dX9_earliest_102 (am_il rfl) (am_bi rfl) ?_
        refine am_irem g dX9_earliest_104 (by decide) ?_
        refine am_iload_n g dX9_earliest_105 rfl ?_
        refine am_iload_n g dX9_earliest_106 rfl ?_
        refine am_Si (as := [.inl (am_w (Int.tdiv l5 6)), .inl (Int.tmod l5 6), .inl l2, .inl l3]) (S := []) g (cX9_isAheadC (am_w (Int.tdiv l5 6)) (Int.tmod l5 6) l2 l3 h) mi_X9_isAhead lm_X9_256 dX9_earliest_107 rfl (by decide) (Nat.le_of_ble_eq_true rfl) rfl (fun v1 h2 => ?_)
        refine am_if_ne (tgt := 116) g dX9_earliest_110 (by decide) ?_ ?_
        · refine am_aload_n g dX9_earliest_116 rfl ?_
          refine am_aload_n g dX9_earliest_117 rfl ?_
          refine am_getr (q := 20) (a := 21) g clX9 dX9_earliest_118 (Nat.le_of_ble_eq_true rfl) rfl (by decide) rfl (Nat.le_of_ble_eq_true rfl) lf_X9_72 ?_
          refine am_iload g dX9_earliest_121 rfl ?_
          refine am_iaload (ix := Int.toNat l5) (nI := 36) g dX9_earliest_123 (Nat.le_of_ble_eq_true rfl) rfl rfl (Nat.zero_add _) ?_
          refine am_Vi (as := [.inl (h2 17 (Int.toNat l5))]) (S := []) g (cX9_fedByC (h2 17 (Int.toNat l5)) h2) mi_X9_fedBy lm_X9_217 clX9.1 (Nat.le_of_ble_eq_true rfl) rfl dX9_earliest_124 rfl (by decide) (Nat.le_of_ble_eq_true rfl) rfl (fun v3 h4 => ?_)
          refine am_iload_n g dX9_earliest_127 rfl ?_
          refine am_icmp_ne (tgt := 135) g dX9_earliest_128 (by decide) ?_ ?_
          · refine am_iconst g dX9_earliest_135 (am_il rfl) rfl ?_
            exact (jX9_earliest_136 g (jX9_earliest_216 g hK68)) l1 l2 l3 l4 l5 0 h4
          · refine am_iconst g dX9_earliest_131 (am_il rfl) rfl ?_
            refine am_goto (tgt := 136) g dX9_earliest_132 (by decide) ?_
            exact (jX9_earliest_136 g (jX9_earliest_216 g hK68)) l1 l2 l3 l4 l5 1 h4
        · refine am_goto (tgt := 216) g dX9_earliest_113 (by decide) ?_
          exact (jX9_earliest_216 g hK68) l1 l2 l3 l4 l5 h2
theorem jX9_earliest_68 {D : va_G} {a : Nat → ClassId} {ad : Nat → Nat} {G : am_G} (g : am_Gd (EM D a ad) RX9 cX9_earliest 8 (some .int) 42 G) : ∀ (l1 : Int), ∀ (l2 : Int), ∀ (l3 : Int), ∀ (l4 : Int), ∀ (l5 : Int), ∀ h : am_M, am_J (EM D a ad) G 8 am_ei 68 [some (.inr (some 0)), some (.inl l1), some (.inl l2), some (.inl l3), some (.inl l4), some (.inl l5), none, none] [] h (fX9_earliest_68 l1 l2 l3 l4 l5 h) := by
  unfold fX9_earliest_68
  generalize 400 = n
  induction n with
  | zero => intro l1 l2 l3 l4 l5 h; exact am_jn
  | succ n ih => exact jX9_earliest_68b g ih
def fX9_earliest_65 (l1 : Int) (l2 : Int) (l3 : Int) (l4 : Int) (h : am_M) : Option (Int × am_M) := fX9_earliest_68 l1 l2 l3 l4 0 h
set_option maxRecDepth 10000 in
theorem jX9_earliest_65 {D : va_G} {a : Nat → ClassId} {ad : Nat → Nat} {G : am_G} (g : am_Gd (EM D a ad) RX9 cX9_earliest 8 (some .int) 42 G) : ∀ (l1 : Int), ∀ (l2 : Int), ∀ (l3 : Int), ∀ (l4 : Int), ∀ h : am_M, am_J (EM D a ad) G 8 am_ei 65 [some (.inr (some 0)), some (.inl l1), some (.inl l2), some (.inl l3), some (.inl l4), none, none, none] [] h (fX9_earliest_65 l1 l2 l3 l4 h) := by
  intro l1 l2 l3 l4 h
  unfold fX9_earliest_65
  refine am_iconst g dX9_earliest_65 (am_il rfl) rfl ?_
  refine am_istore g dX9_earliest_66 (by decide) ?_
  exact (jX9_earliest_68 g) l1 l2 l3 l4 0 h
def fX9_earliest_59 (K6 : Int → Int → Int → Int → Int → am_M → Option (Int × am_M)) (l1 : Int) (l2 : Int) (l3 : Int) (l4 : Int) (l5 : Int) (h : am_M) : Option (Int × am_M) := K6 l1 l2 l3 l4 (am_w (l5 + 1)) h
set_option maxRecDepth 10000 in
theorem jX9_earliest_59 {D : va_G} {a : Nat → ClassId} {ad : Nat → Nat} {G : am_G} (g : am_Gd (EM D a ad) RX9 cX9_earliest 8 (some .int) 42 G) {K6 : Int → Int → Int → Int → Int → am_M → Option (Int × am_M)} (hK6 : ∀ (l1 : Int), ∀ (l2 : Int), ∀ (l3 : Int), ∀ (l4 : Int), ∀ (l5 : Int), ∀ h : am_M, am_J (EM D a ad) G 8 am_ei 6 [some (.inr (some 0)), some (.inl l1), some (.inl l2), some (.inl l3), some (.inl l4), some (.inl l5), none, none] [] h (K6 l1 l2 l3 l4 l5 h)) : ∀ (l1 : Int), ∀ (l2 : Int), ∀ (l3 : Int), ∀ (l4 : Int), ∀ (l5 : Int), ∀ h : am_M, am_J (EM D a ad) G 8 am_ei 59 [some (.inr (some 0)), some (.inl l1), some (.inl l2), some (.inl l3), some (.inl l4), some (.inl l5), none, none] [] h (fX9_earliest_59 K6 l1 l2 l3 l4 l5 h) := by
  intro l1 l2 l3 l4 l5 h
  unfold fX9_earliest_59
  refine am_iinc g dX9_earliest_59 (by decide) rfl ?_
  refine am_goto (tgt := 6) g dX9_earliest_62 (by decide) ?_
  exact hK6 l1 l2 l3 l4 (am_w (l5 + 1)) h
def fX9_earliest_36 (K6 : Int → Int → Int → Int → Int → am_M → Option (Int × am_M)) (l1 : Int) (l2 : Int) (l3 : Int) (l4 : Int) (l5 : Int) (s0 : Int) (h : am_M) : Option (Int × am_M) := if s0 < 0 then (fX9_earliest_59 K6) l1 l2 l3 l4 l5 h else am_l (max l4 (am_w (s0 + (h 18 0)))) (fun x18 => (fX9_earliest_59 K6) l1 l2 l3 x18 l5 h)
set_option maxRecDepth 10000 in
theorem jX9_earliest_36 {D : va_G} {a : Nat → ClassId} {ad : Nat → Nat} {G : am_G} (g : am_Gd (EM D a ad) RX9 cX9_earliest 8 (some .int) 42 G) {K6 : Int → Int → Int → Int → Int → am_M → Option (Int × am_M)} (hK6 : ∀ (l1 : Int), ∀ (l2 : Int), ∀ (l3 : Int), ∀ (l4 : Int), ∀ (l5 : Int), ∀ h : am_M, am_J (EM D a ad) G 8 am_ei 6 [some (.inr (some 0)), some (.inl l1), some (.inl l2), some (.inl l3), some (.inl l4), some (.inl l5), none, none] [] h (K6 l1 l2 l3 l4 l5 h)) : ∀ (l1 : Int), ∀ (l2 : Int), ∀ (l3 : Int), ∀ (l4 : Int), ∀ (l5 : Int), ∀ (s0 : Int), ∀ h : am_M, am_J (EM D a ad) G 8 am_ei 36 [some (.inr (some 0)), some (.inl l1), some (.inl l2), some (.inl l3), some (.inl l4), some (.inl l5), none, none] [.inl s0] h (fX9_earliest_36 K6 l1 l2 l3 l4 l5 s0 h) := by
  intro l1 l2 l3 l4 l5 s0 h
  unfold fX9_earliest_36
  refine am_istore g dX9_earliest_36 (by decide) ?_
  refine am_iload g dX9_earliest_38 rfl ?_
  refine am_if_lt (tgt := 59) g dX9_earliest_40 (by decide) ?_ ?_
  · refine am_drop 7 ?_
    exact (jX9_earliest_59 g hK6) l1 l2 l3 l4 l5 h
  · refine am_iload g dX9_earliest_43 rfl ?_
    refine am_iload g dX9_earliest_45 rfl ?_
    refine am_aload_n g dX9_earliest_47 rfl ?_
    refine am_getr (q := 21) (a := 22) g clX9 dX9_earliest_48 (Nat.le_of_ble_eq_true rfl) rfl (by decide) rfl (Nat.le_of_ble_eq_true rfl) lf_X9_75 ?_
    refine am_iconst g dX9_earliest_51 (am_il rfl) rfl ?_
    refine am_ialoadC (ix := 0) (nI := 4) g dX9_earliest_52 (Nat.le_of_ble_eq_true rfl) rfl rfl rfl rfl ?_
    refine am_iadd g dX9_earliest_53 ?_
    refine am_max g lm_X9_194 l_max1 l_max2 l_max3 dX9_earliest_54 (by decide) (Nat.le_of_ble_eq_true rfl) ?_
    refine am_gv (fun x18 => ?_)
    refine am_istore g dX9_earliest_57 (by decide) ?_
    refine am_drop 7 ?_
    exact (jX9_earliest_59 g hK6) l1 l2 l3 x18 l5 h
def fX9_earliest_6b (K6 : Int → Int → Int → Int → Int → am_M → Option (Int × am_M)) (l1 : Int) (l2 : Int) (l3 : Int) (l4 : Int) (l5 : Int) (h : am_M) : Option (Int × am_M) := if l5 < 2 then (am_b (fX9_sideOf 8 l1 l5 h) (fun v14 h15 => if v14 < 0 then (fX9_earliest_36 K6) l1 l2 l3 l4 l5 (-1) h15 else am_b (fX9_lastEnd v14 h15) (fun v16 h17 => (fX9_earliest_36 K6) l1 l2 l3 l4 l5 v16 h17))) else fX9_earliest_65 l1 l2 l3 l4 h
def fX9_earliest_6 : Int → Int → Int → Int → Int → am_M → Option (Int × am_M) := am_it (fun _ _ _ _ _ _ => none) (fX9_earliest_6b) 400
set_option maxRecDepth 10000 in
theorem jX9_earliest_6b {D : va_G} {a : Nat → ClassId} {ad : Nat → Nat} {G : am_G} (g : am_Gd (EM D a ad) RX9 cX9_earliest 8 (some .int) 42 G) {K6 : Int → Int → Int → Int → Int → am_M → Option (Int × am_M)} (hK6 : ∀ (l1 : Int), ∀ (l2 : Int), ∀ (l3 : Int), ∀ (l4 : Int), ∀ (l5 : Int), ∀ h : am_M, am_J (EM D a ad) G 8 am_ei 6 [some (.inr (some 0)), some (.inl l1), some (.inl l2), some (.inl l3), some (.inl l4), some (.inl l5), none, none] [] h (K6 l1 l2 l3 l4 l5 h)) : ∀ (l1 : Int), ∀ (l2 : Int), ∀ (l3 : Int), ∀ (l4 : Int), ∀ (l5 : Int), ∀ h : am_M, am_J (EM D a ad) G 8 am_ei 6 [some (.inr (some 0)), some (.inl l1), some (.inl l2), some (.inl l3), some (.inl l4), some (.inl l5), none, none] [] h (fX9_earliest_6b K6 l1 l2 l3 l4 l5 h) := by
  intro l1 l2 l3 l4 l5 h
  unfold fX9_earliest_6b
  refine am_iload g dX9_earliest_6 rfl ?_
  refine am_iconst g dX9_earliest_8 (am_il rfl) rfl ?_
  refine am_icmp_ge (tgt := 65) g dX9_earliest_9 (by decide) ?_ ?_
  · refine am_drop 5 ?_
    exact (jX9_earliest_65 g) l1 l2 l3 l4 h
  · refine am_aload_n g dX9_earliest_12 rfl ?_
    refine am_iload_n g dX9_earliest_13 rfl ?_
    refine am_iload g dX9_earliest_14 rfl ?_
    refine am_Vi (as := [.inl l1, .inl l5]) (S := []) g (cX9_sideOfC l1 l5 h) mi_X9_sideOf lm_X9_173 clX9.1 (Nat.le_of_ble_eq_true rfl) rfl dX9_earliest_16 rfl (by decide) (Nat.le_of_ble_eq_true rfl) rfl (fun v14 h15 => ?_)
    refine am_istore g dX9_earliest_19 (by decide) ?_
    refine am_iload g dX9_earliest_21 rfl ?_
    refine am_if_ge (tgt := 30) g dX9_earliest_23 (by decide) ?_ ?_
    · refine am_aload_n g dX9_earliest_30 rfl ?_
      refine am_iload g dX9_earliest_31 rfl ?_
      refine am_Vi (as := [.inl v14]) (S := []) g (cX9_lastEndC v14 h15) mi_X9_lastEnd lm_X9_273 clX9.1 (Nat.le_of_ble_eq_true rfl) rfl dX9_earliest_33 rfl (by decide) (Nat.le_of_ble_eq_true rfl) rfl (fun v16 h17 => ?_)
      refine am_drop 6 ?_
      exact (jX9_earliest_36 g hK6) l1 l2 l3 l4 l5 v16 h17
    · refine am_iconst g dX9_earliest_26 (am_il rfl) rfl ?_
      refine am_goto (tgt := 36) g dX9_earliest_27 (by decide) ?_
      refine am_drop 6 ?_
      exact (jX9_earliest_36 g hK6) l1 l2 l3 l4 l5 (-1) h15
theorem jX9_earliest_6 {D : va_G} {a : Nat → ClassId} {ad : Nat → Nat} {G : am_G} (g : am_Gd (EM D a ad) RX9 cX9_earliest 8 (some .int) 42 G) : ∀ (l1 : Int), ∀ (l2 : Int), ∀ (l3 : Int), ∀ (l4 : Int), ∀ (l5 : Int), ∀ h : am_M, am_J (EM D a ad) G 8 am_ei 6 [some (.inr (some 0)), some (.inl l1), some (.inl l2), some (.inl l3), some (.inl l4), some (.inl l5), none, none] [] h (fX9_earliest_6 l1 l2 l3 l4 l5 h) := by
  unfold fX9_earliest_6
  generalize 400 = n
  induction n with
  | zero => intro l1 l2 l3 l4 l5 h; exact am_jn
  | succ n ih => exact jX9_earliest_6b g ih
def fX9_earliest (a1 : Int) (a2 : Int) (a3 : Int) (h : am_M) : Option (Int × am_M) := fX9_earliest_6 a1 a2 a3 0 0 h
set_option maxRecDepth 10000 in
theorem cX9_earliestC {D : va_G} {a : Nat → ClassId} {ad : Nat → Nat} (a1 : Int) (a2 : Int) (a3 : Int) (h : am_M) : am_C (EM D a ad) yX9_earliest cX9_earliest 8 (some .int) 42 [.inr (some 0), .inl a1, .inl a2, .inl a3] h am_ei (fX9_earliest a1 a2 a3 h) := by
  refine am_ofJ (L := [some (.inr (some 0)), some (.inl a1), some (.inl a2), some (.inl a3), none, none, none, none]) (by decide) rfl (Nat.le_of_ble_eq_true rfl) (fun G g => ?_)
  have g : am_Gd (EM D a ad) RX9 cX9_earliest 8 (some .int) 42 G := g
  unfold fX9_earliest
  refine am_iconst g dX9_earliest_0 (am_il rfl) rfl ?_
  refine am_istore g dX9_earliest_1 (by decide) ?_
  refine am_iconst g dX9_earliest_3 (am_il rfl) rfl ?_
  refine am_istore g dX9_earliest_4 (by decide) ?_
  exact (jX9_earliest_6 g) a1 a2 a3 0 0 h
def fX9_isAheadWith_57 (K62 : Int → Int → Int → Int → Int → am_M → Option (Int × am_M)) (l1 : Int) (l2 : Int) (l3 : Int) (l5 : Int) (h : am_M) : Option (Int × am_M) := K62 l1 l2 l3 l5 1 h
set_option maxRecDepth 10000 in
theorem jX9_isAheadWith_57 {D : va_G} {a : Nat → ClassId} {ad : Nat → Nat} {G : am_G} (g : am_Gd (EM D a ad) RX9 cX9_isAheadWith 6 (some .boolean) 2 G) {K62 : Int → Int → Int → Int → Int → am_M → Option (Int × am_M)} (hK62 : ∀ (l1 : Int), ∀ (l2 : Int), ∀ (l3 : Int), ∀ (l5 : Int), ∀ (s0 : Int), ∀ h : am_M, am_J (EM D a ad) G 6 am_ei 62 [some (.inr (some 0)), some (.inl l1), some (.inl l2), some (.inl l3), none, some (.inl l5)] [.inl s0] h (K62 l1 l2 l3 l5 s0 h)) : ∀ (l1 : Int), ∀ (l2 : Int), ∀ (l3 : Int), ∀ (l5 : Int), ∀ h : am_M, am_J (EM D a ad) G 6 am_ei 57 [some (.inr (some 0)), some (.inl l1), some (.inl l2), some (.inl l3), none, some (.inl l5)] [] h (fX9_isAheadWith_57 K62 l1 l2 l3 l5 h) := by
  intro l1 l2 l3 l5 h
  unfold fX9_isAheadWith_57
  refine am_iconst g dX9_isAheadWith_57 (am_il rfl) rfl ?_
  refine am_goto (tgt := 62) g dX9_isAheadWith_58 (by decide) ?_
  exact hK62 l1 l2 l3 l5 1 h
def fX9_isAheadWith_62 (K6 : Int → Int → Int → Int → Int → am_M → Option (Int × am_M)) (l1 : Int) (l2 : Int) (l3 : Int) (l5 : Int) (s0 : Int) (h : am_M) : Option (Int × am_M) := K6 l1 l2 l3 s0 (am_w (l5 + 1)) h
set_option maxRecDepth 10000 in
theorem jX9_isAheadWith_62 {D : va_G} {a : Nat → ClassId} {ad : Nat → Nat} {G : am_G} (g : am_Gd (EM D a ad) RX9 cX9_isAheadWith 6 (some .boolean) 2 G) {K6 : Int → Int → Int → Int → Int → am_M → Option (Int × am_M)} (hK6 : ∀ (l1 : Int), ∀ (l2 : Int), ∀ (l3 : Int), ∀ (l4 : Int), ∀ (l5 : Int), ∀ h : am_M, am_J (EM D a ad) G 6 am_ei 6 [some (.inr (some 0)), some (.inl l1), some (.inl l2), some (.inl l3), some (.inl l4), some (.inl l5)] [] h (K6 l1 l2 l3 l4 l5 h)) : ∀ (l1 : Int), ∀ (l2 : Int), ∀ (l3 : Int), ∀ (l5 : Int), ∀ (s0 : Int), ∀ h : am_M, am_J (EM D a ad) G 6 am_ei 62 [some (.inr (some 0)), some (.inl l1), some (.inl l2), some (.inl l3), none, some (.inl l5)] [.inl s0] h (fX9_isAheadWith_62 K6 l1 l2 l3 l5 s0 h) := by
  intro l1 l2 l3 l5 s0 h
  unfold fX9_isAheadWith_62
  refine am_istore g dX9_isAheadWith_62 (by decide) ?_
  refine am_iinc g dX9_isAheadWith_64 (by decide) rfl ?_
  refine am_goto (tgt := 6) g dX9_isAheadWith_67 (by decide) ?_
  exact hK6 l1 l2 l3 s0 (am_w (l5 + 1)) h
def fX9_isAheadWith_61 (K62 : Int → Int → Int → Int → Int → am_M → Option (Int × am_M)) (l1 : Int) (l2 : Int) (l3 : Int) (l5 : Int) (h : am_M) : Option (Int × am_M) := K62 l1 l2 l3 l5 0 h
set_option maxRecDepth 10000 in
theorem jX9_isAheadWith_61 {D : va_G} {a : Nat → ClassId} {ad : Nat → Nat} {G : am_G} (g : am_Gd (EM D a ad) RX9 cX9_isAheadWith 6 (some .boolean) 2 G) {K62 : Int → Int → Int → Int → Int → am_M → Option (Int × am_M)} (hK62 : ∀ (l1 : Int), ∀ (l2 : Int), ∀ (l3 : Int), ∀ (l5 : Int), ∀ (s0 : Int), ∀ h : am_M, am_J (EM D a ad) G 6 am_ei 62 [some (.inr (some 0)), some (.inl l1), some (.inl l2), some (.inl l3), none, some (.inl l5)] [.inl s0] h (K62 l1 l2 l3 l5 s0 h)) : ∀ (l1 : Int), ∀ (l2 : Int), ∀ (l3 : Int), ∀ (l5 : Int), ∀ h : am_M, am_J (EM D a ad) G 6 am_ei 61 [some (.inr (some 0)), some (.inl l1), some (.inl l2), some (.inl l3), none, some (.inl l5)] [] h (fX9_isAheadWith_61 K62 l1 l2 l3 l5 h) := by
  intro l1 l2 l3 l5 h
  unfold fX9_isAheadWith_61
  refine am_iconst g dX9_isAheadWith_61 (am_il rfl) rfl ?_
  exact hK62 l1 l2 l3 l5 0 h
def fX9_isAheadWith_6b (K6 : Int → Int → Int → Int → Int → am_M → Option (Int × am_M)) (l1 : Int) (l2 : Int) (l3 : Int) (l4 : Int) (l5 : Int) (h : am_M) : Option (Int × am_M) := if l5 < 36 then (if l4 = 0 then (if 0 ≤ l5 ∧ l5 < 36 then if (h 52 (Int.toNat l5)) = 0 then (fX9_isAheadWith_61 (fX9_isAheadWith_62 K6)) l1 l2 l3 l5 h else am_b (fX9_isAhead (am_w (Int.tdiv l5 6)) (Int.tmod l5 6) l2 l3 h) (fun v1 h2 => if v1 = 0 then (fX9_isAheadWith_61 (fX9_isAheadWith_62 K6)) l1 l2 l3 l5 h2 else if 0 ≤ l5 ∧ l5 < 36 then if (h2 17 (Int.toNat l5)) = l1 then (fX9_isAheadWith_57 (fX9_isAheadWith_62 K6)) l1 l2 l3 l5 h2 else (fX9_isAheadWith_61 (fX9_isAheadWith_62 K6)) l1 l2 l3 l5 h2 else none) else none) else (fX9_isAheadWith_57 (fX9_isAheadWith_62 K6)) l1 l2 l3 l5 h) else if l4 = 0 ∨ l4 = 1 then some (l4, h) else none
def fX9_isAheadWith_6 : Int → Int → Int → Int → Int → am_M → Option (Int × am_M) := am_it (fun _ _ _ _ _ _ => none) (fX9_isAheadWith_6b) 400
set_option maxRecDepth 10000 in
theorem jX9_isAheadWith_6b {D : va_G} {a : Nat → ClassId} {ad : Nat → Nat} {G : am_G} (g : am_Gd (EM D a ad) RX9 cX9_isAheadWith 6 (some .boolean) 2 G) {K6 : Int → Int → Int → Int → Int → am_M → Option (Int × am_M)} (hK6 : ∀ (l1 : Int), ∀ (l2 : Int), ∀ (l3 : Int), ∀ (l4 : Int), ∀ (l5 : Int), ∀ h : am_M, am_J (EM D a ad) G 6 am_ei 6 [some (.inr (some 0)), some (.inl l1), some (.inl l2), some (.inl l3), some (.inl l4), some (.inl l5)] [] h (K6 l1 l2 l3 l4 l5 h)) : ∀ (l1 : Int), ∀ (l2 : Int), ∀ (l3 : Int), ∀ (l4 : Int), ∀ (l5 : Int), ∀ h : am_M, am_J (EM D a ad) G 6 am_ei 6 [some (.inr (some 0)), some (.inl l1), some (.inl l2), some (.inl l3), some (.inl l4), some (.inl l5)] [] h (fX9_isAheadWith_6b K6 l1 l2 l3 l4 l5 h) := by
  intro l1 l2 l3 l4 l5 h
  unfold fX9_isAheadWith_6b
  refine am_iload g dX9_isAheadWith_6 rfl ?_
  refine am_bipush g dX9_isAheadWith_8 (am_il rfl) (am_bi rfl) ?_
  refine am_icmp_ge (tgt := 70) g dX9_isAheadWith_10 (by decide) ?_ ?_
  · refine am_iload g dX9_isAheadWith_70 rfl ?_
    exact am_zreturnG g dX9_isAheadWith_72
  · refine am_iload g dX9_isAheadWith_13 rfl ?_
    refine am_if_ne (tgt := 57) g dX9_isAheadWith_15 (by decide) ?_ ?_
    · refine am_drop 4 ?_
      exact (jX9_isAheadWith_57 g (jX9_isAheadWith_62 g hK6)) l1 l2 l3 l5 h
    · refine am_aload_n g dX9_isAheadWith_18 rfl ?_
      refine am_getr (q := 33) (a := 28) g clX9 dX9_isAheadWith_19 (Nat.le_of_ble_eq_true rfl) rfl (by decide) rfl (Nat.le_of_ble_eq_true rfl) lf_X9_93 ?_
      refine am_iload g dX9_isAheadWith_22 rfl ?_
      refine am_zaload (ix := Int.toNat l5) (nI := 36) g dX9_isAheadWith_24 (Nat.le_of_ble_eq_true rfl) rfl rfl (Nat.zero_add _) ?_
      refine am_if_eq (tgt := 61) g dX9_isAheadWith_25 (by decide) ?_ ?_
      · refine am_drop 4 ?_
        exact (jX9_isAheadWith_61 g (jX9_isAheadWith_62 g hK6)) l1 l2 l3 l5 h
      · refine am_iload g dX9_isAheadWith_28 rfl ?_
        refine am_bipush g dX9_isAheadWith_30 (am_il rfl) (am_bi rfl) ?_
        refine am_idiv g dX9_isAheadWith_32 (by decide) ?_
        refine am_iload g dX9_isAheadWith_33 rfl ?_
        refine am_bipush g dX9_isAheadWith_35 (am_il rfl) (am_bi rfl) ?_
        refine am_irem g dX9_isAheadWith_37 (by decide) ?_
        refine am_iload_n g dX9_isAheadWith_38 rfl ?_
        refine am_iload_n g dX9_isAheadWith_39 rfl ?_
        refine am_Si (as := [.inl (am_w (Int.tdiv l5 6)), .inl (Int.tmod l5 6), .inl l2, .inl l3]) (S := []) g (cX9_isAheadC (am_w (Int.tdiv l5 6)) (Int.tmod l5 6) l2 l3 h) mi_X9_isAhead lm_X9_256 dX9_isAheadWith_40 rfl (by decide) (Nat.le_of_ble_eq_true rfl) rfl (fun v1 h2 => ?_)
        refine am_if_eq (tgt := 61) g dX9_isAheadWith_43 (by decide) ?_ ?_
        · refine am_drop 4 ?_
          exact (jX9_isAheadWith_61 g (jX9_isAheadWith_62 g hK6)) l1 l2 l3 l5 h2
        · refine am_aload_n g dX9_isAheadWith_46 rfl ?_
          refine am_getr (q := 20) (a := 21) g clX9 dX9_isAheadWith_47 (Nat.le_of_ble_eq_true rfl) rfl (by decide) rfl (Nat.le_of_ble_eq_true rfl) lf_X9_72 ?_
          refine am_iload g dX9_isAheadWith_50 rfl ?_
          refine am_iaload (ix := Int.toNat l5) (nI := 36) g dX9_isAheadWith_52 (Nat.le_of_ble_eq_true rfl) rfl rfl (Nat.zero_add _) ?_
          refine am_iload_n g dX9_isAheadWith_53 rfl ?_
          refine am_icmp_ne (tgt := 61) g dX9_isAheadWith_54 (by decide) ?_ ?_
          · refine am_drop 4 ?_
            exact (jX9_isAheadWith_61 g (jX9_isAheadWith_62 g hK6)) l1 l2 l3 l5 h2
          · refine am_drop 4 ?_
            exact (jX9_isAheadWith_57 g (jX9_isAheadWith_62 g hK6)) l1 l2 l3 l5 h2
theorem jX9_isAheadWith_6 {D : va_G} {a : Nat → ClassId} {ad : Nat → Nat} {G : am_G} (g : am_Gd (EM D a ad) RX9 cX9_isAheadWith 6 (some .boolean) 2 G) : ∀ (l1 : Int), ∀ (l2 : Int), ∀ (l3 : Int), ∀ (l4 : Int), ∀ (l5 : Int), ∀ h : am_M, am_J (EM D a ad) G 6 am_ei 6 [some (.inr (some 0)), some (.inl l1), some (.inl l2), some (.inl l3), some (.inl l4), some (.inl l5)] [] h (fX9_isAheadWith_6 l1 l2 l3 l4 l5 h) := by
  unfold fX9_isAheadWith_6
  generalize 400 = n
  induction n with
  | zero => intro l1 l2 l3 l4 l5 h; exact am_jn
  | succ n ih => exact jX9_isAheadWith_6b g ih
def fX9_isAheadWith (a1 : Int) (a2 : Int) (a3 : Int) (h : am_M) : Option (Int × am_M) := fX9_isAheadWith_6 a1 a2 a3 0 0 h
set_option maxRecDepth 10000 in
theorem cX9_isAheadWithC {D : va_G} {a : Nat → ClassId} {ad : Nat → Nat} (a1 : Int) (a2 : Int) (a3 : Int) (h : am_M) : am_C (EM D a ad) yX9_isAheadWith cX9_isAheadWith 6 (some .boolean) 2 [.inr (some 0), .inl a1, .inl a2, .inl a3] h am_ei (fX9_isAheadWith a1 a2 a3 h) := by
  refine am_ofJ (L := [some (.inr (some 0)), some (.inl a1), some (.inl a2), some (.inl a3), none, none]) (by decide) rfl (Nat.le_of_ble_eq_true rfl) (fun G g => ?_)
  have g : am_Gd (EM D a ad) RX9 cX9_isAheadWith 6 (some .boolean) 2 G := g
  unfold fX9_isAheadWith
  refine am_iconst g dX9_isAheadWith_0 (am_il rfl) rfl ?_
  refine am_istore g dX9_isAheadWith_1 (by decide) ?_
  refine am_iconst g dX9_isAheadWith_3 (am_il rfl) rfl ?_
  refine am_istore g dX9_isAheadWith_4 (by decide) ?_
  exact (jX9_isAheadWith_6 g) a1 a2 a3 0 0 h
def fX9_mayStand_93 (K94 : Int → Int → Int → Int → Int → am_M → Option (Int × am_M)) (l1 : Int) (l2 : Int) (l3 : Int) (l5 : Int) (h : am_M) : Option (Int × am_M) := K94 l1 l2 l3 l5 0 h
set_option maxRecDepth 10000 in
theorem jX9_mayStand_93 {D : va_G} {a : Nat → ClassId} {ad : Nat → Nat} {G : am_G} (g : am_Gd (EM D a ad) RX9 cX9_mayStand 6 (some .boolean) 41 G) {K94 : Int → Int → Int → Int → Int → am_M → Option (Int × am_M)} (hK94 : ∀ (l1 : Int), ∀ (l2 : Int), ∀ (l3 : Int), ∀ (l5 : Int), ∀ (s0 : Int), ∀ h : am_M, am_J (EM D a ad) G 6 am_ei 94 [some (.inr (some 0)), some (.inl l1), some (.inl l2), some (.inl l3), none, some (.inl l5)] [.inl s0] h (K94 l1 l2 l3 l5 s0 h)) : ∀ (l1 : Int), ∀ (l2 : Int), ∀ (l3 : Int), ∀ (l5 : Int), ∀ h : am_M, am_J (EM D a ad) G 6 am_ei 93 [some (.inr (some 0)), some (.inl l1), some (.inl l2), some (.inl l3), none, some (.inl l5)] [] h (fX9_mayStand_93 K94 l1 l2 l3 l5 h) := by
  intro l1 l2 l3 l5 h
  unfold fX9_mayStand_93
  refine am_iconst g dX9_mayStand_93 (am_il rfl) rfl ?_
  exact hK94 l1 l2 l3 l5 0 h
def fX9_mayStand_94 (K96 : Int → Int → Int → Int → Int → am_M → Option (Int × am_M)) (l1 : Int) (l2 : Int) (l3 : Int) (l5 : Int) (s0 : Int) (h : am_M) : Option (Int × am_M) := K96 l1 l2 l3 s0 l5 h
set_option maxRecDepth 10000 in
theorem jX9_mayStand_94 {D : va_G} {a : Nat → ClassId} {ad : Nat → Nat} {G : am_G} (g : am_Gd (EM D a ad) RX9 cX9_mayStand 6 (some .boolean) 41 G) {K96 : Int → Int → Int → Int → Int → am_M → Option (Int × am_M)} (hK96 : ∀ (l1 : Int), ∀ (l2 : Int), ∀ (l3 : Int), ∀ (l4 : Int), ∀ (l5 : Int), ∀ h : am_M, am_J (EM D a ad) G 6 am_ei 96 [some (.inr (some 0)), some (.inl l1), some (.inl l2), some (.inl l3), some (.inl l4), some (.inl l5)] [] h (K96 l1 l2 l3 l4 l5 h)) : ∀ (l1 : Int), ∀ (l2 : Int), ∀ (l3 : Int), ∀ (l5 : Int), ∀ (s0 : Int), ∀ h : am_M, am_J (EM D a ad) G 6 am_ei 94 [some (.inr (some 0)), some (.inl l1), some (.inl l2), some (.inl l3), none, some (.inl l5)] [.inl s0] h (fX9_mayStand_94 K96 l1 l2 l3 l5 s0 h) := by
  intro l1 l2 l3 l5 s0 h
  unfold fX9_mayStand_94
  refine am_istore g dX9_mayStand_94 (by decide) ?_
  exact hK96 l1 l2 l3 s0 l5 h
def fX9_mayStand_96 (K34 : Int → Int → Int → Int → Int → am_M → Option (Int × am_M)) (l1 : Int) (l2 : Int) (l3 : Int) (l4 : Int) (l5 : Int) (h : am_M) : Option (Int × am_M) := K34 l1 l2 l3 l4 (am_w (l5 + 1)) h
set_option maxRecDepth 10000 in
theorem jX9_mayStand_96 {D : va_G} {a : Nat → ClassId} {ad : Nat → Nat} {G : am_G} (g : am_Gd (EM D a ad) RX9 cX9_mayStand 6 (some .boolean) 41 G) {K34 : Int → Int → Int → Int → Int → am_M → Option (Int × am_M)} (hK34 : ∀ (l1 : Int), ∀ (l2 : Int), ∀ (l3 : Int), ∀ (l4 : Int), ∀ (l5 : Int), ∀ h : am_M, am_J (EM D a ad) G 6 am_ei 34 [some (.inr (some 0)), some (.inl l1), some (.inl l2), some (.inl l3), some (.inl l4), some (.inl l5)] [] h (K34 l1 l2 l3 l4 l5 h)) : ∀ (l1 : Int), ∀ (l2 : Int), ∀ (l3 : Int), ∀ (l4 : Int), ∀ (l5 : Int), ∀ h : am_M, am_J (EM D a ad) G 6 am_ei 96 [some (.inr (some 0)), some (.inl l1), some (.inl l2), some (.inl l3), some (.inl l4), some (.inl l5)] [] h (fX9_mayStand_96 K34 l1 l2 l3 l4 l5 h) := by
  intro l1 l2 l3 l4 l5 h
  unfold fX9_mayStand_96
  refine am_iinc g dX9_mayStand_96 (by decide) rfl ?_
  refine am_goto (tgt := 34) g dX9_mayStand_99 (by decide) ?_
  exact hK34 l1 l2 l3 l4 (am_w (l5 + 1)) h
def fX9_mayStand_34b (K34 : Int → Int → Int → Int → Int → am_M → Option (Int × am_M)) (l1 : Int) (l2 : Int) (l3 : Int) (l4 : Int) (l5 : Int) (h : am_M) : Option (Int × am_M) := if l5 < 2 then (am_b (fX9_sideOf 8 l1 l5 h) (fun v7 h8 => if v7 < 0 then (if l4 = 0 then (fX9_mayStand_93 (fX9_mayStand_94 (fX9_mayStand_96 K34))) l1 l2 l3 l5 h8 else am_b (fX9_roundOf (am_w (Int.tdiv l1 16)) (Int.tmod l1 16) h8) (fun v9 h10 => if v9 ≤ 0 then (fX9_mayStand_93 (fX9_mayStand_94 (fX9_mayStand_96 K34))) l1 l2 l3 l5 h10 else am_b (fX9_feeds l1 l5 h10) (fun v11 h12 => am_b (fX9_isAheadWith v11 l2 l3 h12) (fun v13 h14 => if v13 = 0 then (fX9_mayStand_93 (fX9_mayStand_94 (fX9_mayStand_96 K34))) l1 l2 l3 l5 h14 else (fX9_mayStand_94 (fX9_mayStand_96 K34)) l1 l2 l3 l5 1 h14)))) else (fX9_mayStand_96 K34) l1 l2 l3 l4 l5 h8)) else if l4 = 0 ∨ l4 = 1 then some (l4, h) else none
def fX9_mayStand_34 : Int → Int → Int → Int → Int → am_M → Option (Int × am_M) := am_it (fun _ _ _ _ _ _ => none) (fX9_mayStand_34b) 400
set_option maxRecDepth 10000 in
theorem jX9_mayStand_34b {D : va_G} {a : Nat → ClassId} {ad : Nat → Nat} {G : am_G} (g : am_Gd (EM D a ad) RX9 cX9_mayStand 6 (some .boolean) 41 G) {K34 : Int → Int → Int → Int → Int → am_M → Option (Int × am_M)} (hK34 : ∀ (l1 : Int), ∀ (l2 : Int), ∀ (l3 : Int), ∀ (l4 : Int), ∀ (l5 : Int), ∀ h : am_M, am_J (EM D a ad) G 6 am_ei 34 [some (.inr (some 0)), some (.inl l1), some (.inl l2), some (.inl l3), some (.inl l4), some (.inl l5)] [] h (K34 l1 l2 l3 l4 l5 h)) : ∀ (l1 : Int), ∀ (l2 : Int), ∀ (l3 : Int), ∀ (l4 : Int), ∀ (l5 : Int), ∀ h : am_M, am_J (EM D a ad) G 6 am_ei 34 [some (.inr (some 0)), some (.inl l1), some (.inl l2), some (.inl l3), some (.inl l4), some (.inl l5)] [] h (fX9_mayStand_34b K34 l1 l2 l3 l4 l5 h) := by
  intro l1 l2 l3 l4 l5 h
  unfold fX9_mayStand_34b
  refine am_iload g dX9_mayStand_34 rfl ?_
  refine am_iconst g dX9_mayStand_36 (am_il rfl) rfl ?_
  refine am_icmp_ge (tgt := 102) g dX9_mayStand_37 (by decide) ?_ ?_
  · refine am_iload g dX9_mayStand_102 rfl ?_
    exact am_zreturnG g dX9_mayStand_104
  · refine am_aload_n g dX9_mayStand_40 rfl ?_
    refine am_iload_n g dX9_mayStand_41 rfl ?_
    refine am_iload g dX9_mayStand_42 rfl ?_
    refine am_Vi (as := [.inl l1, .inl l5]) (S := []) g (cX9_sideOfC l1 l5 h) mi_X9_sideOf lm_X9_173 clX9.1 (Nat.le_of_ble_eq_true rfl) rfl dX9_mayStand_44 rfl (by decide) (Nat.le_of_ble_eq_true rfl) rfl (fun v7 h8 => ?_)
    refine am_if_lt (tgt := 53) g dX9_mayStand_47 (by decide) ?_ ?_
    · refine am_iload g dX9_mayStand_53 rfl ?_
      refine am_if_eq (tgt := 93) g dX9_mayStand_55 (by decide) ?_ ?_
      · refine am_drop 4 ?_
        exact (jX9_mayStand_93 g (jX9_mayStand_94 g (jX9_mayStand_96 g hK34))) l1 l2 l3 l5 h8
      · refine am_aload_n g dX9_mayStand_58 rfl ?_
        refine am_iload_n g dX9_mayStand_59 rfl ?_
        refine am_bipush g dX9_mayStand_60 (am_il rfl) (am_bi rfl) ?_
        refine am_idiv g dX9_mayStand_62 (by decide) ?_
        refine am_iload_n g dX9_mayStand_63 rfl ?_
        refine am_bipush g dX9_mayStand_64 (am_il rfl) (am_bi rfl) ?_
        refine am_irem g dX9_mayStand_66 (by decide) ?_
        refine am_Vi (as := [.inl (am_w (Int.tdiv l1 16)), .inl (Int.tmod l1 16)]) (S := []) g (cX9_roundOfC (am_w (Int.tdiv l1 16)) (Int.tmod l1 16) h8) mi_X9_roundOf lm_X9_167 clX9.1 (Nat.le_of_ble_eq_true rfl) rfl dX9_mayStand_67 rfl (by decide) (Nat.le_of_ble_eq_true rfl) rfl (fun v9 h10 => ?_)
        refine am_if_le (tgt := 93) g dX9_mayStand_70 (by decide) ?_ ?_
        · refine am_drop 4 ?_
          exact (jX9_mayStand_93 g (jX9_mayStand_94 g (jX9_mayStand_96 g hK34))) l1 l2 l3 l5 h10
        · refine am_aload_n g dX9_mayStand_73 rfl ?_
          refine am_aload_n g dX9_mayStand_74 rfl ?_
          refine am_iload_n g dX9_mayStand_75 rfl ?_
          refine am_iload g dX9_mayStand_76 rfl ?_
          refine am_Vi (as := [.inl l1, .inl l5]) (S := [.inr (some 0)]) g (cX9_feedsC l1 l5 h10) mi_X9_feeds lm_X9_182 clX9.1 (Nat.le_of_ble_eq_true rfl) rfl dX9_mayStand_78 rfl (by decide) (Nat.le_of_ble_eq_true rfl) rfl (fun v11 h12 => ?_)
          refine am_iload_n g dX9_mayStand_81 rfl ?_
          refine am_iload_n g dX9_mayStand_82 rfl ?_
          refine am_Vi (as := [.inl v11, .inl l2, .inl l3]) (S := []) g (cX9_isAheadWithC v11 l2 l3 h12) mi_X9_isAheadWith lm_X9_267 clX9.1 (Nat.le_of_ble_eq_true rfl) rfl dX9_mayStand_83 rfl (by decide) (Nat.le_of_ble_eq_true rfl) rfl (fun v13 h14 => ?_)
          refine am_if_eq (tgt := 93) g dX9_mayStand_86 (by decide) ?_ ?_
          · refine am_drop 4 ?_
            exact (jX9_mayStand_93 g (jX9_mayStand_94 g (jX9_mayStand_96 g hK34))) l1 l2 l3 l5 h14
          · refine am_iconst g dX9_mayStand_89 (am_il rfl) rfl ?_
            refine am_goto (tgt := 94) g dX9_mayStand_90 (by decide) ?_
            refine am_drop 4 ?_
            exact (jX9_mayStand_94 g (jX9_mayStand_96 g hK34)) l1 l2 l3 l5 1 h14
    · refine am_goto (tgt := 96) g dX9_mayStand_50 (by decide) ?_
      exact (jX9_mayStand_96 g hK34) l1 l2 l3 l4 l5 h8
theorem jX9_mayStand_34 {D : va_G} {a : Nat → ClassId} {ad : Nat → Nat} {G : am_G} (g : am_Gd (EM D a ad) RX9 cX9_mayStand 6 (some .boolean) 41 G) : ∀ (l1 : Int), ∀ (l2 : Int), ∀ (l3 : Int), ∀ (l4 : Int), ∀ (l5 : Int), ∀ h : am_M, am_J (EM D a ad) G 6 am_ei 34 [some (.inr (some 0)), some (.inl l1), some (.inl l2), some (.inl l3), some (.inl l4), some (.inl l5)] [] h (fX9_mayStand_34 l1 l2 l3 l4 l5 h) := by
  unfold fX9_mayStand_34
  generalize 400 = n
  induction n with
  | zero => intro l1 l2 l3 l4 l5 h; exact am_jn
  | succ n ih => exact jX9_mayStand_34b g ih
def fX9_mayStand (a1 : Int) (a2 : Int) (a3 : Int) (h : am_M) : Option (Int × am_M) := am_b (fX9_isMatch a1 h) (fun v1 h2 => if v1 = 0 then some (0, h2) else am_b (fX9_isEnded a1 h2) (fun v3 h4 => if v3 = 0 then (am_b (fX9_isAheadWith a1 a2 a3 h4) (fun v5 h6 => if v5 = 0 then fX9_mayStand_34 a1 a2 a3 1 0 h6 else some (0, h6))) else some (0, h4)))
set_option maxRecDepth 10000 in
theorem cX9_mayStandC {D : va_G} {a : Nat → ClassId} {ad : Nat → Nat} (a1 : Int) (a2 : Int) (a3 : Int) (h : am_M) : am_C (EM D a ad) yX9_mayStand cX9_mayStand 6 (some .boolean) 41 [.inr (some 0), .inl a1, .inl a2, .inl a3] h am_ei (fX9_mayStand a1 a2 a3 h) := by
  refine am_ofJ (L := [some (.inr (some 0)), some (.inl a1), some (.inl a2), some (.inl a3), none, none]) (by decide) rfl (Nat.le_of_ble_eq_true rfl) (fun G g => ?_)
  have g : am_Gd (EM D a ad) RX9 cX9_mayStand 6 (some .boolean) 41 G := g
  unfold fX9_mayStand
  refine am_aload_n g dX9_mayStand_0 rfl ?_
  refine am_iload_n g dX9_mayStand_1 rfl ?_
  refine am_Vi (as := [.inl a1]) (S := []) g (cX9_isMatchC a1 h) mi_X9_isMatch lm_X9_191 clX9.1 (Nat.le_of_ble_eq_true rfl) rfl dX9_mayStand_2 rfl (by decide) (Nat.le_of_ble_eq_true rfl) rfl (fun v1 h2 => ?_)
  refine am_if_eq (tgt := 26) g dX9_mayStand_5 (by decide) ?_ ?_
  · refine am_iconst g dX9_mayStand_26 (am_il rfl) rfl ?_
    exact am_zreturn g dX9_mayStand_27 (by decide)
  · refine am_aload_n g dX9_mayStand_8 rfl ?_
    refine am_iload_n g dX9_mayStand_9 rfl ?_
    refine am_Vi (as := [.inl a1]) (S := []) g (cX9_isEndedC a1 h2) mi_X9_isEnded lm_X9_161 clX9.1 (Nat.le_of_ble_eq_true rfl) rfl dX9_mayStand_10 rfl (by decide) (Nat.le_of_ble_eq_true rfl) rfl (fun v3 h4 => ?_)
    refine am_if_ne (tgt := 26) g dX9_mayStand_13 (by decide) ?_ ?_
    · refine am_iconst g dX9_mayStand_26 (am_il rfl) rfl ?_
      exact am_zreturn g dX9_mayStand_27 (by decide)
    · refine am_aload_n g dX9_mayStand_16 rfl ?_
      refine am_iload_n g dX9_mayStand_17 rfl ?_
      refine am_iload_n g dX9_mayStand_18 rfl ?_
      refine am_iload_n g dX9_mayStand_19 rfl ?_
      refine am_Vi (as := [.inl a1, .inl a2, .inl a3]) (S := []) g (cX9_isAheadWithC a1 a2 a3 h4) mi_X9_isAheadWith lm_X9_267 clX9.1 (Nat.le_of_ble_eq_true rfl) rfl dX9_mayStand_20 rfl (by decide) (Nat.le_of_ble_eq_true rfl) rfl (fun v5 h6 => ?_)
      refine am_if_eq (tgt := 28) g dX9_mayStand_23 (by decide) ?_ ?_
      · refine am_iconst g dX9_mayStand_28 (am_il rfl) rfl ?_
        refine am_istore g dX9_mayStand_29 (by decide) ?_
        refine am_iconst g dX9_mayStand_31 (am_il rfl) rfl ?_
        refine am_istore g dX9_mayStand_32 (by decide) ?_
        exact (jX9_mayStand_34 g) a1 a2 a3 1 0 h6
      · refine am_iconst g dX9_mayStand_26 (am_il rfl) rfl ?_
        exact am_zreturn g dX9_mayStand_27 (by decide)
def fX9_laySlot_83 (K88 : Int → Int → Int → Int → Int → Int → am_M → Option (Unit × am_M)) (l1 : Int) (l2 : Int) (l3 : Int) (l4 : Int) (l5 : Int) (h : am_M) : Option (Unit × am_M) := K88 l1 l2 l3 l4 l5 1 h
set_option maxRecDepth 10000 in
theorem jX9_laySlot_83 {D : va_G} {a : Nat → ClassId} {ad : Nat → Nat} {G : am_G} (g : am_Gd (EM D a ad) RX9 cX9_laySlot 8 none 43 G) {K88 : Int → Int → Int → Int → Int → Int → am_M → Option (Unit × am_M)} (hK88 : ∀ (l1 : Int), ∀ (l2 : Int), ∀ (l3 : Int), ∀ (l4 : Int), ∀ (l5 : Int), ∀ (s0 : Int), ∀ h : am_M, am_J (EM D a ad) G 8 am_ev 88 [some (.inr (some 0)), some (.inl l1), some (.inl l2), some (.inl l3), some (.inl l4), some (.inl l5), none, none] [.inl s0] h (K88 l1 l2 l3 l4 l5 s0 h)) : ∀ (l1 : Int), ∀ (l2 : Int), ∀ (l3 : Int), ∀ (l4 : Int), ∀ (l5 : Int), ∀ h : am_M, am_J (EM D a ad) G 8 am_ev 83 [some (.inr (some 0)), some (.inl l1), some (.inl l2), some (.inl l3), some (.inl l4), some (.inl l5), none, none] [] h (fX9_laySlot_83 K88 l1 l2 l3 l4 l5 h) := by
  intro l1 l2 l3 l4 l5 h
  unfold fX9_laySlot_83
  refine am_iconst g dX9_laySlot_83 (am_il rfl) rfl ?_
  refine am_goto (tgt := 88) g dX9_laySlot_84 (by decide) ?_
  exact hK88 l1 l2 l3 l4 l5 1 h
def fX9_laySlot_201 (l3 : Int) (l5 : Int) (l7 : Int) (h : am_M) : Option (Unit × am_M) := if 0 ≤ l3 ∧ l3 < 36 then am_l (am_up h 52 (Int.toNat l3) 1) (fun h5 => if 0 ≤ l3 ∧ l3 < 36 then am_l (am_up h5 42 (Int.toNat l3) l5) (fun h6 => if 0 ≤ l3 ∧ l3 < 36 then am_l (am_up h6 43 (Int.toNat l3) (am_w (l5 + l7))) (fun h7 => some ((), h7)) else none) else none) else none
set_option maxRecDepth 10000 in
theorem jX9_laySlot_201 {D : va_G} {a : Nat → ClassId} {ad : Nat → Nat} {G : am_G} (g : am_Gd (EM D a ad) RX9 cX9_laySlot 8 none 43 G) : ∀ (l3 : Int), ∀ (l5 : Int), ∀ (l7 : Int), ∀ h : am_M, am_J (EM D a ad) G 8 am_ev 201 [some (.inr (some 0)), none, none, some (.inl l3), none, some (.inl l5), none, some (.inl l7)] [] h (fX9_laySlot_201 l3 l5 l7 h) := by
  intro l3 l5 l7 h
  unfold fX9_laySlot_201
  refine am_aload_n g dX9_laySlot_201 rfl ?_
  refine am_getr (q := 33) (a := 28) g clX9 dX9_laySlot_202 (Nat.le_of_ble_eq_true rfl) rfl (by decide) rfl (Nat.le_of_ble_eq_true rfl) lf_X9_93 ?_
  refine am_iload_n g dX9_laySlot_205 rfl ?_
  refine am_iconst g dX9_laySlot_206 (am_il rfl) rfl ?_
  refine am_zastoreB (ix := Int.toNat l3) (nI := 36) g dX9_laySlot_207 (Nat.le_of_ble_eq_true rfl) rfl rfl (Nat.zero_add _) (by decide) ?_
  refine am_gm (fun h5 => ?_)
  refine am_aload_n g dX9_laySlot_208 rfl ?_
  refine am_getr (q := 34) (a := 29) g clX9 dX9_laySlot_209 (Nat.le_of_ble_eq_true rfl) rfl (by decide) rfl (Nat.le_of_ble_eq_true rfl) lf_X9_96 ?_
  refine am_iload_n g dX9_laySlot_212 rfl ?_
  refine am_iload g dX9_laySlot_213 rfl ?_
  refine am_iastore (ix := Int.toNat l3) (nI := 36) g dX9_laySlot_215 (Nat.le_of_ble_eq_true rfl) rfl rfl (Nat.zero_add _) ?_
  refine am_gm (fun h6 => ?_)
  refine am_aload_n g dX9_laySlot_216 rfl ?_
  refine am_getr (q := 35) (a := 30) g clX9 dX9_laySlot_217 (Nat.le_of_ble_eq_true rfl) rfl (by decide) rfl (Nat.le_of_ble_eq_true rfl) lf_X9_99 ?_
  refine am_iload_n g dX9_laySlot_220 rfl ?_
  refine am_iload g dX9_laySlot_221 rfl ?_
  refine am_iload g dX9_laySlot_223 rfl ?_
  refine am_iadd g dX9_laySlot_225 ?_
  refine am_iastore (ix := Int.toNat l3) (nI := 36) g dX9_laySlot_226 (Nat.le_of_ble_eq_true rfl) rfl rfl (Nat.zero_add _) ?_
  refine am_gm (fun h7 => ?_)
  exact am_vreturn g dX9_laySlot_227
def fX9_laySlot_163 (l1 : Int) (l3 : Int) (l5 : Int) (l6 : Int) (l7 : Int) (h : am_M) : Option (Unit × am_M) := if l6 = 0 then some ((), h) else if (am_w (l5 + l7)) ≤ (h 18 3) then fX9_laySlot_201 l3 l5 l7 h else if 0 ≤ l1 ∧ l1 < 6 then if (h 13 (Int.toNat l1)) = 0 then (if 0 ≤ l1 ∧ l1 < 6 then if (h 12 (Int.toNat l1)) = 0 then some ((), h) else fX9_laySlot_201 l3 l5 l7 h else none) else fX9_laySlot_201 l3 l5 l7 h else none
set_option maxRecDepth 10000 in
theorem jX9_laySlot_163 {D : va_G} {a : Nat → ClassId} {ad : Nat → Nat} {G : am_G} (g : am_Gd (EM D a ad) RX9 cX9_laySlot 8 none 43 G) : ∀ (l1 : Int), ∀ (l3 : Int), ∀ (l5 : Int), ∀ (l6 : Int), ∀ (l7 : Int), ∀ h : am_M, am_J (EM D a ad) G 8 am_ev 163 [some (.inr (some 0)), some (.inl l1), none, some (.inl l3), none, some (.inl l5), some (.inl l6), some (.inl l7)] [] h (fX9_laySlot_163 l1 l3 l5 l6 l7 h) := by
  intro l1 l3 l5 l6 l7 h
  unfold fX9_laySlot_163
  refine am_iload g dX9_laySlot_163 rfl ?_
  refine am_if_eq (tgt := 200) g dX9_laySlot_165 (by decide) ?_ ?_
  · exact am_vreturn g dX9_laySlot_200
  · refine am_iload g dX9_laySlot_168 rfl ?_
    refine am_iload g dX9_laySlot_170 rfl ?_
    refine am_iadd g dX9_laySlot_172 ?_
    refine am_aload_n g dX9_laySlot_173 rfl ?_
    refine am_getr (q := 21) (a := 22) g clX9 dX9_laySlot_174 (Nat.le_of_ble_eq_true rfl) rfl (by decide) rfl (Nat.le_of_ble_eq_true rfl) lf_X9_75 ?_
    refine am_iconst g dX9_laySlot_177 (am_il rfl) rfl ?_
    refine am_ialoadC (ix := 3) (nI := 4) g dX9_laySlot_178 (Nat.le_of_ble_eq_true rfl) rfl rfl rfl rfl ?_
    refine am_icmp_le (tgt := 201) g dX9_laySlot_179 (by decide) ?_ ?_
    · refine am_drop 1 ?_
      refine am_drop 6 ?_
      exact (jX9_laySlot_201 g) l3 l5 l7 h
    · refine am_aload_n g dX9_laySlot_182 rfl ?_
      refine am_getr (q := 16) (a := 17) g clX9 dX9_laySlot_183 (Nat.le_of_ble_eq_true rfl) rfl (by decide) rfl (Nat.le_of_ble_eq_true rfl) lf_X9_60 ?_
      refine am_iload_n g dX9_laySlot_186 rfl ?_
      refine am_zaload (ix := Int.toNat l1) (nI := 6) g dX9_laySlot_187 (Nat.le_of_ble_eq_true rfl) rfl rfl (Nat.zero_add _) ?_
      refine am_if_ne (tgt := 201) g dX9_laySlot_188 (by decide) ?_ ?_
      · refine am_drop 1 ?_
        refine am_drop 6 ?_
        exact (jX9_laySlot_201 g) l3 l5 l7 h
      · refine am_aload_n g dX9_laySlot_191 rfl ?_
        refine am_getr (q := 15) (a := 16) g clX9 dX9_laySlot_192 (Nat.le_of_ble_eq_true rfl) rfl (by decide) rfl (Nat.le_of_ble_eq_true rfl) lf_X9_57 ?_
        refine am_iload_n g dX9_laySlot_195 rfl ?_
        refine am_zaload (ix := Int.toNat l1) (nI := 6) g dX9_laySlot_196 (Nat.le_of_ble_eq_true rfl) rfl rfl (Nat.zero_add _) ?_
        refine am_if_ne (tgt := 201) g dX9_laySlot_197 (by decide) ?_ ?_
        · refine am_drop 1 ?_
          refine am_drop 6 ?_
          exact (jX9_laySlot_201 g) l3 l5 l7 h
        · exact am_vreturn g dX9_laySlot_200
def fX9_laySlot_120 (K121 : Int → Int → Int → Int → Int → Int → am_M → Option (Unit × am_M)) (l1 : Int) (l2 : Int) (l3 : Int) (l4 : Int) (l5 : Int) (h : am_M) : Option (Unit × am_M) := K121 l1 l2 l3 l4 l5 0 h
set_option maxRecDepth 10000 in
theorem jX9_laySlot_120 {D : va_G} {a : Nat → ClassId} {ad : Nat → Nat} {G : am_G} (g : am_Gd (EM D a ad) RX9 cX9_laySlot 8 none 43 G) {K121 : Int → Int → Int → Int → Int → Int → am_M → Option (Unit × am_M)} (hK121 : ∀ (l1 : Int), ∀ (l2 : Int), ∀ (l3 : Int), ∀ (l4 : Int), ∀ (l5 : Int), ∀ (s0 : Int), ∀ h : am_M, am_J (EM D a ad) G 8 am_ev 121 [some (.inr (some 0)), some (.inl l1), some (.inl l2), some (.inl l3), some (.inl l4), some (.inl l5), none, none] [.inl s0] h (K121 l1 l2 l3 l4 l5 s0 h)) : ∀ (l1 : Int), ∀ (l2 : Int), ∀ (l3 : Int), ∀ (l4 : Int), ∀ (l5 : Int), ∀ h : am_M, am_J (EM D a ad) G 8 am_ev 120 [some (.inr (some 0)), some (.inl l1), some (.inl l2), some (.inl l3), some (.inl l4), some (.inl l5), none, none] [] h (fX9_laySlot_120 K121 l1 l2 l3 l4 l5 h) := by
  intro l1 l2 l3 l4 l5 h
  unfold fX9_laySlot_120
  refine am_iconst g dX9_laySlot_120 (am_il rfl) rfl ?_
  exact hK121 l1 l2 l3 l4 l5 0 h
def fX9_laySlot_121 (K163 : Int → Int → Int → Int → Int → am_M → Option (Unit × am_M)) (l1 : Int) (l2 : Int) (l3 : Int) (l4 : Int) (l5 : Int) (s0 : Int) (h : am_M) : Option (Unit × am_M) := if s0 = 0 then some ((), h) else am_b (fX9_earliest l4 l1 l2 h) (fun v8 h9 => am_l (max l5 v8) (fun x10 => if 0 ≤ (am_w (Int.tdiv l4 16)) ∧ (am_w (Int.tdiv l4 16)) < 4 then if 0 ≤ (am_w ((h9 2 (Int.toNat (am_w (Int.tdiv l4 16)))) - 1)) ∧ (am_w ((h9 2 (Int.toNat (am_w (Int.tdiv l4 16)))) - 1)) < 4 then am_l (h9 18 (Int.toNat (am_w ((h9 2 (Int.toNat (am_w (Int.tdiv l4 16)))) - 1)))) (fun x11 => K163 l1 l3 x10 s0 x11 h9) else none else none))
set_option maxRecDepth 10000 in
theorem jX9_laySlot_121 {D : va_G} {a : Nat → ClassId} {ad : Nat → Nat} {G : am_G} (g : am_Gd (EM D a ad) RX9 cX9_laySlot 8 none 43 G) {K163 : Int → Int → Int → Int → Int → am_M → Option (Unit × am_M)} (hK163 : ∀ (l1 : Int), ∀ (l3 : Int), ∀ (l5 : Int), ∀ (l6 : Int), ∀ (l7 : Int), ∀ h : am_M, am_J (EM D a ad) G 8 am_ev 163 [some (.inr (some 0)), some (.inl l1), none, some (.inl l3), none, some (.inl l5), some (.inl l6), some (.inl l7)] [] h (K163 l1 l3 l5 l6 l7 h)) : ∀ (l1 : Int), ∀ (l2 : Int), ∀ (l3 : Int), ∀ (l4 : Int), ∀ (l5 : Int), ∀ (s0 : Int), ∀ h : am_M, am_J (EM D a ad) G 8 am_ev 121 [some (.inr (some 0)), some (.inl l1), some (.inl l2), some (.inl l3), some (.inl l4), some (.inl l5), none, none] [.inl s0] h (fX9_laySlot_121 K163 l1 l2 l3 l4 l5 s0 h) := by
  intro l1 l2 l3 l4 l5 s0 h
  unfold fX9_laySlot_121
  refine am_istore g dX9_laySlot_121 (by decide) ?_
  refine am_iload g dX9_laySlot_123 rfl ?_
  refine am_if_ne (tgt := 129) g dX9_laySlot_125 (by decide) ?_ ?_
  · refine am_iload g dX9_laySlot_129 rfl ?_
    refine am_aload_n g dX9_laySlot_131 rfl ?_
    refine am_iload g dX9_laySlot_132 rfl ?_
    refine am_iload_n g dX9_laySlot_134 rfl ?_
    refine am_iload_n g dX9_laySlot_135 rfl ?_
    refine am_Vi (as := [.inl l4, .inl l1, .inl l2]) (S := [.inl l5]) g (cX9_earliestC l4 l1 l2 h) mi_X9_earliest lm_X9_263 clX9.1 (Nat.le_of_ble_eq_true rfl) rfl dX9_laySlot_136 rfl (by decide) (Nat.le_of_ble_eq_true rfl) rfl (fun v8 h9 => ?_)
    refine am_max g lm_X9_194 l_max1 l_max2 l_max3 dX9_laySlot_139 (by decide) (Nat.le_of_ble_eq_true rfl) ?_
    refine am_gv (fun x10 => ?_)
    refine am_istore g dX9_laySlot_142 (by decide) ?_
    refine am_aload_n g dX9_laySlot_144 rfl ?_
    refine am_getr (q := 21) (a := 22) g clX9 dX9_laySlot_145 (Nat.le_of_ble_eq_true rfl) rfl (by decide) rfl (Nat.le_of_ble_eq_true rfl) lf_X9_75 ?_
    refine am_aload_n g dX9_laySlot_148 rfl ?_
    refine am_getr (q := 2) (a := 3) g clX9 dX9_laySlot_149 (Nat.le_of_ble_eq_true rfl) rfl (by decide) rfl (Nat.le_of_ble_eq_true rfl) lf_X9_16 ?_
    refine am_iload g dX9_laySlot_152 rfl ?_
    refine am_bipush g dX9_laySlot_154 (am_il rfl) (am_bi rfl) ?_
    refine am_idiv g dX9_laySlot_156 (by decide) ?_
    refine am_iaload (ix := Int.toNat (am_w (Int.tdiv l4 16))) (nI := 4) g dX9_laySlot_157 (Nat.le_of_ble_eq_true rfl) rfl rfl (Nat.zero_add _) ?_
    refine am_iconst g dX9_laySlot_158 (am_il rfl) rfl ?_
    refine am_isub g dX9_laySlot_159 ?_
    refine am_iaload (ix := Int.toNat (am_w ((h9 2 (Int.toNat (am_w (Int.tdiv l4 16)))) - 1))) (nI := 4) g dX9_laySlot_160 (Nat.le_of_ble_eq_true rfl) rfl rfl (Nat.zero_add _) ?_
    refine am_gv (fun x11 => ?_)
    refine am_istore g dX9_laySlot_161 (by decide) ?_
    refine am_drop 2 ?_
    refine am_drop 4 ?_
    exact hK163 l1 l3 x10 s0 x11 h9
  · exact am_vreturn g dX9_laySlot_128
def fX9_laySlot_88 (l1 : Int) (l2 : Int) (l3 : Int) (l4 : Int) (l5 : Int) (s0 : Int) (h : am_M) : Option (Unit × am_M) := am_l (am_w (-l4)) (fun x4 => if l4 < 0 then fX9_laySlot_163 l1 l3 l5 s0 x4 h else if s0 = 0 then (fX9_laySlot_120 (fX9_laySlot_121 fX9_laySlot_163)) l1 l2 l3 l4 l5 h else am_b (fX9_mayStand l4 l1 l2 h) (fun v12 h13 => if v12 = 0 then (fX9_laySlot_120 (fX9_laySlot_121 fX9_laySlot_163)) l1 l2 l3 l4 l5 h13 else (fX9_laySlot_121 fX9_laySlot_163) l1 l2 l3 l4 l5 1 h13))
set_option maxRecDepth 10000 in
theorem jX9_laySlot_88 {D : va_G} {a : Nat → ClassId} {ad : Nat → Nat} {G : am_G} (g : am_Gd (EM D a ad) RX9 cX9_laySlot 8 none 43 G) : ∀ (l1 : Int), ∀ (l2 : Int), ∀ (l3 : Int), ∀ (l4 : Int), ∀ (l5 : Int), ∀ (s0 : Int), ∀ h : am_M, am_J (EM D a ad) G 8 am_ev 88 [some (.inr (some 0)), some (.inl l1), some (.inl l2), some (.inl l3), some (.inl l4), some (.inl l5), none, none] [.inl s0] h (fX9_laySlot_88 l1 l2 l3 l4 l5 s0 h) := by
  intro l1 l2 l3 l4 l5 s0 h
  unfold fX9_laySlot_88
  refine am_istore g dX9_laySlot_88 (by decide) ?_
  refine am_iload g dX9_laySlot_90 rfl ?_
  refine am_ineg g dX9_laySlot_92 ?_
  refine am_gv (fun x4 => ?_)
  refine am_istore g dX9_laySlot_93 (by decide) ?_
  refine am_iload g dX9_laySlot_95 rfl ?_
  refine am_if_lt (tgt := 163) g dX9_laySlot_97 (by decide) ?_ ?_
  · refine am_drop 2 ?_
    refine am_drop 4 ?_
    exact (jX9_laySlot_163 g) l1 l3 l5 s0 x4 h
  · refine am_iload g dX9_laySlot_100 rfl ?_
    refine am_if_eq (tgt := 120) g dX9_laySlot_102 (by decide) ?_ ?_
    · refine am_drop 6 ?_
      refine am_drop 7 ?_
      exact (jX9_laySlot_120 g (jX9_laySlot_121 g (jX9_laySlot_163 g))) l1 l2 l3 l4 l5 h
    · refine am_aload_n g dX9_laySlot_105 rfl ?_
      refine am_iload g dX9_laySlot_106 rfl ?_
      refine am_iload_n g dX9_laySlot_108 rfl ?_
      refine am_iload_n g dX9_laySlot_109 rfl ?_
      refine am_Vi (as := [.inl l4, .inl l1, .inl l2]) (S := []) g (cX9_mayStandC l4 l1 l2 h) mi_X9_mayStand lm_X9_260 clX9.1 (Nat.le_of_ble_eq_true rfl) rfl dX9_laySlot_110 rfl (by decide) (Nat.le_of_ble_eq_true rfl) rfl (fun v12 h13 => ?_)
      refine am_if_eq (tgt := 120) g dX9_laySlot_113 (by decide) ?_ ?_
      · refine am_drop 6 ?_
        refine am_drop 7 ?_
        exact (jX9_laySlot_120 g (jX9_laySlot_121 g (jX9_laySlot_163 g))) l1 l2 l3 l4 l5 h13
      · refine am_iconst g dX9_laySlot_116 (am_il rfl) rfl ?_
        refine am_goto (tgt := 121) g dX9_laySlot_117 (by decide) ?_
        refine am_drop 6 ?_
        refine am_drop 7 ?_
        exact (jX9_laySlot_121 g (jX9_laySlot_163 g)) l1 l2 l3 l4 l5 1 h13
def fX9_laySlot_67 (l1 : Int) (l2 : Int) (l3 : Int) (l4 : Int) (l5 : Int) (h : am_M) : Option (Unit × am_M) := if (h 19 0) = 0 then (fX9_laySlot_83 fX9_laySlot_88) l1 l2 l3 l4 l5 h else if 0 ≤ l1 ∧ l1 < 6 then if (h 12 (Int.toNat l1)) = 0 then fX9_laySlot_88 l1 l2 l3 l4 l5 0 h else (fX9_laySlot_83 fX9_laySlot_88) l1 l2 l3 l4 l5 h else none
set_option maxRecDepth 10000 in
theorem jX9_laySlot_67 {D : va_G} {a : Nat → ClassId} {ad : Nat → Nat} {G : am_G} (g : am_Gd (EM D a ad) RX9 cX9_laySlot 8 none 43 G) : ∀ (l1 : Int), ∀ (l2 : Int), ∀ (l3 : Int), ∀ (l4 : Int), ∀ (l5 : Int), ∀ h : am_M, am_J (EM D a ad) G 8 am_ev 67 [some (.inr (some 0)), some (.inl l1), some (.inl l2), some (.inl l3), some (.inl l4), some (.inl l5), none, none] [] h (fX9_laySlot_67 l1 l2 l3 l4 l5 h) := by
  intro l1 l2 l3 l4 l5 h
  unfold fX9_laySlot_67
  refine am_aload_n g dX9_laySlot_67 rfl ?_
  refine am_geti (q := 22) (kd := 19) (ix := 0) g clX9 dX9_laySlot_68 (Nat.le_of_ble_eq_true rfl) rfl (by decide) rfl lf_X9_240 ?_
  refine am_if_eq (tgt := 83) g dX9_laySlot_71 (by decide) ?_ ?_
  · exact (jX9_laySlot_83 g (jX9_laySlot_88 g)) l1 l2 l3 l4 l5 h
  · refine am_aload_n g dX9_laySlot_74 rfl ?_
    refine am_getr (q := 15) (a := 16) g clX9 dX9_laySlot_75 (Nat.le_of_ble_eq_true rfl) rfl (by decide) rfl (Nat.le_of_ble_eq_true rfl) lf_X9_57 ?_
    refine am_iload_n g dX9_laySlot_78 rfl ?_
    refine am_zaload (ix := Int.toNat l1) (nI := 6) g dX9_laySlot_79 (Nat.le_of_ble_eq_true rfl) rfl rfl (Nat.zero_add _) ?_
    refine am_if_eq (tgt := 87) g dX9_laySlot_80 (by decide) ?_ ?_
    · refine am_iconst g dX9_laySlot_87 (am_il rfl) rfl ?_
      exact (jX9_laySlot_88 g) l1 l2 l3 l4 l5 0 h
    · exact (jX9_laySlot_83 g (jX9_laySlot_88 g)) l1 l2 l3 l4 l5 h
def fX9_laySlot_61 (K26 : Int → Int → Int → Int → Int → Int → am_M → Option (Unit × am_M)) (l1 : Int) (l2 : Int) (l3 : Int) (l4 : Int) (l5 : Int) (l6 : Int) (h : am_M) : Option (Unit × am_M) := K26 l1 l2 l3 l4 l5 (am_w (l6 + 1)) h
set_option maxRecDepth 10000 in
theorem jX9_laySlot_61 {D : va_G} {a : Nat → ClassId} {ad : Nat → Nat} {G : am_G} (g : am_Gd (EM D a ad) RX9 cX9_laySlot 8 none 43 G) {K26 : Int → Int → Int → Int → Int → Int → am_M → Option (Unit × am_M)} (hK26 : ∀ (l1 : Int), ∀ (l2 : Int), ∀ (l3 : Int), ∀ (l4 : Int), ∀ (l5 : Int), ∀ (l6 : Int), ∀ h : am_M, am_J (EM D a ad) G 8 am_ev 26 [some (.inr (some 0)), some (.inl l1), some (.inl l2), some (.inl l3), some (.inl l4), some (.inl l5), some (.inl l6), none] [] h (K26 l1 l2 l3 l4 l5 l6 h)) : ∀ (l1 : Int), ∀ (l2 : Int), ∀ (l3 : Int), ∀ (l4 : Int), ∀ (l5 : Int), ∀ (l6 : Int), ∀ h : am_M, am_J (EM D a ad) G 8 am_ev 61 [some (.inr (some 0)), some (.inl l1), some (.inl l2), some (.inl l3), some (.inl l4), some (.inl l5), some (.inl l6), none] [] h (fX9_laySlot_61 K26 l1 l2 l3 l4 l5 l6 h) := by
  intro l1 l2 l3 l4 l5 l6 h
  unfold fX9_laySlot_61
  refine am_iinc g dX9_laySlot_61 (by decide) rfl ?_
  refine am_goto (tgt := 26) g dX9_laySlot_64 (by decide) ?_
  exact hK26 l1 l2 l3 l4 l5 (am_w (l6 + 1)) h
def fX9_laySlot_26b (K26 : Int → Int → Int → Int → Int → Int → am_M → Option (Unit × am_M)) (l1 : Int) (l2 : Int) (l3 : Int) (l4 : Int) (l5 : Int) (l6 : Int) (h : am_M) : Option (Unit × am_M) := if l6 < l2 then (if 0 ≤ (am_w ((am_w (6 * l1)) + l6)) ∧ (am_w ((am_w (6 * l1)) + l6)) < 36 then if (h 52 (Int.toNat (am_w ((am_w (6 * l1)) + l6)))) = 0 then (fX9_laySlot_61 K26) l1 l2 l3 l4 l5 l6 h else if 0 ≤ (am_w ((am_w (6 * l1)) + l6)) ∧ (am_w ((am_w (6 * l1)) + l6)) < 36 then am_l (h 43 (Int.toNat (am_w ((am_w (6 * l1)) + l6)))) (fun x14 => (fX9_laySlot_61 K26) l1 l2 l3 l4 x14 l6 h) else none else none) else fX9_laySlot_67 l1 l2 l3 l4 l5 h
def fX9_laySlot_26 : Int → Int → Int → Int → Int → Int → am_M → Option (Unit × am_M) := am_it (fun _ _ _ _ _ _ _ => none) (fX9_laySlot_26b) 400
set_option maxRecDepth 10000 in
theorem jX9_laySlot_26b {D : va_G} {a : Nat → ClassId} {ad : Nat → Nat} {G : am_G} (g : am_Gd (EM D a ad) RX9 cX9_laySlot 8 none 43 G) {K26 : Int → Int → Int → Int → Int → Int → am_M → Option (Unit × am_M)} (hK26 : ∀ (l1 : Int), ∀ (l2 : Int), ∀ (l3 : Int), ∀ (l4 : Int), ∀ (l5 : Int), ∀ (l6 : Int), ∀ h : am_M, am_J (EM D a ad) G 8 am_ev 26 [some (.inr (some 0)), some (.inl l1), some (.inl l2), some (.inl l3), some (.inl l4), some (.inl l5), some (.inl l6), none] [] h (K26 l1 l2 l3 l4 l5 l6 h)) : ∀ (l1 : Int), ∀ (l2 : Int), ∀ (l3 : Int), ∀ (l4 : Int), ∀ (l5 : Int), ∀ (l6 : Int), ∀ h : am_M, am_J (EM D a ad) G 8 am_ev 26 [some (.inr (some 0)), some (.inl l1), some (.inl l2), some (.inl l3), some (.inl l4), some (.inl l5), some (.inl l6), none] [] h (fX9_laySlot_26b K26 l1 l2 l3 l4 l5 l6 h) := by
  intro l1 l2 l3 l4 l5 l6 h
  unfold fX9_laySlot_26b
  refine am_iload g dX9_laySlot_26 rfl ?_
  refine am_iload_n g dX9_laySlot_28 rfl ?_
  refine am_icmp_ge (tgt := 67) g dX9_laySlot_29 (by decide) ?_ ?_
  · refine am_drop 6 ?_
    exact (jX9_laySlot_67 g) l1 l2 l3 l4 l5 h
  · refine am_aload_n g dX9_laySlot_32 rfl ?_
    refine am_getr (q := 33) (a := 28) g clX9 dX9_laySlot_33 (Nat.le_of_ble_eq_true rfl) rfl (by decide) rfl (Nat.le_of_ble_eq_true rfl) lf_X9_93 ?_
    refine am_bipush g dX9_laySlot_36 (am_il rfl) (am_bi rfl) ?_
    refine am_iload_n g dX9_laySlot_38 rfl ?_
    refine am_imul g dX9_laySlot_39 ?_
    refine am_iload g dX9_laySlot_40 rfl ?_
    refine am_iadd g dX9_laySlot_42 ?_
    refine am_zaload (ix := Int.toNat (am_w ((am_w (6 * l1)) + l6))) (nI := 36) g dX9_laySlot_43 (Nat.le_of_ble_eq_true rfl) rfl rfl (Nat.zero_add _) ?_
    refine am_if_eq (tgt := 61) g dX9_laySlot_44 (by decide) ?_ ?_
    · exact (jX9_laySlot_61 g hK26) l1 l2 l3 l4 l5 l6 h
    · refine am_aload_n g dX9_laySlot_47 rfl ?_
      refine am_getr (q := 35) (a := 30) g clX9 dX9_laySlot_48 (Nat.le_of_ble_eq_true rfl) rfl (by decide) rfl (Nat.le_of_ble_eq_true rfl) lf_X9_99 ?_
      refine am_bipush g dX9_laySlot_51 (am_il rfl) (am_bi rfl) ?_
      refine am_iload_n g dX9_laySlot_53 rfl ?_
      refine am_imul g dX9_laySlot_54 ?_
      refine am_iload g dX9_laySlot_55 rfl ?_
      refine am_iadd g dX9_laySlot_57 ?_
      refine am_iaload (ix := Int.toNat (am_w ((am_w (6 * l1)) + l6))) (nI := 36) g dX9_laySlot_58 (Nat.le_of_ble_eq_true rfl) rfl rfl (Nat.zero_add _) ?_
      refine am_gv (fun x14 => ?_)
      refine am_istore g dX9_laySlot_59 (by decide) ?_
      exact (jX9_laySlot_61 g hK26) l1 l2 l3 l4 x14 l6 h
theorem jX9_laySlot_26 {D : va_G} {a : Nat → ClassId} {ad : Nat → Nat} {G : am_G} (g : am_Gd (EM D a ad) RX9 cX9_laySlot 8 none 43 G) : ∀ (l1 : Int), ∀ (l2 : Int), ∀ (l3 : Int), ∀ (l4 : Int), ∀ (l5 : Int), ∀ (l6 : Int), ∀ h : am_M, am_J (EM D a ad) G 8 am_ev 26 [some (.inr (some 0)), some (.inl l1), some (.inl l2), some (.inl l3), some (.inl l4), some (.inl l5), some (.inl l6), none] [] h (fX9_laySlot_26 l1 l2 l3 l4 l5 l6 h) := by
  unfold fX9_laySlot_26
  generalize 400 = n
  induction n with
  | zero => intro l1 l2 l3 l4 l5 l6 h; exact am_jn
  | succ n ih => exact jX9_laySlot_26b g ih
def fX9_laySlot (a1 : Int) (a2 : Int) (h : am_M) : Option (Unit × am_M) := am_l (am_w ((am_w (6 * a1)) + a2)) (fun x1 => if 0 ≤ x1 ∧ x1 < 36 then am_l (h 17 (Int.toNat x1)) (fun x2 => if 0 ≤ a1 ∧ a1 < 6 then am_l (h 15 (Int.toNat a1)) (fun x3 => fX9_laySlot_26 a1 a2 x1 x2 x3 0 h) else none) else none)
set_option maxRecDepth 10000 in
theorem cX9_laySlotC {D : va_G} {a : Nat → ClassId} {ad : Nat → Nat} (a1 : Int) (a2 : Int) (h : am_M) : am_C (EM D a ad) yX9_laySlot cX9_laySlot 8 none 43 [.inr (some 0), .inl a1, .inl a2] h am_ev (fX9_laySlot a1 a2 h) := by
  refine am_ofJ (L := [some (.inr (some 0)), some (.inl a1), some (.inl a2), none, none, none, none, none]) (by decide) rfl (Nat.le_of_ble_eq_true rfl) (fun G g => ?_)
  have g : am_Gd (EM D a ad) RX9 cX9_laySlot 8 none 43 G := g
  unfold fX9_laySlot
  refine am_bipush g dX9_laySlot_0 (am_il rfl) (am_bi rfl) ?_
  refine am_iload_n g dX9_laySlot_2 rfl ?_
  refine am_imul g dX9_laySlot_3 ?_
  refine am_iload_n g dX9_laySlot_4 rfl ?_
  refine am_iadd g dX9_laySlot_5 ?_
  refine am_gv (fun x1 => ?_)
  refine am_istore_n g dX9_laySlot_6 (by decide) ?_
  refine am_aload_n g dX9_laySlot_7 rfl ?_
  refine am_getr (q := 20) (a := 21) g clX9 dX9_laySlot_8 (Nat.le_of_ble_eq_true rfl) rfl (by decide) rfl (Nat.le_of_ble_eq_true rfl) lf_X9_72 ?_
  refine am_iload_n g dX9_laySlot_11 rfl ?_
  refine am_iaload (ix := Int.toNat x1) (nI := 36) g dX9_laySlot_12 (Nat.le_of_ble_eq_true rfl) rfl rfl (Nat.zero_add _) ?_
  refine am_gv (fun x2 => ?_)
  refine am_istore g dX9_laySlot_13 (by decide) ?_
  refine am_aload_n g dX9_laySlot_15 rfl ?_
  refine am_getr (q := 18) (a := 19) g clX9 dX9_laySlot_16 (Nat.le_of_ble_eq_true rfl) rfl (by decide) rfl (Nat.le_of_ble_eq_true rfl) lf_X9_66 ?_
  refine am_iload_n g dX9_laySlot_19 rfl ?_
  refine am_iaload (ix := Int.toNat a1) (nI := 6) g dX9_laySlot_20 (Nat.le_of_ble_eq_true rfl) rfl rfl (Nat.zero_add _) ?_
  refine am_gv (fun x3 => ?_)
  refine am_istore g dX9_laySlot_21 (by decide) ?_
  refine am_iconst g dX9_laySlot_23 (am_il rfl) rfl ?_
  refine am_istore g dX9_laySlot_24 (by decide) ?_
  exact (jX9_laySlot_26 g) a1 a2 x1 x2 x3 0 h
def fX9_lay__59 (K23 : Int → am_M → Option (Unit × am_M)) (l1 : Int) (h : am_M) : Option (Unit × am_M) := K23 (am_w (l1 + 1)) h
set_option maxRecDepth 10000 in
theorem jX9_lay__59 {D : va_G} {a : Nat → ClassId} {ad : Nat → Nat} {G : am_G} (g : am_Gd (EM D a ad) RX9 cX9_lay_ 3 none 44 G) {K23 : Int → am_M → Option (Unit × am_M)} (hK23 : ∀ (l1 : Int), ∀ h : am_M, am_J (EM D a ad) G 3 am_ev 23 [some (.inr (some 0)), some (.inl l1), none] [] h (K23 l1 h)) : ∀ (l1 : Int), ∀ h : am_M, am_J (EM D a ad) G 3 am_ev 59 [some (.inr (some 0)), some (.inl l1), none] [] h (fX9_lay__59 K23 l1 h) := by
  intro l1 h
  unfold fX9_lay__59
  refine am_iinc g dX9_lay__59 (by decide) rfl ?_
  refine am_goto (tgt := 23) g dX9_lay__62 (by decide) ?_
  exact hK23 (am_w (l1 + 1)) h
def fX9_lay__53 (K31 : Int → Int → am_M → Option (Unit × am_M)) (l1 : Int) (l2 : Int) (h : am_M) : Option (Unit × am_M) := K31 l1 (am_w (l2 + 1)) h
set_option maxRecDepth 10000 in
theorem jX9_lay__53 {D : va_G} {a : Nat → ClassId} {ad : Nat → Nat} {G : am_G} (g : am_Gd (EM D a ad) RX9 cX9_lay_ 3 none 44 G) {K31 : Int → Int → am_M → Option (Unit × am_M)} (hK31 : ∀ (l1 : Int), ∀ (l2 : Int), ∀ h : am_M, am_J (EM D a ad) G 3 am_ev 31 [some (.inr (some 0)), some (.inl l1), some (.inl l2)] [] h (K31 l1 l2 h)) : ∀ (l1 : Int), ∀ (l2 : Int), ∀ h : am_M, am_J (EM D a ad) G 3 am_ev 53 [some (.inr (some 0)), some (.inl l1), some (.inl l2)] [] h (fX9_lay__53 K31 l1 l2 h) := by
  intro l1 l2 h
  unfold fX9_lay__53
  refine am_iinc g dX9_lay__53 (by decide) rfl ?_
  refine am_goto (tgt := 31) g dX9_lay__56 (by decide) ?_
  exact hK31 l1 (am_w (l2 + 1)) h
def fX9_lay__31b (K23 : Int → am_M → Option (Unit × am_M)) (K31 : Int → Int → am_M → Option (Unit × am_M)) (l1 : Int) (l2 : Int) (h : am_M) : Option (Unit × am_M) := if l2 < 6 then (if 0 ≤ l2 ∧ l2 < 6 then if l1 < (h 16 (Int.toNat l2)) then am_b (fX9_laySlot l2 l1 h) (fun _ h1 => (fX9_lay__53 K31) l1 l2 h1) else (fX9_lay__53 K31) l1 l2 h else none) else (fX9_lay__59 K23) l1 h
def fX9_lay__31 (K23 : Int → am_M → Option (Unit × am_M)) : Int → Int → am_M → Option (Unit × am_M) := am_it (fun _ _ _ => none) (fX9_lay__31b K23) 400
set_option maxRecDepth 10000 in
theorem jX9_lay__31b {D : va_G} {a : Nat → ClassId} {ad : Nat → Nat} {G : am_G} (g : am_Gd (EM D a ad) RX9 cX9_lay_ 3 none 44 G) {K23 : Int → am_M → Option (Unit × am_M)} (hK23 : ∀ (l1 : Int), ∀ h : am_M, am_J (EM D a ad) G 3 am_ev 23 [some (.inr (some 0)), some (.inl l1), none] [] h (K23 l1 h)) {K31 : Int → Int → am_M → Option (Unit × am_M)} (hK31 : ∀ (l1 : Int), ∀ (l2 : Int), ∀ h : am_M, am_J (EM D a ad) G 3 am_ev 31 [some (.inr (some 0)), some (.inl l1), some (.inl l2)] [] h (K31 l1 l2 h)) : ∀ (l1 : Int), ∀ (l2 : Int), ∀ h : am_M, am_J (EM D a ad) G 3 am_ev 31 [some (.inr (some 0)), some (.inl l1), some (.inl l2)] [] h (fX9_lay__31b K23 K31 l1 l2 h) := by
  intro l1 l2 h
  unfold fX9_lay__31b
  refine am_iload_n g dX9_lay__31 rfl ?_
  refine am_bipush g dX9_lay__32 (am_il rfl) (am_bi rfl) ?_
  refine am_icmp_ge (tgt := 59) g dX9_lay__34 (by decide) ?_ ?_
  · refine am_drop 2 ?_
    exact (jX9_lay__59 g hK23) l1 h
  · refine am_iload_n g dX9_lay__37 rfl ?_
    refine am_aload_n g dX9_lay__38 rfl ?_
    refine am_getr (q := 19) (a := 20) g clX9 dX9_lay__39 (Nat.le_of_ble_eq_true rfl) rfl (by decide) rfl (Nat.le_of_ble_eq_true rfl) lf_X9_69 ?_
    refine am_iload_n g dX9_lay__42 rfl ?_
    refine am_iaload (ix := Int.toNat l2) (nI := 6) g dX9_lay__43 (Nat.le_of_ble_eq_true rfl) rfl rfl (Nat.zero_add _) ?_
    refine am_icmp_ge (tgt := 53) g dX9_lay__44 (by decide) ?_ ?_
    · exact (jX9_lay__53 g hK31) l1 l2 h
    · refine am_aload_n g dX9_lay__47 rfl ?_
      refine am_iload_n g dX9_lay__48 rfl ?_
      refine am_iload_n g dX9_lay__49 rfl ?_
      refine am_Vv (as := [.inl l2, .inl l1]) (S := []) g (cX9_laySlotC l2 l1 h) mi_X9_laySlot lm_X9_253 clX9.1 (Nat.le_of_ble_eq_true rfl) rfl dX9_lay__50 rfl (by decide) (Nat.le_of_ble_eq_true rfl) rfl (fun _ h1 => ?_)
      exact (jX9_lay__53 g hK31) l1 l2 h1
theorem jX9_lay__31 {D : va_G} {a : Nat → ClassId} {ad : Nat → Nat} {G : am_G} (g : am_Gd (EM D a ad) RX9 cX9_lay_ 3 none 44 G) {K23 : Int → am_M → Option (Unit × am_M)} (hK23 : ∀ (l1 : Int), ∀ h : am_M, am_J (EM D a ad) G 3 am_ev 23 [some (.inr (some 0)), some (.inl l1), none] [] h (K23 l1 h)) : ∀ (l1 : Int), ∀ (l2 : Int), ∀ h : am_M, am_J (EM D a ad) G 3 am_ev 31 [some (.inr (some 0)), some (.inl l1), some (.inl l2)] [] h (fX9_lay__31 K23 l1 l2 h) := by
  unfold fX9_lay__31
  generalize 400 = n
  induction n with
  | zero => intro l1 l2 h; exact am_jn
  | succ n ih => exact jX9_lay__31b g hK23 ih
def fX9_lay__23b (K23 : Int → am_M → Option (Unit × am_M)) (l1 : Int) (h : am_M) : Option (Unit × am_M) := if l1 < 6 then (fX9_lay__31 K23) l1 0 h else some ((), h)
def fX9_lay__23 : Int → am_M → Option (Unit × am_M) := am_it (fun _ _ => none) (fX9_lay__23b) 400
set_option maxRecDepth 10000 in
theorem jX9_lay__23b {D : va_G} {a : Nat → ClassId} {ad : Nat → Nat} {G : am_G} (g : am_Gd (EM D a ad) RX9 cX9_lay_ 3 none 44 G) {K23 : Int → am_M → Option (Unit × am_M)} (hK23 : ∀ (l1 : Int), ∀ h : am_M, am_J (EM D a ad) G 3 am_ev 23 [some (.inr (some 0)), some (.inl l1), none] [] h (K23 l1 h)) : ∀ (l1 : Int), ∀ h : am_M, am_J (EM D a ad) G 3 am_ev 23 [some (.inr (some 0)), some (.inl l1), none] [] h (fX9_lay__23b K23 l1 h) := by
  intro l1 h
  unfold fX9_lay__23b
  refine am_iload_n g dX9_lay__23 rfl ?_
  refine am_bipush g dX9_lay__24 (am_il rfl) (am_bi rfl) ?_
  refine am_icmp_ge (tgt := 65) g dX9_lay__26 (by decide) ?_ ?_
  · exact am_vreturn g dX9_lay__65
  · refine am_iconst g dX9_lay__29 (am_il rfl) rfl ?_
    refine am_istore_n g dX9_lay__30 (by decide) ?_
    exact (jX9_lay__31 g hK23) l1 0 h
theorem jX9_lay__23 {D : va_G} {a : Nat → ClassId} {ad : Nat → Nat} {G : am_G} (g : am_Gd (EM D a ad) RX9 cX9_lay_ 3 none 44 G) : ∀ (l1 : Int), ∀ h : am_M, am_J (EM D a ad) G 3 am_ev 23 [some (.inr (some 0)), some (.inl l1), none] [] h (fX9_lay__23 l1 h) := by
  unfold fX9_lay__23
  generalize 400 = n
  induction n with
  | zero => intro l1 h; exact am_jn
  | succ n ih => exact jX9_lay__23b g ih
def fX9_lay__21 (h : am_M) : Option (Unit × am_M) := fX9_lay__23 0 h
set_option maxRecDepth 10000 in
theorem jX9_lay__21 {D : va_G} {a : Nat → ClassId} {ad : Nat → Nat} {G : am_G} (g : am_Gd (EM D a ad) RX9 cX9_lay_ 3 none 44 G) : ∀ h : am_M, am_J (EM D a ad) G 3 am_ev 21 [some (.inr (some 0)), none, none] [] h (fX9_lay__21 h) := by
  intro h
  unfold fX9_lay__21
  refine am_iconst g dX9_lay__21 (am_il rfl) rfl ?_
  refine am_istore_n g dX9_lay__22 (by decide) ?_
  exact (jX9_lay__23 g) 0 h
def fX9_lay__2b (K2 : Int → am_M → Option (Unit × am_M)) (l1 : Int) (h : am_M) : Option (Unit × am_M) := if l1 < 36 then (if 0 ≤ l1 ∧ l1 < 36 then am_l (am_up h 52 (Int.toNat l1) 0) (fun h2 => K2 (am_w (l1 + 1)) h2) else none) else fX9_lay__21 h
def fX9_lay__2 : Int → am_M → Option (Unit × am_M) := am_it (fun _ _ => none) (fX9_lay__2b) 400
set_option maxRecDepth 10000 in
theorem jX9_lay__2b {D : va_G} {a : Nat → ClassId} {ad : Nat → Nat} {G : am_G} (g : am_Gd (EM D a ad) RX9 cX9_lay_ 3 none 44 G) {K2 : Int → am_M → Option (Unit × am_M)} (hK2 : ∀ (l1 : Int), ∀ h : am_M, am_J (EM D a ad) G 3 am_ev 2 [some (.inr (some 0)), some (.inl l1), none] [] h (K2 l1 h)) : ∀ (l1 : Int), ∀ h : am_M, am_J (EM D a ad) G 3 am_ev 2 [some (.inr (some 0)), some (.inl l1), none] [] h (fX9_lay__2b K2 l1 h) := by
  intro l1 h
  unfold fX9_lay__2b
  refine am_iload_n g dX9_lay__2 rfl ?_
  refine am_bipush g dX9_lay__3 (am_il rfl) (am_bi rfl) ?_
  refine am_icmp_ge (tgt := 21) g dX9_lay__5 (by decide) ?_ ?_
  · refine am_drop 1 ?_
    exact (jX9_lay__21 g) h
  · refine am_aload_n g dX9_lay__8 rfl ?_
    refine am_getr (q := 33) (a := 28) g clX9 dX9_lay__9 (Nat.le_of_ble_eq_true rfl) rfl (by decide) rfl (Nat.le_of_ble_eq_true rfl) lf_X9_93 ?_
    refine am_iload_n g dX9_lay__12 rfl ?_
    refine am_iconst g dX9_lay__13 (am_il rfl) rfl ?_
    refine am_zastoreB (ix := Int.toNat l1) (nI := 36) g dX9_lay__14 (Nat.le_of_ble_eq_true rfl) rfl rfl (Nat.zero_add _) (by decide) ?_
    refine am_gm (fun h2 => ?_)
    refine am_iinc g dX9_lay__15 (by decide) rfl ?_
    refine am_goto (tgt := 2) g dX9_lay__18 (by decide) ?_
    exact hK2 (am_w (l1 + 1)) h2
theorem jX9_lay__2 {D : va_G} {a : Nat → ClassId} {ad : Nat → Nat} {G : am_G} (g : am_Gd (EM D a ad) RX9 cX9_lay_ 3 none 44 G) : ∀ (l1 : Int), ∀ h : am_M, am_J (EM D a ad) G 3 am_ev 2 [some (.inr (some 0)), some (.inl l1), none] [] h (fX9_lay__2 l1 h) := by
  unfold fX9_lay__2
  generalize 400 = n
  induction n with
  | zero => intro l1 h; exact am_jn
  | succ n ih => exact jX9_lay__2b g ih
def fX9_lay_ (h : am_M) : Option (Unit × am_M) := fX9_lay__2 0 h
set_option maxRecDepth 10000 in
theorem cX9_lay_C {D : va_G} {a : Nat → ClassId} {ad : Nat → Nat}  (h : am_M) : am_C (EM D a ad) yX9_lay_ cX9_lay_ 3 none 44 [.inr (some 0)] h am_ev (fX9_lay_ h) := by
  refine am_ofJ (L := [some (.inr (some 0)), none, none]) (by decide) rfl (Nat.le_of_ble_eq_true rfl) (fun G g => ?_)
  have g : am_Gd (EM D a ad) RX9 cX9_lay_ 3 none 44 G := g
  unfold fX9_lay_
  refine am_iconst g dX9_lay__0 (am_il rfl) rfl ?_
  refine am_istore_n g dX9_lay__1 (by decide) ?_
  exact (jX9_lay__2 g) 0 h
