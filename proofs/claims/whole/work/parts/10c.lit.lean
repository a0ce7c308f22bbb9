def fX3_worthiestMatch_43 (K44 : Int → Int → Int → am_M → Option (Int × am_M)) (l2 : Int) (l3 : Int) (h : am_M) : Option (Int × am_M) := K44 l2 l3 0 h
set_option maxRecDepth 10000 in
theorem jX3_worthiestMatch_43 {D : va_G} {a : Nat → ClassId} {ad : Nat → Nat} {G : am_G} (g : am_Gd (EX D a ad) RX3 cX3_worthiestMatch 5 (some .int) 5 G) {K44 : Int → Int → Int → am_M → Option (Int × am_M)} (hK44 : ∀ (l2 : Int), ∀ (l3 : Int), ∀ (s0 : Int), ∀ h : am_M, am_J (EX D a ad) G 5 am_ei 44 [some (.inr (some 77)), some (.inr (some 1)), some (.inl l2), some (.inl l3), none] [.inl s0] h (K44 l2 l3 s0 h)) : ∀ (l2 : Int), ∀ (l3 : Int), ∀ h : am_M, am_J (EX D a ad) G 5 am_ei 43 [some (.inr (some 77)), some (.inr (some 1)), some (.inl l2), some (.inl l3), none] [] h (fX3_worthiestMatch_43 K44 l2 l3 h) := by
  intro l2 l3 h
  unfold fX3_worthiestMatch_43
  refine am_iconst g dX3_worthiestMatch_43 (am_il rfl) rfl ?_
  exact hK44 l2 l3 0 h
def fX3_worthiestMatch_72 (K4 : Int → Int → am_M → Option (Int × am_M)) (l2 : Int) (l3 : Int) (h : am_M) : Option (Int × am_M) := K4 l2 (am_w (l3 + 1)) h
set_option maxRecDepth 10000 in
theorem jX3_worthiestMatch_72 {D : va_G} {a : Nat → ClassId} {ad : Nat → Nat} {G : am_G} (g : am_Gd (EX D a ad) RX3 cX3_worthiestMatch 5 (some .int) 5 G) {K4 : Int → Int → am_M → Option (Int × am_M)} (hK4 : ∀ (l2 : Int), ∀ (l3 : Int), ∀ h : am_M, am_J (EX D a ad) G 5 am_ei 4 [some (.inr (some 77)), some (.inr (some 1)), some (.inl l2), some (.inl l3), none] [] h (K4 l2 l3 h)) : ∀ (l2 : Int), ∀ (l3 : Int), ∀ h : am_M, am_J (EX D a ad) G 5 am_ei 72 [some (.inr (some 77)), some (.inr (some 1)), some (.inl l2), some (.inl l3), none] [] h (fX3_worthiestMatch_72 K4 l2 l3 h) := by
  intro l2 l3 h
  unfold fX3_worthiestMatch_72
  refine am_iinc g dX3_worthiestMatch_72 (by decide) rfl ?_
  refine am_goto (tgt := 4) g dX3_worthiestMatch_75 (by decide) ?_
  exact hK4 l2 (am_w (l3 + 1)) h
def fX3_worthiestMatch_70 (K72 : Int → Int → am_M → Option (Int × am_M)) (l3 : Int) (h : am_M) : Option (Int × am_M) := K72 l3 l3 h
set_option maxRecDepth 10000 in
theorem jX3_worthiestMatch_70 {D : va_G} {a : Nat → ClassId} {ad : Nat → Nat} {G : am_G} (g : am_Gd (EX D a ad) RX3 cX3_worthiestMatch 5 (some .int) 5 G) {K72 : Int → Int → am_M → Option (Int × am_M)} (hK72 : ∀ (l2 : Int), ∀ (l3 : Int), ∀ h : am_M, am_J (EX D a ad) G 5 am_ei 72 [some (.inr (some 77)), some (.inr (some 1)), some (.inl l2), some (.inl l3), none] [] h (K72 l2 l3 h)) : ∀ (l3 : Int), ∀ h : am_M, am_J (EX D a ad) G 5 am_ei 70 [some (.inr (some 77)), some (.inr (some 1)), none, some (.inl l3), none] [] h (fX3_worthiestMatch_70 K72 l3 h) := by
  intro l3 h
  unfold fX3_worthiestMatch_70
  refine am_iload_n g dX3_worthiestMatch_70 rfl ?_
  refine am_istore_n g dX3_worthiestMatch_71 (by decide) ?_
  exact hK72 l3 l3 h
def fX3_worthiestMatch_44 (K4 : Int → Int → am_M → Option (Int × am_M)) (l2 : Int) (l3 : Int) (s0 : Int) (h : am_M) : Option (Int × am_M) := if s0 = 0 then (fX3_worthiestMatch_72 K4) l2 l3 h else if l2 < 0 then (fX3_worthiestMatch_70 (fX3_worthiestMatch_72 K4)) l3 h else if 0 ≤ l3 ∧ l3 < 64 then if 0 ≤ l2 ∧ l2 < 64 then if (h 11 (Int.toNat l3)) ≤ (h 11 (Int.toNat l2)) then (fX3_worthiestMatch_72 K4) l2 l3 h else (fX3_worthiestMatch_70 (fX3_worthiestMatch_72 K4)) l3 h else none else none
set_option maxRecDepth 10000 in
theorem jX3_worthiestMatch_44 {D : va_G} {a : Nat → ClassId} {ad : Nat → Nat} {G : am_G} (g : am_Gd (EX D a ad) RX3 cX3_worthiestMatch 5 (some .int) 5 G) {K4 : Int → Int → am_M → Option (Int × am_M)} (hK4 : ∀ (l2 : Int), ∀ (l3 : Int), ∀ h : am_M, am_J (EX D a ad) G 5 am_ei 4 [some (.inr (some 77)), some (.inr (some 1)), some (.inl l2), some (.inl l3), none] [] h (K4 l2 l3 h)) : ∀ (l2 : Int), ∀ (l3 : Int), ∀ (s0 : Int), ∀ h : am_M, am_J (EX D a ad) G 5 am_ei 44 [some (.inr (some 77)), some (.inr (some 1)), some (.inl l2), some (.inl l3), none] [.inl s0] h (fX3_worthiestMatch_44 K4 l2 l3 s0 h) := by
  intro l2 l3 s0 h
  unfold fX3_worthiestMatch_44
  refine am_istore g dX3_worthiestMatch_44 (by decide) ?_
  refine am_iload g dX3_worthiestMatch_46 rfl ?_
  refine am_if_eq (tgt := 72) g dX3_worthiestMatch_48 (by decide) ?_ ?_
  · refine am_drop 4 ?_
    exact (jX3_worthiestMatch_72 g hK4) l2 l3 h
  · refine am_iload_n g dX3_worthiestMatch_51 rfl ?_
    refine am_if_lt (tgt := 70) g dX3_worthiestMatch_52 (by decide) ?_ ?_
    · refine am_drop 2 ?_
      refine am_drop 4 ?_
      exact (jX3_worthiestMatch_70 g (jX3_worthiestMatch_72 g hK4)) l3 h
    · refine am_aload_n g dX3_worthiestMatch_55 rfl ?_
      refine am_getr (q := 4) (a := 6) g clX0 dX3_worthiestMatch_56 (Nat.le_of_ble_eq_true rfl) rfl (by decide) rfl (Nat.le_of_ble_eq_true rfl) lf_X3_64 ?_
      refine am_iload_n g dX3_worthiestMatch_59 rfl ?_
      refine am_iaload (ix := Int.toNat l3) (nI := 64) g dX3_worthiestMatch_60 (Nat.le_of_ble_eq_true rfl) rfl rfl (Nat.zero_add _) ?_
      refine am_aload_n g dX3_worthiestMatch_61 rfl ?_
      refine am_getr (q := 4) (a := 6) g clX0 dX3_worthiestMatch_62 (Nat.le_of_ble_eq_true rfl) rfl (by decide) rfl (Nat.le_of_ble_eq_true rfl) lf_X3_64 ?_
      refine am_iload_n g dX3_worthiestMatch_65 rfl ?_
      refine am_iaload (ix := Int.toNat l2) (nI := 64) g dX3_worthiestMatch_66 (Nat.le_of_ble_eq_true rfl) rfl rfl (Nat.zero_add _) ?_
      refine am_icmp_le (tgt := 72) g dX3_worthiestMatch_67 (by decide) ?_ ?_
      · refine am_drop 4 ?_
        exact (jX3_worthiestMatch_72 g hK4) l2 l3 h
      · refine am_drop 2 ?_
        refine am_drop 4 ?_
        exact (jX3_worthiestMatch_70 g (jX3_worthiestMatch_72 g hK4)) l3 h
def fX3_worthiestMatch_4b (K4 : Int → Int → am_M → Option (Int × am_M)) (l2 : Int) (l3 : Int) (h : am_M) : Option (Int × am_M) := if l3 < 64 then (if 0 ≤ l3 ∧ l3 < 64 then if (h 48 (Int.toNat l3)) = 0 then (fX3_worthiestMatch_43 (fX3_worthiestMatch_44 K4)) l2 l3 h else am_b (fX3_isBusy l3 0 h) (fun v1 h2 => if v1 = 0 then (am_b (fX3_isBusy l3 1 h2) (fun v3 h4 => if v3 = 0 then (fX3_worthiestMatch_44 K4) l2 l3 1 h4 else (fX3_worthiestMatch_43 (fX3_worthiestMatch_44 K4)) l2 l3 h4)) else (fX3_worthiestMatch_43 (fX3_worthiestMatch_44 K4)) l2 l3 h2) else none) else some (l2, h)
def fX3_worthiestMatch_4 : Int → Int → am_M → Option (Int × am_M) := am_it (fun _ _ _ => none) (fX3_worthiestMatch_4b) 400
set_option maxRecDepth 10000 in
theorem jX3_worthiestMatch_4b {D : va_G} {a : Nat → ClassId} {ad : Nat → Nat} {G : am_G} (g : am_Gd (EX D a ad) RX3 cX3_worthiestMatch 5 (some .int) 5 G) {K4 : Int → Int → am_M → Option (Int × am_M)} (hK4 : ∀ (l2 : Int), ∀ (l3 : Int), ∀ h : am_M, am_J (EX D a ad) G 5 am_ei 4 [some (.inr (some 77)), some (.inr (some 1)), some (.inl l2), some (.inl l3), none] [] h (K4 l2 l3 h)) : ∀ (l2 : Int), ∀ (l3 : Int), ∀ h : am_M, am_J (EX D a ad) G 5 am_ei 4 [some (.inr (some 77)), some (.inr (some 1)), some (.inl l2), some (.inl l3), none] [] h (fX3_worthiestMatch_4b K4 l2 l3 h) := by
  intro l2 l3 h
  unfold fX3_worthiestMatch_4b
  refine am_iload_n g dX3_worthiestMatch_4 rfl ?_
  refine am_bipush g dX3_worthiestMatch_5 (am_il rfl) (am_bi rfl) ?_
  refine am_icmp_ge (tgt := 78) g dX3_worthiestMatch_7 (by decide) ?_ ?_
  · refine am_iload_n g dX3_worthiestMatch_78 rfl ?_
    exact am_ireturn g dX3_worthiestMatch_79
  · refine am_aload_n g dX3_worthiestMatch_10 rfl ?_
    refine am_getr (q := 0) (a := 78) g clX3 dX3_worthiestMatch_11 (Nat.le_of_ble_eq_true rfl) rfl (by decide) rfl (Nat.le_of_ble_eq_true rfl) lf_X3_9 ?_
    refine am_iload_n g dX3_worthiestMatch_14 rfl ?_
    refine am_zaload (ix := Int.toNat l3) (nI := 64) g dX3_worthiestMatch_15 (Nat.le_of_ble_eq_true rfl) rfl rfl (Nat.zero_add _) ?_
    refine am_if_eq (tgt := 43) g dX3_worthiestMatch_16 (by decide) ?_ ?_
    · exact (jX3_worthiestMatch_43 g (jX3_worthiestMatch_44 g hK4)) l2 l3 h
    · refine am_aload_n g dX3_worthiestMatch_19 rfl ?_
      refine am_aload_n g dX3_worthiestMatch_20 rfl ?_
      refine am_iload_n g dX3_worthiestMatch_21 rfl ?_
      refine am_iconst g dX3_worthiestMatch_22 (am_il rfl) rfl ?_
      refine am_Vi (as := [.inr (some 1), .inl l3, .inl 0]) (S := []) g (cX3_isBusyC l3 0 h) mi_X3_isBusy lm_X3_60 clX3.1 (Nat.le_of_ble_eq_true rfl) rfl dX3_worthiestMatch_23 rfl (by decide) (Nat.le_of_ble_eq_true rfl) rfl (fun v1 h2 => ?_)
      refine am_if_ne (tgt := 43) g dX3_worthiestMatch_26 (by decide) ?_ ?_
      · exact (jX3_worthiestMatch_43 g (jX3_worthiestMatch_44 g hK4)) l2 l3 h2
      · refine am_aload_n g dX3_worthiestMatch_29 rfl ?_
        refine am_aload_n g dX3_worthiestMatch_30 rfl ?_
        refine am_iload_n g dX3_worthiestMatch_31 rfl ?_
        refine am_iconst g dX3_worthiestMatch_32 (am_il rfl) rfl ?_
        refine am_Vi (as := [.inr (some 1), .inl l3, .inl 1]) (S := []) g (cX3_isBusyC l3 1 h2) mi_X3_isBusy lm_X3_60 clX3.1 (Nat.le_of_ble_eq_true rfl) rfl dX3_worthiestMatch_33 rfl (by decide) (Nat.le_of_ble_eq_true rfl) rfl (fun v3 h4 => ?_)
        refine am_if_ne (tgt := 43) g dX3_worthiestMatch_36 (by decide) ?_ ?_
        · exact (jX3_worthiestMatch_43 g (jX3_worthiestMatch_44 g hK4)) l2 l3 h4
        · refine am_iconst g dX3_worthiestMatch_39 (am_il rfl) rfl ?_
          refine am_goto (tgt := 44) g dX3_worthiestMatch_40 (by decide) ?_
          exact (jX3_worthiestMatch_44 g hK4) l2 l3 1 h4
theorem jX3_worthiestMatch_4 {D : va_G} {a : Nat → ClassId} {ad : Nat → Nat} {G : am_G} (g : am_Gd (EX D a ad) RX3 cX3_worthiestMatch 5 (some .int) 5 G) : ∀ (l2 : Int), ∀ (l3 : Int), ∀ h : am_M, am_J (EX D a ad) G 5 am_ei 4 [some (.inr (some 77)), some (.inr (some 1)), some (.inl l2), some (.inl l3), none] [] h (fX3_worthiestMatch_4 l2 l3 h) := by
  unfold fX3_worthiestMatch_4
  generalize 400 = n
  induction n with
  | zero => intro l2 l3 h; exact am_jn
  | succ n ih => exact jX3_worthiestMatch_4b g ih
def fX3_worthiestMatch (h : am_M) : Option (Int × am_M) := fX3_worthiestMatch_4 (-1) 0 h
set_option maxRecDepth 10000 in
theorem cX3_worthiestMatchC {D : va_G} {a : Nat → ClassId} {ad : Nat → Nat}  (h : am_M) : am_C (EX D a ad) yX3_worthiestMatch cX3_worthiestMatch 5 (some .int) 5 [.inr (some 77), .inr (some 1)] h am_ei (fX3_worthiestMatch h) := by
  refine am_ofJ (L := [some (.inr (some 77)), some (.inr (some 1)), none, none, none]) (by decide) rfl (Nat.le_of_ble_eq_true rfl) (fun G g => ?_)
  have g : am_Gd (EX D a ad) RX3 cX3_worthiestMatch 5 (some .int) 5 G := g
  unfold fX3_worthiestMatch
  refine am_iconst g dX3_worthiestMatch_0 (am_il rfl) rfl ?_
  refine am_istore_n g dX3_worthiestMatch_1 (by decide) ?_
  refine am_iconst g dX3_worthiestMatch_2 (am_il rfl) rfl ?_
  refine am_istore_n g dX3_worthiestMatch_3 (by decide) ?_
  exact (jX3_worthiestMatch_4 g) (-1) 0 h
def fX3_matchFor_9b (K9 : Int → Int → am_M → Option (Int × am_M)) (l2 : Int) (l4 : Int) (h : am_M) : Option (Int × am_M) := if l4 < 6 then (am_b (fX3_worthiestMatch h) (fun v2 h3 => am_b (fX3_worthiestCourt h3) (fun v4 h5 => if v2 < 0 then some ((-1), h5) else if v4 < 0 then some ((-1), h5) else if v4 = l2 then some (v2, h5) else if 0 ≤ v4 ∧ v4 < 6 then am_l (am_up h5 50 (Int.toNat v4) 1) (fun h6 => am_b (fX3_occupy v2 h6) (fun _ h7 => K9 l2 (am_w (l4 + 1)) h7)) else none))) else some ((-1), h)
def fX3_matchFor_9 : Int → Int → am_M → Option (Int × am_M) := am_it (fun _ _ _ => none) (fX3_matchFor_9b) 400
set_option maxRecDepth 10000 in
theorem jX3_matchFor_9b {D : va_G} {a : Nat → ClassId} {ad : Nat → Nat} {G : am_G} (g : am_Gd (EX D a ad) RX3 cX3_matchFor 7 (some .int) 6 G) {K9 : Int → Int → am_M → Option (Int × am_M)} (hK9 : ∀ (l2 : Int), ∀ (l4 : Int), ∀ h : am_M, am_J (EX D a ad) G 7 am_ei 9 [some (.inr (some 77)), some (.inr (some 1)), some (.inl l2), none, some (.inl l4), none, none] [] h (K9 l2 l4 h)) : ∀ (l2 : Int), ∀ (l4 : Int), ∀ h : am_M, am_J (EX D a ad) G 7 am_ei 9 [some (.inr (some 77)), some (.inr (some 1)), some (.inl l2), none, some (.inl l4), none, none] [] h (fX3_matchFor_9b K9 l2 l4 h) := by
  intro l2 l4 h
  unfold fX3_matchFor_9b
  refine am_iload g dX3_matchFor_9 rfl ?_
  refine am_bipush g dX3_matchFor_11 (am_il rfl) (am_bi rfl) ?_
  refine am_icmp_ge (tgt := 72) g dX3_matchFor_13 (by decide) ?_ ?_
  · refine am_iconst g dX3_matchFor_72 (am_il rfl) rfl ?_
    exact am_ireturn g dX3_matchFor_73
  · refine am_aload_n g dX3_matchFor_16 rfl ?_
    refine am_aload_n g dX3_matchFor_17 rfl ?_
    refine am_Vi (as := [.inr (some 1)]) (S := []) g (cX3_worthiestMatchC h) mi_X3_worthiestMatch lm_X3_32 clX3.1 (Nat.le_of_ble_eq_true rfl) rfl dX3_matchFor_18 rfl (by decide) (Nat.le_of_ble_eq_true rfl) rfl (fun v2 h3 => ?_)
    refine am_istore g dX3_matchFor_21 (by decide) ?_
    refine am_aload_n g dX3_matchFor_23 rfl ?_
    refine am_aload_n g dX3_matchFor_24 rfl ?_
    refine am_Vi (as := [.inr (some 1)]) (S := []) g (cX3_worthiestCourtC h3) mi_X3_worthiestCourt lm_X3_36 clX3.1 (Nat.le_of_ble_eq_true rfl) rfl dX3_matchFor_25 rfl (by decide) (Nat.le_of_ble_eq_true rfl) rfl (fun v4 h5 => ?_)
    refine am_istore g dX3_matchFor_28 (by decide) ?_
    refine am_iload g dX3_matchFor_30 rfl ?_
    refine am_if_lt (tgt := 40) g dX3_matchFor_32 (by decide) ?_ ?_
    · refine am_iconst g dX3_matchFor_40 (am_il rfl) rfl ?_
      exact am_ireturn g dX3_matchFor_41
    · refine am_iload g dX3_matchFor_35 rfl ?_
      refine am_if_ge (tgt := 42) g dX3_matchFor_37 (by decide) ?_ ?_
      · refine am_iload g dX3_matchFor_42 rfl ?_
        refine am_iload_n g dX3_matchFor_44 rfl ?_
        refine am_icmp_ne (tgt := 51) g dX3_matchFor_45 (by decide) ?_ ?_
        · refine am_aload_n g dX3_matchFor_51 rfl ?_
          refine am_getr (q := 2) (a := 80) g clX3 dX3_matchFor_52 (Nat.le_of_ble_eq_true rfl) rfl (by decide) rfl (Nat.le_of_ble_eq_true rfl) lf_X3_18 ?_
          refine am_iload g dX3_matchFor_55 rfl ?_
          refine am_iconst g dX3_matchFor_57 (am_il rfl) rfl ?_
          refine am_zastoreB (ix := Int.toNat v4) (nI := 6) g dX3_matchFor_58 (Nat.le_of_ble_eq_true rfl) rfl rfl (Nat.zero_add _) (by decide) ?_
          refine am_gm (fun h6 => ?_)
          refine am_aload_n g dX3_matchFor_59 rfl ?_
          refine am_aload_n g dX3_matchFor_60 rfl ?_
          refine am_iload g dX3_matchFor_61 rfl ?_
          refine am_Vv (as := [.inr (some 1), .inl v2]) (S := []) g (cX3_occupyC v2 h6) mi_X3_occupy lm_X3_39 clX3.1 (Nat.le_of_ble_eq_true rfl) rfl dX3_matchFor_63 rfl (by decide) (Nat.le_of_ble_eq_true rfl) rfl (fun _ h7 => ?_)
          refine am_iinc g dX3_matchFor_66 (by decide) rfl ?_
          refine am_goto (tgt := 9) g dX3_matchFor_69 (by decide) ?_
          refine am_drop 5 ?_
          refine am_drop 6 ?_
          exact hK9 l2 (am_w (l4 + 1)) h7
        · refine am_iload g dX3_matchFor_48 rfl ?_
          exact am_ireturn g dX3_matchFor_50
      · refine am_iconst g dX3_matchFor_40 (am_il rfl) rfl ?_
        exact am_ireturn g dX3_matchFor_41
theorem jX3_matchFor_9 {D : va_G} {a : Nat → ClassId} {ad : Nat → Nat} {G : am_G} (g : am_Gd (EX D a ad) RX3 cX3_matchFor 7 (some .int) 6 G) : ∀ (l2 : Int), ∀ (l4 : Int), ∀ h : am_M, am_J (EX D a ad) G 7 am_ei 9 [some (.inr (some 77)), some (.inr (some 1)), some (.inl l2), none, some (.inl l4), none, none] [] h (fX3_matchFor_9 l2 l4 h) := by
  unfold fX3_matchFor_9
  generalize 400 = n
  induction n with
  | zero => intro l2 l4 h; exact am_jn
  | succ n ih => exact jX3_matchFor_9b g ih
def fX3_matchFor (a2 : Int) (a3 : Int) (h : am_M) : Option (Int × am_M) := am_b (fX3_prepare a3 h) (fun _ h1 => fX3_matchFor_9 a2 0 h1)
set_option maxRecDepth 10000 in
theorem cX3_matchForC {D : va_G} {a : Nat → ClassId} {ad : Nat → Nat} (a2 : Int) (a3 : Int) (h : am_M) : am_C (EX D a ad) yX3_matchFor cX3_matchFor 7 (some .int) 6 [.inr (some 77), .inr (some 1), .inl a2, .inl a3] h am_ei (fX3_matchFor a2 a3 h) := by
  refine am_ofJ (L := [some (.inr (some 77)), some (.inr (some 1)), some (.inl a2), some (.inl a3), none, none, none]) (by decide) rfl (Nat.le_of_ble_eq_true rfl) (fun G g => ?_)
  have g : am_Gd (EX D a ad) RX3 cX3_matchFor 7 (some .int) 6 G := g
  unfold fX3_matchFor
  refine am_aload_n g dX3_matchFor_0 rfl ?_
  refine am_aload_n g dX3_matchFor_1 rfl ?_
  refine am_iload_n g dX3_matchFor_2 rfl ?_
  refine am_Vv (as := [.inr (some 1), .inl a3]) (S := []) g (cX3_prepareC a3 h) mi_X3_prepare lm_X3_28 clX3.1 (Nat.le_of_ble_eq_true rfl) rfl dX3_matchFor_3 rfl (by decide) (Nat.le_of_ble_eq_true rfl) rfl (fun _ h1 => ?_)
  refine am_iconst g dX3_matchFor_6 (am_il rfl) rfl ?_
  refine am_istore g dX3_matchFor_7 (by decide) ?_
  refine am_drop 3 ?_
  exact (jX3_matchFor_9 g) a2 0 h1
def fX4_giveByes_120 (K70 : Nat → Int → Int → am_M → Option (Unit × am_M)) (l1 : Nat) (l2 : Int) (l3 : Int) (h : am_M) : Option (Unit × am_M) := K70 l1 l2 (am_w (l3 + 2)) h
set_option maxRecDepth 10000 in
theorem jX4_giveByes_120 {D : va_G} {a : Nat → ClassId} {ad : Nat → Nat} {G : am_G} (g : am_Gd (EX D a ad) RX4 cX4_giveByes 5 none 1 G) {K70 : Nat → Int → Int → am_M → Option (Unit × am_M)} (hK70 : ∀ (l1 : Nat), l1 < 4 → ∀ (l2 : Int), ∀ (l3 : Int), ∀ h : am_M, am_J (EX D a ad) G 5 am_ev 70 [none, some (.inr (some (10 + l1))), some (.inl l2), some (.inl l3), none] [] h (K70 l1 l2 l3 h)) : ∀ (l1 : Nat), l1 < 4 → ∀ (l2 : Int), ∀ (l3 : Int), ∀ h : am_M, am_J (EX D a ad) G 5 am_ev 120 [none, some (.inr (some (10 + l1))), some (.inl l2), some (.inl l3), none] [] h (fX4_giveByes_120 K70 l1 l2 l3 h) := by
  intro l1 hl1 l2 l3 h
  unfold fX4_giveByes_120
  refine am_iinc g dX4_giveByes_120 (by decide) rfl ?_
  refine am_goto (tgt := 70) g dX4_giveByes_123 (by decide) ?_
  exact hK70 l1 hl1 l2 (am_w (l3 + 2)) h
def fX4_giveByes_70b (K70 : Nat → Int → Int → am_M → Option (Unit × am_M)) (l1 : Nat) (l2 : Int) (l3 : Int) (h : am_M) : Option (Unit × am_M) := if (am_w (l3 + 1)) < (h 1 l1) then (if l2 ≤ 0 then some ((), h) else if 0 ≤ l3 ∧ l3 < 16 then if (h 7 (16 * l1 + Int.toNat l3)) = (-2) then (if 0 ≤ (am_w (l3 + 1)) ∧ (am_w (l3 + 1)) < 16 then if (h 7 (16 * l1 + Int.toNat (am_w (l3 + 1)))) = (-2) then (if 0 ≤ (am_w (l3 + 1)) ∧ (am_w (l3 + 1)) < 16 then am_l (am_up h 7 (16 * l1 + Int.toNat (am_w (l3 + 1))) (-1)) (fun h2 => (fX4_giveByes_120 K70) l1 (am_w (l2 + (-1))) l3 h2) else none) else (fX4_giveByes_120 K70) l1 l2 l3 h else none) else (fX4_giveByes_120 K70) l1 l2 l3 h else none) else some ((), h)
def fX4_giveByes_70 : Nat → Int → Int → am_M → Option (Unit × am_M) := am_it (fun _ _ _ _ => none) (fX4_giveByes_70b) 400
set_option maxRecDepth 10000 in
theorem jX4_giveByes_70b {D : va_G} {a : Nat → ClassId} {ad : Nat → Nat} {G : am_G} (g : am_Gd (EX D a ad) RX4 cX4_giveByes 5 none 1 G) {K70 : Nat → Int → Int → am_M → Option (Unit × am_M)} (hK70 : ∀ (l1 : Nat), l1 < 4 → ∀ (l2 : Int), ∀ (l3 : Int), ∀ h : am_M, am_J (EX D a ad) G 5 am_ev 70 [none, some (.inr (some (10 + l1))), some (.inl l2), some (.inl l3), none] [] h (K70 l1 l2 l3 h)) : ∀ (l1 : Nat), l1 < 4 → ∀ (l2 : Int), ∀ (l3 : Int), ∀ h : am_M, am_J (EX D a ad) G 5 am_ev 70 [none, some (.inr (some (10 + l1))), some (.inl l2), some (.inl l3), none] [] h (fX4_giveByes_70b K70 l1 l2 l3 h) := by
  intro l1 hl1 l2 l3 h
  unfold fX4_giveByes_70b
  refine am_iload_n g dX4_giveByes_70 rfl ?_
  refine am_iconst g dX4_giveByes_71 (am_il rfl) rfl ?_
  refine am_iadd g dX4_giveByes_72 ?_
  refine am_aload_n g dX4_giveByes_73 rfl ?_
  refine am_geti (q := 8) (kd := 1) (ix := l1) g clX2 dX4_giveByes_74 (Nat.lt_of_lt_of_le (Nat.add_lt_add_left hl1 10) (Nat.le_of_ble_eq_true rfl)) (sh_X2 l1 hl1) (by decide) rfl lf_X4_46 ?_
  refine am_icmp_ge (tgt := 126) g dX4_giveByes_77 (by decide) ?_ ?_
  · exact am_vreturn g dX4_giveByes_126
  · refine am_iload_n g dX4_giveByes_80 rfl ?_
    refine am_if_le (tgt := 126) g dX4_giveByes_81 (by decide) ?_ ?_
    · exact am_vreturn g dX4_giveByes_126
    · refine am_aload_n g dX4_giveByes_84 rfl ?_
      refine am_getr (q := 1) (a := 18 + l1) g clX2 dX4_giveByes_85 (Nat.lt_of_lt_of_le (Nat.add_lt_add_left hl1 10) (Nat.le_of_ble_eq_true rfl)) (sh_X2 l1 hl1) (by decide) rfl (Nat.lt_of_lt_of_le (Nat.add_lt_add_left hl1 18) (Nat.le_of_ble_eq_true rfl)) lf_X4_26 ?_
      refine am_iload_n g dX4_giveByes_88 rfl ?_
      refine am_iaload (ix := 16 * l1 + Int.toNat l3) (nI := 16) g dX4_giveByes_89 (Nat.lt_of_lt_of_le (Nat.add_lt_add_left hl1 18) (Nat.le_of_ble_eq_true rfl)) (sh_X2_places l1 hl1) rfl rfl ?_
      refine am_bipush g dX4_giveByes_90 (am_il rfl) (am_bi rfl) ?_
      refine am_icmp_ne (tgt := 120) g dX4_giveByes_92 (by decide) ?_ ?_
      · exact (jX4_giveByes_120 g hK70) l1 hl1 l2 l3 h
      · refine am_aload_n g dX4_giveByes_95 rfl ?_
        refine am_getr (q := 1) (a := 18 + l1) g clX2 dX4_giveByes_96 (Nat.lt_of_lt_of_le (Nat.add_lt_add_left hl1 10) (Nat.le_of_ble_eq_true rfl)) (sh_X2 l1 hl1) (by decide) rfl (Nat.lt_of_lt_of_le (Nat.add_lt_add_left hl1 18) (Nat.le_of_ble_eq_true rfl)) lf_X4_26 ?_
        refine am_iload_n g dX4_giveByes_99 rfl ?_
        refine am_iconst g dX4_giveByes_100 (am_il rfl) rfl ?_
        refine am_iadd g dX4_giveByes_101 ?_
        refine am_iaload (ix := 16 * l1 + Int.toNat (am_w (l3 + 1))) (nI := 16) g dX4_giveByes_102 (Nat.lt_of_lt_of_le (Nat.add_lt_add_left hl1 18) (Nat.le_of_ble_eq_true rfl)) (sh_X2_places l1 hl1) rfl rfl ?_
        refine am_bipush g dX4_giveByes_103 (am_il rfl) (am_bi rfl) ?_
        refine am_icmp_ne (tgt := 120) g dX4_giveByes_105 (by decide) ?_ ?_
        · exact (jX4_giveByes_120 g hK70) l1 hl1 l2 l3 h
        · refine am_aload_n g dX4_giveByes_108 rfl ?_
          refine am_getr (q := 1) (a := 18 + l1) g clX2 dX4_giveByes_109 (Nat.lt_of_lt_of_le (Nat.add_lt_add_left hl1 10) (Nat.le_of_ble_eq_true rfl)) (sh_X2 l1 hl1) (by decide) rfl (Nat.lt_of_lt_of_le (Nat.add_lt_add_left hl1 18) (Nat.le_of_ble_eq_true rfl)) lf_X4_26 ?_
          refine am_iload_n g dX4_giveByes_112 rfl ?_
          refine am_iconst g dX4_giveByes_113 (am_il rfl) rfl ?_
          refine am_iadd g dX4_giveByes_114 ?_
          refine am_iconst g dX4_giveByes_115 (am_il rfl) rfl ?_
          refine am_iastore (ix := 16 * l1 + Int.toNat (am_w (l3 + 1))) (nI := 16) g dX4_giveByes_116 (Nat.lt_of_lt_of_le (Nat.add_lt_add_left hl1 18) (Nat.le_of_ble_eq_true rfl)) (sh_X2_places l1 hl1) rfl rfl ?_
          refine am_gm (fun h2 => ?_)
          refine am_iinc g dX4_giveByes_117 (by decide) rfl ?_
          exact (jX4_giveByes_120 g hK70) l1 hl1 (am_w (l2 + (-1))) l3 h2
theorem jX4_giveByes_70 {D : va_G} {a : Nat → ClassId} {ad : Nat → Nat} {G : am_G} (g : am_Gd (EX D a ad) RX4 cX4_giveByes 5 none 1 G) : ∀ (l1 : Nat), l1 < 4 → ∀ (l2 : Int), ∀ (l3 : Int), ∀ h : am_M, am_J (EX D a ad) G 5 am_ev 70 [none, some (.inr (some (10 + l1))), some (.inl l2), some (.inl l3), none] [] h (fX4_giveByes_70 l1 l2 l3 h) := by
  unfold fX4_giveByes_70
  generalize 400 = n
  induction n with
  | zero => intro l1 hl1 l2 l3 h; exact am_jn
  | succ n ih => exact jX4_giveByes_70b g ih
def fX4_giveByes_68 (l1 : Nat) (l2 : Int) (h : am_M) : Option (Unit × am_M) := fX4_giveByes_70 l1 l2 0 h
set_option maxRecDepth 10000 in
theorem jX4_giveByes_68 {D : va_G} {a : Nat → ClassId} {ad : Nat → Nat} {G : am_G} (g : am_Gd (EX D a ad) RX4 cX4_giveByes 5 none 1 G) : ∀ (l1 : Nat), l1 < 4 → ∀ (l2 : Int), ∀ h : am_M, am_J (EX D a ad) G 5 am_ev 68 [none, some (.inr (some (10 + l1))), some (.inl l2), none, none] [] h (fX4_giveByes_68 l1 l2 h) := by
  intro l1 hl1 l2 h
  unfold fX4_giveByes_68
  refine am_iconst g dX4_giveByes_68 (am_il rfl) rfl ?_
  refine am_istore_n g dX4_giveByes_69 (by decide) ?_
  exact (jX4_giveByes_70 g) l1 hl1 l2 0 h
def fX4_giveByes_62 (K12 : Nat → Int → Int → am_M → Option (Unit × am_M)) (l1 : Nat) (l2 : Int) (l3 : Int) (h : am_M) : Option (Unit × am_M) := K12 l1 l2 (am_w (l3 + 1)) h
set_option maxRecDepth 10000 in
theorem jX4_giveByes_62 {D : va_G} {a : Nat → ClassId} {ad : Nat → Nat} {G : am_G} (g : am_Gd (EX D a ad) RX4 cX4_giveByes 5 none 1 G) {K12 : Nat → Int → Int → am_M → Option (Unit × am_M)} (hK12 : ∀ (l1 : Nat), l1 < 4 → ∀ (l2 : Int), ∀ (l3 : Int), ∀ h : am_M, am_J (EX D a ad) G 5 am_ev 12 [some (.inr (some 7)), some (.inr (some (10 + l1))), some (.inl l2), some (.inl l3), none] [] h (K12 l1 l2 l3 h)) : ∀ (l1 : Nat), l1 < 4 → ∀ (l2 : Int), ∀ (l3 : Int), ∀ h : am_M, am_J (EX D a ad) G 5 am_ev 62 [some (.inr (some 7)), some (.inr (some (10 + l1))), some (.inl l2), some (.inl l3), none] [] h (fX4_giveByes_62 K12 l1 l2 l3 h) := by
  intro l1 hl1 l2 l3 h
  unfold fX4_giveByes_62
  refine am_iinc g dX4_giveByes_62 (by decide) rfl ?_
  refine am_goto (tgt := 12) g dX4_giveByes_65 (by decide) ?_
  exact hK12 l1 hl1 l2 (am_w (l3 + 1)) h
def fX4_giveByes_12b (K12 : Nat → Int → Int → am_M → Option (Unit × am_M)) (l1 : Nat) (l2 : Int) (l3 : Int) (h : am_M) : Option (Unit × am_M) := if l3 < (h 4 l1) then (if l3 < 4 then (if l2 ≤ 0 then fX4_giveByes_68 l1 l2 h else if 0 ≤ l3 ∧ l3 < 4 then am_l (am_xor (h 31 (Int.toNat l3)) 1) (fun x3 => if 0 ≤ x3 ∧ x3 < 16 then if (h 7 (16 * l1 + Int.toNat x3)) = (-2) then (if 0 ≤ x3 ∧ x3 < 16 then am_l (am_up h 7 (16 * l1 + Int.toNat x3) (-1)) (fun h4 => (fX4_giveByes_62 K12) l1 (am_w (l2 + (-1))) l3 h4) else none) else (fX4_giveByes_62 K12) l1 l2 l3 h else none) else none) else fX4_giveByes_68 l1 l2 h) else fX4_giveByes_68 l1 l2 h
def fX4_giveByes_12 : Nat → Int → Int → am_M → Option (Unit × am_M) := am_it (fun _ _ _ _ => none) (fX4_giveByes_12b) 400
set_option maxRecDepth 10000 in
theorem jX4_giveByes_12b {D : va_G} {a : Nat → ClassId} {ad : Nat → Nat} {G : am_G} (g : am_Gd (EX D a ad) RX4 cX4_giveByes 5 none 1 G) {K12 : Nat → Int → Int → am_M → Option (Unit × am_M)} (hK12 : ∀ (l1 : Nat), l1 < 4 → ∀ (l2 : Int), ∀ (l3 : Int), ∀ h : am_M, am_J (EX D a ad) G 5 am_ev 12 [some (.inr (some 7)), some (.inr (some (10 + l1))), some (.inl l2), some (.inl l3), none] [] h (K12 l1 l2 l3 h)) : ∀ (l1 : Nat), l1 < 4 → ∀ (l2 : Int), ∀ (l3 : Int), ∀ h : am_M, am_J (EX D a ad) G 5 am_ev 12 [some (.inr (some 7)), some (.inr (some (10 + l1))), some (.inl l2), some (.inl l3), none] [] h (fX4_giveByes_12b K12 l1 l2 l3 h) := by
  intro l1 hl1 l2 l3 h
  unfold fX4_giveByes_12b
  refine am_iload_n g dX4_giveByes_12 rfl ?_
  refine am_aload_n g dX4_giveByes_13 rfl ?_
  refine am_geti (q := 11) (kd := 4) (ix := l1) g clX2 dX4_giveByes_14 (Nat.lt_of_lt_of_le (Nat.add_lt_add_left hl1 10) (Nat.le_of_ble_eq_true rfl)) (sh_X2 l1 hl1) (by decide) rfl lf_X4_53 ?_
  refine am_icmp_ge (tgt := 68) g dX4_giveByes_17 (by decide) ?_ ?_
  · refine am_drop 0 ?_
    refine am_drop 3 ?_
    exact (jX4_giveByes_68 g) l1 hl1 l2 h
  · refine am_iload_n g dX4_giveByes_20 rfl ?_
    refine am_iconst g dX4_giveByes_21 (am_il rfl) rfl ?_
    refine am_icmp_ge (tgt := 68) g dX4_giveByes_22 (by decide) ?_ ?_
    · refine am_drop 0 ?_
      refine am_drop 3 ?_
      exact (jX4_giveByes_68 g) l1 hl1 l2 h
    · refine am_iload_n g dX4_giveByes_25 rfl ?_
      refine am_if_le (tgt := 68) g dX4_giveByes_26 (by decide) ?_ ?_
      · refine am_drop 0 ?_
        refine am_drop 3 ?_
        exact (jX4_giveByes_68 g) l1 hl1 l2 h
      · refine am_aload_n g dX4_giveByes_29 rfl ?_
        refine am_getr (q := 1) (a := 9) g clX4 dX4_giveByes_30 (Nat.le_of_ble_eq_true rfl) rfl (by decide) rfl (Nat.le_of_ble_eq_true rfl) lf_X4_15 ?_
        refine am_iload_n g dX4_giveByes_33 rfl ?_
        refine am_iaload (ix := Int.toNat l3) (nI := 4) g dX4_giveByes_34 (Nat.le_of_ble_eq_true rfl) rfl rfl (Nat.zero_add _) ?_
        refine am_iconst g dX4_giveByes_35 (am_il rfl) rfl ?_
        refine am_ixor g dX4_giveByes_36 ?_
        refine am_gv (fun x3 => ?_)
        refine am_istore g dX4_giveByes_37 (by decide) ?_
        refine am_aload_n g dX4_giveByes_39 rfl ?_
        refine am_getr (q := 1) (a := 18 + l1) g clX2 dX4_giveByes_40 (Nat.lt_of_lt_of_le (Nat.add_lt_add_left hl1 10) (Nat.le_of_ble_eq_true rfl)) (sh_X2 l1 hl1) (by decide) rfl (Nat.lt_of_lt_of_le (Nat.add_lt_add_left hl1 18) (Nat.le_of_ble_eq_true rfl)) lf_X4_26 ?_
        refine am_iload g dX4_giveByes_43 rfl ?_
        refine am_iaload (ix := 16 * l1 + Int.toNat x3) (nI := 16) g dX4_giveByes_45 (Nat.lt_of_lt_of_le (Nat.add_lt_add_left hl1 18) (Nat.le_of_ble_eq_true rfl)) (sh_X2_places l1 hl1) rfl rfl ?_
        refine am_bipush g dX4_giveByes_46 (am_il rfl) (am_bi rfl) ?_
        refine am_icmp_ne (tgt := 62) g dX4_giveByes_48 (by decide) ?_ ?_
        · refine am_drop 4 ?_
          exact (jX4_giveByes_62 g hK12) l1 hl1 l2 l3 h
        · refine am_aload_n g dX4_giveByes_51 rfl ?_
          refine am_getr (q := 1) (a := 18 + l1) g clX2 dX4_giveByes_52 (Nat.lt_of_lt_of_le (Nat.add_lt_add_left hl1 10) (Nat.le_of_ble_eq_true rfl)) (sh_X2 l1 hl1) (by decide) rfl (Nat.lt_of_lt_of_le (Nat.add_lt_add_left hl1 18) (Nat.le_of_ble_eq_true rfl)) lf_X4_26 ?_
          refine am_iload g dX4_giveByes_55 rfl ?_
          refine am_iconst g dX4_giveByes_57 (am_il rfl) rfl ?_
          refine am_iastore (ix := 16 * l1 + Int.toNat x3) (nI := 16) g dX4_giveByes_58 (Nat.lt_of_lt_of_le (Nat.add_lt_add_left hl1 18) (Nat.le_of_ble_eq_true rfl)) (sh_X2_places l1 hl1) rfl rfl ?_
          refine am_gm (fun h4 => ?_)
          refine am_iinc g dX4_giveByes_59 (by decide) rfl ?_
          refine am_drop 4 ?_
          exact (jX4_giveByes_62 g hK12) l1 hl1 (am_w (l2 + (-1))) l3 h4
theorem jX4_giveByes_12 {D : va_G} {a : Nat → ClassId} {ad : Nat → Nat} {G : am_G} (g : am_Gd (EX D a ad) RX4 cX4_giveByes 5 none 1 G) : ∀ (l1 : Nat), l1 < 4 → ∀ (l2 : Int), ∀ (l3 : Int), ∀ h : am_M, am_J (EX D a ad) G 5 am_ev 12 [some (.inr (some 7)), some (.inr (some (10 + l1))), some (.inl l2), some (.inl l3), none] [] h (fX4_giveByes_12 l1 l2 l3 h) := by
  unfold fX4_giveByes_12
  generalize 400 = n
  induction n with
  | zero => intro l1 hl1 l2 l3 h; exact am_jn
  | succ n ih => exact jX4_giveByes_12b g ih
def fX4_giveByes (a1 : Nat) (h : am_M) : Option (Unit × am_M) := am_l (am_w ((h 1 a1) - (h 3 a1))) (fun x1 => fX4_giveByes_12 a1 x1 0 h)
set_option maxRecDepth 10000 in
theorem cX4_giveByesC {D : va_G} {a : Nat → ClassId} {ad : Nat → Nat} (a1 : Nat) (ha1 : a1 < 4) (h : am_M) : am_C (EX D a ad) yX4_giveByes cX4_giveByes 5 none 1 [.inr (some 7), .inr (some (10 + a1))] h am_ev (fX4_giveByes a1 h) := by
  refine am_ofJ (L := [some (.inr (some 7)), some (.inr (some (10 + a1))), none, none, none]) (by decide) rfl (Nat.le_of_ble_eq_true rfl) (fun G g => ?_)
  have g : am_Gd (EX D a ad) RX4 cX4_giveByes 5 none 1 G := g
  unfold fX4_giveByes
  refine am_aload_n g dX4_giveByes_0 rfl ?_
  refine am_geti (q := 8) (kd := 1) (ix := a1) g clX2 dX4_giveByes_1 (Nat.lt_of_lt_of_le (Nat.add_lt_add_left ha1 10) (Nat.le_of_ble_eq_true rfl)) (sh_X2 a1 ha1) (by decide) rfl lf_X4_46 ?_
  refine am_aload_n g dX4_giveByes_4 rfl ?_
  refine am_geti (q := 10) (kd := 3) (ix := a1) g clX2 dX4_giveByes_5 (Nat.lt_of_lt_of_le (Nat.add_lt_add_left ha1 10) (Nat.le_of_ble_eq_true rfl)) (sh_X2 a1 ha1) (by decide) rfl lf_X4_59 ?_
  refine am_isub g dX4_giveByes_8 ?_
  refine am_gv (fun x1 => ?_)
  refine am_istore_n g dX4_giveByes_9 (by decide) ?_
  refine am_iconst g dX4_giveByes_10 (am_il rfl) rfl ?_
  refine am_istore_n g dX4_giveByes_11 (by decide) ?_
  exact (jX4_giveByes_12 g) a1 ha1 x1 0 h
def fX4_areOfOneLand (a2 : Int) (a3 : Int) (h : am_M) : Option (Int × am_M) := am_b (fX8_isPlayer a2 h) (fun v1 h2 => if v1 = 0 then some (0, h2) else am_b (fX8_isPlayer a3 h2) (fun v3 h4 => if v3 = 0 then some (0, h4) else if 0 ≤ a2 ∧ a2 < 40 then if 0 ≤ a3 ∧ a3 < 40 then if (h4 0 (Int.toNat a2)) = (h4 0 (Int.toNat a3)) then some (1, h4) else some (0, h4) else none else none))
set_option maxRecDepth 10000 in
theorem cX4_areOfOneLandC {D : va_G} {a : Nat → ClassId} {ad : Nat → Nat} (a2 : Int) (a3 : Int) (h : am_M) : am_C (EX D a ad) yX4_areOfOneLand cX4_areOfOneLand 3 (some .boolean) 2 [.inr (some 2), .inl a2, .inl a3] h am_ei (fX4_areOfOneLand a2 a3 h) := by
  refine am_ofJ (L := [some (.inr (some 2)), some (.inl a2), some (.inl a3)]) (by decide) rfl (Nat.le_of_ble_eq_true rfl) (fun G g => ?_)
  have g : am_Gd (EX D a ad) RX4 cX4_areOfOneLand 3 (some .boolean) 2 G := g
  unfold fX4_areOfOneLand
  refine am_iload_n g dX4_areOfOneLand_0 rfl ?_
  refine am_SNi (as := [.inl a2]) (S := []) g (cX8_isPlayerC a2 h) mi_X8_isPlayer ln_X4_74 dX4_areOfOneLand_1 rfl (by decide) (Nat.le_of_ble_eq_true rfl) rfl (fun v1 h2 => ?_)
  refine am_if_eq (tgt := 27) g dX4_areOfOneLand_4 (by decide) ?_ ?_
  · refine am_iconst g dX4_areOfOneLand_27 (am_il rfl) rfl ?_
    exact am_zreturn g dX4_areOfOneLand_28 (by decide)
  · refine am_iload_n g dX4_areOfOneLand_7 rfl ?_
    refine am_SNi (as := [.inl a3]) (S := []) g (cX8_isPlayerC a3 h2) mi_X8_isPlayer ln_X4_74 dX4_areOfOneLand_8 rfl (by decide) (Nat.le_of_ble_eq_true rfl) rfl (fun v3 h4 => ?_)
    refine am_if_eq (tgt := 27) g dX4_areOfOneLand_11 (by decide) ?_ ?_
    · refine am_iconst g dX4_areOfOneLand_27 (am_il rfl) rfl ?_
      exact am_zreturn g dX4_areOfOneLand_28 (by decide)
    · refine am_aload_n g dX4_areOfOneLand_14 rfl ?_
      refine am_iload_n g dX4_areOfOneLand_15 rfl ?_
      refine am_iaload (ix := Int.toNat a2) (nI := 40) g dX4_areOfOneLand_16 (Nat.le_of_ble_eq_true rfl) rfl rfl (Nat.zero_add _) ?_
      refine am_aload_n g dX4_areOfOneLand_17 rfl ?_
      refine am_iload_n g dX4_areOfOneLand_18 rfl ?_
      refine am_iaload (ix := Int.toNat a3) (nI := 40) g dX4_areOfOneLand_19 (Nat.le_of_ble_eq_true rfl) rfl rfl (Nat.zero_add _) ?_
      refine am_icmp_ne (tgt := 27) g dX4_areOfOneLand_20 (by decide) ?_ ?_
      · refine am_iconst g dX4_areOfOneLand_27 (am_il rfl) rfl ?_
        exact am_zreturn g dX4_areOfOneLand_28 (by decide)
      · refine am_iconst g dX4_areOfOneLand_23 (am_il rfl) rfl ?_
        refine am_goto (tgt := 28) g dX4_areOfOneLand_24 (by decide) ?_
        exact am_zreturn g dX4_areOfOneLand_28 (by decide)
def fX4_mayChange (a1 : Nat) (a3 : Int) (a4 : Int) (h : am_M) : Option (Int × am_M) := if 0 ≤ a4 ∧ a4 < 16 then if (h 7 (16 * a1 + Int.toNat a4)) < 0 then some (0, h) else if 0 ≤ a4 ∧ a4 < 16 then if (h 32 (Int.toNat a4)) = 0 then (if 0 ≤ (am_xor a3 1) ∧ (am_xor a3 1) < 16 then if 0 ≤ a4 ∧ a4 < 16 then am_b (fX4_areOfOneLand (h 7 (16 * a1 + Int.toNat (am_xor a3 1))) (h 7 (16 * a1 + Int.toNat a4)) h) (fun v1 h2 => if v1 = 0 then (if 0 ≤ (am_xor a4 1) ∧ (am_xor a4 1) < 16 then if 0 ≤ a3 ∧ a3 < 16 then am_b (fX4_areOfOneLand (h2 7 (16 * a1 + Int.toNat (am_xor a4 1))) (h2 7 (16 * a1 + Int.toNat a3)) h2) (fun v3 h4 => if v3 = 0 then some (1, h4) else some (0, h4)) else none else none) else some (0, h2)) else none else none) else some (0, h) else none else none
set_option maxRecDepth 10000 in
theorem cX4_mayChangeC {D : va_G} {a : Nat → ClassId} {ad : Nat → Nat} (a1 : Nat) (ha1 : a1 < 4) (a3 : Int) (a4 : Int) (h : am_M) : am_C (EX D a ad) yX4_mayChange cX4_mayChange 5 (some .boolean) 3 [.inr (some 7), .inr (some (10 + a1)), .inr (some 2), .inl a3, .inl a4] h am_ei (fX4_mayChange a1 a3 a4 h) := by
  refine am_ofJ (L := [some (.inr (some 7)), some (.inr (some (10 + a1))), some (.inr (some 2)), some (.inl a3), some (.inl a4)]) (by decide) rfl (Nat.le_of_ble_eq_true rfl) (fun G g => ?_)
  have g : am_Gd (EX D a ad) RX4 cX4_mayChange 5 (some .boolean) 3 G := g
  unfold fX4_mayChange
  refine am_aload_n g dX4_mayChange_0 rfl ?_
  refine am_getr (q := 1) (a := 18 + a1) g clX2 dX4_mayChange_1 (Nat.lt_of_lt_of_le (Nat.add_lt_add_left ha1 10) (Nat.le_of_ble_eq_true rfl)) (sh_X2 a1 ha1) (by decide) rfl (Nat.lt_of_lt_of_le (Nat.add_lt_add_left ha1 18) (Nat.le_of_ble_eq_true rfl)) lf_X4_26 ?_
  refine am_iload g dX4_mayChange_4 rfl ?_
  refine am_iaload (ix := 16 * a1 + Int.toNat a4) (nI := 16) g dX4_mayChange_6 (Nat.lt_of_lt_of_le (Nat.add_lt_add_left ha1 18) (Nat.le_of_ble_eq_true rfl)) (sh_X2_places a1 ha1) rfl rfl ?_
  refine am_if_lt (tgt := 68) g dX4_mayChange_7 (by decide) ?_ ?_
  · refine am_iconst g dX4_mayChange_68 (am_il rfl) rfl ?_
    exact am_zreturn g dX4_mayChange_69 (by decide)
  · refine am_aload_n g dX4_mayChange_10 rfl ?_
    refine am_getr (q := 2) (a := 58) g clX4 dX4_mayChange_11 (Nat.le_of_ble_eq_true rfl) rfl (by decide) rfl (Nat.le_of_ble_eq_true rfl) lf_X4_18 ?_
    refine am_iload g dX4_mayChange_14 rfl ?_
    refine am_zaload (ix := Int.toNat a4) (nI := 16) g dX4_mayChange_16 (Nat.le_of_ble_eq_true rfl) rfl rfl (Nat.zero_add _) ?_
    refine am_if_ne (tgt := 68) g dX4_mayChange_17 (by decide) ?_ ?_
    · refine am_iconst g dX4_mayChange_68 (am_il rfl) rfl ?_
      exact am_zreturn g dX4_mayChange_69 (by decide)
    · refine am_aload_n g dX4_mayChange_20 rfl ?_
      refine am_aload_n g dX4_mayChange_21 rfl ?_
      refine am_getr (q := 1) (a := 18 + a1) g clX2 dX4_mayChange_22 (Nat.lt_of_lt_of_le (Nat.add_lt_add_left ha1 10) (Nat.le_of_ble_eq_true rfl)) (sh_X2 a1 ha1) (by decide) rfl (Nat.lt_of_lt_of_le (Nat.add_lt_add_left ha1 18) (Nat.le_of_ble_eq_true rfl)) lf_X4_26 ?_
      refine am_iload_n g dX4_mayChange_25 rfl ?_
      refine am_iconst g dX4_mayChange_26 (am_il rfl) rfl ?_
      refine am_ixor g dX4_mayChange_27 ?_
      refine am_iaload (ix := 16 * a1 + Int.toNat (am_xor a3 1)) (nI := 16) g dX4_mayChange_28 (Nat.lt_of_lt_of_le (Nat.add_lt_add_left ha1 18) (Nat.le_of_ble_eq_true rfl)) (sh_X2_places a1 ha1) rfl rfl ?_
      refine am_aload_n g dX4_mayChange_29 rfl ?_
      refine am_getr (q := 1) (a := 18 + a1) g clX2 dX4_mayChange_30 (Nat.lt_of_lt_of_le (Nat.add_lt_add_left ha1 10) (Nat.le_of_ble_eq_true rfl)) (sh_X2 a1 ha1) (by decide) rfl (Nat.lt_of_lt_of_le (Nat.add_lt_add_left ha1 18) (Nat.le_of_ble_eq_true rfl)) lf_X4_26 ?_
      refine am_iload g dX4_mayChange_33 rfl ?_
      refine am_iaload (ix := 16 * a1 + Int.toNat a4) (nI := 16) g dX4_mayChange_35 (Nat.lt_of_lt_of_le (Nat.add_lt_add_left ha1 18) (Nat.le_of_ble_eq_true rfl)) (sh_X2_places a1 ha1) rfl rfl ?_
      refine am_Si (as := [.inr (some 2), .inl (h 7 (16 * a1 + Int.toNat (am_xor a3 1))), .inl (h 7 (16 * a1 + Int.toNat a4))]) (S := []) g (cX4_areOfOneLandC (h 7 (16 * a1 + Int.toNat (am_xor a3 1))) (h 7 (16 * a1 + Int.toNat a4)) h) mi_X4_areOfOneLand lm_X4_62 dX4_mayChange_36 rfl (by decide) (Nat.le_of_ble_eq_true rfl) rfl (fun v1 h2 => ?_)
      refine am_if_ne (tgt := 68) g dX4_mayChange_39 (by decide) ?_ ?_
      · refine am_iconst g dX4_mayChange_68 (am_il rfl) rfl ?_
        exact am_zreturn g dX4_mayChange_69 (by decide)
      · refine am_aload_n g dX4_mayChange_42 rfl ?_
        refine am_aload_n g dX4_mayChange_43 rfl ?_
        refine am_getr (q := 1) (a := 18 + a1) g clX2 dX4_mayChange_44 (Nat.lt_of_lt_of_le (Nat.add_lt_add_left ha1 10) (Nat.le_of_ble_eq_true rfl)) (sh_X2 a1 ha1) (by decide) rfl (Nat.lt_of_lt_of_le (Nat.add_lt_add_left ha1 18) (Nat.le_of_ble_eq_true rfl)) lf_X4_26 ?_
        refine am_iload g dX4_mayChange_47 rfl ?_
        refine am_iconst g dX4_mayChange_49 (am_il rfl) rfl ?_
        refine am_ixor g dX4_mayChange_50 ?_
        refine am_iaload (ix := 16 * a1 + Int.toNat (am_xor a4 1)) (nI := 16) g dX4_mayChange_51 (Nat.lt_of_lt_of_le (Nat.add_lt_add_left ha1 18) (Nat.le_of_ble_eq_true rfl)) (sh_X2_places a1 ha1) rfl rfl ?_
        refine am_aload_n g dX4_mayChange_52 rfl ?_
        refine am_getr (q := 1) (a := 18 + a1) g clX2 dX4_mayChange_53 (Nat.lt_of_lt_of_le (Nat.add_lt_add_left ha1 10) (Nat.le_of_ble_eq_true rfl)) (sh_X2 a1 ha1) (by decide) rfl (Nat.lt_of_lt_of_le (Nat.add_lt_add_left ha1 18) (Nat.le_of_ble_eq_true rfl)) lf_X4_26 ?_
        refine am_iload_n g dX4_mayChange_56 rfl ?_
        refine am_iaload (ix := 16 * a1 + Int.toNat a3) (nI := 16) g dX4_mayChange_57 (Nat.lt_of_lt_of_le (Nat.add_lt_add_left ha1 18) (Nat.le_of_ble_eq_true rfl)) (sh_X2_places a1 ha1) rfl rfl ?_
        refine am_Si (as := [.inr (some 2), .inl (h2 7 (16 * a1 + Int.toNat (am_xor a4 1))), .inl (h2 7 (16 * a1 + Int.toNat a3))]) (S := []) g (cX4_areOfOneLandC (h2 7 (16 * a1 + Int.toNat (am_xor a4 1))) (h2 7 (16 * a1 + Int.toNat a3)) h2) mi_X4_areOfOneLand lm_X4_62 dX4_mayChange_58 rfl (by decide) (Nat.le_of_ble_eq_true rfl) rfl (fun v3 h4 => ?_)
        refine am_if_ne (tgt := 68) g dX4_mayChange_61 (by decide) ?_ ?_
        · refine am_iconst g dX4_mayChange_68 (am_il rfl) rfl ?_
          exact am_zreturn g dX4_mayChange_69 (by decide)
        · refine am_iconst g dX4_mayChange_64 (am_il rfl) rfl ?_
          refine am_goto (tgt := 69) g dX4_mayChange_65 (by decide) ?_
          exact am_zreturn g dX4_mayChange_69 (by decide)
def fX4_moveAway_28 (l1 : Nat) (l3 : Int) (l4 : Int) (h : am_M) : Option (Unit × am_M) := if 0 ≤ l3 ∧ l3 < 16 then am_l (h 7 (16 * l1 + Int.toNat l3)) (fun x4 => if 0 ≤ l4 ∧ l4 < 16 then if 0 ≤ l3 ∧ l3 < 16 then am_l (am_up h 7 (16 * l1 + Int.toNat l3) (h 7 (16 * l1 + Int.toNat l4))) (fun h5 => if 0 ≤ l4 ∧ l4 < 16 then am_l (am_up h5 7 (16 * l1 + Int.toNat l4) x4) (fun h6 => some ((), h6)) else none) else none else none) else none
set_option maxRecDepth 10000 in
theorem jX4_moveAway_28 {D : va_G} {a : Nat → ClassId} {ad : Nat → Nat} {G : am_G} (g : am_Gd (EX D a ad) RX4 cX4_moveAway 6 none 4 G) : ∀ (l1 : Nat), l1 < 4 → ∀ (l3 : Int), ∀ (l4 : Int), ∀ h : am_M, am_J (EX D a ad) G 6 am_ev 28 [none, some (.inr (some (10 + l1))), none, some (.inl l3), some (.inl l4), none] [] h (fX4_moveAway_28 l1 l3 l4 h) := by
  intro l1 hl1 l3 l4 h
  unfold fX4_moveAway_28
  refine am_aload_n g dX4_moveAway_28 rfl ?_
  refine am_getr (q := 1) (a := 18 + l1) g clX2 dX4_moveAway_29 (Nat.lt_of_lt_of_le (Nat.add_lt_add_left hl1 10) (Nat.le_of_ble_eq_true rfl)) (sh_X2 l1 hl1) (by decide) rfl (Nat.lt_of_lt_of_le (Nat.add_lt_add_left hl1 18) (Nat.le_of_ble_eq_true rfl)) lf_X4_26 ?_
  refine am_iload_n g dX4_moveAway_32 rfl ?_
  refine am_iaload (ix := 16 * l1 + Int.toNat l3) (nI := 16) g dX4_moveAway_33 (Nat.lt_of_lt_of_le (Nat.add_lt_add_left hl1 18) (Nat.le_of_ble_eq_true rfl)) (sh_X2_places l1 hl1) rfl rfl ?_
  refine am_gv (fun x4 => ?_)
  refine am_istore g dX4_moveAway_34 (by decide) ?_
  refine am_aload_n g dX4_moveAway_36 rfl ?_
  refine am_getr (q := 1) (a := 18 + l1) g clX2 dX4_moveAway_37 (Nat.lt_of_lt_of_le (Nat.add_lt_add_left hl1 10) (Nat.le_of_ble_eq_true rfl)) (sh_X2 l1 hl1) (by decide) rfl (Nat.lt_of_lt_of_le (Nat.add_lt_add_left hl1 18) (Nat.le_of_ble_eq_true rfl)) lf_X4_26 ?_
  refine am_iload_n g dX4_moveAway_40 rfl ?_
  refine am_aload_n g dX4_moveAway_41 rfl ?_
  refine am_getr (q := 1) (a := 18 + l1) g clX2 dX4_moveAway_42 (Nat.lt_of_lt_of_le (Nat.add_lt_add_left hl1 10) (Nat.le_of_ble_eq_true rfl)) (sh_X2 l1 hl1) (by decide) rfl (Nat.lt_of_lt_of_le (Nat.add_lt_add_left hl1 18) (Nat.le_of_ble_eq_true rfl)) lf_X4_26 ?_
  refine am_iload g dX4_moveAway_45 rfl ?_
  refine am_iaload (ix := 16 * l1 + Int.toNat l4) (nI := 16) g dX4_moveAway_47 (Nat.lt_of_lt_of_le (Nat.add_lt_add_left hl1 18) (Nat.le_of_ble_eq_true rfl)) (sh_X2_places l1 hl1) rfl rfl ?_
  refine am_iastore (ix := 16 * l1 + Int.toNat l3) (nI := 16) g dX4_moveAway_48 (Nat.lt_of_lt_of_le (Nat.add_lt_add_left hl1 18) (Nat.le_of_ble_eq_true rfl)) (sh_X2_places l1 hl1) rfl rfl ?_
  refine am_gm (fun h5 => ?_)
  refine am_aload_n g dX4_moveAway_49 rfl ?_
  refine am_getr (q := 1) (a := 18 + l1) g clX2 dX4_moveAway_50 (Nat.lt_of_lt_of_le (Nat.add_lt_add_left hl1 10) (Nat.le_of_ble_eq_true rfl)) (sh_X2 l1 hl1) (by decide) rfl (Nat.lt_of_lt_of_le (Nat.add_lt_add_left hl1 18) (Nat.le_of_ble_eq_true rfl)) lf_X4_26 ?_
  refine am_iload g dX4_moveAway_53 rfl ?_
  refine am_iload g dX4_moveAway_55 rfl ?_
  refine am_iastore (ix := 16 * l1 + Int.toNat l4) (nI := 16) g dX4_moveAway_57 (Nat.lt_of_lt_of_le (Nat.add_lt_add_left hl1 18) (Nat.le_of_ble_eq_true rfl)) (sh_X2_places l1 hl1) rfl rfl ?_
  refine am_gm (fun h6 => ?_)
  exact am_vreturn g dX4_moveAway_58
def fX4_moveAway_7b (K7 : Nat → Int → Int → am_M → Option (Unit × am_M)) (l1 : Nat) (l3 : Int) (l4 : Int) (h : am_M) : Option (Unit × am_M) := if l4 < (h 1 l1) then (am_b (fX4_mayChange l1 l3 l4 h) (fun v2 h3 => if v2 = 0 then K7 l1 l3 (am_w (l4 + 1)) h3 else fX4_moveAway_28 l1 l3 l4 h3)) else some ((), h)
def fX4_moveAway_7 : Nat → Int → Int → am_M → Option (Unit × am_M) := am_it (fun _ _ _ _ => none) (fX4_moveAway_7b) 400
set_option maxRecDepth 10000 in
theorem jX4_moveAway_7b {D : va_G} {a : Nat → ClassId} {ad : Nat → Nat} {G : am_G} (g : am_Gd (EX D a ad) RX4 cX4_moveAway 6 none 4 G) {K7 : Nat → Int → Int → am_M → Option (Unit × am_M)} (hK7 : ∀ (l1 : Nat), l1 < 4 → ∀ (l3 : Int), ∀ (l4 : Int), ∀ h : am_M, am_J (EX D a ad) G 6 am_ev 7 [some (.inr (some 7)), some (.inr (some (10 + l1))), some (.inr (some 2)), some (.inl l3), some (.inl l4), none] [] h (K7 l1 l3 l4 h)) : ∀ (l1 : Nat), l1 < 4 → ∀ (l3 : Int), ∀ (l4 : Int), ∀ h : am_M, am_J (EX D a ad) G 6 am_ev 7 [some (.inr (some 7)), some (.inr (some (10 + l1))), some (.inr (some 2)), some (.inl l3), some (.inl l4), none] [] h (fX4_moveAway_7b K7 l1 l3 l4 h) := by
  intro l1 hl1 l3 l4 h
  unfold fX4_moveAway_7b
  refine am_iload g dX4_moveAway_7 rfl ?_
  refine am_aload_n g dX4_moveAway_9 rfl ?_
  refine am_geti (q := 8) (kd := 1) (ix := l1) g clX2 dX4_moveAway_10 (Nat.lt_of_lt_of_le (Nat.add_lt_add_left hl1 10) (Nat.le_of_ble_eq_true rfl)) (sh_X2 l1 hl1) (by decide) rfl lf_X4_46 ?_
  refine am_icmp_ge (tgt := 65) g dX4_moveAway_13 (by decide) ?_ ?_
  · exact am_vreturn g dX4_moveAway_65
  · refine am_aload_n g dX4_moveAway_16 rfl ?_
    refine am_aload_n g dX4_moveAway_17 rfl ?_
    refine am_aload_n g dX4_moveAway_18 rfl ?_
    refine am_iload_n g dX4_moveAway_19 rfl ?_
    refine am_iload g dX4_moveAway_20 rfl ?_
    refine am_Vi (as := [.inr (some (10 + l1)), .inr (some 2), .inl l3, .inl l4]) (S := []) g (cX4_mayChangeC l1 hl1 l3 l4 h) mi_X4_mayChange lm_X4_70 clX4.1 (Nat.le_of_ble_eq_true rfl) rfl dX4_moveAway_22 rfl (by decide) (Nat.le_of_ble_eq_true rfl) rfl (fun v2 h3 => ?_)
    refine am_if_eq (tgt := 59) g dX4_moveAway_25 (by decide) ?_ ?_
    · refine am_iinc g dX4_moveAway_59 (by decide) rfl ?_
      refine am_goto (tgt := 7) g dX4_moveAway_62 (by decide) ?_
      exact hK7 l1 hl1 l3 (am_w (l4 + 1)) h3
    · refine am_drop 0 ?_
      refine am_drop 2 ?_
      exact (jX4_moveAway_28 g) l1 hl1 l3 l4 h3
theorem jX4_moveAway_7 {D : va_G} {a : Nat → ClassId} {ad : Nat → Nat} {G : am_G} (g : am_Gd (EX D a ad) RX4 cX4_moveAway 6 none 4 G) : ∀ (l1 : Nat), l1 < 4 → ∀ (l3 : Int), ∀ (l4 : Int), ∀ h : am_M, am_J (EX D a ad) G 6 am_ev 7 [some (.inr (some 7)), some (.inr (some (10 + l1))), some (.inr (some 2)), some (.inl l3), some (.inl l4), none] [] h (fX4_moveAway_7 l1 l3 l4 h) := by
  unfold fX4_moveAway_7
  generalize 400 = n
  induction n with
  | zero => intro l1 hl1 l3 l4 h; exact am_jn
  | succ n ih => exact jX4_moveAway_7b g ih
def fX4_moveAway (a1 : Nat) (a3 : Int) (h : am_M) : Option (Unit × am_M) := am_l (am_w ((am_or a3 1) + 1)) (fun x1 => fX4_moveAway_7 a1 a3 x1 h)
set_option maxRecDepth 10000 in
theorem cX4_moveAwayC {D : va_G} {a : Nat → ClassId} {ad : Nat → Nat} (a1 : Nat) (ha1 : a1 < 4) (a3 : Int) (h : am_M) : am_C (EX D a ad) yX4_moveAway cX4_moveAway 6 none 4 [.inr (some 7), .inr (some (10 + a1)), .inr (some 2), .inl a3] h am_ev (fX4_moveAway a1 a3 h) := by
  refine am_ofJ (L := [some (.inr (some 7)), some (.inr (some (10 + a1))), some (.inr (some 2)), some (.inl a3), none, none]) (by decide) rfl (Nat.le_of_ble_eq_true rfl) (fun G g => ?_)
  have g : am_Gd (EX D a ad) RX4 cX4_moveAway 6 none 4 G := g
  unfold fX4_moveAway
  refine am_iload_n g dX4_moveAway_0 rfl ?_
  refine am_iconst g dX4_moveAway_1 (am_il rfl) rfl ?_
  refine am_ior g dX4_moveAway_2 ?_
  refine am_iconst g dX4_moveAway_3 (am_il rfl) rfl ?_
  refine am_iadd g dX4_moveAway_4 ?_
  refine am_gv (fun x1 => ?_)
  refine am_istore g dX4_moveAway_5 (by decide) ?_
  exact (jX4_moveAway_7 g) a1 ha1 a3 x1 h
def fX4_partLands_75 (K2 : Nat → Int → am_M → Option (Unit × am_M)) (l1 : Nat) (l3 : Int) (h : am_M) : Option (Unit × am_M) := K2 l1 (am_w (l3 + 2)) h
set_option maxRecDepth 10000 in
theorem jX4_partLands_75 {D : va_G} {a : Nat → ClassId} {ad : Nat → Nat} {G : am_G} (g : am_Gd (EX D a ad) RX4 cX4_partLands 4 none 5 G) {K2 : Nat → Int → am_M → Option (Unit × am_M)} (hK2 : ∀ (l1 : Nat), l1 < 4 → ∀ (l3 : Int), ∀ h : am_M, am_J (EX D a ad) G 4 am_ev 2 [some (.inr (some 7)), some (.inr (some (10 + l1))), some (.inr (some 2)), some (.inl l3)] [] h (K2 l1 l3 h)) : ∀ (l1 : Nat), l1 < 4 → ∀ (l3 : Int), ∀ h : am_M, am_J (EX D a ad) G 4 am_ev 75 [some (.inr (some 7)), some (.inr (some (10 + l1))), some (.inr (some 2)), some (.inl l3)] [] h (fX4_partLands_75 K2 l1 l3 h) := by
  intro l1 hl1 l3 h
  unfold fX4_partLands_75
  refine am_iinc g dX4_partLands_75 (by decide) rfl ?_
  refine am_goto (tgt := 2) g dX4_partLands_78 (by decide) ?_
  exact hK2 l1 hl1 (am_w (l3 + 2)) h
def fX4_partLands_2b (K2 : Nat → Int → am_M → Option (Unit × am_M)) (l1 : Nat) (l3 : Int) (h : am_M) : Option (Unit × am_M) := if (am_w (l3 + 1)) < (h 1 l1) then (if 0 ≤ l3 ∧ l3 < 16 then if 0 ≤ (am_w (l3 + 1)) ∧ (am_w (l3 + 1)) < 16 then am_b (fX4_areOfOneLand (h 7 (16 * l1 + Int.toNat l3)) (h 7 (16 * l1 + Int.toNat (am_w (l3 + 1)))) h) (fun v1 h2 => if v1 = 0 then (fX4_partLands_75 K2) l1 l3 h2 else if 0 ≤ (am_w (l3 + 1)) ∧ (am_w (l3 + 1)) < 16 then if (h2 32 (Int.toNat (am_w (l3 + 1)))) = 0 then am_b (fX4_moveAway l1 (am_w (l3 + 1)) h2) (fun _ h4 => (fX4_partLands_75 K2) l1 l3 h4) else if 0 ≤ l3 ∧ l3 < 16 then if (h2 32 (Int.toNat l3)) = 0 then am_b (fX4_moveAway l1 l3 h2) (fun _ h3 => (fX4_partLands_75 K2) l1 l3 h3) else (fX4_partLands_75 K2) l1 l3 h2 else none else none) else none else none) else some ((), h)
def fX4_partLands_2 : Nat → Int → am_M → Option (Unit × am_M) := am_it (fun _ _ _ => none) (fX4_partLands_2b) 400
set_option maxRecDepth 10000 in
theorem jX4_partLands_2b {D : va_G} {a : Nat → ClassId} {ad : Nat → Nat} {G : am_G} (g : am_Gd (EX D a ad) RX4 cX4_partLands 4 none 5 G) {K2 : Nat → Int → am_M → Option (Unit × am_M)} (hK2 : ∀ (l1 : Nat), l1 < 4 → ∀ (l3 : Int), ∀ h : am_M, am_J (EX D a ad) G 4 am_ev 2 [some (.inr (some 7)), some (.inr (some (10 + l1))), some (.inr (some 2)), some (.inl l3)] [] h (K2 l1 l3 h)) : ∀ (l1 : Nat), l1 < 4 → ∀ (l3 : Int), ∀ h : am_M, am_J (EX D a ad) G 4 am_ev 2 [some (.inr (some 7)), some (.inr (some (10 + l1))), some (.inr (some 2)), some (.inl l3)] [] h (fX4_partLands_2b K2 l1 l3 h) := by
  intro l1 hl1 l3 h
  unfold fX4_partLands_2b
  refine am_iload_n g dX4_partLands_2 rfl ?_
  refine am_iconst g dX4_partLands_3 (am_il rfl) rfl ?_
  refine am_iadd g dX4_partLands_4 ?_
  refine am_aload_n g dX4_partLands_5 rfl ?_
  refine am_geti (q := 8) (kd := 1) (ix := l1) g clX2 dX4_partLands_6 (Nat.lt_of_lt_of_le (Nat.add_lt_add_left hl1 10) (Nat.le_of_ble_eq_true rfl)) (sh_X2 l1 hl1) (by decide) rfl lf_X4_46 ?_
  refine am_icmp_ge (tgt := 81) g dX4_partLands_9 (by decide) ?_ ?_
  · exact am_vreturn g dX4_partLands_81
  · refine am_aload_n g dX4_partLands_12 rfl ?_
    refine am_aload_n g dX4_partLands_13 rfl ?_
    refine am_getr (q := 1) (a := 18 + l1) g clX2 dX4_partLands_14 (Nat.lt_of_lt_of_le (Nat.add_lt_add_left hl1 10) (Nat.le_of_ble_eq_true rfl)) (sh_X2 l1 hl1) (by decide) rfl (Nat.lt_of_lt_of_le (Nat.add_lt_add_left hl1 18) (Nat.le_of_ble_eq_true rfl)) lf_X4_26 ?_
    refine am_iload_n g dX4_partLands_17 rfl ?_
    refine am_iaload (ix := 16 * l1 + Int.toNat l3) (nI := 16) g dX4_partLands_18 (Nat.lt_of_lt_of_le (Nat.add_lt_add_left hl1 18) (Nat.le_of_ble_eq_true rfl)) (sh_X2_places l1 hl1) rfl rfl ?_
    refine am_aload_n g dX4_partLands_19 rfl ?_
    refine am_getr (q := 1) (a := 18 + l1) g clX2 dX4_partLands_20 (Nat.lt_of_lt_of_le (Nat.add_lt_add_left hl1 10) (Nat.le_of_ble_eq_true rfl)) (sh_X2 l1 hl1) (by decide) rfl (Nat.lt_of_lt_of_le (Nat.add_lt_add_left hl1 18) (Nat.le_of_ble_eq_true rfl)) lf_X4_26 ?_
    refine am_iload_n g dX4_partLands_23 rfl ?_
    refine am_iconst g dX4_partLands_24 (am_il rfl) rfl ?_
    refine am_iadd g dX4_partLands_25 ?_
    refine am_iaload (ix := 16 * l1 + Int.toNat (am_w (l3 + 1))) (nI := 16) g dX4_partLands_26 (Nat.lt_of_lt_of_le (Nat.add_lt_add_left hl1 18) (Nat.le_of_ble_eq_true rfl)) (sh_X2_places l1 hl1) rfl rfl ?_
    refine am_Si (as := [.inr (some 2), .inl (h 7 (16 * l1 + Int.toNat l3)), .inl (h 7 (16 * l1 + Int.toNat (am_w (l3 + 1))))]) (S := []) g (cX4_areOfOneLandC (h 7 (16 * l1 + Int.toNat l3)) (h 7 (16 * l1 + Int.toNat (am_w (l3 + 1)))) h) mi_X4_areOfOneLand lm_X4_62 dX4_partLands_27 rfl (by decide) (Nat.le_of_ble_eq_true rfl) rfl (fun v1 h2 => ?_)
    refine am_if_ne (tgt := 36) g dX4_partLands_30 (by decide) ?_ ?_
    · refine am_aload_n g dX4_partLands_36 rfl ?_
      refine am_getr (q := 2) (a := 58) g clX4 dX4_partLands_37 (Nat.le_of_ble_eq_true rfl) rfl (by decide) rfl (Nat.le_of_ble_eq_true rfl) lf_X4_18 ?_
      refine am_iload_n g dX4_partLands_40 rfl ?_
      refine am_iconst g dX4_partLands_41 (am_il rfl) rfl ?_
      refine am_iadd g dX4_partLands_42 ?_
      refine am_zaload (ix := Int.toNat (am_w (l3 + 1))) (nI := 16) g dX4_partLands_43 (Nat.le_of_ble_eq_true rfl) rfl rfl (Nat.zero_add _) ?_
      refine am_if_ne (tgt := 59) g dX4_partLands_44 (by decide) ?_ ?_
      · refine am_aload_n g dX4_partLands_59 rfl ?_
        refine am_getr (q := 2) (a := 58) g clX4 dX4_partLands_60 (Nat.le_of_ble_eq_true rfl) rfl (by decide) rfl (Nat.le_of_ble_eq_true rfl) lf_X4_18 ?_
        refine am_iload_n g dX4_partLands_63 rfl ?_
        refine am_zaload (ix := Int.toNat l3) (nI := 16) g dX4_partLands_64 (Nat.le_of_ble_eq_true rfl) rfl rfl (Nat.zero_add _) ?_
        refine am_if_ne (tgt := 75) g dX4_partLands_65 (by decide) ?_ ?_
        · exact (jX4_partLands_75 g hK2) l1 hl1 l3 h2
        · refine am_aload_n g dX4_partLands_68 rfl ?_
          refine am_aload_n g dX4_partLands_69 rfl ?_
          refine am_aload_n g dX4_partLands_70 rfl ?_
          refine am_iload_n g dX4_partLands_71 rfl ?_
          refine am_Vv (as := [.inr (some (10 + l1)), .inr (some 2), .inl l3]) (S := []) g (cX4_moveAwayC l1 hl1 l3 h2) mi_X4_moveAway lm_X4_66 clX4.1 (Nat.le_of_ble_eq_true rfl) rfl dX4_partLands_72 rfl (by decide) (Nat.le_of_ble_eq_true rfl) rfl (fun _ h3 => ?_)
          exact (jX4_partLands_75 g hK2) l1 hl1 l3 h3
      · refine am_aload_n g dX4_partLands_47 rfl ?_
        refine am_aload_n g dX4_partLands_48 rfl ?_
        refine am_aload_n g dX4_partLands_49 rfl ?_
        refine am_iload_n g dX4_partLands_50 rfl ?_
        refine am_iconst g dX4_partLands_51 (am_il rfl) rfl ?_
        refine am_iadd g dX4_partLands_52 ?_
        refine am_Vv (as := [.inr (some (10 + l1)), .inr (some 2), .inl (am_w (l3 + 1))]) (S := []) g (cX4_moveAwayC l1 hl1 (am_w (l3 + 1)) h2) mi_X4_moveAway lm_X4_66 clX4.1 (Nat.le_of_ble_eq_true rfl) rfl dX4_partLands_53 rfl (by decide) (Nat.le_of_ble_eq_true rfl) rfl (fun _ h4 => ?_)
        refine am_goto (tgt := 75) g dX4_partLands_56 (by decide) ?_
        exact (jX4_partLands_75 g hK2) l1 hl1 l3 h4
    · refine am_goto (tgt := 75) g dX4_partLands_33 (by decide) ?_
      exact (jX4_partLands_75 g hK2) l1 hl1 l3 h2
theorem jX4_partLands_2 {D : va_G} {a : Nat → ClassId} {ad : Nat → Nat} {G : am_G} (g : am_Gd (EX D a ad) RX4 cX4_partLands 4 none 5 G) : ∀ (l1 : Nat), l1 < 4 → ∀ (l3 : Int), ∀ h : am_M, am_J (EX D a ad) G 4 am_ev 2 [some (.inr (some 7)), some (.inr (some (10 + l1))), some (.inr (some 2)), some (.inl l3)] [] h (fX4_partLands_2 l1 l3 h) := by
  unfold fX4_partLands_2
  generalize 400 = n
  induction n with
  | zero => intro l1 hl1 l3 h; exact am_jn
  | succ n ih => exact jX4_partLands_2b g ih
def fX4_partLands (a1 : Nat) (h : am_M) : Option (Unit × am_M) := fX4_partLands_2 a1 0 h
set_option maxRecDepth 10000 in
theorem cX4_partLandsC {D : va_G} {a : Nat → ClassId} {ad : Nat → Nat} (a1 : Nat) (ha1 : a1 < 4) (h : am_M) : am_C (EX D a ad) yX4_partLands cX4_partLands 4 none 5 [.inr (some 7), .inr (some (10 + a1)), .inr (some 2)] h am_ev (fX4_partLands a1 h) := by
  refine am_ofJ (L := [some (.inr (some 7)), some (.inr (some (10 + a1))), some (.inr (some 2)), none]) (by decide) rfl (Nat.le_of_ble_eq_true rfl) (fun G g => ?_)
  have g : am_Gd (EX D a ad) RX4 cX4_partLands 4 none 5 G := g
  unfold fX4_partLands
  refine am_iconst g dX4_partLands_0 (am_il rfl) rfl ?_
  refine am_istore_n g dX4_partLands_1 (by decide) ?_
  exact (jX4_partLands_2 g) a1 ha1 0 h
def fX4_numberBelow (a1 : Int) (h : am_M) : Option (Int × am_M) := am_l (am_up h 33 0 (am_w ((am_w (1103515245 * (h 33 0))) + 12345))) (fun h1 => if a1 < 1 then some (0, h1) else if a1 ≠ 0 then some (Int.tmod (am_ushr (h1 33 0) 16) a1, h1) else none)
set_option maxRecDepth 10000 in
theorem cX4_numberBelowC {D : va_G} {a : Nat → ClassId} {ad : Nat → Nat} (a1 : Int) (h : am_M) : am_C (EX D a ad) yX4_numberBelow cX4_numberBelow 2 (some .int) 1 [.inr (some 7), .inl a1] h am_ei (fX4_numberBelow a1 h) := by
  refine am_ofJ (L := [some (.inr (some 7)), some (.inl a1)]) (by decide) rfl (Nat.le_of_ble_eq_true rfl) (fun G g => ?_)
  have g : am_Gd (EX D a ad) RX4 cX4_numberBelow 2 (some .int) 1 G := g
  unfold fX4_numberBelow
  refine am_aload_n g dX4_numberBelow_0 rfl ?_
  refine am_ldc (n := 1103515245) g dX4_numberBelow_1 (am_il rfl) lc_X4_45 rfl ?_
  refine am_aload_n g dX4_numberBelow_3 rfl ?_
  refine am_geti (q := 3) (kd := 33) (ix := 0) g clX4 dX4_numberBelow_4 (Nat.le_of_ble_eq_true rfl) rfl (by decide) rfl lf_X4_22 ?_
  refine am_imul g dX4_numberBelow_7 ?_
  refine am_sipush g dX4_numberBelow_8 (am_il rfl) (am_si rfl) ?_
  refine am_iadd g dX4_numberBelow_11 ?_
  refine am_puti (q := 3) (kd := 33) (ix := 0) g clX4 dX4_numberBelow_12 (Nat.le_of_ble_eq_true rfl) rfl (by decide) rfl lf_X4_22 rfl rfl ?_
  refine am_gm (fun h1 => ?_)
  refine am_iload_n g dX4_numberBelow_15 rfl ?_
  refine am_iconst g dX4_numberBelow_16 (am_il rfl) rfl ?_
  refine am_icmp_ge (tgt := 24) g dX4_numberBelow_17 (by decide) ?_ ?_
  · refine am_aload_n g dX4_numberBelow_24 rfl ?_
    refine am_geti (q := 3) (kd := 33) (ix := 0) g clX4 dX4_numberBelow_25 (Nat.le_of_ble_eq_true rfl) rfl (by decide) rfl lf_X4_22 ?_
    refine am_bipush g dX4_numberBelow_28 (am_il rfl) (am_bi rfl) ?_
    refine am_iushr g dX4_numberBelow_30 ?_
    refine am_iload_n g dX4_numberBelow_31 rfl ?_
    refine am_iremG g dX4_numberBelow_32 ?_
    exact am_ireturn g dX4_numberBelow_33
  · refine am_iconst g dX4_numberBelow_20 (am_il rfl) rfl ?_
    refine am_goto (tgt := 33) g dX4_numberBelow_21 (by decide) ?_
    exact am_ireturn g dX4_numberBelow_33
def fX4_seatOthers_141 (K99 : Nat → Int → Int → Int → am_M → Option (Unit × am_M)) (l1 : Nat) (l2 : Int) (l3 : Int) (l4 : Int) (h : am_M) : Option (Unit × am_M) := K99 l1 l2 l3 (am_w (l4 + 1)) h
set_option maxRecDepth 10000 in
theorem jX4_seatOthers_141 {D : va_G} {a : Nat → ClassId} {ad : Nat → Nat} {G : am_G} (g : am_Gd (EX D a ad) RX4 cX4_seatOthers 6 none 2 G) {K99 : Nat → Int → Int → Int → am_M → Option (Unit × am_M)} (hK99 : ∀ (l1 : Nat), l1 < 4 → ∀ (l2 : Int), ∀ (l3 : Int), ∀ (l4 : Int), ∀ h : am_M, am_J (EX D a ad) G 6 am_ev 99 [some (.inr (some 7)), some (.inr (some (10 + l1))), some (.inl l2), some (.inl l3), some (.inl l4), none] [] h (K99 l1 l2 l3 l4 h)) : ∀ (l1 : Nat), l1 < 4 → ∀ (l2 : Int), ∀ (l3 : Int), ∀ (l4 : Int), ∀ h : am_M, am_J (EX D a ad) G 6 am_ev 141 [some (.inr (some 7)), some (.inr (some (10 + l1))), some (.inl l2), some (.inl l3), some (.inl l4), none] [] h (fX4_seatOthers_141 K99 l1 l2 l3 l4 h) := by
  intro l1 hl1 l2 l3 l4 h
  unfold fX4_seatOthers_141
  refine am_iinc g dX4_seatOthers_141 (by decide) rfl ?_
  refine am_goto (tgt := 99) g dX4_seatOthers_144 (by decide) ?_
  exact hK99 l1 hl1 l2 l3 (am_w (l4 + 1)) h
def fX4_seatOthers_99b (K99 : Nat → Int → Int → Int → am_M → Option (Unit × am_M)) (l1 : Nat) (l2 : Int) (l3 : Int) (l4 : Int) (h : am_M) : Option (Unit × am_M) := if l4 < (h 1 l1) then (if l3 < l2 then (if 0 ≤ l4 ∧ l4 < 16 then if (h 7 (16 * l1 + Int.toNat l4)) = (-2) then (if 0 ≤ l3 ∧ l3 < 16 then if 0 ≤ l4 ∧ l4 < 16 then am_l (am_up h 7 (16 * l1 + Int.toNat l4) (h 30 (Int.toNat l3))) (fun h3 => (fX4_seatOthers_141 K99) l1 l2 (am_w (l3 + 1)) l4 h3) else none else none) else (fX4_seatOthers_141 K99) l1 l2 l3 l4 h else none) else some ((), h)) else some ((), h)
def fX4_seatOthers_99 : Nat → Int → Int → Int → am_M → Option (Unit × am_M) := am_it (fun _ _ _ _ _ => none) (fX4_seatOthers_99b) 400
set_option maxRecDepth 10000 in
theorem jX4_seatOthers_99b {D : va_G} {a : Nat → ClassId} {ad : Nat → Nat} {G : am_G} (g : am_Gd (EX D a ad) RX4 cX4_seatOthers 6 none 2 G) {K99 : Nat → Int → Int → Int → am_M → Option (Unit × am_M)} (hK99 : ∀ (l1 : Nat), l1 < 4 → ∀ (l2 : Int), ∀ (l3 : Int), ∀ (l4 : Int), ∀ h : am_M, am_J (EX D a ad) G 6 am_ev 99 [some (.inr (some 7)), some (.inr (some (10 + l1))), some (.inl l2), some (.inl l3), some (.inl l4), none] [] h (K99 l1 l2 l3 l4 h)) : ∀ (l1 : Nat), l1 < 4 → ∀ (l2 : Int), ∀ (l3 : Int), ∀ (l4 : Int), ∀ h : am_M, am_J (EX D a ad) G 6 am_ev 99 [some (.inr (some 7)), some (.inr (some (10 + l1))), some (.inl l2), some (.inl l3), some (.inl l4), none] [] h (fX4_seatOthers_99b K99 l1 l2 l3 l4 h) := by
  intro l1 hl1 l2 l3 l4 h
  unfold fX4_seatOthers_99b
  refine am_iload g dX4_seatOthers_99 rfl ?_
  refine am_aload_n g dX4_seatOthers_101 rfl ?_
  refine am_geti (q := 8) (kd := 1) (ix := l1) g clX2 dX4_seatOthers_102 (Nat.lt_of_lt_of_le (Nat.add_lt_add_left hl1 10) (Nat.le_of_ble_eq_true rfl)) (sh_X2 l1 hl1) (by decide) rfl lf_X4_46 ?_
  refine am_icmp_ge (tgt := 147) g dX4_seatOthers_105 (by decide) ?_ ?_
  · exact am_vreturn g dX4_seatOthers_147
  · refine am_iload_n g dX4_seatOthers_108 rfl ?_
    refine am_iload_n g dX4_seatOthers_109 rfl ?_
    refine am_icmp_ge (tgt := 147) g dX4_seatOthers_110 (by decide) ?_ ?_
    · exact am_vreturn g dX4_seatOthers_147
    · refine am_aload_n g dX4_seatOthers_113 rfl ?_
      refine am_getr (q := 1) (a := 18 + l1) g clX2 dX4_seatOthers_114 (Nat.lt_of_lt_of_le (Nat.add_lt_add_left hl1 10) (Nat.le_of_ble_eq_true rfl)) (sh_X2 l1 hl1) (by decide) rfl (Nat.lt_of_lt_of_le (Nat.add_lt_add_left hl1 18) (Nat.le_of_ble_eq_true rfl)) lf_X4_26 ?_
      refine am_iload g dX4_seatOthers_117 rfl ?_
      refine am_iaload (ix := 16 * l1 + Int.toNat l4) (nI := 16) g dX4_seatOthers_119 (Nat.lt_of_lt_of_le (Nat.add_lt_add_left hl1 18) (Nat.le_of_ble_eq_true rfl)) (sh_X2_places l1 hl1) rfl rfl ?_
      refine am_bipush g dX4_seatOthers_120 (am_il rfl) (am_bi rfl) ?_
      refine am_icmp_ne (tgt := 141) g dX4_seatOthers_122 (by decide) ?_ ?_
      · exact (jX4_seatOthers_141 g hK99) l1 hl1 l2 l3 l4 h
      · refine am_aload_n g dX4_seatOthers_125 rfl ?_
        refine am_getr (q := 1) (a := 18 + l1) g clX2 dX4_seatOthers_126 (Nat.lt_of_lt_of_le (Nat.add_lt_add_left hl1 10) (Nat.le_of_ble_eq_true rfl)) (sh_X2 l1 hl1) (by decide) rfl (Nat.lt_of_lt_of_le (Nat.add_lt_add_left hl1 18) (Nat.le_of_ble_eq_true rfl)) lf_X4_26 ?_
        refine am_iload g dX4_seatOthers_129 rfl ?_
        refine am_aload_n g dX4_seatOthers_131 rfl ?_
        refine am_getr (q := 0) (a := 8) g clX4 dX4_seatOthers_132 (Nat.le_of_ble_eq_true rfl) rfl (by decide) rfl (Nat.le_of_ble_eq_true rfl) lf_X4_9 ?_
        refine am_iload_n g dX4_seatOthers_135 rfl ?_
        refine am_iaload (ix := Int.toNat l3) (nI := 16) g dX4_seatOthers_136 (Nat.le_of_ble_eq_true rfl) rfl rfl (Nat.zero_add _) ?_
        refine am_iastore (ix := 16 * l1 + Int.toNat l4) (nI := 16) g dX4_seatOthers_137 (Nat.lt_of_lt_of_le (Nat.add_lt_add_left hl1 18) (Nat.le_of_ble_eq_true rfl)) (sh_X2_places l1 hl1) rfl rfl ?_
        refine am_gm (fun h3 => ?_)
        refine am_iinc g dX4_seatOthers_138 (by decide) rfl ?_
        exact (jX4_seatOthers_141 g hK99) l1 hl1 l2 (am_w (l3 + 1)) l4 h3
theorem jX4_seatOthers_99 {D : va_G} {a : Nat → ClassId} {ad : Nat → Nat} {G : am_G} (g : am_Gd (EX D a ad) RX4 cX4_seatOthers 6 none 2 G) : ∀ (l1 : Nat), l1 < 4 → ∀ (l2 : Int), ∀ (l3 : Int), ∀ (l4 : Int), ∀ h : am_M, am_J (EX D a ad) G 6 am_ev 99 [some (.inr (some 7)), some (.inr (some (10 + l1))), some (.inl l2), some (.inl l3), some (.inl l4), none] [] h (fX4_seatOthers_99 l1 l2 l3 l4 h) := by
  unfold fX4_seatOthers_99
  generalize 400 = n
  induction n with
  | zero => intro l1 hl1 l2 l3 l4 h; exact am_jn
  | succ n ih => exact jX4_seatOthers_99b g ih
def fX4_seatOthers_94 (l1 : Nat) (l2 : Int) (h : am_M) : Option (Unit × am_M) := fX4_seatOthers_99 l1 l2 0 0 h
set_option maxRecDepth 10000 in
theorem jX4_seatOthers_94 {D : va_G} {a : Nat → ClassId} {ad : Nat → Nat} {G : am_G} (g : am_Gd (EX D a ad) RX4 cX4_seatOthers 6 none 2 G) : ∀ (l1 : Nat), l1 < 4 → ∀ (l2 : Int), ∀ h : am_M, am_J (EX D a ad) G 6 am_ev 94 [some (.inr (some 7)), some (.inr (some (10 + l1))), some (.inl l2), none, none, none] [] h (fX4_seatOthers_94 l1 l2 h) := by
  intro l1 hl1 l2 h
  unfold fX4_seatOthers_94
  refine am_iconst g dX4_seatOthers_94 (am_il rfl) rfl ?_
  refine am_istore_n g dX4_seatOthers_95 (by decide) ?_
  refine am_iconst g dX4_seatOthers_96 (am_il rfl) rfl ?_
  refine am_istore g dX4_seatOthers_97 (by decide) ?_
  exact (jX4_seatOthers_99 g) l1 hl1 l2 0 0 h
def fX4_seatOthers_44b (K44 : Nat → Int → Int → am_M → Option (Unit × am_M)) (l1 : Nat) (l2 : Int) (l3 : Int) (h : am_M) : Option (Unit × am_M) := if l3 < 1 then fX4_seatOthers_94 l1 l2 h else am_b (fX4_numberBelow (am_w (l3 + 1)) h) (fun v4 h5 => if 0 ≤ l3 ∧ l3 < 16 then am_l (h5 30 (Int.toNat l3)) (fun x6 => if 0 ≤ v4 ∧ v4 < 16 then if 0 ≤ l3 ∧ l3 < 16 then am_l (am_up h5 30 (Int.toNat l3) (h5 30 (Int.toNat v4))) (fun h7 => if 0 ≤ v4 ∧ v4 < 16 then am_l (am_up h7 30 (Int.toNat v4) x6) (fun h8 => K44 l1 l2 (am_w (l3 + (-1))) h8) else none) else none else none) else none)
def fX4_seatOthers_44 : Nat → Int → Int → am_M → Option (Unit × am_M) := am_it (fun _ _ _ _ => none) (fX4_seatOthers_44b) 400
set_option maxRecDepth 10000 in
theorem jX4_seatOthers_44b {D : va_G} {a : Nat → ClassId} {ad : Nat → Nat} {G : am_G} (g : am_Gd (EX D a ad) RX4 cX4_seatOthers 6 none 2 G) {K44 : Nat → Int → Int → am_M → Option (Unit × am_M)} (hK44 : ∀ (l1 : Nat), l1 < 4 → ∀ (l2 : Int), ∀ (l3 : Int), ∀ h : am_M, am_J (EX D a ad) G 6 am_ev 44 [some (.inr (some 7)), some (.inr (some (10 + l1))), some (.inl l2), some (.inl l3), none, none] [] h (K44 l1 l2 l3 h)) : ∀ (l1 : Nat), l1 < 4 → ∀ (l2 : Int), ∀ (l3 : Int), ∀ h : am_M, am_J (EX D a ad) G 6 am_ev 44 [some (.inr (some 7)), some (.inr (some (10 + l1))), some (.inl l2), some (.inl l3), none, none] [] h (fX4_seatOthers_44b K44 l1 l2 l3 h) := by
  intro l1 hl1 l2 l3 h
  unfold fX4_seatOthers_44b
  refine am_iload_n g dX4_seatOthers_44 rfl ?_
  refine am_iconst g dX4_seatOthers_45 (am_il rfl) rfl ?_
  refine am_icmp_lt (tgt := 94) g dX4_seatOthers_46 (by decide) ?_ ?_
  · refine am_drop 3 ?_
    exact (jX4_seatOthers_94 g) l1 hl1 l2 h
  · refine am_aload_n g dX4_seatOthers_49 rfl ?_
    refine am_iload_n g dX4_seatOthers_50 rfl ?_
    refine am_iconst g dX4_seatOthers_51 (am_il rfl) rfl ?_
    refine am_iadd g dX4_seatOthers_52 ?_
    refine am_Vi (as := [.inl (am_w (l3 + 1))]) (S := []) g (cX4_numberBelowC (am_w (l3 + 1)) h) mi_X4_numberBelow lm_X4_49 clX4.1 (Nat.le_of_ble_eq_true rfl) rfl dX4_seatOthers_53 rfl (by decide) (Nat.le_of_ble_eq_true rfl) rfl (fun v4 h5 => ?_)
    refine am_istore g dX4_seatOthers_56 (by decide) ?_
    refine am_aload_n g dX4_seatOthers_58 rfl ?_
    refine am_getr (q := 0) (a := 8) g clX4 dX4_seatOthers_59 (Nat.le_of_ble_eq_true rfl) rfl (by decide) rfl (Nat.le_of_ble_eq_true rfl) lf_X4_9 ?_
    refine am_iload_n g dX4_seatOthers_62 rfl ?_
    refine am_iaload (ix := Int.toNat l3) (nI := 16) g dX4_seatOthers_63 (Nat.le_of_ble_eq_true rfl) rfl rfl (Nat.zero_add _) ?_
    refine am_gv (fun x6 => ?_)
    refine am_istore g dX4_seatOthers_64 (by decide) ?_
    refine am_aload_n g dX4_seatOthers_66 rfl ?_
    refine am_getr (q := 0) (a := 8) g clX4 dX4_seatOthers_67 (Nat.le_of_ble_eq_true rfl) rfl (by decide) rfl (Nat.le_of_ble_eq_true rfl) lf_X4_9 ?_
    refine am_iload_n g dX4_seatOthers_70 rfl ?_
    refine am_aload_n g dX4_seatOthers_71 rfl ?_
    refine am_getr (q := 0) (a := 8) g clX4 dX4_seatOthers_72 (Nat.le_of_ble_eq_true rfl) rfl (by decide) rfl (Nat.le_of_ble_eq_true rfl) lf_X4_9 ?_
    refine am_iload g dX4_seatOthers_75 rfl ?_
    refine am_iaload (ix := Int.toNat v4) (nI := 16) g dX4_seatOthers_77 (Nat.le_of_ble_eq_true rfl) rfl rfl (Nat.zero_add _) ?_
    refine am_iastore (ix := Int.toNat l3) (nI := 16) g dX4_seatOthers_78 (Nat.le_of_ble_eq_true rfl) rfl rfl (Nat.zero_add _) ?_
    refine am_gm (fun h7 => ?_)
    refine am_aload_n g dX4_seatOthers_79 rfl ?_
    refine am_getr (q := 0) (a := 8) g clX4 dX4_seatOthers_80 (Nat.le_of_ble_eq_true rfl) rfl (by decide) rfl (Nat.le_of_ble_eq_true rfl) lf_X4_9 ?_
    refine am_iload g dX4_seatOthers_83 rfl ?_
    refine am_iload g dX4_seatOthers_85 rfl ?_
    refine am_iastore (ix := Int.toNat v4) (nI := 16) g dX4_seatOthers_87 (Nat.le_of_ble_eq_true rfl) rfl rfl (Nat.zero_add _) ?_
    refine am_gm (fun h8 => ?_)
    refine am_iinc g dX4_seatOthers_88 (by decide) rfl ?_
    refine am_goto (tgt := 44) g dX4_seatOthers_91 (by decide) ?_
    refine am_drop 4 ?_
    refine am_drop 5 ?_
    exact hK44 l1 hl1 l2 (am_w (l3 + (-1))) h8
theorem jX4_seatOthers_44 {D : va_G} {a : Nat → ClassId} {ad : Nat → Nat} {G : am_G} (g : am_Gd (EX D a ad) RX4 cX4_seatOthers 6 none 2 G) : ∀ (l1 : Nat), l1 < 4 → ∀ (l2 : Int), ∀ (l3 : Int), ∀ h : am_M, am_J (EX D a ad) G 6 am_ev 44 [some (.inr (some 7)), some (.inr (some (10 + l1))), some (.inl l2), some (.inl l3), none, none] [] h (fX4_seatOthers_44 l1 l2 l3 h) := by
  unfold fX4_seatOthers_44
  generalize 400 = n
  induction n with
  | zero => intro l1 hl1 l2 l3 h; exact am_jn
  | succ n ih => exact jX4_seatOthers_44b g ih
def fX4_seatOthers_40 (l1 : Nat) (l2 : Int) (h : am_M) : Option (Unit × am_M) := am_l (am_w (l2 - 1)) (fun x2 => fX4_seatOthers_44 l1 l2 x2 h)
set_option maxRecDepth 10000 in
theorem jX4_seatOthers_40 {D : va_G} {a : Nat → ClassId} {ad : Nat → Nat} {G : am_G} (g : am_Gd (EX D a ad) RX4 cX4_seatOthers 6 none 2 G) : ∀ (l1 : Nat), l1 < 4 → ∀ (l2 : Int), ∀ h : am_M, am_J (EX D a ad) G 6 am_ev 40 [some (.inr (some 7)), some (.inr (some (10 + l1))), some (.inl l2), none, none, none] [] h (fX4_seatOthers_40 l1 l2 h) := by
  intro l1 hl1 l2 h
  unfold fX4_seatOthers_40
  refine am_iload_n g dX4_seatOthers_40 rfl ?_
  refine am_iconst g dX4_seatOthers_41 (am_il rfl) rfl ?_
  refine am_isub g dX4_seatOthers_42 ?_
  refine am_gv (fun x2 => ?_)
  refine am_istore_n g dX4_seatOthers_43 (by decide) ?_
  exact (jX4_seatOthers_44 g) l1 hl1 l2 x2 h
def fX4_seatOthers_12b (K12 : Nat → Int → Int → am_M → Option (Unit × am_M)) (l1 : Nat) (l2 : Int) (l3 : Int) (h : am_M) : Option (Unit × am_M) := if l3 < l2 then (if 0 ≤ (am_w ((h 4 l1) + l3)) ∧ (am_w ((h 4 l1) + l3)) < 16 then if 0 ≤ l3 ∧ l3 < 16 then am_l (am_up h 30 (Int.toNat l3) (h 6 (16 * l1 + Int.toNat (am_w ((h 4 l1) + l3))))) (fun h9 => K12 l1 l2 (am_w (l3 + 1)) h9) else none else none) else fX4_seatOthers_40 l1 l2 h
def fX4_seatOthers_12 : Nat → Int → Int → am_M → Option (Unit × am_M) := am_it (fun _ _ _ _ => none) (fX4_seatOthers_12b) 400
set_option maxRecDepth 10000 in
theorem jX4_seatOthers_12b {D : va_G} {a : Nat → ClassId} {ad : Nat → Nat} {G : am_G} (g : am_Gd (EX D a ad) RX4 cX4_seatOthers 6 none 2 G) {K12 : Nat → Int → Int → am_M → Option (Unit × am_M)} (hK12 : ∀ (l1 : Nat), l1 < 4 → ∀ (l2 : Int), ∀ (l3 : Int), ∀ h : am_M, am_J (EX D a ad) G 6 am_ev 12 [some (.inr (some 7)), some (.inr (some (10 + l1))), some (.inl l2), some (.inl l3), none, none] [] h (K12 l1 l2 l3 h)) : ∀ (l1 : Nat), l1 < 4 → ∀ (l2 : Int), ∀ (l3 : Int), ∀ h : am_M, am_J (EX D a ad) G 6 am_ev 12 [some (.inr (some 7)), some (.inr (some (10 + l1))), some (.inl l2), some (.inl l3), none, none] [] h (fX4_seatOthers_12b K12 l1 l2 l3 h) := by
  intro l1 hl1 l2 l3 h
  unfold fX4_seatOthers_12b
  refine am_iload_n g dX4_seatOthers_12 rfl ?_
  refine am_iload_n g dX4_seatOthers_13 rfl ?_
  refine am_icmp_ge (tgt := 40) g dX4_seatOthers_14 (by decide) ?_ ?_
  · refine am_drop 3 ?_
    exact (jX4_seatOthers_40 g) l1 hl1 l2 h
  · refine am_aload_n g dX4_seatOthers_17 rfl ?_
    refine am_getr (q := 0) (a := 8) g clX4 dX4_seatOthers_18 (Nat.le_of_ble_eq_true rfl) rfl (by decide) rfl (Nat.le_of_ble_eq_true rfl) lf_X4_9 ?_
    refine am_iload_n g dX4_seatOthers_21 rfl ?_
    refine am_aload_n g dX4_seatOthers_22 rfl ?_
    refine am_getr (q := 0) (a := 14 + l1) g clX2 dX4_seatOthers_23 (Nat.lt_of_lt_of_le (Nat.add_lt_add_left hl1 10) (Nat.le_of_ble_eq_true rfl)) (sh_X2 l1 hl1) (by decide) rfl (Nat.lt_of_lt_of_le (Nat.add_lt_add_left hl1 14) (Nat.le_of_ble_eq_true rfl)) lf_X4_56 ?_
    refine am_aload_n g dX4_seatOthers_26 rfl ?_
    refine am_geti (q := 11) (kd := 4) (ix := l1) g clX2 dX4_seatOthers_27 (Nat.lt_of_lt_of_le (Nat.add_lt_add_left hl1 10) (Nat.le_of_ble_eq_true rfl)) (sh_X2 l1 hl1) (by decide) rfl lf_X4_53 ?_
    refine am_iload_n g dX4_seatOthers_30 rfl ?_
    refine am_iadd g dX4_seatOthers_31 ?_
    refine am_iaload (ix := 16 * l1 + Int.toNat (am_w ((h 4 l1) + l3))) (nI := 16) g dX4_seatOthers_32 (Nat.lt_of_lt_of_le (Nat.add_lt_add_left hl1 14) (Nat.le_of_ble_eq_true rfl)) (sh_X2_entrants l1 hl1) rfl rfl ?_
    refine am_iastore (ix := Int.toNat l3) (nI := 16) g dX4_seatOthers_33 (Nat.le_of_ble_eq_true rfl) rfl rfl (Nat.zero_add _) ?_
    refine am_gm (fun h9 => ?_)
    refine am_iinc g dX4_seatOthers_34 (by decide) rfl ?_
    refine am_goto (tgt := 12) g dX4_seatOthers_37 (by decide) ?_
    exact hK12 l1 hl1 l2 (am_w (l3 + 1)) h9
theorem jX4_seatOthers_12 {D : va_G} {a : Nat → ClassId} {ad : Nat → Nat} {G : am_G} (g : am_Gd (EX D a ad) RX4 cX4_seatOthers 6 none 2 G) : ∀ (l1 : Nat), l1 < 4 → ∀ (l2 : Int), ∀ (l3 : Int), ∀ h : am_M, am_J (EX D a ad) G 6 am_ev 12 [some (.inr (some 7)), some (.inr (some (10 + l1))), some (.inl l2), some (.inl l3), none, none] [] h (fX4_seatOthers_12 l1 l2 l3 h) := by
  unfold fX4_seatOthers_12
  generalize 400 = n
  induction n with
  | zero => intro l1 hl1 l2 l3 h; exact am_jn
  | succ n ih => exact jX4_seatOthers_12b g ih
def fX4_seatOthers (a1 : Nat) (h : am_M) : Option (Unit × am_M) := am_l (am_w ((h 3 a1) - (h 4 a1))) (fun x1 => fX4_seatOthers_12 a1 x1 0 h)
set_option maxRecDepth 10000 in
theorem cX4_seatOthersC {D : va_G} {a : Nat → ClassId} {ad : Nat → Nat} (a1 : Nat) (ha1 : a1 < 4) (h : am_M) : am_C (EX D a ad) yX4_seatOthers cX4_seatOthers 6 none 2 [.inr (some 7), .inr (some (10 + a1))] h am_ev (fX4_seatOthers a1 h) := by
  refine am_ofJ (L := [some (.inr (some 7)), some (.inr (some (10 + a1))), none, none, none, none]) (by decide) rfl (Nat.le_of_ble_eq_true rfl) (fun G g => ?_)
  have g : am_Gd (EX D a ad) RX4 cX4_seatOthers 6 none 2 G := g
  unfold fX4_seatOthers
  refine am_aload_n g dX4_seatOthers_0 rfl ?_
  refine am_geti (q := 10) (kd := 3) (ix := a1) g clX2 dX4_seatOthers_1 (Nat.lt_of_lt_of_le (Nat.add_lt_add_left ha1 10) (Nat.le_of_ble_eq_true rfl)) (sh_X2 a1 ha1) (by decide) rfl lf_X4_59 ?_
  refine am_aload_n g dX4_seatOthers_4 rfl ?_
  refine am_geti (q := 11) (kd := 4) (ix := a1) g clX2 dX4_seatOthers_5 (Nat.lt_of_lt_of_le (Nat.add_lt_add_left ha1 10) (Nat.le_of_ble_eq_true rfl)) (sh_X2 a1 ha1) (by decide) rfl lf_X4_53 ?_
  refine am_isub g dX4_seatOthers_8 ?_
  refine am_gv (fun x1 => ?_)
  refine am_istore_n g dX4_seatOthers_9 (by decide) ?_
  refine am_iconst g dX4_seatOthers_10 (am_il rfl) rfl ?_
  refine am_istore_n g dX4_seatOthers_11 (by decide) ?_
  exact (jX4_seatOthers_12 g) a1 ha1 x1 0 h
def fX4_seatSeeds_55b (K55 : Nat → Int → am_M → Option (Unit × am_M)) (l1 : Nat) (l4 : Int) (h : am_M) : Option (Unit × am_M) := if l4 < (h 4 l1) then (if l4 < 4 then (if 0 ≤ l4 ∧ l4 < 4 then if 0 ≤ l4 ∧ l4 < 16 then if 0 ≤ (h 31 (Int.toNat l4)) ∧ (h 31 (Int.toNat l4)) < 16 then am_l (am_up h 7 (16 * l1 + Int.toNat (h 31 (Int.toNat l4))) (h 6 (16 * l1 + Int.toNat l4))) (fun h8 => if 0 ≤ l4 ∧ l4 < 4 then if 0 ≤ (h8 31 (Int.toNat l4)) ∧ (h8 31 (Int.toNat l4)) < 16 then am_l (am_up h8 32 (Int.toNat (h8 31 (Int.toNat l4))) 1) (fun h9 => K55 l1 (am_w (l4 + 1)) h9) else none else none) else none else none else none) else some ((), h)) else some ((), h)
def fX4_seatSeeds_55 : Nat → Int → am_M → Option (Unit × am_M) := am_it (fun _ _ _ => none) (fX4_seatSeeds_55b) 400
set_option maxRecDepth 10000 in
theorem jX4_seatSeeds_55b {D : va_G} {a : Nat → ClassId} {ad : Nat → Nat} {G : am_G} (g : am_Gd (EX D a ad) RX4 cX4_seatSeeds 5 none 2 G) {K55 : Nat → Int → am_M → Option (Unit × am_M)} (hK55 : ∀ (l1 : Nat), l1 < 4 → ∀ (l4 : Int), ∀ h : am_M, am_J (EX D a ad) G 5 am_ev 55 [some (.inr (some 7)), some (.inr (some (10 + l1))), none, none, some (.inl l4)] [] h (K55 l1 l4 h)) : ∀ (l1 : Nat), l1 < 4 → ∀ (l4 : Int), ∀ h : am_M, am_J (EX D a ad) G 5 am_ev 55 [some (.inr (some 7)), some (.inr (some (10 + l1))), none, none, some (.inl l4)] [] h (fX4_seatSeeds_55b K55 l1 l4 h) := by
  intro l1 hl1 l4 h
  unfold fX4_seatSeeds_55b
  refine am_iload g dX4_seatSeeds_55 rfl ?_
  refine am_aload_n g dX4_seatSeeds_57 rfl ?_
  refine am_geti (q := 11) (kd := 4) (ix := l1) g clX2 dX4_seatSeeds_58 (Nat.lt_of_lt_of_le (Nat.add_lt_add_left hl1 10) (Nat.le_of_ble_eq_true rfl)) (sh_X2 l1 hl1) (by decide) rfl lf_X4_53 ?_
  refine am_icmp_ge (tgt := 108) g dX4_seatSeeds_61 (by decide) ?_ ?_
  · exact am_vreturn g dX4_seatSeeds_108
  · refine am_iload g dX4_seatSeeds_64 rfl ?_
    refine am_iconst g dX4_seatSeeds_66 (am_il rfl) rfl ?_
    refine am_icmp_ge (tgt := 108) g dX4_seatSeeds_67 (by decide) ?_ ?_
    · exact am_vreturn g dX4_seatSeeds_108
    · refine am_aload_n g dX4_seatSeeds_70 rfl ?_
      refine am_getr (q := 1) (a := 18 + l1) g clX2 dX4_seatSeeds_71 (Nat.lt_of_lt_of_le (Nat.add_lt_add_left hl1 10) (Nat.le_of_ble_eq_true rfl)) (sh_X2 l1 hl1) (by decide) rfl (Nat.lt_of_lt_of_le (Nat.add_lt_add_left hl1 18) (Nat.le_of_ble_eq_true rfl)) lf_X4_26 ?_
      refine am_aload_n g dX4_seatSeeds_74 rfl ?_
      refine am_getr (q := 1) (a := 9) g clX4 dX4_seatSeeds_75 (Nat.le_of_ble_eq_true rfl) rfl (by decide) rfl (Nat.le_of_ble_eq_true rfl) lf_X4_15 ?_
      refine am_iload g dX4_seatSeeds_78 rfl ?_
      refine am_iaload (ix := Int.toNat l4) (nI := 4) g dX4_seatSeeds_80 (Nat.le_of_ble_eq_true rfl) rfl rfl (Nat.zero_add _) ?_
      refine am_aload_n g dX4_seatSeeds_81 rfl ?_
      refine am_getr (q := 0) (a := 14 + l1) g clX2 dX4_seatSeeds_82 (Nat.lt_of_lt_of_le (Nat.add_lt_add_left hl1 10) (Nat.le_of_ble_eq_true rfl)) (sh_X2 l1 hl1) (by decide) rfl (Nat.lt_of_lt_of_le (Nat.add_lt_add_left hl1 14) (Nat.le_of_ble_eq_true rfl)) lf_X4_56 ?_
      refine am_iload g dX4_seatSeeds_85 rfl ?_
      refine am_iaload (ix := 16 * l1 + Int.toNat l4) (nI := 16) g dX4_seatSeeds_87 (Nat.lt_of_lt_of_le (Nat.add_lt_add_left hl1 14) (Nat.le_of_ble_eq_true rfl)) (sh_X2_entrants l1 hl1) rfl rfl ?_
      refine am_iastore (ix := 16 * l1 + Int.toNat (h 31 (Int.toNat l4))) (nI := 16) g dX4_seatSeeds_88 (Nat.lt_of_lt_of_le (Nat.add_lt_add_left hl1 18) (Nat.le_of_ble_eq_true rfl)) (sh_X2_places l1 hl1) rfl rfl ?_
      refine am_gm (fun h8 => ?_)
      refine am_aload_n g dX4_seatSeeds_89 rfl ?_
      refine am_getr (q := 2) (a := 58) g clX4 dX4_seatSeeds_90 (Nat.le_of_ble_eq_true rfl) rfl (by decide) rfl (Nat.le_of_ble_eq_true rfl) lf_X4_18 ?_
      refine am_aload_n g dX4_seatSeeds_93 rfl ?_
      refine am_getr (q := 1) (a := 9) g clX4 dX4_seatSeeds_94 (Nat.le_of_ble_eq_true rfl) rfl (by decide) rfl (Nat.le_of_ble_eq_true rfl) lf_X4_15 ?_
      refine am_iload g dX4_seatSeeds_97 rfl ?_
      refine am_iaload (ix := Int.toNat l4) (nI := 4) g dX4_seatSeeds_99 (Nat.le_of_ble_eq_true rfl) rfl rfl (Nat.zero_add _) ?_
      refine am_iconst g dX4_seatSeeds_100 (am_il rfl) rfl ?_
      refine am_zastoreB (ix := Int.toNat (h8 31 (Int.toNat l4))) (nI := 16) g dX4_seatSeeds_101 (Nat.le_of_ble_eq_true rfl) rfl rfl (Nat.zero_add _) (by decide) ?_
      refine am_gm (fun h9 => ?_)
      refine am_iinc g dX4_seatSeeds_102 (by decide) rfl ?_
      refine am_goto (tgt := 55) g dX4_seatSeeds_105 (by decide) ?_
      exact hK55 l1 hl1 (am_w (l4 + 1)) h9
theorem jX4_seatSeeds_55 {D : va_G} {a : Nat → ClassId} {ad : Nat → Nat} {G : am_G} (g : am_Gd (EX D a ad) RX4 cX4_seatSeeds 5 none 2 G) : ∀ (l1 : Nat), l1 < 4 → ∀ (l4 : Int), ∀ h : am_M, am_J (EX D a ad) G 5 am_ev 55 [some (.inr (some 7)), some (.inr (some (10 + l1))), none, none, some (.inl l4)] [] h (fX4_seatSeeds_55 l1 l4 h) := by
  unfold fX4_seatSeeds_55
  generalize 400 = n
  induction n with
  | zero => intro l1 hl1 l4 h; exact am_jn
  | succ n ih => exact jX4_seatSeeds_55b g ih
def fX4_seatSeeds (a1 : Nat) (h : am_M) : Option (Unit × am_M) := am_l (am_w (Int.tdiv (h 1 a1) 2)) (fun x1 => am_b (fX4_numberBelow 2 h) (fun v2 h3 => am_l (am_up h3 31 0 0) (fun h4 => am_l (am_up h4 31 1 (am_w ((h4 1 a1) - 1))) (fun h5 => am_l (am_up h5 31 2 (am_w (x1 - v2))) (fun h6 => am_l (am_up h6 31 3 (am_w ((am_w (x1 - 1)) + v2))) (fun h7 => fX4_seatSeeds_55 a1 0 h7))))))
set_option maxRecDepth 10000 in
theorem cX4_seatSeedsC {D : va_G} {a : Nat → ClassId} {ad : Nat → Nat} (a1 : Nat) (ha1 : a1 < 4) (h : am_M) : am_C (EX D a ad) yX4_seatSeeds cX4_seatSeeds 5 none 2 [.inr (some 7), .inr (some (10 + a1))] h am_ev (fX4_seatSeeds a1 h) := by
  refine am_ofJ (L := [some (.inr (some 7)), some (.inr (some (10 + a1))), none, none, none]) (by decide) rfl (Nat.le_of_ble_eq_true rfl) (fun G g => ?_)
  have g : am_Gd (EX D a ad) RX4 cX4_seatSeeds 5 none 2 G := g
  unfold fX4_seatSeeds
  refine am_aload_n g dX4_seatSeeds_0 rfl ?_
  refine am_geti (q := 8) (kd := 1) (ix := a1) g clX2 dX4_seatSeeds_1 (Nat.lt_of_lt_of_le (Nat.add_lt_add_left ha1 10) (Nat.le_of_ble_eq_true rfl)) (sh_X2 a1 ha1) (by decide) rfl lf_X4_46 ?_
  refine am_iconst g dX4_seatSeeds_4 (am_il rfl) rfl ?_
  refine am_idiv g dX4_seatSeeds_5 (by decide) ?_
  refine am_gv (fun x1 => ?_)
  refine am_istore_n g dX4_seatSeeds_6 (by decide) ?_
  refine am_aload_n g dX4_seatSeeds_7 rfl ?_
  refine am_iconst g dX4_seatSeeds_8 (am_il rfl) rfl ?_
  refine am_Vi (as := [.inl 2]) (S := []) g (cX4_numberBelowC 2 h) mi_X4_numberBelow lm_X4_49 clX4.1 (Nat.le_of_ble_eq_true rfl) rfl dX4_seatSeeds_9 rfl (by decide) (Nat.le_of_ble_eq_true rfl) rfl (fun v2 h3 => ?_)
  refine am_istore_n g dX4_seatSeeds_12 (by decide) ?_
  refine am_aload_n g dX4_seatSeeds_13 rfl ?_
  refine am_getr (q := 1) (a := 9) g clX4 dX4_seatSeeds_14 (Nat.le_of_ble_eq_true rfl) rfl (by decide) rfl (Nat.le_of_ble_eq_true rfl) lf_X4_15 ?_
  refine am_iconst g dX4_seatSeeds_17 (am_il rfl) rfl ?_
  refine am_iconst g dX4_seatSeeds_18 (am_il rfl) rfl ?_
  refine am_iastoreC (ix := 0) (nI := 4) g dX4_seatSeeds_19 (Nat.le_of_ble_eq_true rfl) rfl rfl rfl rfl ?_
  refine am_gm (fun h4 => ?_)
  refine am_aload_n g dX4_seatSeeds_20 rfl ?_
  refine am_getr (q := 1) (a := 9) g clX4 dX4_seatSeeds_21 (Nat.le_of_ble_eq_true rfl) rfl (by decide) rfl (Nat.le_of_ble_eq_true rfl) lf_X4_15 ?_
  refine am_iconst g dX4_seatSeeds_24 (am_il rfl) rfl ?_
  refine am_aload_n g dX4_seatSeeds_25 rfl ?_
  refine am_geti (q := 8) (kd := 1) (ix := a1) g clX2 dX4_seatSeeds_26 (Nat.lt_of_lt_of_le (Nat.add_lt_add_left ha1 10) (Nat.le_of_ble_eq_true rfl)) (sh_X2 a1 ha1) (by decide) rfl lf_X4_46 ?_
  refine am_iconst g dX4_seatSeeds_29 (am_il rfl) rfl ?_
  refine am_isub g dX4_seatSeeds_30 ?_
  refine am_iastoreC (ix := 1) (nI := 4) g dX4_seatSeeds_31 (Nat.le_of_ble_eq_true rfl) rfl rfl rfl rfl ?_
  refine am_gm (fun h5 => ?_)
  refine am_aload_n g dX4_seatSeeds_32 rfl ?_
  refine am_getr (q := 1) (a := 9) g clX4 dX4_seatSeeds_33 (Nat.le_of_ble_eq_true rfl) rfl (by decide) rfl (Nat.le_of_ble_eq_true rfl) lf_X4_15 ?_
  refine am_iconst g dX4_seatSeeds_36 (am_il rfl) rfl ?_
  refine am_iload_n g dX4_seatSeeds_37 rfl ?_
  refine am_iload_n g dX4_seatSeeds_38 rfl ?_
  refine am_isub g dX4_seatSeeds_39 ?_
  refine am_iastoreC (ix := 2) (nI := 4) g dX4_seatSeeds_40 (Nat.le_of_ble_eq_true rfl) rfl rfl rfl rfl ?_
  refine am_gm (fun h6 => ?_)
  refine am_aload_n g dX4_seatSeeds_41 rfl ?_
  refine am_getr (q := 1) (a := 9) g clX4 dX4_seatSeeds_42 (Nat.le_of_ble_eq_true rfl) rfl (by decide) rfl (Nat.le_of_ble_eq_true rfl) lf_X4_15 ?_
  refine am_iconst g dX4_seatSeeds_45 (am_il rfl) rfl ?_
  refine am_iload_n g dX4_seatSeeds_46 rfl ?_
  refine am_iconst g dX4_seatSeeds_47 (am_il rfl) rfl ?_
  refine am_isub g dX4_seatSeeds_48 ?_
  refine am_iload_n g dX4_seatSeeds_49 rfl ?_
  refine am_iadd g dX4_seatSeeds_50 ?_
  refine am_iastoreC (ix := 3) (nI := 4) g dX4_seatSeeds_51 (Nat.le_of_ble_eq_true rfl) rfl rfl rfl rfl ?_
  refine am_gm (fun h7 => ?_)
  refine am_iconst g dX4_seatSeeds_52 (am_il rfl) rfl ?_
  refine am_istore g dX4_seatSeeds_53 (by decide) ?_
  refine am_drop 2 ?_
  refine am_drop 3 ?_
  exact (jX4_seatSeeds_55 g) a1 ha1 0 h7
def fX4_arrange_38 (l1 : Nat) (h : am_M) : Option (Unit × am_M) := am_b (fX4_seatSeeds l1 h) (fun _ h2 => am_b (fX4_giveByes l1 h2) (fun _ h3 => am_b (fX4_seatOthers l1 h3) (fun _ h4 => am_b (fX4_partLands l1 h4) (fun _ h5 => some ((), h5)))))
set_option maxRecDepth 10000 in
theorem jX4_arrange_38 {D : va_G} {a : Nat → ClassId} {ad : Nat → Nat} {G : am_G} (g : am_Gd (EX D a ad) RX4 cX4_arrange 5 none 6 G) : ∀ (l1 : Nat), l1 < 4 → ∀ h : am_M, am_J (EX D a ad) G 5 am_ev 38 [some (.inr (some 7)), some (.inr (some (10 + l1))), some (.inr (some 2)), none, none] [] h (fX4_arrange_38 l1 h) := by
  intro l1 hl1 h
  unfold fX4_arrange_38
  refine am_aload_n g dX4_arrange_38 rfl ?_
  refine am_aload_n g dX4_arrange_39 rfl ?_
  refine am_Vv (as := [.inr (some (10 + l1))]) (S := []) g (cX4_seatSeedsC l1 hl1 h) mi_X4_seatSeeds lm_X4_31 clX4.1 (Nat.le_of_ble_eq_true rfl) rfl dX4_arrange_40 rfl (by decide) (Nat.le_of_ble_eq_true rfl) rfl (fun _ h2 => ?_)
  refine am_aload_n g dX4_arrange_43 rfl ?_
  refine am_aload_n g dX4_arrange_44 rfl ?_
  refine am_Vv (as := [.inr (some (10 + l1))]) (S := []) g (cX4_giveByesC l1 hl1 h2) mi_X4_giveByes lm_X4_35 clX4.1 (Nat.le_of_ble_eq_true rfl) rfl dX4_arrange_45 rfl (by decide) (Nat.le_of_ble_eq_true rfl) rfl (fun _ h3 => ?_)
  refine am_aload_n g dX4_arrange_48 rfl ?_
  refine am_aload_n g dX4_arrange_49 rfl ?_
  refine am_Vv (as := [.inr (some (10 + l1))]) (S := []) g (cX4_seatOthersC l1 hl1 h3) mi_X4_seatOthers lm_X4_38 clX4.1 (Nat.le_of_ble_eq_true rfl) rfl dX4_arrange_50 rfl (by decide) (Nat.le_of_ble_eq_true rfl) rfl (fun _ h4 => ?_)
  refine am_aload_n g dX4_arrange_53 rfl ?_
  refine am_aload_n g dX4_arrange_54 rfl ?_
  refine am_aload_n g dX4_arrange_55 rfl ?_
  refine am_Vv (as := [.inr (some (10 + l1)), .inr (some 2)]) (S := []) g (cX4_partLandsC l1 hl1 h4) mi_X4_partLands lm_X4_41 clX4.1 (Nat.le_of_ble_eq_true rfl) rfl dX4_arrange_56 rfl (by decide) (Nat.le_of_ble_eq_true rfl) rfl (fun _ h5 => ?_)
  exact am_vreturn g dX4_arrange_59
def fX4_arrange_8b (K8 : Nat → Int → am_M → Option (Unit × am_M)) (l1 : Nat) (l4 : Int) (h : am_M) : Option (Unit × am_M) := if l4 < 16 then (if 0 ≤ l4 ∧ l4 < 16 then am_l (am_up h 7 (16 * l1 + Int.toNat l4) (-2)) (fun h6 => if 0 ≤ l4 ∧ l4 < 16 then am_l (am_up h6 32 (Int.toNat l4) 0) (fun h7 => K8 l1 (am_w (l4 + 1)) h7) else none) else none) else fX4_arrange_38 l1 h
def fX4_arrange_8 : Nat → Int → am_M → Option (Unit × am_M) := am_it (fun _ _ _ => none) (fX4_arrange_8b) 400
set_option maxRecDepth 10000 in
theorem jX4_arrange_8b {D : va_G} {a : Nat → ClassId} {ad : Nat → Nat} {G : am_G} (g : am_Gd (EX D a ad) RX4 cX4_arrange 5 none 6 G) {K8 : Nat → Int → am_M → Option (Unit × am_M)} (hK8 : ∀ (l1 : Nat), l1 < 4 → ∀ (l4 : Int), ∀ h : am_M, am_J (EX D a ad) G 5 am_ev 8 [some (.inr (some 7)), some (.inr (some (10 + l1))), some (.inr (some 2)), none, some (.inl l4)] [] h (K8 l1 l4 h)) : ∀ (l1 : Nat), l1 < 4 → ∀ (l4 : Int), ∀ h : am_M, am_J (EX D a ad) G 5 am_ev 8 [some (.inr (some 7)), some (.inr (some (10 + l1))), some (.inr (some 2)), none, some (.inl l4)] [] h (fX4_arrange_8b K8 l1 l4 h) := by
  intro l1 hl1 l4 h
  unfold fX4_arrange_8b
  refine am_iload g dX4_arrange_8 rfl ?_
  refine am_bipush g dX4_arrange_10 (am_il rfl) (am_bi rfl) ?_
  refine am_icmp_ge (tgt := 38) g dX4_arrange_12 (by decide) ?_ ?_
  · refine am_drop 4 ?_
    exact (jX4_arrange_38 g) l1 hl1 h
  · refine am_aload_n g dX4_arrange_15 rfl ?_
    refine am_getr (q := 1) (a := 18 + l1) g clX2 dX4_arrange_16 (Nat.lt_of_lt_of_le (Nat.add_lt_add_left hl1 10) (Nat.le_of_ble_eq_true rfl)) (sh_X2 l1 hl1) (by decide) rfl (Nat.lt_of_lt_of_le (Nat.add_lt_add_left hl1 18) (Nat.le_of_ble_eq_true rfl)) lf_X4_26 ?_
    refine am_iload g dX4_arrange_19 rfl ?_
    refine am_bipush g dX4_arrange_21 (am_il rfl) (am_bi rfl) ?_
    refine am_iastore (ix := 16 * l1 + Int.toNat l4) (nI := 16) g dX4_arrange_23 (Nat.lt_of_lt_of_le (Nat.add_lt_add_left hl1 18) (Nat.le_of_ble_eq_true rfl)) (sh_X2_places l1 hl1) rfl rfl ?_
    refine am_gm (fun h6 => ?_)
    refine am_aload_n g dX4_arrange_24 rfl ?_
    refine am_getr (q := 2) (a := 58) g clX4 dX4_arrange_25 (Nat.le_of_ble_eq_true rfl) rfl (by decide) rfl (Nat.le_of_ble_eq_true rfl) lf_X4_18 ?_
    refine am_iload g dX4_arrange_28 rfl ?_
    refine am_iconst g dX4_arrange_30 (am_il rfl) rfl ?_
    refine am_zastoreB (ix := Int.toNat l4) (nI := 16) g dX4_arrange_31 (Nat.le_of_ble_eq_true rfl) rfl rfl (Nat.zero_add _) (by decide) ?_
    refine am_gm (fun h7 => ?_)
    refine am_iinc g dX4_arrange_32 (by decide) rfl ?_
    refine am_goto (tgt := 8) g dX4_arrange_35 (by decide) ?_
    exact hK8 l1 hl1 (am_w (l4 + 1)) h7
theorem jX4_arrange_8 {D : va_G} {a : Nat → ClassId} {ad : Nat → Nat} {G : am_G} (g : am_Gd (EX D a ad) RX4 cX4_arrange 5 none 6 G) : ∀ (l1 : Nat), l1 < 4 → ∀ (l4 : Int), ∀ h : am_M, am_J (EX D a ad) G 5 am_ev 8 [some (.inr (some 7)), some (.inr (some (10 + l1))), some (.inr (some 2)), none, some (.inl l4)] [] h (fX4_arrange_8 l1 l4 h) := by
  unfold fX4_arrange_8
  generalize 400 = n
  induction n with
  | zero => intro l1 hl1 l4 h; exact am_jn
  | succ n ih => exact jX4_arrange_8b g ih
def fX4_arrange (a1 : Nat) (a3 : Int) (h : am_M) : Option (Unit × am_M) := am_l (am_up h 33 0 a3) (fun h1 => fX4_arrange_8 a1 0 h1)
set_option maxRecDepth 10000 in
theorem cX4_arrangeC {D : va_G} {a : Nat → ClassId} {ad : Nat → Nat} (a1 : Nat) (ha1 : a1 < 4) (a3 : Int) (h : am_M) : am_C (EX D a ad) yX4_arrange cX4_arrange 5 none 6 [.inr (some 7), .inr (some (10 + a1)), .inr (some 2), .inl a3] h am_ev (fX4_arrange a1 a3 h) := by
  refine am_ofJ (L := [some (.inr (some 7)), some (.inr (some (10 + a1))), some (.inr (some 2)), some (.inl a3), none]) (by decide) rfl (Nat.le_of_ble_eq_true rfl) (fun G g => ?_)
  have g : am_Gd (EX D a ad) RX4 cX4_arrange 5 none 6 G := g
  unfold fX4_arrange
  refine am_aload_n g dX4_arrange_0 rfl ?_
  refine am_iload_n g dX4_arrange_1 rfl ?_
  refine am_puti (q := 3) (kd := 33) (ix := 0) g clX4 dX4_arrange_2 (Nat.le_of_ble_eq_true rfl) rfl (by decide) rfl lf_X4_22 rfl rfl ?_
  refine am_gm (fun h1 => ?_)
  refine am_iconst g dX4_arrange_5 (am_il rfl) rfl ?_
  refine am_istore g dX4_arrange_6 (by decide) ?_
  refine am_drop 3 ?_
  exact (jX4_arrange_8 g) a1 ha1 0 h1
def fX5_standsAhead_2b (K2 : Int → Int → Int → am_M → Option (Int × am_M)) (l1 : Int) (l2 : Int) (l3 : Int) (h : am_M) : Option (Int × am_M) := if l3 < l2 then (if 0 ≤ l3 ∧ l3 < 36 then if (h 44 (Int.toNat l3)) = l1 then some (1, h) else K2 l1 l2 (am_w (l3 + 1)) h else none) else some (0, h)
def fX5_standsAhead_2 : Int → Int → Int → am_M → Option (Int × am_M) := am_it (fun _ _ _ _ => none) (fX5_standsAhead_2b) 400
set_option maxRecDepth 10000 in
theorem jX5_standsAhead_2b {D : va_G} {a : Nat → ClassId} {ad : Nat → Nat} {G : am_G} (g : am_Gd (EX D a ad) RX5 cX5_standsAhead 4 (some .boolean) 1 G) {K2 : Int → Int → Int → am_M → Option (Int × am_M)} (hK2 : ∀ (l1 : Int), ∀ (l2 : Int), ∀ (l3 : Int), ∀ h : am_M, am_J (EX D a ad) G 4 am_ei 2 [some (.inr (some 70)), some (.inl l1), some (.inl l2), some (.inl l3)] [] h (K2 l1 l2 l3 h)) : ∀ (l1 : Int), ∀ (l2 : Int), ∀ (l3 : Int), ∀ h : am_M, am_J (EX D a ad) G 4 am_ei 2 [some (.inr (some 70)), some (.inl l1), some (.inl l2), some (.inl l3)] [] h (fX5_standsAhead_2b K2 l1 l2 l3 h) := by
  intro l1 l2 l3 h
  unfold fX5_standsAhead_2b
  refine am_iload_n g dX5_standsAhead_2 rfl ?_
  refine am_iload_n g dX5_standsAhead_3 rfl ?_
  refine am_icmp_ge (tgt := 25) g dX5_standsAhead_4 (by decide) ?_ ?_
  · refine am_iconst g dX5_standsAhead_25 (am_il rfl) rfl ?_
    exact am_zreturn g dX5_standsAhead_26 (by decide)
  · refine am_aload_n g dX5_standsAhead_7 rfl ?_
    refine am_getr (q := 2) (a := 73) g clX5 dX5_standsAhead_8 (Nat.le_of_ble_eq_true rfl) rfl (by decide) rfl (Nat.le_of_ble_eq_true rfl) lf_X5_18 ?_
    refine am_iload_n g dX5_standsAhead_11 rfl ?_
    refine am_iaload (ix := Int.toNat l3) (nI := 36) g dX5_standsAhead_12 (Nat.le_of_ble_eq_true rfl) rfl rfl (Nat.zero_add _) ?_
    refine am_iload_n g dX5_standsAhead_13 rfl ?_
    refine am_icmp_ne (tgt := 19) g dX5_standsAhead_14 (by decide) ?_ ?_
    · refine am_iinc g dX5_standsAhead_19 (by decide) rfl ?_
      refine am_goto (tgt := 2) g dX5_standsAhead_22 (by decide) ?_
      exact hK2 l1 l2 (am_w (l3 + 1)) h
    · refine am_iconst g dX5_standsAhead_17 (am_il rfl) rfl ?_
      exact am_zreturn g dX5_standsAhead_18 (by decide)
theorem jX5_standsAhead_2 {D : va_G} {a : Nat → ClassId} {ad : Nat → Nat} {G : am_G} (g : am_Gd (EX D a ad) RX5 cX5_standsAhead 4 (some .boolean) 1 G) : ∀ (l1 : Int), ∀ (l2 : Int), ∀ (l3 : Int), ∀ h : am_M, am_J (EX D a ad) G 4 am_ei 2 [some (.inr (some 70)), some (.inl l1), some (.inl l2), some (.inl l3)] [] h (fX5_standsAhead_2 l1 l2 l3 h) := by
  unfold fX5_standsAhead_2
  generalize 400 = n
  induction n with
  | zero => intro l1 l2 l3 h; exact am_jn
  | succ n ih => exact jX5_standsAhead_2b g ih
def fX5_standsAhead (a1 : Int) (a2 : Int) (h : am_M) : Option (Int × am_M) := fX5_standsAhead_2 a1 a2 0 h
set_option maxRecDepth 10000 in
theorem cX5_standsAheadC {D : va_G} {a : Nat → ClassId} {ad : Nat → Nat} (a1 : Int) (a2 : Int) (h : am_M) : am_C (EX D a ad) yX5_standsAhead cX5_standsAhead 4 (some .boolean) 1 [.inr (some 70), .inl a1, .inl a2] h am_ei (fX5_standsAhead a1 a2 h) := by
  refine am_ofJ (L := [some (.inr (some 70)), some (.inl a1), some (.inl a2), none]) (by decide) rfl (Nat.le_of_ble_eq_true rfl) (fun G g => ?_)
  have g : am_Gd (EX D a ad) RX5 cX5_standsAhead 4 (some .boolean) 1 G := g
  unfold fX5_standsAhead
  refine am_iconst g dX5_standsAhead_0 (am_il rfl) rfl ?_
  refine am_istore_n g dX5_standsAhead_1 (by decide) ?_
  exact (jX5_standsAhead_2 g) a1 a2 0 h
