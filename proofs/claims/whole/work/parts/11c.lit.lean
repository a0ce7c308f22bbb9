def fX9_winnerOf (SO : Int → Int → am_M → Option (Int × am_M)) (a1 : Int) (h : am_M) : Option (Int × am_M) := if 0 ≤ (am_w (Int.tdiv a1 16)) ∧ (am_w (Int.tdiv a1 16)) < 4 then if (h 5 (Int.toNat (am_w (Int.tdiv a1 16)))) = 0 then some ((-1), h) else am_b (fX9_isOfBye SO a1 h) (fun v1 h2 => if v1 = 0 then (if 0 ≤ a1 ∧ a1 < 64 then if (h2 24 (Int.toNat a1)) = 0 then (if 0 ≤ a1 ∧ a1 < 64 then am_b (fX9_replay a1 (h2 9 (Int.toNat a1)) h2) (fun _ h3 => if 0 ≤ (am_w (Int.tdiv a1 16)) ∧ (am_w (Int.tdiv a1 16)) < 4 then if (h3 36 0) = (h3 2 (Int.toNat (am_w (Int.tdiv a1 16)))) then some (0, h3) else if 0 ≤ (am_w (Int.tdiv a1 16)) ∧ (am_w (Int.tdiv a1 16)) < 4 then if (h3 36 1) = (h3 2 (Int.toNat (am_w (Int.tdiv a1 16)))) then some (1, h3) else some ((-1), h3) else none else none) else none) else if 0 ≤ a1 ∧ a1 < 64 then some (h2 25 (Int.toNat a1), h2) else none else none) else am_b (SO a1 0 h2) (fun v4 h5 => if v4 = (-1) then some (1, h5) else some (0, h5))) else none
set_option maxRecDepth 10000 in
theorem oX9_winnerOf {D : va_G} {a : Nat → ClassId} {ad : Nat → Nat} {k kS : Nat} {SO : Int → Int → am_M → Option (Int × am_M)} (hSO : ∀ (a1 a2 : Int) (h : am_M), am_C (EM D a ad) yX9_sideOf cX9_sideOf 6 (some .int) kS [.inr (some 0), .inl a1, .inl a2] h am_ei (SO a1 a2 h)) (hk : kS + 2 ≤ k) (h4 : 4 ≤ kS) (a1 : Int) (h : am_M) : am_C (EM D a ad) yX9_winnerOf cX9_winnerOf 2 (some .int) k [.inr (some 0), .inl a1] h am_ei (fX9_winnerOf SO a1 h) := by
  refine am_ofJ (L := [some (.inr (some 0)), some (.inl a1)]) (by decide) rfl (Nat.le_of_ble_eq_true rfl) (fun G g => ?_)
  have g : am_Gd (EM D a ad) RX9 cX9_winnerOf 2 (some .int) k G := g
  unfold fX9_winnerOf
  refine am_aload_n g dX9_winnerOf_0 rfl ?_
  refine am_getr (q := 6) (a := 7) g clX9 dX9_winnerOf_1 (Nat.le_of_ble_eq_true rfl) rfl (by decide) rfl (Nat.le_of_ble_eq_true rfl) lf_X9_28 ?_
  refine am_iload_n g dX9_winnerOf_4 rfl ?_
  refine am_bipush g dX9_winnerOf_5 (am_il rfl) (am_bi rfl) ?_
  refine am_idiv g dX9_winnerOf_7 (by decide) ?_
  refine am_zaload (ix := Int.toNat (am_w (Int.tdiv a1 16))) (nI := 4) g dX9_winnerOf_8 (Nat.le_of_ble_eq_true rfl) rfl rfl (Nat.zero_add _) ?_
  refine am_if_ne (tgt := 14) g dX9_winnerOf_9 (by decide) ?_ ?_
  · refine am_aload_n g dX9_winnerOf_14 rfl ?_
    refine am_iload_n g dX9_winnerOf_15 rfl ?_
    refine am_Vi (as := [.inl a1]) (S := []) g (oX9_isOfBye hSO (Nat.le_refl _) h4 a1 h) mi_X9_isOfBye lm_X9_176 clX9.1 (Nat.le_of_ble_eq_true rfl) rfl dX9_winnerOf_16 rfl (by omega) (Nat.le_of_ble_eq_true rfl) rfl (fun v1 h2 => ?_)
    refine am_if_eq (tgt := 38) g dX9_winnerOf_19 (by decide) ?_ ?_
    · refine am_aload_n g dX9_winnerOf_38 rfl ?_
      refine am_getr (q := 11) (a := 12) g clX9 dX9_winnerOf_39 (Nat.le_of_ble_eq_true rfl) rfl (by decide) rfl (Nat.le_of_ble_eq_true rfl) lf_X9_45 ?_
      refine am_iload_n g dX9_winnerOf_42 rfl ?_
      refine am_iaload (ix := Int.toNat a1) (nI := 64) g dX9_winnerOf_43 (Nat.le_of_ble_eq_true rfl) rfl rfl (Nat.zero_add _) ?_
      refine am_if_eq (tgt := 54) g dX9_winnerOf_44 (by decide) ?_ ?_
      · refine am_aload_n g dX9_winnerOf_54 rfl ?_
        refine am_iload_n g dX9_winnerOf_55 rfl ?_
        refine am_aload_n g dX9_winnerOf_56 rfl ?_
        refine am_getr (q := 9) (a := 10) g clX9 dX9_winnerOf_57 (Nat.le_of_ble_eq_true rfl) rfl (by decide) rfl (Nat.le_of_ble_eq_true rfl) lf_X9_38 ?_
        refine am_iload_n g dX9_winnerOf_60 rfl ?_
        refine am_iaload (ix := Int.toNat a1) (nI := 64) g dX9_winnerOf_61 (Nat.le_of_ble_eq_true rfl) rfl rfl (Nat.zero_add _) ?_
        refine am_Vv (as := [.inl a1, .inl (h2 9 (Int.toNat a1))]) (S := []) g (cX9_replayC a1 (h2 9 (Int.toNat a1)) h2) mi_X9_replay lm_X9_188 clX9.1 (Nat.le_of_ble_eq_true rfl) rfl dX9_winnerOf_62 rfl (by omega) (Nat.le_of_ble_eq_true rfl) rfl (fun _ h3 => ?_)
        refine am_aload_n g dX9_winnerOf_65 rfl ?_
        refine am_getr (q := 27) (a := 26) g clX9 dX9_winnerOf_66 (Nat.le_of_ble_eq_true rfl) rfl (by decide) rfl (Nat.le_of_ble_eq_true rfl) lf_X9_87 ?_
        refine am_iconst g dX9_winnerOf_69 (am_il rfl) rfl ?_
        refine am_ialoadC (ix := 0) (nI := 2) g dX9_winnerOf_70 (Nat.le_of_ble_eq_true rfl) rfl rfl rfl rfl ?_
        refine am_aload_n g dX9_winnerOf_71 rfl ?_
        refine am_getr (q := 2) (a := 3) g clX9 dX9_winnerOf_72 (Nat.le_of_ble_eq_true rfl) rfl (by decide) rfl (Nat.le_of_ble_eq_true rfl) lf_X9_16 ?_
        refine am_iload_n g dX9_winnerOf_75 rfl ?_
        refine am_bipush g dX9_winnerOf_76 (am_il rfl) (am_bi rfl) ?_
        refine am_idiv g dX9_winnerOf_78 (by decide) ?_
        refine am_iaload (ix := Int.toNat (am_w (Int.tdiv a1 16))) (nI := 4) g dX9_winnerOf_79 (Nat.le_of_ble_eq_true rfl) rfl rfl (Nat.zero_add _) ?_
        refine am_icmp_ne (tgt := 87) g dX9_winnerOf_80 (by decide) ?_ ?_
        · refine am_aload_n g dX9_winnerOf_87 rfl ?_
          refine am_getr (q := 27) (a := 26) g clX9 dX9_winnerOf_88 (Nat.le_of_ble_eq_true rfl) rfl (by decide) rfl (Nat.le_of_ble_eq_true rfl) lf_X9_87 ?_
          refine am_iconst g dX9_winnerOf_91 (am_il rfl) rfl ?_
          refine am_ialoadC (ix := 1) (nI := 2) g dX9_winnerOf_92 (Nat.le_of_ble_eq_true rfl) rfl rfl rfl rfl ?_
          refine am_aload_n g dX9_winnerOf_93 rfl ?_
          refine am_getr (q := 2) (a := 3) g clX9 dX9_winnerOf_94 (Nat.le_of_ble_eq_true rfl) rfl (by decide) rfl (Nat.le_of_ble_eq_true rfl) lf_X9_16 ?_
          refine am_iload_n g dX9_winnerOf_97 rfl ?_
          refine am_bipush g dX9_winnerOf_98 (am_il rfl) (am_bi rfl) ?_
          refine am_idiv g dX9_winnerOf_100 (by decide) ?_
          refine am_iaload (ix := Int.toNat (am_w (Int.tdiv a1 16))) (nI := 4) g dX9_winnerOf_101 (Nat.le_of_ble_eq_true rfl) rfl rfl (Nat.zero_add _) ?_
          refine am_icmp_ne (tgt := 109) g dX9_winnerOf_102 (by decide) ?_ ?_
          · refine am_iconst g dX9_winnerOf_109 (am_il rfl) rfl ?_
            exact am_ireturn g dX9_winnerOf_110
          · refine am_iconst g dX9_winnerOf_105 (am_il rfl) rfl ?_
            refine am_goto (tgt := 110) g dX9_winnerOf_106 (by decide) ?_
            exact am_ireturn g dX9_winnerOf_110
        · refine am_iconst g dX9_winnerOf_83 (am_il rfl) rfl ?_
          refine am_goto (tgt := 110) g dX9_winnerOf_84 (by decide) ?_
          exact am_ireturn g dX9_winnerOf_110
      · refine am_aload_n g dX9_winnerOf_47 rfl ?_
        refine am_getr (q := 12) (a := 13) g clX9 dX9_winnerOf_48 (Nat.le_of_ble_eq_true rfl) rfl (by decide) rfl (Nat.le_of_ble_eq_true rfl) lf_X9_48 ?_
        refine am_iload_n g dX9_winnerOf_51 rfl ?_
        refine am_iaload (ix := Int.toNat a1) (nI := 64) g dX9_winnerOf_52 (Nat.le_of_ble_eq_true rfl) rfl rfl (Nat.zero_add _) ?_
        exact am_ireturn g dX9_winnerOf_53
    · refine am_aload_n g dX9_winnerOf_22 rfl ?_
      refine am_iload_n g dX9_winnerOf_23 rfl ?_
      refine am_iconst g dX9_winnerOf_24 (am_il rfl) rfl ?_
      refine am_Vi (as := [.inl a1, .inl 0]) (S := []) g (hSO a1 0 h2) mi_X9_sideOf lm_X9_173 clX9.1 (Nat.le_of_ble_eq_true rfl) rfl dX9_winnerOf_25 rfl (by omega) (Nat.le_of_ble_eq_true rfl) rfl (fun v4 h5 => ?_)
      refine am_iconst g dX9_winnerOf_28 (am_il rfl) rfl ?_
      refine am_icmp_ne (tgt := 36) g dX9_winnerOf_29 (by decide) ?_ ?_
      · refine am_iconst g dX9_winnerOf_36 (am_il rfl) rfl ?_
        exact am_ireturn g dX9_winnerOf_37
      · refine am_iconst g dX9_winnerOf_32 (am_il rfl) rfl ?_
        refine am_goto (tgt := 37) g dX9_winnerOf_33 (by decide) ?_
        exact am_ireturn g dX9_winnerOf_37
  · refine am_iconst g dX9_winnerOf_12 (am_il rfl) rfl ?_
    exact am_ireturn g dX9_winnerOf_13
def fX9_sideOfb (SO : Int → Int → am_M → Option (Int × am_M)) (a1 : Int) (a2 : Int) (h : am_M) : Option (Int × am_M) := am_l (am_w (Int.tdiv a1 16)) (fun x1 => am_b (fX9_roundOf x1 (Int.tmod a1 16) h) (fun v2 h3 => if v2 = 0 then am_b (fX9_at x1 (am_w ((am_w (2 * (Int.tmod a1 16))) + a2)) h3) (fun v10 h11 => some (v10, h11)) else am_b (fX9_feeds a1 a2 h3) (fun v4 h5 => am_b (fX9_winnerOf SO v4 h5) (fun v6 h7 => if v6 < 0 then some ((-2), h7) else am_b (SO v4 v6 h7) (fun v8 h9 => some (v8, h9))))))
def fX9_sideOf : Nat → Int → Int → am_M → Option (Int × am_M) := am_it (fun _ _ _ => none) fX9_sideOfb
set_option maxRecDepth 10000 in
theorem oX9_sideOfb {D : va_G} {a : Nat → ClassId} {ad : Nat → Nat} {k kS : Nat} {SO : Int → Int → am_M → Option (Int × am_M)} (hSO : ∀ (a1 a2 : Int) (h : am_M), am_C (EM D a ad) yX9_sideOf cX9_sideOf 6 (some .int) kS [.inr (some 0), .inl a1, .inl a2] h am_ei (SO a1 a2 h)) (hk : kS + 3 ≤ k) (h4 : 4 ≤ kS) (a1 : Int) (a2 : Int) (h : am_M) : am_C (EM D a ad) yX9_sideOf cX9_sideOf 6 (some .int) k [.inr (some 0), .inl a1, .inl a2] h am_ei (fX9_sideOfb SO a1 a2 h) := by
  refine am_ofJ (L := [some (.inr (some 0)), some (.inl a1), some (.inl a2), none, none, none]) (by decide) rfl (Nat.le_of_ble_eq_true rfl) (fun G g => ?_)
  have g : am_Gd (EM D a ad) RX9 cX9_sideOf 6 (some .int) k G := g
  unfold fX9_sideOfb
  refine am_iload_n g dX9_sideOf_0 rfl ?_
  refine am_bipush g dX9_sideOf_1 (am_il rfl) (am_bi rfl) ?_
  refine am_idiv g dX9_sideOf_3 (by decide) ?_
  refine am_gv (fun x1 => ?_)
  refine am_istore_n g dX9_sideOf_4 (by decide) ?_
  refine am_aload_n g dX9_sideOf_5 rfl ?_
  refine am_iload_n g dX9_sideOf_6 rfl ?_
  refine am_iload_n g dX9_sideOf_7 rfl ?_
  refine am_bipush g dX9_sideOf_8 (am_il rfl) (am_bi rfl) ?_
  refine am_irem g dX9_sideOf_10 (by decide) ?_
  refine am_Vi (as := [.inl x1, .inl (Int.tmod a1 16)]) (S := []) g (cX9_roundOfC x1 (Int.tmod a1 16) h) mi_X9_roundOf lm_X9_167 clX9.1 (Nat.le_of_ble_eq_true rfl) rfl dX9_sideOf_11 rfl (by omega) (Nat.le_of_ble_eq_true rfl) rfl (fun v2 h3 => ?_)
  refine am_if_ne (tgt := 31) g dX9_sideOf_14 (by decide) ?_ ?_
  · refine am_aload_n g dX9_sideOf_31 rfl ?_
    refine am_iload_n g dX9_sideOf_32 rfl ?_
    refine am_iload_n g dX9_sideOf_33 rfl ?_
    refine am_Vi (as := [.inl a1, .inl a2]) (S := []) g (cX9_feedsC a1 a2 h3) mi_X9_feeds lm_X9_182 clX9.1 (Nat.le_of_ble_eq_true rfl) rfl dX9_sideOf_34 rfl (by omega) (Nat.le_of_ble_eq_true rfl) rfl (fun v4 h5 => ?_)
    refine am_istore g dX9_sideOf_37 (by decide) ?_
    refine am_aload_n g dX9_sideOf_39 rfl ?_
    refine am_iload g dX9_sideOf_40 rfl ?_
    refine am_Vi (as := [.inl v4]) (S := []) g (oX9_winnerOf hSO (Nat.le_refl _) h4 v4 h5) mi_X9_winnerOf lm_X9_185 clX9.1 (Nat.le_of_ble_eq_true rfl) rfl dX9_sideOf_42 rfl (by omega) (Nat.le_of_ble_eq_true rfl) rfl (fun v6 h7 => ?_)
    refine am_istore g dX9_sideOf_45 (by decide) ?_
    refine am_iload g dX9_sideOf_47 rfl ?_
    refine am_if_ge (tgt := 57) g dX9_sideOf_49 (by decide) ?_ ?_
    · refine am_aload_n g dX9_sideOf_57 rfl ?_
      refine am_iload g dX9_sideOf_58 rfl ?_
      refine am_iload g dX9_sideOf_60 rfl ?_
      refine am_Vi (as := [.inl v4, .inl v6]) (S := []) g (hSO v4 v6 h7) mi_X9_sideOf lm_X9_173 clX9.1 (Nat.le_of_ble_eq_true rfl) rfl dX9_sideOf_62 rfl (by omega) (Nat.le_of_ble_eq_true rfl) rfl (fun v8 h9 => ?_)
      exact am_ireturn g dX9_sideOf_65
    · refine am_bipush g dX9_sideOf_52 (am_il rfl) (am_bi rfl) ?_
      refine am_goto (tgt := 65) g dX9_sideOf_54 (by decide) ?_
      exact am_ireturn g dX9_sideOf_65
  · refine am_aload_n g dX9_sideOf_17 rfl ?_
    refine am_iload_n g dX9_sideOf_18 rfl ?_
    refine am_iconst g dX9_sideOf_19 (am_il rfl) rfl ?_
    refine am_iload_n g dX9_sideOf_20 rfl ?_
    refine am_bipush g dX9_sideOf_21 (am_il rfl) (am_bi rfl) ?_
    refine am_irem g dX9_sideOf_23 (by decide) ?_
    refine am_imul g dX9_sideOf_24 ?_
    refine am_iload_n g dX9_sideOf_25 rfl ?_
    refine am_iadd g dX9_sideOf_26 ?_
    refine am_Vi (as := [.inl x1, .inl (am_w ((am_w (2 * (Int.tmod a1 16))) + a2))]) (S := []) g (cX9_atC x1 (am_w ((am_w (2 * (Int.tmod a1 16))) + a2)) h3) mi_X9_at lm_X9_143 clX9.1 (Nat.le_of_ble_eq_true rfl) rfl dX9_sideOf_27 rfl (by omega) (Nat.le_of_ble_eq_true rfl) rfl (fun v10 h11 => ?_)
    exact am_ireturn g dX9_sideOf_30
theorem oX9_sideOf {D : va_G} {a : Nat → ClassId} {ad : Nat → Nat} : ∀ (n : Nat) (a1 a2 : Int) (h : am_M), am_C (EM D a ad) yX9_sideOf cX9_sideOf 6 (some .int) (4 + 3 * n) [.inr (some 0), .inl a1, .inl a2] h am_ei (fX9_sideOf n a1 a2 h) := by
  intro n
  induction n with
  | zero => exact fun a1 a2 h _ _ _ v h' e => by cases e
  | succ n ih => exact fun a1 a2 h => oX9_sideOfb ih (by omega) (by omega) a1 a2 h
theorem cX9_sideOfC {D : va_G} {a : Nat → ClassId} {ad : Nat → Nat} (a1 a2 : Int) (h : am_M) : am_C (EM D a ad) yX9_sideOf cX9_sideOf 6 (some .int) 28 [.inr (some 0), .inl a1, .inl a2] h am_ei (fX9_sideOf 8 a1 a2 h) := oX9_sideOf 8 a1 a2 h
theorem cX9_winnerOfC {D : va_G} {a : Nat → ClassId} {ad : Nat → Nat} (a1 : Int) (h : am_M) : am_C (EM D a ad) yX9_winnerOf cX9_winnerOf 2 (some .int) 30 [.inr (some 0), .inl a1] h am_ei (fX9_winnerOf (fX9_sideOf 8) a1 h) := oX9_winnerOf (oX9_sideOf 8) (Nat.le_refl _) (by decide) a1 h
theorem cX9_isOfByeC {D : va_G} {a : Nat → ClassId} {ad : Nat → Nat} (a1 : Int) (h : am_M) : am_C (EM D a ad) yX9_isOfBye cX9_isOfBye 2 (some .boolean) 29 [.inr (some 0), .inl a1] h am_ei (fX9_isOfBye (fX9_sideOf 8) a1 h) := oX9_isOfBye (oX9_sideOf 8) (Nat.le_refl _) (by decide) a1 h
def fX9_isEnded (a1 : Int) (h : am_M) : Option (Int × am_M) := am_b (fX9_winnerOf (fX9_sideOf 8) a1 h) (fun v1 h2 => if v1 < 0 then some (0, h2) else some (1, h2))
set_option maxRecDepth 10000 in
theorem cX9_isEndedC {D : va_G} {a : Nat → ClassId} {ad : Nat → Nat} (a1 : Int) (h : am_M) : am_C (EM D a ad) yX9_isEnded cX9_isEnded 2 (some .boolean) 40 [.inr (some 0), .inl a1] h am_ei (fX9_isEnded a1 h) := by
  refine am_ofJ (L := [some (.inr (some 0)), some (.inl a1)]) (by decide) rfl (Nat.le_of_ble_eq_true rfl) (fun G g => ?_)
  have g : am_Gd (EM D a ad) RX9 cX9_isEnded 2 (some .boolean) 40 G := g
  unfold fX9_isEnded
  refine am_aload_n g dX9_isEnded_0 rfl ?_
  refine am_iload_n g dX9_isEnded_1 rfl ?_
  refine am_Vi (as := [.inl a1]) (S := []) g (cX9_winnerOfC a1 h) mi_X9_winnerOf lm_X9_185 clX9.1 (Nat.le_of_ble_eq_true rfl) rfl dX9_isEnded_2 rfl (by decide) (Nat.le_of_ble_eq_true rfl) rfl (fun v1 h2 => ?_)
  refine am_if_lt (tgt := 12) g dX9_isEnded_5 (by decide) ?_ ?_
  · refine am_iconst g dX9_isEnded_12 (am_il rfl) rfl ?_
    exact am_zreturn g dX9_isEnded_13 (by decide)
  · refine am_iconst g dX9_isEnded_8 (am_il rfl) rfl ?_
    refine am_goto (tgt := 13) g dX9_isEnded_9 (by decide) ?_
    exact am_zreturn g dX9_isEnded_13 (by decide)
def fX9_of_133 (K100 : Int → Int → Int → am_M → Option (Int × am_M)) (l1 : Int) (l4 : Int) (s0 : Int) (s1 : Int) (h : am_M) : Option (Int × am_M) := am_l (am_w (s1 + s0)) (fun x11 => K100 l1 x11 (am_w (l4 + 1)) h)
set_option maxRecDepth 10000 in
theorem jX9_of_133 {D : va_G} {a : Nat → ClassId} {ad : Nat → Nat} {G : am_G} (g : am_Gd (EM D a ad) RX9 cX9_of 7 (some .int) 41 G) {K100 : Int → Int → Int → am_M → Option (Int × am_M)} (hK100 : ∀ (l1 : Int), ∀ (l3 : Int), ∀ (l4 : Int), ∀ h : am_M, am_J (EM D a ad) G 7 am_ei 100 [some (.inr (some 0)), some (.inl l1), none, some (.inl l3), some (.inl l4), none, none] [] h (K100 l1 l3 l4 h)) : ∀ (l1 : Int), ∀ (l4 : Int), ∀ (s0 : Int), ∀ (s1 : Int), ∀ h : am_M, am_J (EM D a ad) G 7 am_ei 133 [some (.inr (some 0)), some (.inl l1), none, none, some (.inl l4), none, none] [.inl s0, .inl s1] h (fX9_of_133 K100 l1 l4 s0 s1 h) := by
  intro l1 l4 s0 s1 h
  unfold fX9_of_133
  refine am_iadd g dX9_of_133 ?_
  refine am_gv (fun x11 => ?_)
  refine am_istore_n g dX9_of_134 (by decide) ?_
  refine am_iinc g dX9_of_135 (by decide) rfl ?_
  refine am_goto (tgt := 100) g dX9_of_138 (by decide) ?_
  exact hK100 l1 x11 (am_w (l4 + 1)) h
def fX9_of_100b (K100 : Int → Int → Int → am_M → Option (Int × am_M)) (l1 : Int) (l3 : Int) (l4 : Int) (h : am_M) : Option (Int × am_M) := if 0 ≤ l1 ∧ l1 < 4 then if l4 < (am_w ((h 1 (Int.toNat l1)) - 1)) then (am_b (fX9_isEnded (am_w ((am_w (16 * l1)) + l4)) h) (fun v9 h10 => if v9 = 0 then (fX9_of_133 K100) l1 l4 0 l3 h10 else (fX9_of_133 K100) l1 l4 1 l3 h10)) else some (l3, h) else none
def fX9_of_100 : Int → Int → Int → am_M → Option (Int × am_M) := am_it (fun _ _ _ _ => none) (fX9_of_100b) 400
set_option maxRecDepth 10000 in
theorem jX9_of_100b {D : va_G} {a : Nat → ClassId} {ad : Nat → Nat} {G : am_G} (g : am_Gd (EM D a ad) RX9 cX9_of 7 (some .int) 41 G) {K100 : Int → Int → Int → am_M → Option (Int × am_M)} (hK100 : ∀ (l1 : Int), ∀ (l3 : Int), ∀ (l4 : Int), ∀ h : am_M, am_J (EM D a ad) G 7 am_ei 100 [some (.inr (some 0)), some (.inl l1), none, some (.inl l3), some (.inl l4), none, none] [] h (K100 l1 l3 l4 h)) : ∀ (l1 : Int), ∀ (l3 : Int), ∀ (l4 : Int), ∀ h : am_M, am_J (EM D a ad) G 7 am_ei 100 [some (.inr (some 0)), some (.inl l1), none, some (.inl l3), some (.inl l4), none, none] [] h (fX9_of_100b K100 l1 l3 l4 h) := by
  intro l1 l3 l4 h
  unfold fX9_of_100b
  refine am_iload g dX9_of_100 rfl ?_
  refine am_aload_n g dX9_of_102 rfl ?_
  refine am_getr (q := 1) (a := 2) g clX9 dX9_of_103 (Nat.le_of_ble_eq_true rfl) rfl (by decide) rfl (Nat.le_of_ble_eq_true rfl) lf_X9_13 ?_
  refine am_iload_n g dX9_of_106 rfl ?_
  refine am_iaload (ix := Int.toNat l1) (nI := 4) g dX9_of_107 (Nat.le_of_ble_eq_true rfl) rfl rfl (Nat.zero_add _) ?_
  refine am_iconst g dX9_of_108 (am_il rfl) rfl ?_
  refine am_isub g dX9_of_109 ?_
  refine am_icmp_ge (tgt := 141) g dX9_of_110 (by decide) ?_ ?_
  · refine am_iload_n g dX9_of_141 rfl ?_
    exact am_ireturn g dX9_of_142
  · refine am_iload_n g dX9_of_113 rfl ?_
    refine am_aload_n g dX9_of_114 rfl ?_
    refine am_bipush g dX9_of_115 (am_il rfl) (am_bi rfl) ?_
    refine am_iload_n g dX9_of_117 rfl ?_
    refine am_imul g dX9_of_118 ?_
    refine am_iload g dX9_of_119 rfl ?_
    refine am_iadd g dX9_of_121 ?_
    refine am_Vi (as := [.inl (am_w ((am_w (16 * l1)) + l4))]) (S := [.inl l3]) g (cX9_isEndedC (am_w ((am_w (16 * l1)) + l4)) h) mi_X9_isEnded lm_X9_161 clX9.1 (Nat.le_of_ble_eq_true rfl) rfl dX9_of_122 rfl (by decide) (Nat.le_of_ble_eq_true rfl) rfl (fun v9 h10 => ?_)
    refine am_if_eq (tgt := 132) g dX9_of_125 (by decide) ?_ ?_
    · refine am_iconst g dX9_of_132 (am_il rfl) rfl ?_
      refine am_drop 3 ?_
      exact (jX9_of_133 g hK100) l1 l4 0 l3 h10
    · refine am_iconst g dX9_of_128 (am_il rfl) rfl ?_
      refine am_goto (tgt := 133) g dX9_of_129 (by decide) ?_
      refine am_drop 3 ?_
      exact (jX9_of_133 g hK100) l1 l4 1 l3 h10
theorem jX9_of_100 {D : va_G} {a : Nat → ClassId} {ad : Nat → Nat} {G : am_G} (g : am_Gd (EM D a ad) RX9 cX9_of 7 (some .int) 41 G) : ∀ (l1 : Int), ∀ (l3 : Int), ∀ (l4 : Int), ∀ h : am_M, am_J (EM D a ad) G 7 am_ei 100 [some (.inr (some 0)), some (.inl l1), none, some (.inl l3), some (.inl l4), none, none] [] h (fX9_of_100 l1 l3 l4 h) := by
  unfold fX9_of_100
  generalize 400 = n
  induction n with
  | zero => intro l1 l3 l4 h; exact am_jn
  | succ n ih => exact jX9_of_100b g ih
def fX9_of_232 (K148 : Int → Int → Int → am_M → Option (Int × am_M)) (l1 : Int) (l4 : Int) (s0 : Int) (s1 : Int) (h : am_M) : Option (Int × am_M) := am_l (am_w (s1 + s0)) (fun x15 => K148 l1 x15 (am_w (l4 + 1)) h)
set_option maxRecDepth 10000 in
theorem jX9_of_232 {D : va_G} {a : Nat → ClassId} {ad : Nat → Nat} {G : am_G} (g : am_Gd (EM D a ad) RX9 cX9_of 7 (some .int) 41 G) {K148 : Int → Int → Int → am_M → Option (Int × am_M)} (hK148 : ∀ (l1 : Int), ∀ (l3 : Int), ∀ (l4 : Int), ∀ h : am_M, am_J (EM D a ad) G 7 am_ei 148 [some (.inr (some 0)), some (.inl l1), none, some (.inl l3), some (.inl l4), none, none] [] h (K148 l1 l3 l4 h)) : ∀ (l1 : Int), ∀ (l4 : Int), ∀ (s0 : Int), ∀ (s1 : Int), ∀ h : am_M, am_J (EM D a ad) G 7 am_ei 232 [some (.inr (some 0)), some (.inl l1), none, none, some (.inl l4), none, none] [.inl s0, .inl s1] h (fX9_of_232 K148 l1 l4 s0 s1 h) := by
  intro l1 l4 s0 s1 h
  unfold fX9_of_232
  refine am_iadd g dX9_of_232 ?_
  refine am_gv (fun x15 => ?_)
  refine am_istore_n g dX9_of_233 (by decide) ?_
  refine am_iinc g dX9_of_234 (by decide) rfl ?_
  refine am_goto (tgt := 148) g dX9_of_237 (by decide) ?_
  exact hK148 l1 x15 (am_w (l4 + 1)) h
def fX9_of_221 (K148 : Int → Int → Int → am_M → Option (Int × am_M)) (l1 : Int) (l3 : Int) (l4 : Int) (l5 : Int) (h : am_M) : Option (Int × am_M) := if l5 = 0 then (fX9_of_232 K148) l1 l4 0 l3 h else (fX9_of_232 K148) l1 l4 1 l3 h
set_option maxRecDepth 10000 in
theorem jX9_of_221 {D : va_G} {a : Nat → ClassId} {ad : Nat → Nat} {G : am_G} (g : am_Gd (EM D a ad) RX9 cX9_of 7 (some .int) 41 G) {K148 : Int → Int → Int → am_M → Option (Int × am_M)} (hK148 : ∀ (l1 : Int), ∀ (l3 : Int), ∀ (l4 : Int), ∀ h : am_M, am_J (EM D a ad) G 7 am_ei 148 [some (.inr (some 0)), some (.inl l1), none, some (.inl l3), some (.inl l4), none, none] [] h (K148 l1 l3 l4 h)) : ∀ (l1 : Int), ∀ (l3 : Int), ∀ (l4 : Int), ∀ (l5 : Int), ∀ h : am_M, am_J (EM D a ad) G 7 am_ei 221 [some (.inr (some 0)), some (.inl l1), none, some (.inl l3), some (.inl l4), some (.inl l5), none] [] h (fX9_of_221 K148 l1 l3 l4 l5 h) := by
  intro l1 l3 l4 l5 h
  unfold fX9_of_221
  refine am_iload_n g dX9_of_221 rfl ?_
  refine am_iload g dX9_of_222 rfl ?_
  refine am_if_eq (tgt := 231) g dX9_of_224 (by decide) ?_ ?_
  · refine am_iconst g dX9_of_231 (am_il rfl) rfl ?_
    refine am_drop 3 ?_
    refine am_drop 5 ?_
    exact (jX9_of_232 g hK148) l1 l4 0 l3 h
  · refine am_iconst g dX9_of_227 (am_il rfl) rfl ?_
    refine am_goto (tgt := 232) g dX9_of_228 (by decide) ?_
    refine am_drop 3 ?_
    refine am_drop 5 ?_
    exact (jX9_of_232 g hK148) l1 l4 1 l3 h
def fX9_of_208 (K213 : Int → Int → Int → Int → Int → am_M → Option (Int × am_M)) (l1 : Int) (l3 : Int) (l4 : Int) (l6 : Int) (h : am_M) : Option (Int × am_M) := K213 l1 l3 l4 l6 1 h
set_option maxRecDepth 10000 in
theorem jX9_of_208 {D : va_G} {a : Nat → ClassId} {ad : Nat → Nat} {G : am_G} (g : am_Gd (EM D a ad) RX9 cX9_of 7 (some .int) 41 G) {K213 : Int → Int → Int → Int → Int → am_M → Option (Int × am_M)} (hK213 : ∀ (l1 : Int), ∀ (l3 : Int), ∀ (l4 : Int), ∀ (l6 : Int), ∀ (s0 : Int), ∀ h : am_M, am_J (EM D a ad) G 7 am_ei 213 [some (.inr (some 0)), some (.inl l1), none, some (.inl l3), some (.inl l4), none, some (.inl l6)] [.inl s0] h (K213 l1 l3 l4 l6 s0 h)) : ∀ (l1 : Int), ∀ (l3 : Int), ∀ (l4 : Int), ∀ (l6 : Int), ∀ h : am_M, am_J (EM D a ad) G 7 am_ei 208 [some (.inr (some 0)), some (.inl l1), none, some (.inl l3), some (.inl l4), none, some (.inl l6)] [] h (fX9_of_208 K213 l1 l3 l4 l6 h) := by
  intro l1 l3 l4 l6 h
  unfold fX9_of_208
  refine am_iconst g dX9_of_208 (am_il rfl) rfl ?_
  refine am_goto (tgt := 213) g dX9_of_209 (by decide) ?_
  exact hK213 l1 l3 l4 l6 1 h
def fX9_of_213 (K164 : Int → Int → Int → Int → Int → am_M → Option (Int × am_M)) (l1 : Int) (l3 : Int) (l4 : Int) (l6 : Int) (s0 : Int) (h : am_M) : Option (Int × am_M) := K164 l1 l3 l4 s0 (am_w (l6 + 1)) h
set_option maxRecDepth 10000 in
theorem jX9_of_213 {D : va_G} {a : Nat → ClassId} {ad : Nat → Nat} {G : am_G} (g : am_Gd (EM D a ad) RX9 cX9_of 7 (some .int) 41 G) {K164 : Int → Int → Int → Int → Int → am_M → Option (Int × am_M)} (hK164 : ∀ (l1 : Int), ∀ (l3 : Int), ∀ (l4 : Int), ∀ (l5 : Int), ∀ (l6 : Int), ∀ h : am_M, am_J (EM D a ad) G 7 am_ei 164 [some (.inr (some 0)), some (.inl l1), none, some (.inl l3), some (.inl l4), some (.inl l5), some (.inl l6)] [] h (K164 l1 l3 l4 l5 l6 h)) : ∀ (l1 : Int), ∀ (l3 : Int), ∀ (l4 : Int), ∀ (l6 : Int), ∀ (s0 : Int), ∀ h : am_M, am_J (EM D a ad) G 7 am_ei 213 [some (.inr (some 0)), some (.inl l1), none, some (.inl l3), some (.inl l4), none, some (.inl l6)] [.inl s0] h (fX9_of_213 K164 l1 l3 l4 l6 s0 h) := by
  intro l1 l3 l4 l6 s0 h
  unfold fX9_of_213
  refine am_istore g dX9_of_213 (by decide) ?_
  refine am_iinc g dX9_of_215 (by decide) rfl ?_
  refine am_goto (tgt := 164) g dX9_of_218 (by decide) ?_
  exact hK164 l1 l3 l4 s0 (am_w (l6 + 1)) h
def fX9_of_212 (K213 : Int → Int → Int → Int → Int → am_M → Option (Int × am_M)) (l1 : Int) (l3 : Int) (l4 : Int) (l6 : Int) (h : am_M) : Option (Int × am_M) := K213 l1 l3 l4 l6 0 h
set_option maxRecDepth 10000 in
theorem jX9_of_212 {D : va_G} {a : Nat → ClassId} {ad : Nat → Nat} {G : am_G} (g : am_Gd (EM D a ad) RX9 cX9_of 7 (some .int) 41 G) {K213 : Int → Int → Int → Int → Int → am_M → Option (Int × am_M)} (hK213 : ∀ (l1 : Int), ∀ (l3 : Int), ∀ (l4 : Int), ∀ (l6 : Int), ∀ (s0 : Int), ∀ h : am_M, am_J (EM D a ad) G 7 am_ei 213 [some (.inr (some 0)), some (.inl l1), none, some (.inl l3), some (.inl l4), none, some (.inl l6)] [.inl s0] h (K213 l1 l3 l4 l6 s0 h)) : ∀ (l1 : Int), ∀ (l3 : Int), ∀ (l4 : Int), ∀ (l6 : Int), ∀ h : am_M, am_J (EM D a ad) G 7 am_ei 212 [some (.inr (some 0)), some (.inl l1), none, some (.inl l3), some (.inl l4), none, some (.inl l6)] [] h (fX9_of_212 K213 l1 l3 l4 l6 h) := by
  intro l1 l3 l4 l6 h
  unfold fX9_of_212
  refine am_iconst g dX9_of_212 (am_il rfl) rfl ?_
  exact hK213 l1 l3 l4 l6 0 h
def fX9_of_164b (K148 : Int → Int → Int → am_M → Option (Int × am_M)) (K164 : Int → Int → Int → Int → Int → am_M → Option (Int × am_M)) (l1 : Int) (l3 : Int) (l4 : Int) (l5 : Int) (l6 : Int) (h : am_M) : Option (Int × am_M) := if 0 ≤ l1 ∧ l1 < 4 then if l6 < (am_w ((h 1 (Int.toNat l1)) - 1)) then (if l5 = 0 then (am_b (fX9_roundOf l1 l6 h) (fun v16 h17 => if v16 = l4 then (am_b (fX9_isEnded (am_w ((am_w (16 * l1)) + l6)) h17) (fun v18 h19 => if v18 = 0 then (fX9_of_208 (fX9_of_213 K164)) l1 l3 l4 l6 h19 else (fX9_of_212 (fX9_of_213 K164)) l1 l3 l4 l6 h19)) else (fX9_of_212 (fX9_of_213 K164)) l1 l3 l4 l6 h17)) else (fX9_of_208 (fX9_of_213 K164)) l1 l3 l4 l6 h) else (fX9_of_221 K148) l1 l3 l4 l5 h else none
def fX9_of_164 (K148 : Int → Int → Int → am_M → Option (Int × am_M)) : Int → Int → Int → Int → Int → am_M → Option (Int × am_M) := am_it (fun _ _ _ _ _ _ => none) (fX9_of_164b K148) 400
set_option maxRecDepth 10000 in
theorem jX9_of_164b {D : va_G} {a : Nat → ClassId} {ad : Nat → Nat} {G : am_G} (g : am_Gd (EM D a ad) RX9 cX9_of 7 (some .int) 41 G) {K148 : Int → Int → Int → am_M → Option (Int × am_M)} (hK148 : ∀ (l1 : Int), ∀ (l3 : Int), ∀ (l4 : Int), ∀ h : am_M, am_J (EM D a ad) G 7 am_ei 148 [some (.inr (some 0)), some (.inl l1), none, some (.inl l3), some (.inl l4), none, none] [] h (K148 l1 l3 l4 h)) {K164 : Int → Int → Int → Int → Int → am_M → Option (Int × am_M)} (hK164 : ∀ (l1 : Int), ∀ (l3 : Int), ∀ (l4 : Int), ∀ (l5 : Int), ∀ (l6 : Int), ∀ h : am_M, am_J (EM D a ad) G 7 am_ei 164 [some (.inr (some 0)), some (.inl l1), none, some (.inl l3), some (.inl l4), some (.inl l5), some (.inl l6)] [] h (K164 l1 l3 l4 l5 l6 h)) : ∀ (l1 : Int), ∀ (l3 : Int), ∀ (l4 : Int), ∀ (l5 : Int), ∀ (l6 : Int), ∀ h : am_M, am_J (EM D a ad) G 7 am_ei 164 [some (.inr (some 0)), some (.inl l1), none, some (.inl l3), some (.inl l4), some (.inl l5), some (.inl l6)] [] h (fX9_of_164b K148 K164 l1 l3 l4 l5 l6 h) := by
  intro l1 l3 l4 l5 l6 h
  unfold fX9_of_164b
  refine am_iload g dX9_of_164 rfl ?_
  refine am_aload_n g dX9_of_166 rfl ?_
  refine am_getr (q := 1) (a := 2) g clX9 dX9_of_167 (Nat.le_of_ble_eq_true rfl) rfl (by decide) rfl (Nat.le_of_ble_eq_true rfl) lf_X9_13 ?_
  refine am_iload_n g dX9_of_170 rfl ?_
  refine am_iaload (ix := Int.toNat l1) (nI := 4) g dX9_of_171 (Nat.le_of_ble_eq_true rfl) rfl rfl (Nat.zero_add _) ?_
  refine am_iconst g dX9_of_172 (am_il rfl) rfl ?_
  refine am_isub g dX9_of_173 ?_
  refine am_icmp_ge (tgt := 221) g dX9_of_174 (by decide) ?_ ?_
  · refine am_drop 6 ?_
    exact (jX9_of_221 g hK148) l1 l3 l4 l5 h
  · refine am_iload g dX9_of_177 rfl ?_
    refine am_if_ne (tgt := 208) g dX9_of_179 (by decide) ?_ ?_
    · refine am_drop 5 ?_
      exact (jX9_of_208 g (jX9_of_213 g hK164)) l1 l3 l4 l6 h
    · refine am_aload_n g dX9_of_182 rfl ?_
      refine am_iload_n g dX9_of_183 rfl ?_
      refine am_iload g dX9_of_184 rfl ?_
      refine am_Vi (as := [.inl l1, .inl l6]) (S := []) g (cX9_roundOfC l1 l6 h) mi_X9_roundOf lm_X9_167 clX9.1 (Nat.le_of_ble_eq_true rfl) rfl dX9_of_186 rfl (by decide) (Nat.le_of_ble_eq_true rfl) rfl (fun v16 h17 => ?_)
      refine am_iload g dX9_of_189 rfl ?_
      refine am_icmp_ne (tgt := 212) g dX9_of_191 (by decide) ?_ ?_
      · refine am_drop 5 ?_
        exact (jX9_of_212 g (jX9_of_213 g hK164)) l1 l3 l4 l6 h17
      · refine am_aload_n g dX9_of_194 rfl ?_
        refine am_bipush g dX9_of_195 (am_il rfl) (am_bi rfl) ?_
        refine am_iload_n g dX9_of_197 rfl ?_
        refine am_imul g dX9_of_198 ?_
        refine am_iload g dX9_of_199 rfl ?_
        refine am_iadd g dX9_of_201 ?_
        refine am_Vi (as := [.inl (am_w ((am_w (16 * l1)) + l6))]) (S := []) g (cX9_isEndedC (am_w ((am_w (16 * l1)) + l6)) h17) mi_X9_isEnded lm_X9_161 clX9.1 (Nat.le_of_ble_eq_true rfl) rfl dX9_of_202 rfl (by decide) (Nat.le_of_ble_eq_true rfl) rfl (fun v18 h19 => ?_)
        refine am_if_ne (tgt := 212) g dX9_of_205 (by decide) ?_ ?_
        · refine am_drop 5 ?_
          exact (jX9_of_212 g (jX9_of_213 g hK164)) l1 l3 l4 l6 h19
        · refine am_drop 5 ?_
          exact (jX9_of_208 g (jX9_of_213 g hK164)) l1 l3 l4 l6 h19
theorem jX9_of_164 {D : va_G} {a : Nat → ClassId} {ad : Nat → Nat} {G : am_G} (g : am_Gd (EM D a ad) RX9 cX9_of 7 (some .int) 41 G) {K148 : Int → Int → Int → am_M → Option (Int × am_M)} (hK148 : ∀ (l1 : Int), ∀ (l3 : Int), ∀ (l4 : Int), ∀ h : am_M, am_J (EM D a ad) G 7 am_ei 148 [some (.inr (some 0)), some (.inl l1), none, some (.inl l3), some (.inl l4), none, none] [] h (K148 l1 l3 l4 h)) : ∀ (l1 : Int), ∀ (l3 : Int), ∀ (l4 : Int), ∀ (l5 : Int), ∀ (l6 : Int), ∀ h : am_M, am_J (EM D a ad) G 7 am_ei 164 [some (.inr (some 0)), some (.inl l1), none, some (.inl l3), some (.inl l4), some (.inl l5), some (.inl l6)] [] h (fX9_of_164 K148 l1 l3 l4 l5 l6 h) := by
  unfold fX9_of_164
  generalize 400 = n
  induction n with
  | zero => intro l1 l3 l4 l5 l6 h; exact am_jn
  | succ n ih => exact jX9_of_164b g hK148 ih
def fX9_of_148b (K148 : Int → Int → Int → am_M → Option (Int × am_M)) (l1 : Int) (l3 : Int) (l4 : Int) (h : am_M) : Option (Int × am_M) := am_b (fX9_rounds l1 h) (fun v13 h14 => if l4 < v13 then (fX9_of_164 K148) l1 l3 l4 0 0 h14 else some (l3, h14))
def fX9_of_148 : Int → Int → Int → am_M → Option (Int × am_M) := am_it (fun _ _ _ _ => none) (fX9_of_148b) 400
set_option maxRecDepth 10000 in
theorem jX9_of_148b {D : va_G} {a : Nat → ClassId} {ad : Nat → Nat} {G : am_G} (g : am_Gd (EM D a ad) RX9 cX9_of 7 (some .int) 41 G) {K148 : Int → Int → Int → am_M → Option (Int × am_M)} (hK148 : ∀ (l1 : Int), ∀ (l3 : Int), ∀ (l4 : Int), ∀ h : am_M, am_J (EM D a ad) G 7 am_ei 148 [some (.inr (some 0)), some (.inl l1), none, some (.inl l3), some (.inl l4), none, none] [] h (K148 l1 l3 l4 h)) : ∀ (l1 : Int), ∀ (l3 : Int), ∀ (l4 : Int), ∀ h : am_M, am_J (EM D a ad) G 7 am_ei 148 [some (.inr (some 0)), some (.inl l1), none, some (.inl l3), some (.inl l4), none, none] [] h (fX9_of_148b K148 l1 l3 l4 h) := by
  intro l1 l3 l4 h
  unfold fX9_of_148b
  refine am_iload g dX9_of_148 rfl ?_
  refine am_aload_n g dX9_of_150 rfl ?_
  refine am_iload_n g dX9_of_151 rfl ?_
  refine am_Vi (as := [.inl l1]) (S := [.inl l4]) g (cX9_roundsC l1 h) mi_X9_rounds lm_X9_164 clX9.1 (Nat.le_of_ble_eq_true rfl) rfl dX9_of_152 rfl (by decide) (Nat.le_of_ble_eq_true rfl) rfl (fun v13 h14 => ?_)
  refine am_icmp_ge (tgt := 240) g dX9_of_155 (by decide) ?_ ?_
  · refine am_iload_n g dX9_of_240 rfl ?_
    exact am_ireturn g dX9_of_241
  · refine am_iconst g dX9_of_158 (am_il rfl) rfl ?_
    refine am_istore g dX9_of_159 (by decide) ?_
    refine am_iconst g dX9_of_161 (am_il rfl) rfl ?_
    refine am_istore g dX9_of_162 (by decide) ?_
    exact (jX9_of_164 g hK148) l1 l3 l4 0 0 h14
theorem jX9_of_148 {D : va_G} {a : Nat → ClassId} {ad : Nat → Nat} {G : am_G} (g : am_Gd (EM D a ad) RX9 cX9_of 7 (some .int) 41 G) : ∀ (l1 : Int), ∀ (l3 : Int), ∀ (l4 : Int), ∀ h : am_M, am_J (EM D a ad) G 7 am_ei 148 [some (.inr (some 0)), some (.inl l1), none, some (.inl l3), some (.inl l4), none, none] [] h (fX9_of_148 l1 l3 l4 h) := by
  unfold fX9_of_148
  generalize 400 = n
  induction n with
  | zero => intro l1 l3 l4 h; exact am_jn
  | succ n ih => exact jX9_of_148b g ih
def fX9_of (a1 : Int) (a2 : Int) (h : am_M) : Option (Int × am_M) := am_b (fX9_isDraw a1 h) (fun v1 h2 => if v1 = 0 then some ((-1), h2) else if a2 = 0 then (if 0 ≤ a1 ∧ a1 < 4 then some (h2 1 (Int.toNat a1), h2) else none) else if a2 = 1 then (if 0 ≤ a1 ∧ a1 < 4 then some (h2 2 (Int.toNat a1), h2) else none) else if a2 = 2 then (if 0 ≤ a1 ∧ a1 < 4 then some (h2 3 (Int.toNat a1), h2) else none) else if a2 = 3 then (if 0 ≤ a1 ∧ a1 < 4 then some (h2 4 (Int.toNat a1), h2) else none) else if a2 = 4 then (if 0 ≤ a1 ∧ a1 < 4 then if (h2 5 (Int.toNat a1)) = 0 then some (0, h2) else some (1, h2) else none) else if a2 = 5 then fX9_of_100 a1 0 0 h2 else if a2 = 6 then fX9_of_148 a1 0 0 h2 else some ((-1), h2))
set_option maxRecDepth 10000 in
theorem cX9_ofC {D : va_G} {a : Nat → ClassId} {ad : Nat → Nat} (a1 : Int) (a2 : Int) (h : am_M) : am_C (EM D a ad) yX9_of cX9_of 7 (some .int) 41 [.inr (some 0), .inl a1, .inl a2] h am_ei (fX9_of a1 a2 h) := by
  refine am_ofJ (L := [some (.inr (some 0)), some (.inl a1), some (.inl a2), none, none, none, none]) (by decide) rfl (Nat.le_of_ble_eq_true rfl) (fun G g => ?_)
  have g : am_Gd (EM D a ad) RX9 cX9_of 7 (some .int) 41 G := g
  unfold fX9_of
  refine am_aload_n g dX9_of_0 rfl ?_
  refine am_iload_n g dX9_of_1 rfl ?_
  refine am_Vi (as := [.inl a1]) (S := []) g (cX9_isDrawC a1 h) mi_X9_isDraw lm_X9_123 clX9.1 (Nat.le_of_ble_eq_true rfl) rfl dX9_of_2 rfl (by decide) (Nat.le_of_ble_eq_true rfl) rfl (fun v1 h2 => ?_)
  refine am_if_ne (tgt := 10) g dX9_of_5 (by decide) ?_ ?_
  · refine am_iload_n g dX9_of_10 rfl ?_
    refine am_if (c := a2 = 0) (fun c3 => ?_) (fun c3 => ?_)
    · refine am_swIn (tgt := 52) g dX9_of_11 (by omega) (by omega) (by rw [c3]; rfl) (by decide) ?_
      refine am_aload_n g dX9_of_52 rfl ?_
      refine am_getr (q := 1) (a := 2) g clX9 dX9_of_53 (Nat.le_of_ble_eq_true rfl) rfl (by decide) rfl (Nat.le_of_ble_eq_true rfl) lf_X9_13 ?_
      refine am_iload_n g dX9_of_56 rfl ?_
      refine am_iaload (ix := Int.toNat a1) (nI := 4) g dX9_of_57 (Nat.le_of_ble_eq_true rfl) rfl rfl (Nat.zero_add _) ?_
      exact am_ireturn g dX9_of_58
    refine am_if (c := a2 = 1) (fun c4 => ?_) (fun c4 => ?_)
    · refine am_swIn (tgt := 59) g dX9_of_11 (by omega) (by omega) (by rw [c4]; rfl) (by decide) ?_
      refine am_aload_n g dX9_of_59 rfl ?_
      refine am_getr (q := 2) (a := 3) g clX9 dX9_of_60 (Nat.le_of_ble_eq_true rfl) rfl (by decide) rfl (Nat.le_of_ble_eq_true rfl) lf_X9_16 ?_
      refine am_iload_n g dX9_of_63 rfl ?_
      refine am_iaload (ix := Int.toNat a1) (nI := 4) g dX9_of_64 (Nat.le_of_ble_eq_true rfl) rfl rfl (Nat.zero_add _) ?_
      exact am_ireturn g dX9_of_65
    refine am_if (c := a2 = 2) (fun c5 => ?_) (fun c5 => ?_)
    · refine am_swIn (tgt := 66) g dX9_of_11 (by omega) (by omega) (by rw [c5]; rfl) (by decide) ?_
      refine am_aload_n g dX9_of_66 rfl ?_
      refine am_getr (q := 3) (a := 4) g clX9 dX9_of_67 (Nat.le_of_ble_eq_true rfl) rfl (by decide) rfl (Nat.le_of_ble_eq_true rfl) lf_X9_19 ?_
      refine am_iload_n g dX9_of_70 rfl ?_
      refine am_iaload (ix := Int.toNat a1) (nI := 4) g dX9_of_71 (Nat.le_of_ble_eq_true rfl) rfl rfl (Nat.zero_add _) ?_
      exact am_ireturn g dX9_of_72
    refine am_if (c := a2 = 3) (fun c6 => ?_) (fun c6 => ?_)
    · refine am_swIn (tgt := 73) g dX9_of_11 (by omega) (by omega) (by rw [c6]; rfl) (by decide) ?_
      refine am_aload_n g dX9_of_73 rfl ?_
      refine am_getr (q := 5) (a := 6) g clX9 dX9_of_74 (Nat.le_of_ble_eq_true rfl) rfl (by decide) rfl (Nat.le_of_ble_eq_true rfl) lf_X9_25 ?_
      refine am_iload_n g dX9_of_77 rfl ?_
      refine am_iaload (ix := Int.toNat a1) (nI := 4) g dX9_of_78 (Nat.le_of_ble_eq_true rfl) rfl rfl (Nat.zero_add _) ?_
      exact am_ireturn g dX9_of_79
    refine am_if (c := a2 = 4) (fun c7 => ?_) (fun c7 => ?_)
    · refine am_swIn (tgt := 80) g dX9_of_11 (by omega) (by omega) (by rw [c7]; rfl) (by decide) ?_
      refine am_aload_n g dX9_of_80 rfl ?_
      refine am_getr (q := 6) (a := 7) g clX9 dX9_of_81 (Nat.le_of_ble_eq_true rfl) rfl (by decide) rfl (Nat.le_of_ble_eq_true rfl) lf_X9_28 ?_
      refine am_iload_n g dX9_of_84 rfl ?_
      refine am_zaload (ix := Int.toNat a1) (nI := 4) g dX9_of_85 (Nat.le_of_ble_eq_true rfl) rfl rfl (Nat.zero_add _) ?_
      refine am_if_eq (tgt := 93) g dX9_of_86 (by decide) ?_ ?_
      · refine am_iconst g dX9_of_93 (am_il rfl) rfl ?_
        exact am_ireturn g dX9_of_94
      · refine am_iconst g dX9_of_89 (am_il rfl) rfl ?_
        refine am_goto (tgt := 94) g dX9_of_90 (by decide) ?_
        exact am_ireturn g dX9_of_94
    refine am_if (c := a2 = 5) (fun c8 => ?_) (fun c8 => ?_)
    · refine am_swIn (tgt := 95) g dX9_of_11 (by omega) (by omega) (by rw [c8]; rfl) (by decide) ?_
      refine am_iconst g dX9_of_95 (am_il rfl) rfl ?_
      refine am_istore_n g dX9_of_96 (by decide) ?_
      refine am_iconst g dX9_of_97 (am_il rfl) rfl ?_
      refine am_istore g dX9_of_98 (by decide) ?_
      refine am_drop 2 ?_
      exact (jX9_of_100 g) a1 0 0 h2
    refine am_if (c := a2 = 6) (fun c12 => ?_) (fun c12 => ?_)
    · refine am_swIn (tgt := 143) g dX9_of_11 (by omega) (by omega) (by rw [c12]; rfl) (by decide) ?_
      refine am_iconst g dX9_of_143 (am_il rfl) rfl ?_
      refine am_istore_n g dX9_of_144 (by decide) ?_
      refine am_iconst g dX9_of_145 (am_il rfl) rfl ?_
      refine am_istore g dX9_of_146 (by decide) ?_
      refine am_drop 2 ?_
      exact (jX9_of_148 g) a1 0 0 h2
    refine am_swOut (tgt := 242) g dX9_of_11 (by omega) (by decide) ?_
    refine am_iconst g dX9_of_242 (am_il rfl) rfl ?_
    exact am_ireturn g dX9_of_243
  · refine am_iconst g dX9_of_8 (am_il rfl) rfl ?_
    exact am_ireturn g dX9_of_9
def fX9_placeOf_2b (K2 : Int → Int → Int → am_M → Option (Int × am_M)) (l1 : Int) (l2 : Int) (l3 : Int) (h : am_M) : Option (Int × am_M) := if 0 ≤ l1 ∧ l1 < 4 then if l3 < (h 1 (Int.toNat l1)) then (am_b (fX9_at l1 l3 h) (fun v1 h2 => if v1 = l2 then some (l3, h2) else K2 l1 l2 (am_w (l3 + 1)) h2)) else some ((-1), h) else none
def fX9_placeOf_2 : Int → Int → Int → am_M → Option (Int × am_M) := am_it (fun _ _ _ _ => none) (fX9_placeOf_2b) 400
set_option maxRecDepth 10000 in
theorem jX9_placeOf_2b {D : va_G} {a : Nat → ClassId} {ad : Nat → Nat} {G : am_G} (g : am_Gd (EM D a ad) RX9 cX9_placeOf 4 (some .int) 2 G) {K2 : Int → Int → Int → am_M → Option (Int × am_M)} (hK2 : ∀ (l1 : Int), ∀ (l2 : Int), ∀ (l3 : Int), ∀ h : am_M, am_J (EM D a ad) G 4 am_ei 2 [some (.inr (some 0)), some (.inl l1), some (.inl l2), some (.inl l3)] [] h (K2 l1 l2 l3 h)) : ∀ (l1 : Int), ∀ (l2 : Int), ∀ (l3 : Int), ∀ h : am_M, am_J (EM D a ad) G 4 am_ei 2 [some (.inr (some 0)), some (.inl l1), some (.inl l2), some (.inl l3)] [] h (fX9_placeOf_2b K2 l1 l2 l3 h) := by
  intro l1 l2 l3 h
  unfold fX9_placeOf_2b
  refine am_iload_n g dX9_placeOf_2 rfl ?_
  refine am_aload_n g dX9_placeOf_3 rfl ?_
  refine am_getr (q := 1) (a := 2) g clX9 dX9_placeOf_4 (Nat.le_of_ble_eq_true rfl) rfl (by decide) rfl (Nat.le_of_ble_eq_true rfl) lf_X9_13 ?_
  refine am_iload_n g dX9_placeOf_7 rfl ?_
  refine am_iaload (ix := Int.toNat l1) (nI := 4) g dX9_placeOf_8 (Nat.le_of_ble_eq_true rfl) rfl rfl (Nat.zero_add _) ?_
  refine am_icmp_ge (tgt := 30) g dX9_placeOf_9 (by decide) ?_ ?_
  · refine am_iconst g dX9_placeOf_30 (am_il rfl) rfl ?_
    exact am_ireturn g dX9_placeOf_31
  · refine am_aload_n g dX9_placeOf_12 rfl ?_
    refine am_iload_n g dX9_placeOf_13 rfl ?_
    refine am_iload_n g dX9_placeOf_14 rfl ?_
    refine am_Vi (as := [.inl l1, .inl l3]) (S := []) g (cX9_atC l1 l3 h) mi_X9_at lm_X9_143 clX9.1 (Nat.le_of_ble_eq_true rfl) rfl dX9_placeOf_15 rfl (by decide) (Nat.le_of_ble_eq_true rfl) rfl (fun v1 h2 => ?_)
    refine am_iload_n g dX9_placeOf_18 rfl ?_
    refine am_icmp_ne (tgt := 24) g dX9_placeOf_19 (by decide) ?_ ?_
    · refine am_iinc g dX9_placeOf_24 (by decide) rfl ?_
      refine am_goto (tgt := 2) g dX9_placeOf_27 (by decide) ?_
      exact hK2 l1 l2 (am_w (l3 + 1)) h2
    · refine am_iload_n g dX9_placeOf_22 rfl ?_
      exact am_ireturn g dX9_placeOf_23
theorem jX9_placeOf_2 {D : va_G} {a : Nat → ClassId} {ad : Nat → Nat} {G : am_G} (g : am_Gd (EM D a ad) RX9 cX9_placeOf 4 (some .int) 2 G) : ∀ (l1 : Int), ∀ (l2 : Int), ∀ (l3 : Int), ∀ h : am_M, am_J (EM D a ad) G 4 am_ei 2 [some (.inr (some 0)), some (.inl l1), some (.inl l2), some (.inl l3)] [] h (fX9_placeOf_2 l1 l2 l3 h) := by
  unfold fX9_placeOf_2
  generalize 400 = n
  induction n with
  | zero => intro l1 l2 l3 h; exact am_jn
  | succ n ih => exact jX9_placeOf_2b g ih
def fX9_placeOf (a1 : Int) (a2 : Int) (h : am_M) : Option (Int × am_M) := fX9_placeOf_2 a1 a2 0 h
set_option maxRecDepth 10000 in
theorem cX9_placeOfC {D : va_G} {a : Nat → ClassId} {ad : Nat → Nat} (a1 : Int) (a2 : Int) (h : am_M) : am_C (EM D a ad) yX9_placeOf cX9_placeOf 4 (some .int) 2 [.inr (some 0), .inl a1, .inl a2] h am_ei (fX9_placeOf a1 a2 h) := by
  refine am_ofJ (L := [some (.inr (some 0)), some (.inl a1), some (.inl a2), none]) (by decide) rfl (Nat.le_of_ble_eq_true rfl) (fun G g => ?_)
  have g : am_Gd (EM D a ad) RX9 cX9_placeOf 4 (some .int) 2 G := g
  unfold fX9_placeOf
  refine am_iconst g dX9_placeOf_0 (am_il rfl) rfl ?_
  refine am_istore_n g dX9_placeOf_1 (by decide) ?_
  exact (jX9_placeOf_2 g) a1 a2 0 h
def fX9_lucky_155 (l1 : Int) (l3 : Int) (l4 : Int) (h : am_M) : Option (Int × am_M) := am_b (fX9_put l1 l4 l3 h) (fun _ h10 => if 0 ≤ (am_w ((am_w (40 * l1)) + l3)) ∧ (am_w ((am_w (40 * l1)) + l3)) < 160 then am_l (am_up h10 8 (Int.toNat (am_w ((am_w (40 * l1)) + l3))) 1) (fun h11 => some (1, h11)) else none)
set_option maxRecDepth 10000 in
theorem jX9_lucky_155 {D : va_G} {a : Nat → ClassId} {ad : Nat → Nat} {G : am_G} (g : am_Gd (EM D a ad) RX9 cX9_lucky 6 (some .int) 41 G) : ∀ (l1 : Int), ∀ (l3 : Int), ∀ (l4 : Int), ∀ h : am_M, am_J (EM D a ad) G 6 am_ei 155 [some (.inr (some 0)), some (.inl l1), none, some (.inl l3), some (.inl l4), none] [] h (fX9_lucky_155 l1 l3 l4 h) := by
  intro l1 l3 l4 h
  unfold fX9_lucky_155
  refine am_aload_n g dX9_lucky_155 rfl ?_
  refine am_iload_n g dX9_lucky_156 rfl ?_
  refine am_iload g dX9_lucky_157 rfl ?_
  refine am_iload_n g dX9_lucky_159 rfl ?_
  refine am_Vv (as := [.inl l1, .inl l4, .inl l3]) (S := []) g (cX9_putC l1 l4 l3 h) mi_X9_put lm_X9_131 clX9.1 (Nat.le_of_ble_eq_true rfl) rfl dX9_lucky_160 rfl (by decide) (Nat.le_of_ble_eq_true rfl) rfl (fun _ h10 => ?_)
  refine am_aload_n g dX9_lucky_163 rfl ?_
  refine am_getr (q := 8) (a := 9) g clX9 dX9_lucky_164 (Nat.le_of_ble_eq_true rfl) rfl (by decide) rfl (Nat.le_of_ble_eq_true rfl) lf_X9_35 ?_
  refine am_bipush g dX9_lucky_167 (am_il rfl) (am_bi rfl) ?_
  refine am_iload_n g dX9_lucky_169 rfl ?_
  refine am_imul g dX9_lucky_170 ?_
  refine am_iload_n g dX9_lucky_171 rfl ?_
  refine am_iadd g dX9_lucky_172 ?_
  refine am_iconst g dX9_lucky_173 (am_il rfl) rfl ?_
  refine am_zastoreB (ix := Int.toNat (am_w ((am_w (40 * l1)) + l3))) (nI := 160) g dX9_lucky_174 (Nat.le_of_ble_eq_true rfl) rfl rfl (Nat.zero_add _) (by decide) ?_
  refine am_gm (fun h11 => ?_)
  refine am_iconst g dX9_lucky_175 (am_il rfl) rfl ?_
  exact am_ireturn g dX9_lucky_176
def fX9_lucky_118 (K149 : Int → Int → Int → Int → Int → am_M → Option (Int × am_M)) (l1 : Int) (l2 : Int) (l3 : Int) (l4 : Int) (l5 : Int) (h : am_M) : Option (Int × am_M) := if 0 ≤ l5 ∧ l5 < 64 then if (h 9 (Int.toNat l5)) ≤ 0 then (am_b (fX9_isEnded l5 h) (fun v14 h15 => if v14 = 0 then K149 l1 l2 l3 l4 l5 h15 else am_b (fX9_isOfBye (fX9_sideOf 8) l5 h15) (fun v16 h17 => if v16 = 0 then some ((-7), h17) else K149 l1 l2 l3 l4 l5 h17))) else some ((-7), h) else none
set_option maxRecDepth 10000 in
theorem jX9_lucky_118 {D : va_G} {a : Nat → ClassId} {ad : Nat → Nat} {G : am_G} (g : am_Gd (EM D a ad) RX9 cX9_lucky 6 (some .int) 41 G) {K149 : Int → Int → Int → Int → Int → am_M → Option (Int × am_M)} (hK149 : ∀ (l1 : Int), ∀ (l2 : Int), ∀ (l3 : Int), ∀ (l4 : Int), ∀ (l5 : Int), ∀ h : am_M, am_J (EM D a ad) G 6 am_ei 149 [some (.inr (some 0)), some (.inl l1), some (.inl l2), some (.inl l3), some (.inl l4), some (.inl l5)] [] h (K149 l1 l2 l3 l4 l5 h)) : ∀ (l1 : Int), ∀ (l2 : Int), ∀ (l3 : Int), ∀ (l4 : Int), ∀ (l5 : Int), ∀ h : am_M, am_J (EM D a ad) G 6 am_ei 118 [some (.inr (some 0)), some (.inl l1), some (.inl l2), some (.inl l3), some (.inl l4), some (.inl l5)] [] h (fX9_lucky_118 K149 l1 l2 l3 l4 l5 h) := by
  intro l1 l2 l3 l4 l5 h
  unfold fX9_lucky_118
  refine am_aload_n g dX9_lucky_118 rfl ?_
  refine am_getr (q := 9) (a := 10) g clX9 dX9_lucky_119 (Nat.le_of_ble_eq_true rfl) rfl (by decide) rfl (Nat.le_of_ble_eq_true rfl) lf_X9_38 ?_
  refine am_iload g dX9_lucky_122 rfl ?_
  refine am_iaload (ix := Int.toNat l5) (nI := 64) g dX9_lucky_124 (Nat.le_of_ble_eq_true rfl) rfl rfl (Nat.zero_add _) ?_
  refine am_if_gt (tgt := 146) g dX9_lucky_125 (by decide) ?_ ?_
  · refine am_bipush g dX9_lucky_146 (am_il rfl) (am_bi rfl) ?_
    exact am_ireturn g dX9_lucky_148
  · refine am_aload_n g dX9_lucky_128 rfl ?_
    refine am_iload g dX9_lucky_129 rfl ?_
    refine am_Vi (as := [.inl l5]) (S := []) g (cX9_isEndedC l5 h) mi_X9_isEnded lm_X9_161 clX9.1 (Nat.le_of_ble_eq_true rfl) rfl dX9_lucky_131 rfl (by decide) (Nat.le_of_ble_eq_true rfl) rfl (fun v14 h15 => ?_)
    refine am_if_eq (tgt := 149) g dX9_lucky_134 (by decide) ?_ ?_
    · exact hK149 l1 l2 l3 l4 l5 h15
    · refine am_aload_n g dX9_lucky_137 rfl ?_
      refine am_iload g dX9_lucky_138 rfl ?_
      refine am_Vi (as := [.inl l5]) (S := []) g (cX9_isOfByeC l5 h15) mi_X9_isOfBye lm_X9_176 clX9.1 (Nat.le_of_ble_eq_true rfl) rfl dX9_lucky_140 rfl (by decide) (Nat.le_of_ble_eq_true rfl) rfl (fun v16 h17 => ?_)
      refine am_if_ne (tgt := 149) g dX9_lucky_143 (by decide) ?_ ?_
      · exact hK149 l1 l2 l3 l4 l5 h17
      · refine am_bipush g dX9_lucky_146 (am_il rfl) (am_bi rfl) ?_
        exact am_ireturn g dX9_lucky_148
def fX9_lucky_149 (K75 : Int → Int → Int → Int → Int → am_M → Option (Int × am_M)) (l1 : Int) (l2 : Int) (l3 : Int) (l4 : Int) (l5 : Int) (h : am_M) : Option (Int × am_M) := K75 l1 l2 l3 l4 (am_w (l5 + 1)) h
set_option maxRecDepth 10000 in
theorem jX9_lucky_149 {D : va_G} {a : Nat → ClassId} {ad : Nat → Nat} {G : am_G} (g : am_Gd (EM D a ad) RX9 cX9_lucky 6 (some .int) 41 G) {K75 : Int → Int → Int → Int → Int → am_M → Option (Int × am_M)} (hK75 : ∀ (l1 : Int), ∀ (l2 : Int), ∀ (l3 : Int), ∀ (l4 : Int), ∀ (l5 : Int), ∀ h : am_M, am_J (EM D a ad) G 6 am_ei 75 [some (.inr (some 0)), some (.inl l1), some (.inl l2), some (.inl l3), some (.inl l4), some (.inl l5)] [] h (K75 l1 l2 l3 l4 l5 h)) : ∀ (l1 : Int), ∀ (l2 : Int), ∀ (l3 : Int), ∀ (l4 : Int), ∀ (l5 : Int), ∀ h : am_M, am_J (EM D a ad) G 6 am_ei 149 [some (.inr (some 0)), some (.inl l1), some (.inl l2), some (.inl l3), some (.inl l4), some (.inl l5)] [] h (fX9_lucky_149 K75 l1 l2 l3 l4 l5 h) := by
  intro l1 l2 l3 l4 l5 h
  unfold fX9_lucky_149
  refine am_iinc g dX9_lucky_149 (by decide) rfl ?_
  refine am_goto (tgt := 75) g dX9_lucky_152 (by decide) ?_
  exact hK75 l1 l2 l3 l4 (am_w (l5 + 1)) h
def fX9_lucky_75b (K75 : Int → Int → Int → Int → Int → am_M → Option (Int × am_M)) (l1 : Int) (l2 : Int) (l3 : Int) (l4 : Int) (l5 : Int) (h : am_M) : Option (Int × am_M) := if 0 ≤ l1 ∧ l1 < 4 then if l5 < (am_w ((am_w ((am_w (16 * l1)) + (h 1 (Int.toNat l1)))) - 1)) then (am_b (fX9_sideOf 8 l5 0 h) (fun v12 h13 => if v12 = l2 then (fX9_lucky_118 (fX9_lucky_149 K75)) l1 l2 l3 l4 l5 h13 else am_b (fX9_sideOf 8 l5 1 h13) (fun v18 h19 => if v18 = l2 then (fX9_lucky_118 (fX9_lucky_149 K75)) l1 l2 l3 l4 l5 h19 else (fX9_lucky_149 K75) l1 l2 l3 l4 l5 h19))) else fX9_lucky_155 l1 l3 l4 h else none
def fX9_lucky_75 : Int → Int → Int → Int → Int → am_M → Option (Int × am_M) := am_it (fun _ _ _ _ _ _ => none) (fX9_lucky_75b) 400
set_option maxRecDepth 10000 in
theorem jX9_lucky_75b {D : va_G} {a : Nat → ClassId} {ad : Nat → Nat} {G : am_G} (g : am_Gd (EM D a ad) RX9 cX9_lucky 6 (some .int) 41 G) {K75 : Int → Int → Int → Int → Int → am_M → Option (Int × am_M)} (hK75 : ∀ (l1 : Int), ∀ (l2 : Int), ∀ (l3 : Int), ∀ (l4 : Int), ∀ (l5 : Int), ∀ h : am_M, am_J (EM D a ad) G 6 am_ei 75 [some (.inr (some 0)), some (.inl l1), some (.inl l2), some (.inl l3), some (.inl l4), some (.inl l5)] [] h (K75 l1 l2 l3 l4 l5 h)) : ∀ (l1 : Int), ∀ (l2 : Int), ∀ (l3 : Int), ∀ (l4 : Int), ∀ (l5 : Int), ∀ h : am_M, am_J (EM D a ad) G 6 am_ei 75 [some (.inr (some 0)), some (.inl l1), some (.inl l2), some (.inl l3), some (.inl l4), some (.inl l5)] [] h (fX9_lucky_75b K75 l1 l2 l3 l4 l5 h) := by
  intro l1 l2 l3 l4 l5 h
  unfold fX9_lucky_75b
  refine am_iload g dX9_lucky_75 rfl ?_
  refine am_bipush g dX9_lucky_77 (am_il rfl) (am_bi rfl) ?_
  refine am_iload_n g dX9_lucky_79 rfl ?_
  refine am_imul g dX9_lucky_80 ?_
  refine am_aload_n g dX9_lucky_81 rfl ?_
  refine am_getr (q := 1) (a := 2) g clX9 dX9_lucky_82 (Nat.le_of_ble_eq_true rfl) rfl (by decide) rfl (Nat.le_of_ble_eq_true rfl) lf_X9_13 ?_
  refine am_iload_n g dX9_lucky_85 rfl ?_
  refine am_iaload (ix := Int.toNat l1) (nI := 4) g dX9_lucky_86 (Nat.le_of_ble_eq_true rfl) rfl rfl (Nat.zero_add _) ?_
  refine am_iadd g dX9_lucky_87 ?_
  refine am_iconst g dX9_lucky_88 (am_il rfl) rfl ?_
  refine am_isub g dX9_lucky_89 ?_
  refine am_icmp_ge (tgt := 155) g dX9_lucky_90 (by decide) ?_ ?_
  · refine am_drop 2 ?_
    refine am_drop 5 ?_
    exact (jX9_lucky_155 g) l1 l3 l4 h
  · refine am_aload_n g dX9_lucky_93 rfl ?_
    refine am_iload g dX9_lucky_94 rfl ?_
    refine am_iconst g dX9_lucky_96 (am_il rfl) rfl ?_
    refine am_Vi (as := [.inl l5, .inl 0]) (S := []) g (cX9_sideOfC l5 0 h) mi_X9_sideOf lm_X9_173 clX9.1 (Nat.le_of_ble_eq_true rfl) rfl dX9_lucky_97 rfl (by decide) (Nat.le_of_ble_eq_true rfl) rfl (fun v12 h13 => ?_)
    refine am_iload_n g dX9_lucky_100 rfl ?_
    refine am_icmp_eq (tgt := 118) g dX9_lucky_101 (by decide) ?_ ?_
    · exact (jX9_lucky_118 g (jX9_lucky_149 g hK75)) l1 l2 l3 l4 l5 h13
    · refine am_aload_n g dX9_lucky_104 rfl ?_
      refine am_iload g dX9_lucky_105 rfl ?_
      refine am_iconst g dX9_lucky_107 (am_il rfl) rfl ?_
      refine am_Vi (as := [.inl l5, .inl 1]) (S := []) g (cX9_sideOfC l5 1 h13) mi_X9_sideOf lm_X9_173 clX9.1 (Nat.le_of_ble_eq_true rfl) rfl dX9_lucky_108 rfl (by decide) (Nat.le_of_ble_eq_true rfl) rfl (fun v18 h19 => ?_)
      refine am_iload_n g dX9_lucky_111 rfl ?_
      refine am_icmp_eq (tgt := 118) g dX9_lucky_112 (by decide) ?_ ?_
      · exact (jX9_lucky_118 g (jX9_lucky_149 g hK75)) l1 l2 l3 l4 l5 h19
      · refine am_goto (tgt := 149) g dX9_lucky_115 (by decide) ?_
        exact (jX9_lucky_149 g hK75) l1 l2 l3 l4 l5 h19
theorem jX9_lucky_75 {D : va_G} {a : Nat → ClassId} {ad : Nat → Nat} {G : am_G} (g : am_Gd (EM D a ad) RX9 cX9_lucky 6 (some .int) 41 G) : ∀ (l1 : Int), ∀ (l2 : Int), ∀ (l3 : Int), ∀ (l4 : Int), ∀ (l5 : Int), ∀ h : am_M, am_J (EM D a ad) G 6 am_ei 75 [some (.inr (some 0)), some (.inl l1), some (.inl l2), some (.inl l3), some (.inl l4), some (.inl l5)] [] h (fX9_lucky_75 l1 l2 l3 l4 l5 h) := by
  unfold fX9_lucky_75
  generalize 400 = n
  induction n with
  | zero => intro l1 l2 l3 l4 l5 h; exact am_jn
  | succ n ih => exact jX9_lucky_75b g ih
def fX9_lucky (a1 : Int) (a2 : Int) (a3 : Int) (h : am_M) : Option (Int × am_M) := am_b (fX9_isDraw a1 h) (fun v1 h2 => if v1 = 0 then some ((-1), h2) else am_b (fX9_isPlayer a2 h2) (fun v3 h4 => if v3 = 0 then some ((-1), h4) else am_b (fX9_isPlayer a3 h4) (fun v5 h6 => if v5 = 0 then some ((-1), h6) else if 0 ≤ a1 ∧ a1 < 4 then if (h6 5 (Int.toNat a1)) = 0 then some ((-4), h6) else if 0 ≤ (am_w ((am_w (40 * a1)) + a3)) ∧ (am_w ((am_w (40 * a1)) + a3)) < 160 then if (h6 8 (Int.toNat (am_w ((am_w (40 * a1)) + a3)))) = 0 then (am_b (fX9_placeOf a1 a2 h6) (fun v7 h8 => if v7 < 0 then some ((-5), h8) else am_l (am_w (16 * a1)) (fun x9 => fX9_lucky_75 a1 a2 a3 v7 x9 h8))) else some ((-3), h6) else none else none)))
set_option maxRecDepth 10000 in
theorem cX9_luckyC {D : va_G} {a : Nat → ClassId} {ad : Nat → Nat} (a1 : Int) (a2 : Int) (a3 : Int) (h : am_M) : am_C (EM D a ad) yX9_lucky cX9_lucky 6 (some .int) 41 [.inr (some 0), .inl a1, .inl a2, .inl a3] h am_ei (fX9_lucky a1 a2 a3 h) := by
  refine am_ofJ (L := [some (.inr (some 0)), some (.inl a1), some (.inl a2), some (.inl a3), none, none]) (by decide) rfl (Nat.le_of_ble_eq_true rfl) (fun G g => ?_)
  have g : am_Gd (EM D a ad) RX9 cX9_lucky 6 (some .int) 41 G := g
  unfold fX9_lucky
  refine am_aload_n g dX9_lucky_0 rfl ?_
  refine am_iload_n g dX9_lucky_1 rfl ?_
  refine am_Vi (as := [.inl a1]) (S := []) g (cX9_isDrawC a1 h) mi_X9_isDraw lm_X9_123 clX9.1 (Nat.le_of_ble_eq_true rfl) rfl dX9_lucky_2 rfl (by decide) (Nat.le_of_ble_eq_true rfl) rfl (fun v1 h2 => ?_)
  refine am_if_eq (tgt := 22) g dX9_lucky_5 (by decide) ?_ ?_
  · refine am_iconst g dX9_lucky_22 (am_il rfl) rfl ?_
    exact am_ireturn g dX9_lucky_23
  · refine am_iload_n g dX9_lucky_8 rfl ?_
    refine am_Si (as := [.inl a2]) (S := []) g (cX9_isPlayerC a2 h2) mi_X9_isPlayer lm_X9_115 dX9_lucky_9 rfl (by decide) (Nat.le_of_ble_eq_true rfl) rfl (fun v3 h4 => ?_)
    refine am_if_eq (tgt := 22) g dX9_lucky_12 (by decide) ?_ ?_
    · refine am_iconst g dX9_lucky_22 (am_il rfl) rfl ?_
      exact am_ireturn g dX9_lucky_23
    · refine am_iload_n g dX9_lucky_15 rfl ?_
      refine am_Si (as := [.inl a3]) (S := []) g (cX9_isPlayerC a3 h4) mi_X9_isPlayer lm_X9_115 dX9_lucky_16 rfl (by decide) (Nat.le_of_ble_eq_true rfl) rfl (fun v5 h6 => ?_)
      refine am_if_ne (tgt := 24) g dX9_lucky_19 (by decide) ?_ ?_
      · refine am_aload_n g dX9_lucky_24 rfl ?_
        refine am_getr (q := 6) (a := 7) g clX9 dX9_lucky_25 (Nat.le_of_ble_eq_true rfl) rfl (by decide) rfl (Nat.le_of_ble_eq_true rfl) lf_X9_28 ?_
        refine am_iload_n g dX9_lucky_28 rfl ?_
        refine am_zaload (ix := Int.toNat a1) (nI := 4) g dX9_lucky_29 (Nat.le_of_ble_eq_true rfl) rfl rfl (Nat.zero_add _) ?_
        refine am_if_ne (tgt := 36) g dX9_lucky_30 (by decide) ?_ ?_
        · refine am_aload_n g dX9_lucky_36 rfl ?_
          refine am_getr (q := 8) (a := 9) g clX9 dX9_lucky_37 (Nat.le_of_ble_eq_true rfl) rfl (by decide) rfl (Nat.le_of_ble_eq_true rfl) lf_X9_35 ?_
          refine am_bipush g dX9_lucky_40 (am_il rfl) (am_bi rfl) ?_
          refine am_iload_n g dX9_lucky_42 rfl ?_
          refine am_imul g dX9_lucky_43 ?_
          refine am_iload_n g dX9_lucky_44 rfl ?_
          refine am_iadd g dX9_lucky_45 ?_
          refine am_zaload (ix := Int.toNat (am_w ((am_w (40 * a1)) + a3))) (nI := 160) g dX9_lucky_46 (Nat.le_of_ble_eq_true rfl) rfl rfl (Nat.zero_add _) ?_
          refine am_if_eq (tgt := 53) g dX9_lucky_47 (by decide) ?_ ?_
          · refine am_aload_n g dX9_lucky_53 rfl ?_
            refine am_iload_n g dX9_lucky_54 rfl ?_
            refine am_iload_n g dX9_lucky_55 rfl ?_
            refine am_Vi (as := [.inl a1, .inl a2]) (S := []) g (cX9_placeOfC a1 a2 h6) mi_X9_placeOf lm_X9_170 clX9.1 (Nat.le_of_ble_eq_true rfl) rfl dX9_lucky_56 rfl (by decide) (Nat.le_of_ble_eq_true rfl) rfl (fun v7 h8 => ?_)
            refine am_istore g dX9_lucky_59 (by decide) ?_
            refine am_iload g dX9_lucky_61 rfl ?_
            refine am_if_ge (tgt := 69) g dX9_lucky_63 (by decide) ?_ ?_
            · refine am_bipush g dX9_lucky_69 (am_il rfl) (am_bi rfl) ?_
              refine am_iload_n g dX9_lucky_71 rfl ?_
              refine am_imul g dX9_lucky_72 ?_
              refine am_gv (fun x9 => ?_)
              refine am_istore g dX9_lucky_73 (by decide) ?_
              exact (jX9_lucky_75 g) a1 a2 a3 v7 x9 h8
            · refine am_bipush g dX9_lucky_66 (am_il rfl) (am_bi rfl) ?_
              exact am_ireturn g dX9_lucky_68
          · refine am_bipush g dX9_lucky_50 (am_il rfl) (am_bi rfl) ?_
            exact am_ireturn g dX9_lucky_52
        · refine am_bipush g dX9_lucky_33 (am_il rfl) (am_bi rfl) ?_
          exact am_ireturn g dX9_lucky_35
      · refine am_iconst g dX9_lucky_22 (am_il rfl) rfl ?_
        exact am_ireturn g dX9_lucky_23
def fX9_isMatch (a1 : Int) (h : am_M) : Option (Int × am_M) := if a1 < 0 then some (0, h) else am_b (fX9_isDraw (am_w (Int.tdiv a1 16)) h) (fun v1 h2 => if v1 = 0 then some (0, h2) else if 0 ≤ (am_w (Int.tdiv a1 16)) ∧ (am_w (Int.tdiv a1 16)) < 4 then if (h2 5 (Int.toNat (am_w (Int.tdiv a1 16)))) = 0 then some (0, h2) else if 0 ≤ (am_w (Int.tdiv a1 16)) ∧ (am_w (Int.tdiv a1 16)) < 4 then if (Int.tmod a1 16) < (am_w ((h2 1 (Int.toNat (am_w (Int.tdiv a1 16)))) - 1)) then some (1, h2) else some (0, h2) else none else none)
set_option maxRecDepth 10000 in
theorem cX9_isMatchC {D : va_G} {a : Nat → ClassId} {ad : Nat → Nat} (a1 : Int) (h : am_M) : am_C (EM D a ad) yX9_isMatch cX9_isMatch 2 (some .boolean) 3 [.inr (some 0), .inl a1] h am_ei (fX9_isMatch a1 h) := by
  refine am_ofJ (L := [some (.inr (some 0)), some (.inl a1)]) (by decide) rfl (Nat.le_of_ble_eq_true rfl) (fun G g => ?_)
  have g : am_Gd (EM D a ad) RX9 cX9_isMatch 2 (some .boolean) 3 G := g
  unfold fX9_isMatch
  refine am_iload_n g dX9_isMatch_0 rfl ?_
  refine am_if_lt (tgt := 49) g dX9_isMatch_1 (by decide) ?_ ?_
  · refine am_iconst g dX9_isMatch_49 (am_il rfl) rfl ?_
    exact am_zreturn g dX9_isMatch_50 (by decide)
  · refine am_aload_n g dX9_isMatch_4 rfl ?_
    refine am_iload_n g dX9_isMatch_5 rfl ?_
    refine am_bipush g dX9_isMatch_6 (am_il rfl) (am_bi rfl) ?_
    refine am_idiv g dX9_isMatch_8 (by decide) ?_
    refine am_Vi (as := [.inl (am_w (Int.tdiv a1 16))]) (S := []) g (cX9_isDrawC (am_w (Int.tdiv a1 16)) h) mi_X9_isDraw lm_X9_123 clX9.1 (Nat.le_of_ble_eq_true rfl) rfl dX9_isMatch_9 rfl (by decide) (Nat.le_of_ble_eq_true rfl) rfl (fun v1 h2 => ?_)
    refine am_if_eq (tgt := 49) g dX9_isMatch_12 (by decide) ?_ ?_
    · refine am_iconst g dX9_isMatch_49 (am_il rfl) rfl ?_
      exact am_zreturn g dX9_isMatch_50 (by decide)
    · refine am_aload_n g dX9_isMatch_15 rfl ?_
      refine am_getr (q := 6) (a := 7) g clX9 dX9_isMatch_16 (Nat.le_of_ble_eq_true rfl) rfl (by decide) rfl (Nat.le_of_ble_eq_true rfl) lf_X9_28 ?_
      refine am_iload_n g dX9_isMatch_19 rfl ?_
      refine am_bipush g dX9_isMatch_20 (am_il rfl) (am_bi rfl) ?_
      refine am_idiv g dX9_isMatch_22 (by decide) ?_
      refine am_zaload (ix := Int.toNat (am_w (Int.tdiv a1 16))) (nI := 4) g dX9_isMatch_23 (Nat.le_of_ble_eq_true rfl) rfl rfl (Nat.zero_add _) ?_
      refine am_if_eq (tgt := 49) g dX9_isMatch_24 (by decide) ?_ ?_
      · refine am_iconst g dX9_isMatch_49 (am_il rfl) rfl ?_
        exact am_zreturn g dX9_isMatch_50 (by decide)
      · refine am_iload_n g dX9_isMatch_27 rfl ?_
        refine am_bipush g dX9_isMatch_28 (am_il rfl) (am_bi rfl) ?_
        refine am_irem g dX9_isMatch_30 (by decide) ?_
        refine am_aload_n g dX9_isMatch_31 rfl ?_
        refine am_getr (q := 1) (a := 2) g clX9 dX9_isMatch_32 (Nat.le_of_ble_eq_true rfl) rfl (by decide) rfl (Nat.le_of_ble_eq_true rfl) lf_X9_13 ?_
        refine am_iload_n g dX9_isMatch_35 rfl ?_
        refine am_bipush g dX9_isMatch_36 (am_il rfl) (am_bi rfl) ?_
        refine am_idiv g dX9_isMatch_38 (by decide) ?_
        refine am_iaload (ix := Int.toNat (am_w (Int.tdiv a1 16))) (nI := 4) g dX9_isMatch_39 (Nat.le_of_ble_eq_true rfl) rfl rfl (Nat.zero_add _) ?_
        refine am_iconst g dX9_isMatch_40 (am_il rfl) rfl ?_
        refine am_isub g dX9_isMatch_41 ?_
        refine am_icmp_ge (tgt := 49) g dX9_isMatch_42 (by decide) ?_ ?_
        · refine am_iconst g dX9_isMatch_49 (am_il rfl) rfl ?_
          exact am_zreturn g dX9_isMatch_50 (by decide)
        · refine am_iconst g dX9_isMatch_45 (am_il rfl) rfl ?_
          refine am_goto (tgt := 50) g dX9_isMatch_46 (by decide) ?_
          exact am_zreturn g dX9_isMatch_50 (by decide)
def fX9_fedBy (a1 : Int) (h : am_M) : Option (Int × am_M) := am_l (am_w (Int.tdiv a1 16)) (fun x1 => am_b (fX9_roundOf x1 (Int.tmod a1 16) h) (fun v2 h3 => am_b (fX9_rounds x1 h3) (fun v4 h5 => if v2 = (am_w (v4 - 1)) then some ((-1), h5) else am_b (fX9_firstOf x1 (am_w (v2 + 1)) h5) (fun v6 h7 => am_b (fX9_firstOf x1 v2 h7) (fun v8 h9 => some (am_w ((am_w ((am_w (16 * x1)) + v6)) + (am_w (Int.tdiv (am_w ((Int.tmod a1 16) - v8)) 2))), h9))))))
set_option maxRecDepth 10000 in
theorem cX9_fedByC {D : va_G} {a : Nat → ClassId} {ad : Nat → Nat} (a1 : Int) (h : am_M) : am_C (EM D a ad) yX9_fedBy cX9_fedBy 4 (some .int) 2 [.inr (some 0), .inl a1] h am_ei (fX9_fedBy a1 h) := by
  refine am_ofJ (L := [some (.inr (some 0)), some (.inl a1), none, none]) (by decide) rfl (Nat.le_of_ble_eq_true rfl) (fun G g => ?_)
  have g : am_Gd (EM D a ad) RX9 cX9_fedBy 4 (some .int) 2 G := g
  unfold fX9_fedBy
  refine am_iload_n g dX9_fedBy_0 rfl ?_
  refine am_bipush g dX9_fedBy_1 (am_il rfl) (am_bi rfl) ?_
  refine am_idiv g dX9_fedBy_3 (by decide) ?_
  refine am_gv (fun x1 => ?_)
  refine am_istore_n g dX9_fedBy_4 (by decide) ?_
  refine am_aload_n g dX9_fedBy_5 rfl ?_
  refine am_iload_n g dX9_fedBy_6 rfl ?_
  refine am_iload_n g dX9_fedBy_7 rfl ?_
  refine am_bipush g dX9_fedBy_8 (am_il rfl) (am_bi rfl) ?_
  refine am_irem g dX9_fedBy_10 (by decide) ?_
  refine am_Vi (as := [.inl x1, .inl (Int.tmod a1 16)]) (S := []) g (cX9_roundOfC x1 (Int.tmod a1 16) h) mi_X9_roundOf lm_X9_167 clX9.1 (Nat.le_of_ble_eq_true rfl) rfl dX9_fedBy_11 rfl (by decide) (Nat.le_of_ble_eq_true rfl) rfl (fun v2 h3 => ?_)
  refine am_istore_n g dX9_fedBy_14 (by decide) ?_
  refine am_iload_n g dX9_fedBy_15 rfl ?_
  refine am_aload_n g dX9_fedBy_16 rfl ?_
  refine am_iload_n g dX9_fedBy_17 rfl ?_
  refine am_Vi (as := [.inl x1]) (S := [.inl v2]) g (cX9_roundsC x1 h3) mi_X9_rounds lm_X9_164 clX9.1 (Nat.le_of_ble_eq_true rfl) rfl dX9_fedBy_18 rfl (by decide) (Nat.le_of_ble_eq_true rfl) rfl (fun v4 h5 => ?_)
  refine am_iconst g dX9_fedBy_21 (am_il rfl) rfl ?_
  refine am_isub g dX9_fedBy_22 ?_
  refine am_icmp_ne (tgt := 28) g dX9_fedBy_23 (by decide) ?_ ?_
  · refine am_bipush g dX9_fedBy_28 (am_il rfl) (am_bi rfl) ?_
    refine am_iload_n g dX9_fedBy_30 rfl ?_
    refine am_imul g dX9_fedBy_31 ?_
    refine am_aload_n g dX9_fedBy_32 rfl ?_
    refine am_iload_n g dX9_fedBy_33 rfl ?_
    refine am_iload_n g dX9_fedBy_34 rfl ?_
    refine am_iconst g dX9_fedBy_35 (am_il rfl) rfl ?_
    refine am_iadd g dX9_fedBy_36 ?_
    refine am_Vi (as := [.inl x1, .inl (am_w (v2 + 1))]) (S := [.inl (am_w (16 * x1))]) g (cX9_firstOfC x1 (am_w (v2 + 1)) h5) mi_X9_firstOf lm_X9_179 clX9.1 (Nat.le_of_ble_eq_true rfl) rfl dX9_fedBy_37 rfl (by decide) (Nat.le_of_ble_eq_true rfl) rfl (fun v6 h7 => ?_)
    refine am_iadd g dX9_fedBy_40 ?_
    refine am_iload_n g dX9_fedBy_41 rfl ?_
    refine am_bipush g dX9_fedBy_42 (am_il rfl) (am_bi rfl) ?_
    refine am_irem g dX9_fedBy_44 (by decide) ?_
    refine am_aload_n g dX9_fedBy_45 rfl ?_
    refine am_iload_n g dX9_fedBy_46 rfl ?_
    refine am_iload_n g dX9_fedBy_47 rfl ?_
    refine am_Vi (as := [.inl x1, .inl v2]) (S := [.inl (Int.tmod a1 16), .inl (am_w ((am_w (16 * x1)) + v6))]) g (cX9_firstOfC x1 v2 h7) mi_X9_firstOf lm_X9_179 clX9.1 (Nat.le_of_ble_eq_true rfl) rfl dX9_fedBy_48 rfl (by decide) (Nat.le_of_ble_eq_true rfl) rfl (fun v8 h9 => ?_)
    refine am_isub g dX9_fedBy_51 ?_
    refine am_iconst g dX9_fedBy_52 (am_il rfl) rfl ?_
    refine am_idiv g dX9_fedBy_53 (by decide) ?_
    refine am_iadd g dX9_fedBy_54 ?_
    exact am_ireturn g dX9_fedBy_55
  · refine am_iconst g dX9_fedBy_26 (am_il rfl) rfl ?_
    exact am_ireturn g dX9_fedBy_27
def fX9_isKnown (a1 : Int) (h : am_M) : Option (Int × am_M) := am_b (fX9_sideOf 8 a1 0 h) (fun v1 h2 => if v1 < 0 then some (0, h2) else am_b (fX9_sideOf 8 a1 1 h2) (fun v3 h4 => if v3 < 0 then some (0, h4) else some (1, h4)))
set_option maxRecDepth 10000 in
theorem cX9_isKnownC {D : va_G} {a : Nat → ClassId} {ad : Nat → Nat} (a1 : Int) (h : am_M) : am_C (EM D a ad) yX9_isKnown cX9_isKnown 2 (some .boolean) 40 [.inr (some 0), .inl a1] h am_ei (fX9_isKnown a1 h) := by
  refine am_ofJ (L := [some (.inr (some 0)), some (.inl a1)]) (by decide) rfl (Nat.le_of_ble_eq_true rfl) (fun G g => ?_)
  have g : am_Gd (EM D a ad) RX9 cX9_isKnown 2 (some .boolean) 40 G := g
  unfold fX9_isKnown
  refine am_aload_n g dX9_isKnown_0 rfl ?_
  refine am_iload_n g dX9_isKnown_1 rfl ?_
  refine am_iconst g dX9_isKnown_2 (am_il rfl) rfl ?_
  refine am_Vi (as := [.inl a1, .inl 0]) (S := []) g (cX9_sideOfC a1 0 h) mi_X9_sideOf lm_X9_173 clX9.1 (Nat.le_of_ble_eq_true rfl) rfl dX9_isKnown_3 rfl (by decide) (Nat.le_of_ble_eq_true rfl) rfl (fun v1 h2 => ?_)
  refine am_if_lt (tgt := 22) g dX9_isKnown_6 (by decide) ?_ ?_
  · refine am_iconst g dX9_isKnown_22 (am_il rfl) rfl ?_
    exact am_zreturn g dX9_isKnown_23 (by decide)
  · refine am_aload_n g dX9_isKnown_9 rfl ?_
    refine am_iload_n g dX9_isKnown_10 rfl ?_
    refine am_iconst g dX9_isKnown_11 (am_il rfl) rfl ?_
    refine am_Vi (as := [.inl a1, .inl 1]) (S := []) g (cX9_sideOfC a1 1 h2) mi_X9_sideOf lm_X9_173 clX9.1 (Nat.le_of_ble_eq_true rfl) rfl dX9_isKnown_12 rfl (by decide) (Nat.le_of_ble_eq_true rfl) rfl (fun v3 h4 => ?_)
    refine am_if_lt (tgt := 22) g dX9_isKnown_15 (by decide) ?_ ?_
    · refine am_iconst g dX9_isKnown_22 (am_il rfl) rfl ?_
      exact am_zreturn g dX9_isKnown_23 (by decide)
    · refine am_iconst g dX9_isKnown_18 (am_il rfl) rfl ?_
      refine am_goto (tgt := 23) g dX9_isKnown_19 (by decide) ?_
      exact am_zreturn g dX9_isKnown_23 (by decide)
def fX9_side (a1 : Int) (a2 : Int) (h : am_M) : Option (Int × am_M) := am_b (fX9_isMatch a1 h) (fun v1 h2 => if v1 = 0 then some ((-1), h2) else am_b (fX9_in a2 0 1 h2) (fun v3 h4 => if v3 = 0 then some ((-1), h4) else am_b (fX9_sideOf 8 a1 a2 h4) (fun v5 h6 => some (max (-1) v5, h6))))
set_option maxRecDepth 10000 in
theorem cX9_sideC {D : va_G} {a : Nat → ClassId} {ad : Nat → Nat} (a1 : Int) (a2 : Int) (h : am_M) : am_C (EM D a ad) yX9_side cX9_side 3 (some .int) 40 [.inr (some 0), .inl a1, .inl a2] h am_ei (fX9_side a1 a2 h) := by
  refine am_ofJ (L := [some (.inr (some 0)), some (.inl a1), some (.inl a2)]) (by decide) rfl (Nat.le_of_ble_eq_true rfl) (fun G g => ?_)
  have g : am_Gd (EM D a ad) RX9 cX9_side 3 (some .int) 40 G := g
  unfold fX9_side
  refine am_aload_n g dX9_side_0 rfl ?_
  refine am_iload_n g dX9_side_1 rfl ?_
  refine am_Vi (as := [.inl a1]) (S := []) g (cX9_isMatchC a1 h) mi_X9_isMatch lm_X9_191 clX9.1 (Nat.le_of_ble_eq_true rfl) rfl dX9_side_2 rfl (by decide) (Nat.le_of_ble_eq_true rfl) rfl (fun v1 h2 => ?_)
  refine am_if_eq (tgt := 17) g dX9_side_5 (by decide) ?_ ?_
  · refine am_iconst g dX9_side_17 (am_il rfl) rfl ?_
    exact am_ireturn g dX9_side_18
  · refine am_iload_n g dX9_side_8 rfl ?_
    refine am_iconst g dX9_side_9 (am_il rfl) rfl ?_
    refine am_iconst g dX9_side_10 (am_il rfl) rfl ?_
    refine am_Si (as := [.inl a2, .inl 0, .inl 1]) (S := []) g (cX9_inC a2 0 1 h2) mi_X9_in lm_X9_111 dX9_side_11 rfl (by decide) (Nat.le_of_ble_eq_true rfl) rfl (fun v3 h4 => ?_)
    refine am_if_ne (tgt := 19) g dX9_side_14 (by decide) ?_ ?_
    · refine am_iconst g dX9_side_19 (am_il rfl) rfl ?_
      refine am_aload_n g dX9_side_20 rfl ?_
      refine am_iload_n g dX9_side_21 rfl ?_
      refine am_iload_n g dX9_side_22 rfl ?_
      refine am_Vi (as := [.inl a1, .inl a2]) (S := [.inl (-1)]) g (cX9_sideOfC a1 a2 h4) mi_X9_sideOf lm_X9_173 clX9.1 (Nat.le_of_ble_eq_true rfl) rfl dX9_side_23 rfl (by decide) (Nat.le_of_ble_eq_true rfl) rfl (fun v5 h6 => ?_)
      refine am_max g lm_X9_194 l_max1 l_max2 l_max3 dX9_side_26 (by decide) (Nat.le_of_ble_eq_true rfl) ?_
      exact am_ireturn g dX9_side_29
    · refine am_iconst g dX9_side_17 (am_il rfl) rfl ?_
      exact am_ireturn g dX9_side_18
def fX9_point (a1 : Int) (a2 : Int) (h : am_M) : Option (Int × am_M) := am_b (fX9_isMatch a1 h) (fun v1 h2 => if v1 = 0 then some ((-1), h2) else am_b (fX9_in a2 0 1 h2) (fun v3 h4 => if v3 = 0 then some ((-1), h4) else am_b (fX9_isEnded a1 h4) (fun v5 h6 => if v5 = 0 then (am_b (fX9_isKnown a1 h6) (fun v7 h8 => if v7 = 0 then some ((-5), h8) else if 0 ≤ a1 ∧ a1 < 64 then if (h8 9 (Int.toNat a1)) = 300 then some ((-2), h8) else if 0 ≤ a1 ∧ a1 < 64 then if -128 ≤ a2 ∧ a2 < 128 then if -128 ≤ a2 ∧ a2 < 128 then if 0 ≤ (am_w ((am_w (300 * a1)) + (h8 9 (Int.toNat a1)))) ∧ (am_w ((am_w (300 * a1)) + (h8 9 (Int.toNat a1)))) < 19200 then am_l (am_up h8 23 (Int.toNat (am_w ((am_w (300 * a1)) + (h8 9 (Int.toNat a1))))) a2) (fun h9 => if 0 ≤ a1 ∧ a1 < 64 then if 0 ≤ a1 ∧ a1 < 64 then am_l (am_up h9 9 (Int.toNat a1) (am_w ((h9 9 (Int.toNat a1)) + 1))) (fun h10 => if 0 ≤ a1 ∧ a1 < 64 then am_b (fX9_replay a1 (h10 9 (Int.toNat a1)) h10) (fun _ h11 => some (h11 51 0, h11)) else none) else none else none) else none else none else none else none else none)) else some ((-6), h6))))
set_option maxRecDepth 10000 in
theorem cX9_pointC {D : va_G} {a : Nat → ClassId} {ad : Nat → Nat} (a1 : Int) (a2 : Int) (h : am_M) : am_C (EM D a ad) yX9_point cX9_point 3 (some .int) 41 [.inr (some 0), .inl a1, .inl a2] h am_ei (fX9_point a1 a2 h) := by
  refine am_ofJ (L := [some (.inr (some 0)), some (.inl a1), some (.inl a2)]) (by decide) rfl (Nat.le_of_ble_eq_true rfl) (fun G g => ?_)
  have g : am_Gd (EM D a ad) RX9 cX9_point 3 (some .int) 41 G := g
  unfold fX9_point
  refine am_aload_n g dX9_point_0 rfl ?_
  refine am_iload_n g dX9_point_1 rfl ?_
  refine am_Vi (as := [.inl a1]) (S := []) g (cX9_isMatchC a1 h) mi_X9_isMatch lm_X9_191 clX9.1 (Nat.le_of_ble_eq_true rfl) rfl dX9_point_2 rfl (by decide) (Nat.le_of_ble_eq_true rfl) rfl (fun v1 h2 => ?_)
  refine am_if_eq (tgt := 17) g dX9_point_5 (by decide) ?_ ?_
  · refine am_iconst g dX9_point_17 (am_il rfl) rfl ?_
    exact am_ireturn g dX9_point_18
  · refine am_iload_n g dX9_point_8 rfl ?_
    refine am_iconst g dX9_point_9 (am_il rfl) rfl ?_
    refine am_iconst g dX9_point_10 (am_il rfl) rfl ?_
    refine am_Si (as := [.inl a2, .inl 0, .inl 1]) (S := []) g (cX9_inC a2 0 1 h2) mi_X9_in lm_X9_111 dX9_point_11 rfl (by decide) (Nat.le_of_ble_eq_true rfl) rfl (fun v3 h4 => ?_)
    refine am_if_ne (tgt := 19) g dX9_point_14 (by decide) ?_ ?_
    · refine am_aload_n g dX9_point_19 rfl ?_
      refine am_iload_n g dX9_point_20 rfl ?_
      refine am_Vi (as := [.inl a1]) (S := []) g (cX9_isEndedC a1 h4) mi_X9_isEnded lm_X9_161 clX9.1 (Nat.le_of_ble_eq_true rfl) rfl dX9_point_21 rfl (by decide) (Nat.le_of_ble_eq_true rfl) rfl (fun v5 h6 => ?_)
      refine am_if_eq (tgt := 30) g dX9_point_24 (by decide) ?_ ?_
      · refine am_aload_n g dX9_point_30 rfl ?_
        refine am_iload_n g dX9_point_31 rfl ?_
        refine am_Vi (as := [.inl a1]) (S := []) g (cX9_isKnownC a1 h6) mi_X9_isKnown lm_X9_214 clX9.1 (Nat.le_of_ble_eq_true rfl) rfl dX9_point_32 rfl (by decide) (Nat.le_of_ble_eq_true rfl) rfl (fun v7 h8 => ?_)
        refine am_if_ne (tgt := 41) g dX9_point_35 (by decide) ?_ ?_
        · refine am_aload_n g dX9_point_41 rfl ?_
          refine am_getr (q := 9) (a := 10) g clX9 dX9_point_42 (Nat.le_of_ble_eq_true rfl) rfl (by decide) rfl (Nat.le_of_ble_eq_true rfl) lf_X9_38 ?_
          refine am_iload_n g dX9_point_45 rfl ?_
          refine am_iaload (ix := Int.toNat a1) (nI := 64) g dX9_point_46 (Nat.le_of_ble_eq_true rfl) rfl rfl (Nat.zero_add _) ?_
          refine am_sipush g dX9_point_47 (am_il rfl) (am_si rfl) ?_
          refine am_icmp_ne (tgt := 56) g dX9_point_50 (by decide) ?_ ?_
          · refine am_aload_n g dX9_point_56 rfl ?_
            refine am_getr (q := 10) (a := 11) g clX9 dX9_point_57 (Nat.le_of_ble_eq_true rfl) rfl (by decide) rfl (Nat.le_of_ble_eq_true rfl) lf_X9_41 ?_
            refine am_sipush g dX9_point_60 (am_il rfl) (am_si rfl) ?_
            refine am_iload_n g dX9_point_63 rfl ?_
            refine am_imul g dX9_point_64 ?_
            refine am_aload_n g dX9_point_65 rfl ?_
            refine am_getr (q := 9) (a := 10) g clX9 dX9_point_66 (Nat.le_of_ble_eq_true rfl) rfl (by decide) rfl (Nat.le_of_ble_eq_true rfl) lf_X9_38 ?_
            refine am_iload_n g dX9_point_69 rfl ?_
            refine am_iaload (ix := Int.toNat a1) (nI := 64) g dX9_point_70 (Nat.le_of_ble_eq_true rfl) rfl rfl (Nat.zero_add _) ?_
            refine am_iadd g dX9_point_71 ?_
            refine am_iload_n g dX9_point_72 rfl ?_
            refine am_i2b g dX9_point_73 ?_
            refine am_bastore (ix := Int.toNat (am_w ((am_w (300 * a1)) + (h8 9 (Int.toNat a1))))) (nI := 19200) g dX9_point_74 (Nat.le_of_ble_eq_true rfl) rfl rfl (Nat.zero_add _) ?_
            refine am_gm (fun h9 => ?_)
            refine am_aload_n g dX9_point_75 rfl ?_
            refine am_getr (q := 9) (a := 10) g clX9 dX9_point_76 (Nat.le_of_ble_eq_true rfl) rfl (by decide) rfl (Nat.le_of_ble_eq_true rfl) lf_X9_38 ?_
            refine am_iload_n g dX9_point_79 rfl ?_
            refine am_dup2 g dX9_point_80 ?_
            refine am_iaload (ix := Int.toNat a1) (nI := 64) g dX9_point_81 (Nat.le_of_ble_eq_true rfl) rfl rfl (Nat.zero_add _) ?_
            refine am_iconst g dX9_point_82 (am_il rfl) rfl ?_
            refine am_iadd g dX9_point_83 ?_
            refine am_iastore (ix := Int.toNat a1) (nI := 64) g dX9_point_84 (Nat.le_of_ble_eq_true rfl) rfl rfl (Nat.zero_add _) ?_
            refine am_gm (fun h10 => ?_)
            refine am_aload_n g dX9_point_85 rfl ?_
            refine am_iload_n g dX9_point_86 rfl ?_
            refine am_aload_n g dX9_point_87 rfl ?_
            refine am_getr (q := 9) (a := 10) g clX9 dX9_point_88 (Nat.le_of_ble_eq_true rfl) rfl (by decide) rfl (Nat.le_of_ble_eq_true rfl) lf_X9_38 ?_
            refine am_iload_n g dX9_point_91 rfl ?_
            refine am_iaload (ix := Int.toNat a1) (nI := 64) g dX9_point_92 (Nat.le_of_ble_eq_true rfl) rfl rfl (Nat.zero_add _) ?_
            refine am_Vv (as := [.inl a1, .inl (h10 9 (Int.toNat a1))]) (S := []) g (cX9_replayC a1 (h10 9 (Int.toNat a1)) h10) mi_X9_replay lm_X9_188 clX9.1 (Nat.le_of_ble_eq_true rfl) rfl dX9_point_93 rfl (by decide) (Nat.le_of_ble_eq_true rfl) rfl (fun _ h11 => ?_)
            refine am_aload_n g dX9_point_96 rfl ?_
            refine am_geti (q := 32) (kd := 51) (ix := 0) g clX9 dX9_point_97 (Nat.le_of_ble_eq_true rfl) rfl (by decide) rfl lf_X9_208 ?_
            exact am_ireturn g dX9_point_100
          · refine am_bipush g dX9_point_53 (am_il rfl) (am_bi rfl) ?_
            exact am_ireturn g dX9_point_55
        · refine am_bipush g dX9_point_38 (am_il rfl) (am_bi rfl) ?_
          exact am_ireturn g dX9_point_40
      · refine am_bipush g dX9_point_27 (am_il rfl) (am_bi rfl) ?_
        exact am_ireturn g dX9_point_29
    · refine am_iconst g dX9_point_17 (am_il rfl) rfl ?_
      exact am_ireturn g dX9_point_18
def fX9_isLater (a1 : Int) (h : am_M) : Option (Int × am_M) := am_b (fX9_fedBy a1 h) (fun v1 h2 => if v1 < 0 then some (0, h2) else if 0 ≤ v1 ∧ v1 < 64 then if (h2 9 (Int.toNat v1)) ≤ 0 then (am_b (fX9_isEnded v1 h2) (fun v3 h4 => if v3 = 0 then some (0, h4) else some (1, h4))) else some (1, h2) else none)
set_option maxRecDepth 10000 in
theorem cX9_isLaterC {D : va_G} {a : Nat → ClassId} {ad : Nat → Nat} (a1 : Int) (h : am_M) : am_C (EM D a ad) yX9_isLater cX9_isLater 3 (some .boolean) 41 [.inr (some 0), .inl a1] h am_ei (fX9_isLater a1 h) := by
  refine am_ofJ (L := [some (.inr (some 0)), some (.inl a1), none]) (by decide) rfl (Nat.le_of_ble_eq_true rfl) (fun G g => ?_)
  have g : am_Gd (EM D a ad) RX9 cX9_isLater 3 (some .boolean) 41 G := g
  unfold fX9_isLater
  refine am_aload_n g dX9_isLater_0 rfl ?_
  refine am_iload_n g dX9_isLater_1 rfl ?_
  refine am_Vi (as := [.inl a1]) (S := []) g (cX9_fedByC a1 h) mi_X9_fedBy lm_X9_217 clX9.1 (Nat.le_of_ble_eq_true rfl) rfl dX9_isLater_2 rfl (by decide) (Nat.le_of_ble_eq_true rfl) rfl (fun v1 h2 => ?_)
  refine am_istore_n g dX9_isLater_5 (by decide) ?_
  refine am_iload_n g dX9_isLater_6 rfl ?_
  refine am_if_lt (tgt := 31) g dX9_isLater_7 (by decide) ?_ ?_
  · refine am_iconst g dX9_isLater_31 (am_il rfl) rfl ?_
    exact am_zreturn g dX9_isLater_32 (by decide)
  · refine am_aload_n g dX9_isLater_10 rfl ?_
    refine am_getr (q := 9) (a := 10) g clX9 dX9_isLater_11 (Nat.le_of_ble_eq_true rfl) rfl (by decide) rfl (Nat.le_of_ble_eq_true rfl) lf_X9_38 ?_
    refine am_iload_n g dX9_isLater_14 rfl ?_
    refine am_iaload (ix := Int.toNat v1) (nI := 64) g dX9_isLater_15 (Nat.le_of_ble_eq_true rfl) rfl rfl (Nat.zero_add _) ?_
    refine am_if_gt (tgt := 27) g dX9_isLater_16 (by decide) ?_ ?_
    · refine am_iconst g dX9_isLater_27 (am_il rfl) rfl ?_
      refine am_goto (tgt := 32) g dX9_isLater_28 (by decide) ?_
      exact am_zreturn g dX9_isLater_32 (by decide)
    · refine am_aload_n g dX9_isLater_19 rfl ?_
      refine am_iload_n g dX9_isLater_20 rfl ?_
      refine am_Vi (as := [.inl v1]) (S := []) g (cX9_isEndedC v1 h2) mi_X9_isEnded lm_X9_161 clX9.1 (Nat.le_of_ble_eq_true rfl) rfl dX9_isLater_21 rfl (by decide) (Nat.le_of_ble_eq_true rfl) rfl (fun v3 h4 => ?_)
      refine am_if_eq (tgt := 31) g dX9_isLater_24 (by decide) ?_ ?_
      · refine am_iconst g dX9_isLater_31 (am_il rfl) rfl ?_
        exact am_zreturn g dX9_isLater_32 (by decide)
      · refine am_iconst g dX9_isLater_27 (am_il rfl) rfl ?_
        refine am_goto (tgt := 32) g dX9_isLater_28 (by decide) ?_
        exact am_zreturn g dX9_isLater_32 (by decide)
def fX9_back_67 (l1 : Int) (l2 : Int) (h : am_M) : Option (Int × am_M) := if 0 ≤ l1 ∧ l1 < 64 then if 0 ≤ l1 ∧ l1 < 64 then am_l (am_up h 9 (Int.toNat l1) (am_w ((h 9 (Int.toNat l1)) - 1))) (fun h5 => if l2 = 0 then (if 0 ≤ l1 ∧ l1 < 64 then some (h5 9 (Int.toNat l1), h5) else none) else if 0 ≤ l1 ∧ l1 < 64 then am_l (am_up h5 10 (Int.toNat l1) (-1)) (fun h6 => if 0 ≤ l1 ∧ l1 < 64 then some (h6 9 (Int.toNat l1), h6) else none) else none) else none else none
set_option maxRecDepth 10000 in
theorem jX9_back_67 {D : va_G} {a : Nat → ClassId} {ad : Nat → Nat} {G : am_G} (g : am_Gd (EM D a ad) RX9 cX9_back 3 (some .int) 42 G) : ∀ (l1 : Int), ∀ (l2 : Int), ∀ h : am_M, am_J (EM D a ad) G 3 am_ei 67 [some (.inr (some 0)), some (.inl l1), some (.inl l2)] [] h (fX9_back_67 l1 l2 h) := by
  intro l1 l2 h
  unfold fX9_back_67
  refine am_aload_n g dX9_back_67 rfl ?_
  refine am_getr (q := 9) (a := 10) g clX9 dX9_back_68 (Nat.le_of_ble_eq_true rfl) rfl (by decide) rfl (Nat.le_of_ble_eq_true rfl) lf_X9_38 ?_
  refine am_iload_n g dX9_back_71 rfl ?_
  refine am_dup2 g dX9_back_72 ?_
  refine am_iaload (ix := Int.toNat l1) (nI := 64) g dX9_back_73 (Nat.le_of_ble_eq_true rfl) rfl rfl (Nat.zero_add _) ?_
  refine am_iconst g dX9_back_74 (am_il rfl) rfl ?_
  refine am_isub g dX9_back_75 ?_
  refine am_iastore (ix := Int.toNat l1) (nI := 64) g dX9_back_76 (Nat.le_of_ble_eq_true rfl) rfl rfl (Nat.zero_add _) ?_
  refine am_gm (fun h5 => ?_)
  refine am_iload_n g dX9_back_77 rfl ?_
  refine am_if_eq (tgt := 88) g dX9_back_78 (by decide) ?_ ?_
  · refine am_aload_n g dX9_back_88 rfl ?_
    refine am_getr (q := 9) (a := 10) g clX9 dX9_back_89 (Nat.le_of_ble_eq_true rfl) rfl (by decide) rfl (Nat.le_of_ble_eq_true rfl) lf_X9_38 ?_
    refine am_iload_n g dX9_back_92 rfl ?_
    refine am_iaload (ix := Int.toNat l1) (nI := 64) g dX9_back_93 (Nat.le_of_ble_eq_true rfl) rfl rfl (Nat.zero_add _) ?_
    exact am_ireturn g dX9_back_94
  · refine am_aload_n g dX9_back_81 rfl ?_
    refine am_getr (q := 13) (a := 14) g clX9 dX9_back_82 (Nat.le_of_ble_eq_true rfl) rfl (by decide) rfl (Nat.le_of_ble_eq_true rfl) lf_X9_51 ?_
    refine am_iload_n g dX9_back_85 rfl ?_
    refine am_iconst g dX9_back_86 (am_il rfl) rfl ?_
    refine am_iastore (ix := Int.toNat l1) (nI := 64) g dX9_back_87 (Nat.le_of_ble_eq_true rfl) rfl rfl (Nat.zero_add _) ?_
    refine am_gm (fun h6 => ?_)
    refine am_aload_n g dX9_back_88 rfl ?_
    refine am_getr (q := 9) (a := 10) g clX9 dX9_back_89 (Nat.le_of_ble_eq_true rfl) rfl (by decide) rfl (Nat.le_of_ble_eq_true rfl) lf_X9_38 ?_
    refine am_iload_n g dX9_back_92 rfl ?_
    refine am_iaload (ix := Int.toNat l1) (nI := 64) g dX9_back_93 (Nat.le_of_ble_eq_true rfl) rfl rfl (Nat.zero_add _) ?_
    exact am_ireturn g dX9_back_94
def fX9_back_40 (l1 : Int) (l2 : Int) (h : am_M) : Option (Int × am_M) := if 0 ≤ l1 ∧ l1 < 64 then if (h 9 (Int.toNat l1)) = 0 then some ((-5), h) else if l2 = 0 then fX9_back_67 l1 l2 h else am_b (fX9_isLater l1 h) (fun v7 h8 => if v7 = 0 then fX9_back_67 l1 l2 h8 else some ((-7), h8)) else none
set_option maxRecDepth 10000 in
theorem jX9_back_40 {D : va_G} {a : Nat → ClassId} {ad : Nat → Nat} {G : am_G} (g : am_Gd (EM D a ad) RX9 cX9_back 3 (some .int) 42 G) : ∀ (l1 : Int), ∀ (l2 : Int), ∀ h : am_M, am_J (EM D a ad) G 3 am_ei 40 [some (.inr (some 0)), some (.inl l1), some (.inl l2)] [] h (fX9_back_40 l1 l2 h) := by
  intro l1 l2 h
  unfold fX9_back_40
  refine am_aload_n g dX9_back_40 rfl ?_
  refine am_getr (q := 9) (a := 10) g clX9 dX9_back_41 (Nat.le_of_ble_eq_true rfl) rfl (by decide) rfl (Nat.le_of_ble_eq_true rfl) lf_X9_38 ?_
  refine am_iload_n g dX9_back_44 rfl ?_
  refine am_iaload (ix := Int.toNat l1) (nI := 64) g dX9_back_45 (Nat.le_of_ble_eq_true rfl) rfl rfl (Nat.zero_add _) ?_
  refine am_if_ne (tgt := 52) g dX9_back_46 (by decide) ?_ ?_
  · refine am_iload_n g dX9_back_52 rfl ?_
    refine am_if_eq (tgt := 67) g dX9_back_53 (by decide) ?_ ?_
    · exact (jX9_back_67 g) l1 l2 h
    · refine am_aload_n g dX9_back_56 rfl ?_
      refine am_iload_n g dX9_back_57 rfl ?_
      refine am_Vi (as := [.inl l1]) (S := []) g (cX9_isLaterC l1 h) mi_X9_isLater lm_X9_220 clX9.1 (Nat.le_of_ble_eq_true rfl) rfl dX9_back_58 rfl (by decide) (Nat.le_of_ble_eq_true rfl) rfl (fun v7 h8 => ?_)
      refine am_if_eq (tgt := 67) g dX9_back_61 (by decide) ?_ ?_
      · exact (jX9_back_67 g) l1 l2 h8
      · refine am_bipush g dX9_back_64 (am_il rfl) (am_bi rfl) ?_
        exact am_ireturn g dX9_back_66
  · refine am_bipush g dX9_back_49 (am_il rfl) (am_bi rfl) ?_
    exact am_ireturn g dX9_back_51
def fX9_back (a1 : Int) (h : am_M) : Option (Int × am_M) := am_b (fX9_isMatch a1 h) (fun v1 h2 => if v1 = 0 then some ((-1), h2) else am_b (fX9_isEnded a1 h2) (fun v3 h4 => if v3 = 0 then fX9_back_40 a1 v3 h4 else if 0 ≤ a1 ∧ a1 < 64 then if (h4 24 (Int.toNat a1)) = 0 then (am_b (fX9_isOfBye (fX9_sideOf 8) a1 h4) (fun v9 h10 => if v9 = 0 then fX9_back_40 a1 v3 h10 else some ((-6), h10))) else some ((-6), h4) else none))
set_option maxRecDepth 10000 in
theorem cX9_backC {D : va_G} {a : Nat → ClassId} {ad : Nat → Nat} (a1 : Int) (h : am_M) : am_C (EM D a ad) yX9_back cX9_back 3 (some .int) 42 [.inr (some 0), .inl a1] h am_ei (fX9_back a1 h) := by
  refine am_ofJ (L := [some (.inr (some 0)), some (.inl a1), none]) (by decide) rfl (Nat.le_of_ble_eq_true rfl) (fun G g => ?_)
  have g : am_Gd (EM D a ad) RX9 cX9_back 3 (some .int) 42 G := g
  unfold fX9_back
  refine am_aload_n g dX9_back_0 rfl ?_
  refine am_iload_n g dX9_back_1 rfl ?_
  refine am_Vi (as := [.inl a1]) (S := []) g (cX9_isMatchC a1 h) mi_X9_isMatch lm_X9_191 clX9.1 (Nat.le_of_ble_eq_true rfl) rfl dX9_back_2 rfl (by decide) (Nat.le_of_ble_eq_true rfl) rfl (fun v1 h2 => ?_)
  refine am_if_ne (tgt := 10) g dX9_back_5 (by decide) ?_ ?_
  · refine am_aload_n g dX9_back_10 rfl ?_
    refine am_iload_n g dX9_back_11 rfl ?_
    refine am_Vi (as := [.inl a1]) (S := []) g (cX9_isEndedC a1 h2) mi_X9_isEnded lm_X9_161 clX9.1 (Nat.le_of_ble_eq_true rfl) rfl dX9_back_12 rfl (by decide) (Nat.le_of_ble_eq_true rfl) rfl (fun v3 h4 => ?_)
    refine am_istore_n g dX9_back_15 (by decide) ?_
    refine am_iload_n g dX9_back_16 rfl ?_
    refine am_if_eq (tgt := 40) g dX9_back_17 (by decide) ?_ ?_
    · exact (jX9_back_40 g) a1 v3 h4
    · refine am_aload_n g dX9_back_20 rfl ?_
      refine am_getr (q := 11) (a := 12) g clX9 dX9_back_21 (Nat.le_of_ble_eq_true rfl) rfl (by decide) rfl (Nat.le_of_ble_eq_true rfl) lf_X9_45 ?_
      refine am_iload_n g dX9_back_24 rfl ?_
      refine am_iaload (ix := Int.toNat a1) (nI := 64) g dX9_back_25 (Nat.le_of_ble_eq_true rfl) rfl rfl (Nat.zero_add _) ?_
      refine am_if_ne (tgt := 37) g dX9_back_26 (by decide) ?_ ?_
      · refine am_bipush g dX9_back_37 (am_il rfl) (am_bi rfl) ?_
        exact am_ireturn g dX9_back_39
      · refine am_aload_n g dX9_back_29 rfl ?_
        refine am_iload_n g dX9_back_30 rfl ?_
        refine am_Vi (as := [.inl a1]) (S := []) g (cX9_isOfByeC a1 h4) mi_X9_isOfBye lm_X9_176 clX9.1 (Nat.le_of_ble_eq_true rfl) rfl dX9_back_31 rfl (by decide) (Nat.le_of_ble_eq_true rfl) rfl (fun v9 h10 => ?_)
        refine am_if_eq (tgt := 40) g dX9_back_34 (by decide) ?_ ?_
        · exact (jX9_back_40 g) a1 v3 h10
        · refine am_bipush g dX9_back_37 (am_il rfl) (am_bi rfl) ?_
          exact am_ireturn g dX9_back_39
  · refine am_iconst g dX9_back_8 (am_il rfl) rfl ?_
    exact am_ireturn g dX9_back_9
def fX9_ends_55 (l1 : Int) (l2 : Int) (l3 : Int) (l4 : Int) (s0 : Int) (h : am_M) : Option (Int × am_M) := if s0 = l4 then (if 0 ≤ l1 ∧ l1 < 64 then am_l (am_up h 24 (Int.toNat l1) l3) (fun h9 => if 0 ≤ l1 ∧ l1 < 64 then am_l (am_up h9 25 (Int.toNat l1) l2) (fun h10 => some (1, h10)) else none) else none) else some ((-4), h)
set_option maxRecDepth 10000 in
theorem jX9_ends_55 {D : va_G} {a : Nat → ClassId} {ad : Nat → Nat} {G : am_G} (g : am_Gd (EM D a ad) RX9 cX9_ends 5 (some .int) 41 G) : ∀ (l1 : Int), ∀ (l2 : Int), ∀ (l3 : Int), ∀ (l4 : Int), ∀ (s0 : Int), ∀ h : am_M, am_J (EM D a ad) G 5 am_ei 55 [some (.inr (some 0)), some (.inl l1), some (.inl l2), some (.inl l3), some (.inl l4)] [.inl s0] h (fX9_ends_55 l1 l2 l3 l4 s0 h) := by
  intro l1 l2 l3 l4 s0 h
  unfold fX9_ends_55
  refine am_iload g dX9_ends_55 rfl ?_
  refine am_icmp_eq (tgt := 63) g dX9_ends_57 (by decide) ?_ ?_
  · refine am_aload_n g dX9_ends_63 rfl ?_
    refine am_getr (q := 11) (a := 12) g clX9 dX9_ends_64 (Nat.le_of_ble_eq_true rfl) rfl (by decide) rfl (Nat.le_of_ble_eq_true rfl) lf_X9_45 ?_
    refine am_iload_n g dX9_ends_67 rfl ?_
    refine am_iload_n g dX9_ends_68 rfl ?_
    refine am_iastore (ix := Int.toNat l1) (nI := 64) g dX9_ends_69 (Nat.le_of_ble_eq_true rfl) rfl rfl (Nat.zero_add _) ?_
    refine am_gm (fun h9 => ?_)
    refine am_aload_n g dX9_ends_70 rfl ?_
    refine am_getr (q := 12) (a := 13) g clX9 dX9_ends_71 (Nat.le_of_ble_eq_true rfl) rfl (by decide) rfl (Nat.le_of_ble_eq_true rfl) lf_X9_48 ?_
    refine am_iload_n g dX9_ends_74 rfl ?_
    refine am_iload_n g dX9_ends_75 rfl ?_
    refine am_iastore (ix := Int.toNat l1) (nI := 64) g dX9_ends_76 (Nat.le_of_ble_eq_true rfl) rfl rfl (Nat.zero_add _) ?_
    refine am_gm (fun h10 => ?_)
    refine am_iconst g dX9_ends_77 (am_il rfl) rfl ?_
    exact am_ireturn g dX9_ends_78
  · refine am_bipush g dX9_ends_60 (am_il rfl) (am_bi rfl) ?_
    exact am_ireturn g dX9_ends_62
def fX9_ends (a1 : Int) (a2 : Int) (a3 : Int) (a4 : Int) (h : am_M) : Option (Int × am_M) := am_b (fX9_isMatch a1 h) (fun v1 h2 => if v1 = 0 then some ((-1), h2) else am_b (fX9_in a2 0 1 h2) (fun v3 h4 => if v3 = 0 then some ((-1), h4) else am_b (fX9_isEnded a1 h4) (fun v5 h6 => if v5 = 0 then (am_b (fX9_isKnown a1 h6) (fun v7 h8 => if v7 = 0 then some ((-5), h8) else if 0 ≤ a1 ∧ a1 < 64 then if (h8 9 (Int.toNat a1)) ≤ 0 then fX9_ends_55 a1 a2 a3 a4 0 h8 else fX9_ends_55 a1 a2 a3 a4 1 h8 else none)) else some ((-6), h6))))
set_option maxRecDepth 10000 in
theorem cX9_endsC {D : va_G} {a : Nat → ClassId} {ad : Nat → Nat} (a1 : Int) (a2 : Int) (a3 : Int) (a4 : Int) (h : am_M) : am_C (EM D a ad) yX9_ends cX9_ends 5 (some .int) 41 [.inr (some 0), .inl a1, .inl a2, .inl a3, .inl a4] h am_ei (fX9_ends a1 a2 a3 a4 h) := by
  refine am_ofJ (L := [some (.inr (some 0)), some (.inl a1), some (.inl a2), some (.inl a3), some (.inl a4)]) (by decide) rfl (Nat.le_of_ble_eq_true rfl) (fun G g => ?_)
  have g : am_Gd (EM D a ad) RX9 cX9_ends 5 (some .int) 41 G := g
  unfold fX9_ends
  refine am_aload_n g dX9_ends_0 rfl ?_
  refine am_iload_n g dX9_ends_1 rfl ?_
  refine am_Vi (as := [.inl a1]) (S := []) g (cX9_isMatchC a1 h) mi_X9_isMatch lm_X9_191 clX9.1 (Nat.le_of_ble_eq_true rfl) rfl dX9_ends_2 rfl (by decide) (Nat.le_of_ble_eq_true rfl) rfl (fun v1 h2 => ?_)
  refine am_if_eq (tgt := 17) g dX9_ends_5 (by decide) ?_ ?_
  · refine am_iconst g dX9_ends_17 (am_il rfl) rfl ?_
    exact am_ireturn g dX9_ends_18
  · refine am_iload_n g dX9_ends_8 rfl ?_
    refine am_iconst g dX9_ends_9 (am_il rfl) rfl ?_
    refine am_iconst g dX9_ends_10 (am_il rfl) rfl ?_
    refine am_Si (as := [.inl a2, .inl 0, .inl 1]) (S := []) g (cX9_inC a2 0 1 h2) mi_X9_in lm_X9_111 dX9_ends_11 rfl (by decide) (Nat.le_of_ble_eq_true rfl) rfl (fun v3 h4 => ?_)
    refine am_if_ne (tgt := 19) g dX9_ends_14 (by decide) ?_ ?_
    · refine am_aload_n g dX9_ends_19 rfl ?_
      refine am_iload_n g dX9_ends_20 rfl ?_
      refine am_Vi (as := [.inl a1]) (S := []) g (cX9_isEndedC a1 h4) mi_X9_isEnded lm_X9_161 clX9.1 (Nat.le_of_ble_eq_true rfl) rfl dX9_ends_21 rfl (by decide) (Nat.le_of_ble_eq_true rfl) rfl (fun v5 h6 => ?_)
      refine am_if_eq (tgt := 30) g dX9_ends_24 (by decide) ?_ ?_
      · refine am_aload_n g dX9_ends_30 rfl ?_
        refine am_iload_n g dX9_ends_31 rfl ?_
        refine am_Vi (as := [.inl a1]) (S := []) g (cX9_isKnownC a1 h6) mi_X9_isKnown lm_X9_214 clX9.1 (Nat.le_of_ble_eq_true rfl) rfl dX9_ends_32 rfl (by decide) (Nat.le_of_ble_eq_true rfl) rfl (fun v7 h8 => ?_)
        refine am_if_ne (tgt := 41) g dX9_ends_35 (by decide) ?_ ?_
        · refine am_aload_n g dX9_ends_41 rfl ?_
          refine am_getr (q := 9) (a := 10) g clX9 dX9_ends_42 (Nat.le_of_ble_eq_true rfl) rfl (by decide) rfl (Nat.le_of_ble_eq_true rfl) lf_X9_38 ?_
          refine am_iload_n g dX9_ends_45 rfl ?_
          refine am_iaload (ix := Int.toNat a1) (nI := 64) g dX9_ends_46 (Nat.le_of_ble_eq_true rfl) rfl rfl (Nat.zero_add _) ?_
          refine am_if_le (tgt := 54) g dX9_ends_47 (by decide) ?_ ?_
          · refine am_iconst g dX9_ends_54 (am_il rfl) rfl ?_
            exact (jX9_ends_55 g) a1 a2 a3 a4 0 h8
          · refine am_iconst g dX9_ends_50 (am_il rfl) rfl ?_
            refine am_goto (tgt := 55) g dX9_ends_51 (by decide) ?_
            exact (jX9_ends_55 g) a1 a2 a3 a4 1 h8
        · refine am_bipush g dX9_ends_38 (am_il rfl) (am_bi rfl) ?_
          exact am_ireturn g dX9_ends_40
      · refine am_bipush g dX9_ends_27 (am_il rfl) (am_bi rfl) ?_
        exact am_ireturn g dX9_ends_29
    · refine am_iconst g dX9_ends_17 (am_il rfl) rfl ?_
      exact am_ireturn g dX9_ends_18
def fX9_walk (a1 : Int) (a2 : Int) (h : am_M) : Option (Int × am_M) := am_b (fX9_ends a1 a2 4 0 h) (fun v1 h2 => some (v1, h2))
set_option maxRecDepth 10000 in
theorem cX9_walkC {D : va_G} {a : Nat → ClassId} {ad : Nat → Nat} (a1 : Int) (a2 : Int) (h : am_M) : am_C (EM D a ad) yX9_walk cX9_walk 3 (some .int) 42 [.inr (some 0), .inl a1, .inl a2] h am_ei (fX9_walk a1 a2 h) := by
  refine am_ofJ (L := [some (.inr (some 0)), some (.inl a1), some (.inl a2)]) (by decide) rfl (Nat.le_of_ble_eq_true rfl) (fun G g => ?_)
  have g : am_Gd (EM D a ad) RX9 cX9_walk 3 (some .int) 42 G := g
  unfold fX9_walk
  refine am_aload_n g dX9_walk_0 rfl ?_
  refine am_iload_n g dX9_walk_1 rfl ?_
  refine am_iload_n g dX9_walk_2 rfl ?_
  refine am_iconst g dX9_walk_3 (am_il rfl) rfl ?_
  refine am_iconst g dX9_walk_4 (am_il rfl) rfl ?_
  refine am_Vi (as := [.inl a1, .inl a2, .inl 4, .inl 0]) (S := []) g (cX9_endsC a1 a2 4 0 h) mi_X9_ends lm_X9_223 clX9.1 (Nat.le_of_ble_eq_true rfl) rfl dX9_walk_5 rfl (by decide) (Nat.le_of_ble_eq_true rfl) rfl (fun v1 h2 => ?_)
  exact am_ireturn g dX9_walk_8
def fX9_retire (a1 : Int) (a2 : Int) (h : am_M) : Option (Int × am_M) := am_b (fX9_ends a1 (am_w (1 - a2)) 5 1 h) (fun v1 h2 => some (v1, h2))
set_option maxRecDepth 10000 in
theorem cX9_retireC {D : va_G} {a : Nat → ClassId} {ad : Nat → Nat} (a1 : Int) (a2 : Int) (h : am_M) : am_C (EM D a ad) yX9_retire cX9_retire 3 (some .int) 42 [.inr (some 0), .inl a1, .inl a2] h am_ei (fX9_retire a1 a2 h) := by
  refine am_ofJ (L := [some (.inr (some 0)), some (.inl a1), some (.inl a2)]) (by decide) rfl (Nat.le_of_ble_eq_true rfl) (fun G g => ?_)
  have g : am_Gd (EM D a ad) RX9 cX9_retire 3 (some .int) 42 G := g
  unfold fX9_retire
  refine am_aload_n g dX9_retire_0 rfl ?_
  refine am_iload_n g dX9_retire_1 rfl ?_
  refine am_iconst g dX9_retire_2 (am_il rfl) rfl ?_
  refine am_iload_n g dX9_retire_3 rfl ?_
  refine am_isub g dX9_retire_4 ?_
  refine am_iconst g dX9_retire_5 (am_il rfl) rfl ?_
  refine am_iconst g dX9_retire_6 (am_il rfl) rfl ?_
  refine am_Vi (as := [.inl a1, .inl (am_w (1 - a2)), .inl 5, .inl 1]) (S := []) g (cX9_endsC a1 (am_w (1 - a2)) 5 1 h) mi_X9_ends lm_X9_223 clX9.1 (Nat.le_of_ble_eq_true rfl) rfl dX9_retire_7 rfl (by decide) (Nat.le_of_ble_eq_true rfl) rfl (fun v1 h2 => ?_)
  exact am_ireturn g dX9_retire_10
