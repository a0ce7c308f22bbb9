/-! ===== the two worlds: the cells of the class, the cells of the reference ===== -/
def shXl : List am_S := [.inr (.inl (8, [.inr 1, .inr 7, .inr 59, .inr 64, .inr 70, .inr 77])), .inr (.inl (0, [.inr 2, .inr 3, .inr 4, .inr 5, .inr 6, .inl (19, 0)])), .inl (0, 0, 0, 40), .inr (.inr (3, 10, 4)), .inr (.inr (4, 46, 6)), .inl (0, 18, 0, 4), .inl (0, 11, 0, 64), .inr (.inl (4, [.inr 8, .inr 9, .inr 58, .inl (33, 0)])), .inl (0, 30, 0, 16), .inl (0, 31, 0, 4), .inr (.inl (2, [.inr (14 + 0), .inr (18 + 0), .inr (22 + 0), .inr (26 + 0), .inr (30 + 0), .inr (34 + 0), .inr (38 + 0), .inr (42 + 0), .inl (1, 0), .inl (2, 0), .inl (3, 0), .inl (4, 0), .inl (5, 0)])), .inr (.inl (2, [.inr (14 + 1), .inr (18 + 1), .inr (22 + 1), .inr (26 + 1), .inr (30 + 1), .inr (34 + 1), .inr (38 + 1), .inr (42 + 1), .inl (1, 1), .inl (2, 1), .inl (3, 1), .inl (4, 1), .inl (5, 1)])), .inr (.inl (2, [.inr (14 + 2), .inr (18 + 2), .inr (22 + 2), .inr (26 + 2), .inr (30 + 2), .inr (34 + 2), .inr (38 + 2), .inr (42 + 2), .inl (1, 2), .inl (2, 2), .inl (3, 2), .inl (4, 2), .inl (5, 2)])), .inr (.inl (2, [.inr (14 + 3), .inr (18 + 3), .inr (22 + 3), .inr (26 + 3), .inr (30 + 3), .inr (34 + 3), .inr (38 + 3), .inr (42 + 3), .inl (1, 3), .inl (2, 3), .inl (3, 3), .inl (4, 3), .inl (5, 3)])), .inl (0, 6, 0, 16), .inl (0, 6, 16, 16), .inl (0, 6, 32, 16), .inl (0, 6, 48, 16), .inl (0, 7, 0, 16), .inl (0, 7, 16, 16), .inl (0, 7, 32, 16), .inl (0, 7, 48, 16), .inl (1, 8, 0, 40), .inl (1, 8, 40, 40), .inl (1, 8, 80, 40), .inl (1, 8, 120, 40), .inl (0, 20, 0, 16), .inl (0, 20, 16, 16), .inl (0, 20, 32, 16), .inl (0, 20, 48, 16), .inl (0, 21, 0, 16), .inl (0, 21, 16, 16), .inl (0, 21, 32, 16), .inl (0, 21, 48, 16), .inl (0, 10, 0, 16), .inl (0, 10, 16, 16), .inl (0, 10, 32, 16), .inl (0, 10, 48, 16), .inl (0, 9, 0, 16), .inl (0, 9, 16, 16), .inl (0, 9, 32, 16), .inl (0, 9, 48, 16), .inl (0, 22, 0, 160), .inl (0, 22, 160, 160), .inl (0, 22, 320, 160), .inl (0, 22, 480, 160), .inr (.inl (1, [.inr (52 + 0), .inl (16, 0), .inl (12, 0), .inl (13, 0), .inl (14, 0), .inl (15, 0)])), .inr (.inl (1, [.inr (52 + 1), .inl (16, 1), .inl (12, 1), .inl (13, 1), .inl (14, 1), .inl (15, 1)])), .inr (.inl (1, [.inr (52 + 2), .inl (16, 2), .inl (12, 2), .inl (13, 2), .inl (14, 2), .inl (15, 2)])), .inr (.inl (1, [.inr (52 + 3), .inl (16, 3), .inl (12, 3), .inl (13, 3), .inl (14, 3), .inl (15, 3)])), .inr (.inl (1, [.inr (52 + 4), .inl (16, 4), .inl (12, 4), .inl (13, 4), .inl (14, 4), .inl (15, 4)])), .inr (.inl (1, [.inr (52 + 5), .inl (16, 5), .inl (12, 5), .inl (13, 5), .inl (14, 5), .inl (15, 5)])), .inl (0, 17, 0, 6), .inl (0, 17, 6, 6), .inl (0, 17, 12, 6), .inl (0, 17, 18, 6), .inl (0, 17, 24, 6), .inl (0, 17, 30, 6), .inl (1, 32, 0, 16), .inr (.inl (7, [.inr 60, .inr 61, .inr 62, .inr 63, .inl (38, 0), .inl (39, 0), .inl (40, 0)])), .inl (0, 34, 0, 2), .inl (0, 35, 0, 2), .inl (0, 36, 0, 2), .inl (0, 37, 0, 10), .inr (.inl (6, [.inr (67 + 0)])), .inr (.inl (6, [.inr (67 + 1)])), .inr (.inl (6, [.inr (67 + 2)])), .inl (0, 41, 0, 40), .inl (0, 41, 40, 40), .inl (0, 41, 80, 40), .inr (.inl (5, [.inr 71, .inr 72, .inr 73, .inr 74, .inr 75, .inr 76, .inr 65])), .inl (0, 42, 0, 36), .inl (0, 43, 0, 36), .inl (0, 44, 0, 36), .inl (0, 45, 0, 36), .inl (0, 46, 0, 36), .inl (0, 47, 0, 6), .inr (.inl (3, [.inr 78, .inr 79, .inr 80, .inr 66])), .inl (1, 48, 0, 64), .inl (1, 49, 0, 40), .inl (1, 50, 0, 6)]
def shX (i : Nat) : am_S := shXl.getD i (.inr (.inr (0, 0, 0)))
def shMl : List am_S := [.inr (.inl (9, [.inr 1, .inr 2, .inr 3, .inr 4, .inr 5, .inr 6, .inr 7, .inr 8, .inr 9, .inr 10, .inr 11, .inr 12, .inr 13, .inr 14, .inr 15, .inr 16, .inr 17, .inr 18, .inr 19, .inr 20, .inr 21, .inr 22, .inl (19, 0), .inl (33, 0), .inr 23, .inr 24, .inr 25, .inr 26, .inr 27, .inl (39, 0), .inl (38, 0), .inl (40, 0), .inl (51, 0), .inr 28, .inr 29, .inr 30, .inr 31, .inr 32, .inr 33])), .inl (0, 0, 0, 40), .inl (0, 1, 0, 4), .inl (0, 2, 0, 4), .inl (0, 3, 0, 4), .inl (0, 6, 0, 64), .inl (0, 4, 0, 4), .inl (1, 5, 0, 4), .inl (0, 7, 0, 64), .inl (1, 8, 0, 160), .inl (0, 9, 0, 64), .inl (2, 23, 0, 19200), .inl (0, 24, 0, 64), .inl (0, 25, 0, 64), .inl (0, 10, 0, 64), .inl (0, 11, 0, 64), .inl (1, 12, 0, 6), .inl (1, 13, 0, 6), .inl (0, 14, 0, 6), .inl (0, 15, 0, 6), .inl (0, 16, 0, 6), .inl (0, 17, 0, 36), .inl (0, 18, 0, 4), .inl (0, 30, 0, 16), .inl (0, 34, 0, 2), .inl (0, 35, 0, 2), .inl (0, 36, 0, 2), .inl (0, 37, 0, 10), .inl (1, 52, 0, 36), .inl (0, 42, 0, 36), .inl (0, 43, 0, 36), .inl (1, 49, 0, 40), .inl (1, 48, 0, 64), .inl (1, 50, 0, 6)]
def shM (i : Nat) : am_S := shMl.getD i (.inr (.inr (0, 0, 0)))
abbrev EX (D : va_G) (a : Nat → ClassId) (ad : Nat → Nat) : am_E := (D, a, ad, shX, 81)
abbrev EM (D : va_G) (a : Nat → ClassId) (ad : Nat → Nat) : am_E := (D, a, ad, shM, 34)
theorem shX_sep : am_sep shX 81 = true := by decide +kernel
theorem shX_own : am_own shX 81 = true := by decide +kernel
theorem shM_sep : am_sep shM 34 = true := by decide +kernel
theorem shM_own : am_own shM 34 = true := by decide +kernel
theorem sh_X2 : ∀ d, d < 4 → shX (10 + d) = .inr (.inl (2, [.inr (14 + d), .inr (18 + d), .inr (22 + d), .inr (26 + d), .inr (30 + d), .inr (34 + d), .inr (38 + d), .inr (42 + d), .inl (1, d), .inl (2, d), .inl (3, d), .inl (4, d), .inl (5, d)])) := by
  intro d hd
  rcases (show d = 0 ∨ d = 1 ∨ d = 2 ∨ d = 3 by omega) with rfl | rfl | rfl | rfl <;> rfl
theorem sh_X1 : ∀ d, d < 6 → shX (46 + d) = .inr (.inl (1, [.inr (52 + d), .inl (16, d), .inl (12, d), .inl (13, d), .inl (14, d), .inl (15, d)])) := by
  intro d hd
  rcases (show d = 0 ∨ d = 1 ∨ d = 2 ∨ d = 3 ∨ d = 4 ∨ d = 5 by omega) with rfl | rfl | rfl | rfl | rfl | rfl <;> rfl
theorem sh_X6 : ∀ d, d < 3 → shX (64 + d) = .inr (.inl (6, [.inr (67 + d)])) := by
  intro d hd
  rcases (show d = 0 ∨ d = 1 ∨ d = 2 by omega) with rfl | rfl | rfl <;> rfl
theorem sh_X2_entrants : ∀ d, d < 4 → shX (14 + d) = .inl (0, 6, 16 * d, 16) := by
  intro d hd
  rcases (show d = 0 ∨ d = 1 ∨ d = 2 ∨ d = 3 by omega) with rfl | rfl | rfl | rfl <;> rfl
theorem sh_X2_places : ∀ d, d < 4 → shX (18 + d) = .inl (0, 7, 16 * d, 16) := by
  intro d hd
  rcases (show d = 0 ∨ d = 1 ∨ d = 2 ∨ d = 3 by omega) with rfl | rfl | rfl | rfl <;> rfl
theorem sh_X2_came : ∀ d, d < 4 → shX (22 + d) = .inl (1, 8, 40 * d, 40) := by
  intro d hd
  rcases (show d = 0 ∨ d = 1 ∨ d = 2 ∨ d = 3 by omega) with rfl | rfl | rfl | rfl <;> rfl
theorem sh_X2_hows : ∀ d, d < 4 → shX (26 + d) = .inl (0, 20, 16 * d, 16) := by
  intro d hd
  rcases (show d = 0 ∨ d = 1 ∨ d = 2 ∨ d = 3 by omega) with rfl | rfl | rfl | rfl <;> rfl
theorem sh_X2_winners : ∀ d, d < 4 → shX (30 + d) = .inl (0, 21, 16 * d, 16) := by
  intro d hd
  rcases (show d = 0 ∨ d = 1 ∨ d = 2 ∨ d = 3 by omega) with rfl | rfl | rfl | rfl <;> rfl
theorem sh_X2_realEnds : ∀ d, d < 4 → shX (34 + d) = .inl (0, 10, 16 * d, 16) := by
  intro d hd
  rcases (show d = 0 ∨ d = 1 ∨ d = 2 ∨ d = 3 by omega) with rfl | rfl | rfl | rfl <;> rfl
theorem sh_X2_points : ∀ d, d < 4 → shX (38 + d) = .inl (0, 9, 16 * d, 16) := by
  intro d hd
  rcases (show d = 0 ∨ d = 1 ∨ d = 2 ∨ d = 3 by omega) with rfl | rfl | rfl | rfl <;> rfl
theorem sh_X2_pointBits : ∀ d, d < 4 → shX (42 + d) = .inl (0, 22, 160 * d, 160) := by
  intro d hd
  rcases (show d = 0 ∨ d = 1 ∨ d = 2 ∨ d = 3 by omega) with rfl | rfl | rfl | rfl <;> rfl
theorem sh_X1_slots : ∀ d, d < 6 → shX (52 + d) = .inl (0, 17, 6 * d, 6) := by
  intro d hd
  rcases (show d = 0 ∨ d = 1 ∨ d = 2 ∨ d = 3 ∨ d = 4 ∨ d = 5 by omega) with rfl | rfl | rfl | rfl | rfl | rfl <;> rfl
theorem sh_X6_latest : ∀ d, d < 3 → shX (67 + d) = .inl (0, 41, 40 * d, 40) := by
  intro d hd
  rcases (show d = 0 ∨ d = 1 ∨ d = 2 by omega) with rfl | rfl | rfl <;> rfl
theorem clX0 : am_Cl 0 RX0 TX0 6 tyX0 := am_Cl.mk rfl inX0 (by decide +kernel) tyX0_ok nmX0
theorem clX1 : am_Cl 1 RX1 TX1 6 tyX1 := am_Cl.mk rfl inX1 (by decide +kernel) tyX1_ok nmX1
theorem clX2 : am_Cl 2 RX2 TX2 13 tyX2 := am_Cl.mk rfl inX2 (by decide +kernel) tyX2_ok nmX2
theorem clX3 : am_Cl 3 RX3 TX3 4 tyX3 := am_Cl.mk rfl inX3 (by decide +kernel) tyX3_ok nmX3
theorem clX4 : am_Cl 4 RX4 TX4 4 tyX4 := am_Cl.mk rfl inX4 (by decide +kernel) tyX4_ok nmX4
theorem clX5 : am_Cl 5 RX5 TX5 7 tyX5 := am_Cl.mk rfl inX5 (by decide +kernel) tyX5_ok nmX5
theorem clX6 : am_Cl 6 RX6 TX6 1 tyX6 := am_Cl.mk rfl inX6 (by decide +kernel) tyX6_ok nmX6
theorem clX7 : am_Cl 7 RX7 TX7 7 tyX7 := am_Cl.mk rfl inX7 (by decide +kernel) tyX7_ok nmX7
theorem clX8 : am_Cl 8 RX8 TX8 6 tyX8 := am_Cl.mk rfl inX8 (by decide +kernel) tyX8_ok nmX8
theorem clX9 : am_Cl 9 RX9 TX9 39 tyX9 := am_Cl.mk rfl inX9 (by decide +kernel) tyX9_ok nmX9
