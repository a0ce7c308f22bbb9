def fX9_lay_376 (l1 : Int) (l5 : Int) (h : am_M) : Option (Int × am_M) := if 0 ≤ l1 ∧ l1 < 4 then am_l (am_up h 5 (Int.toNat l1) 1) (fun h9 => some (l5, h9)) else none
set_option maxRecDepth 10000 in
theorem jX9_lay_376 {D : va_G} {a : Nat → ClassId} {ad : Nat → Nat} {G : am_G} (g : am_Gd (EM D a ad) RX9 cX9_lay 9 (some .int) 3 G) : ∀ (l1 : Int), ∀ (l5 : Int), ∀ h : am_M, am_J (EM D a ad) G 9 am_ei 376 [some (.inr (some 0)), some (.inl l1), none, none, none, some (.inl l5), none, none, none] [] h (fX9_lay_376 l1 l5 h) := by
  intro l1 l5 h
  unfold fX9_lay_376
  refine am_aload_n g dX9_lay_376 rfl ?_
  refine am_getr (q := 6) (a := 7) g clX9 dX9_lay_377 (Nat.le_of_ble_eq_true rfl) rfl (by decide) rfl (Nat.le_of_ble_eq_true rfl) lf_X9_28 ?_
  refine am_iload_n g dX9_lay_380 rfl ?_
  refine am_iconst g dX9_lay_381 (am_il rfl) rfl ?_
  refine am_zastoreB (ix := Int.toNat l1) (nI := 4) g dX9_lay_382 (Nat.le_of_ble_eq_true rfl) rfl rfl (Nat.zero_add _) (by decide) ?_
  refine am_gm (fun h9 => ?_)
  refine am_iload g dX9_lay_383 rfl ?_
  exact am_ireturn g dX9_lay_385
def fX9_lay_355b (K355 : Int → Int → Int → Int → am_M → Option (Int × am_M)) (l1 : Int) (l3 : Int) (l5 : Int) (l8 : Int) (h : am_M) : Option (Int × am_M) := if l8 < (am_w (Int.tdiv l3 2)) then am_b (fX9_part l1 l8 h) (fun _ h10 => K355 l1 l3 l5 (am_w (l8 + 1)) h10) else fX9_lay_376 l1 l5 h
def fX9_lay_355 : Int → Int → Int → Int → am_M → Option (Int × am_M) := am_it (fun _ _ _ _ _ => none) (fX9_lay_355b) 400
set_option maxRecDepth 10000 in
theorem jX9_lay_355b {D : va_G} {a : Nat → ClassId} {ad : Nat → Nat} {G : am_G} (g : am_Gd (EM D a ad) RX9 cX9_lay 9 (some .int) 3 G) {K355 : Int → Int → Int → Int → am_M → Option (Int × am_M)} (hK355 : ∀ (l1 : Int), ∀ (l3 : Int), ∀ (l5 : Int), ∀ (l8 : Int), ∀ h : am_M, am_J (EM D a ad) G 9 am_ei 355 [some (.inr (some 0)), some (.inl l1), none, some (.inl l3), none, some (.inl l5), none, none, some (.inl l8)] [] h (K355 l1 l3 l5 l8 h)) : ∀ (l1 : Int), ∀ (l3 : Int), ∀ (l5 : Int), ∀ (l8 : Int), ∀ h : am_M, am_J (EM D a ad) G 9 am_ei 355 [some (.inr (some 0)), some (.inl l1), none, some (.inl l3), none, some (.inl l5), none, none, some (.inl l8)] [] h (fX9_lay_355b K355 l1 l3 l5 l8 h) := by
  intro l1 l3 l5 l8 h
  unfold fX9_lay_355b
  refine am_iload g dX9_lay_355 rfl ?_
  refine am_iload_n g dX9_lay_357 rfl ?_
  refine am_iconst g dX9_lay_358 (am_il rfl) rfl ?_
  refine am_idiv g dX9_lay_359 (by decide) ?_
  refine am_icmp_ge (tgt := 376) g dX9_lay_360 (by decide) ?_ ?_
  · refine am_drop 3 ?_
    refine am_drop 8 ?_
    exact (jX9_lay_376 g) l1 l5 h
  · refine am_aload_n g dX9_lay_363 rfl ?_
    refine am_iload_n g dX9_lay_364 rfl ?_
    refine am_iload g dX9_lay_365 rfl ?_
    refine am_Vv (as := [.inl l1, .inl l8]) (S := []) g (cX9_partC l1 l8 h) mi_X9_part lm_X9_150 clX9.1 (Nat.le_of_ble_eq_true rfl) rfl dX9_lay_367 rfl (by decide) (Nat.le_of_ble_eq_true rfl) rfl (fun _ h10 => ?_)
    refine am_iinc g dX9_lay_370 (by decide) rfl ?_
    refine am_goto (tgt := 355) g dX9_lay_373 (by decide) ?_
    exact hK355 l1 l3 l5 (am_w (l8 + 1)) h10
theorem jX9_lay_355 {D : va_G} {a : Nat → ClassId} {ad : Nat → Nat} {G : am_G} (g : am_Gd (EM D a ad) RX9 cX9_lay 9 (some .int) 3 G) : ∀ (l1 : Int), ∀ (l3 : Int), ∀ (l5 : Int), ∀ (l8 : Int), ∀ h : am_M, am_J (EM D a ad) G 9 am_ei 355 [some (.inr (some 0)), some (.inl l1), none, some (.inl l3), none, some (.inl l5), none, none, some (.inl l8)] [] h (fX9_lay_355 l1 l3 l5 l8 h) := by
  unfold fX9_lay_355
  generalize 400 = n
  induction n with
  | zero => intro l1 l3 l5 l8 h; exact am_jn
  | succ n ih => exact jX9_lay_355b g ih
def fX9_lay_352 (l1 : Int) (l3 : Int) (l5 : Int) (h : am_M) : Option (Int × am_M) := fX9_lay_355 l1 l3 l5 0 h
set_option maxRecDepth 10000 in
theorem jX9_lay_352 {D : va_G} {a : Nat → ClassId} {ad : Nat → Nat} {G : am_G} (g : am_Gd (EM D a ad) RX9 cX9_lay 9 (some .int) 3 G) : ∀ (l1 : Int), ∀ (l3 : Int), ∀ (l5 : Int), ∀ h : am_M, am_J (EM D a ad) G 9 am_ei 352 [some (.inr (some 0)), some (.inl l1), none, some (.inl l3), none, some (.inl l5), none, none, none] [] h (fX9_lay_352 l1 l3 l5 h) := by
  intro l1 l3 l5 h
  unfold fX9_lay_352
  refine am_iconst g dX9_lay_352 (am_il rfl) rfl ?_
  refine am_istore g dX9_lay_353 (by decide) ?_
  exact (jX9_lay_355 g) l1 l3 l5 0 h
def fX9_lay_346 (K308 : Int → Int → Int → Int → Int → am_M → Option (Int × am_M)) (l1 : Int) (l3 : Int) (l5 : Int) (l7 : Int) (l8 : Int) (h : am_M) : Option (Int × am_M) := K308 l1 l3 l5 l7 (am_w (l8 + 1)) h
set_option maxRecDepth 10000 in
theorem jX9_lay_346 {D : va_G} {a : Nat → ClassId} {ad : Nat → Nat} {G : am_G} (g : am_Gd (EM D a ad) RX9 cX9_lay 9 (some .int) 3 G) {K308 : Int → Int → Int → Int → Int → am_M → Option (Int × am_M)} (hK308 : ∀ (l1 : Int), ∀ (l3 : Int), ∀ (l5 : Int), ∀ (l7 : Int), ∀ (l8 : Int), ∀ h : am_M, am_J (EM D a ad) G 9 am_ei 308 [some (.inr (some 0)), some (.inl l1), none, some (.inl l3), none, some (.inl l5), none, some (.inl l7), some (.inl l8)] [] h (K308 l1 l3 l5 l7 l8 h)) : ∀ (l1 : Int), ∀ (l3 : Int), ∀ (l5 : Int), ∀ (l7 : Int), ∀ (l8 : Int), ∀ h : am_M, am_J (EM D a ad) G 9 am_ei 346 [some (.inr (some 0)), some (.inl l1), none, some (.inl l3), none, some (.inl l5), none, some (.inl l7), some (.inl l8)] [] h (fX9_lay_346 K308 l1 l3 l5 l7 l8 h) := by
  intro l1 l3 l5 l7 l8 h
  unfold fX9_lay_346
  refine am_iinc g dX9_lay_346 (by decide) rfl ?_
  refine am_goto (tgt := 308) g dX9_lay_349 (by decide) ?_
  exact hK308 l1 l3 l5 l7 (am_w (l8 + 1)) h
def fX9_lay_308b (K308 : Int → Int → Int → Int → Int → am_M → Option (Int × am_M)) (l1 : Int) (l3 : Int) (l5 : Int) (l7 : Int) (l8 : Int) (h : am_M) : Option (Int × am_M) := if l8 < l3 then (am_b (fX9_at l1 l8 h) (fun v11 h12 => if v11 = (-2) then (if 0 ≤ l7 ∧ l7 < 16 then am_b (fX9_put l1 l8 (h12 30 (Int.toNat l7)) h12) (fun _ h13 => (fX9_lay_346 K308) l1 l3 l5 (am_w (l7 + 1)) l8 h13) else none) else (fX9_lay_346 K308) l1 l3 l5 l7 l8 h12)) else fX9_lay_352 l1 l3 l5 h
def fX9_lay_308 : Int → Int → Int → Int → Int → am_M → Option (Int × am_M) := am_it (fun _ _ _ _ _ _ => none) (fX9_lay_308b) 400
set_option maxRecDepth 10000 in
theorem jX9_lay_308b {D : va_G} {a : Nat → ClassId} {ad : Nat → Nat} {G : am_G} (g : am_Gd (EM D a ad) RX9 cX9_lay 9 (some .int) 3 G) {K308 : Int → Int → Int → Int → Int → am_M → Option (Int × am_M)} (hK308 : ∀ (l1 : Int), ∀ (l3 : Int), ∀ (l5 : Int), ∀ (l7 : Int), ∀ (l8 : Int), ∀ h : am_M, am_J (EM D a ad) G 9 am_ei 308 [some (.inr (some 0)), some (.inl l1), none, some (.inl l3), none, some (.inl l5), none, some (.inl l7), some (.inl l8)] [] h (K308 l1 l3 l5 l7 l8 h)) : ∀ (l1 : Int), ∀ (l3 : Int), ∀ (l5 : Int), ∀ (l7 : Int), ∀ (l8 : Int), ∀ h : am_M, am_J (EM D a ad) G 9 am_ei 308 [some (.inr (some 0)), some (.inl l1), none, some (.inl l3), none, some (.inl l5), none, some (.inl l7), some (.inl l8)] [] h (fX9_lay_308b K308 l1 l3 l5 l7 l8 h) := by
  intro l1 l3 l5 l7 l8 h
  unfold fX9_lay_308b
  refine am_iload g dX9_lay_308 rfl ?_
  refine am_iload_n g dX9_lay_310 rfl ?_
  refine am_icmp_ge (tgt := 352) g dX9_lay_311 (by decide) ?_ ?_
  · refine am_drop 7 ?_
    refine am_drop 8 ?_
    exact (jX9_lay_352 g) l1 l3 l5 h
  · refine am_aload_n g dX9_lay_314 rfl ?_
    refine am_iload_n g dX9_lay_315 rfl ?_
    refine am_iload g dX9_lay_316 rfl ?_
    refine am_Vi (as := [.inl l1, .inl l8]) (S := []) g (cX9_atC l1 l8 h) mi_X9_at lm_X9_143 clX9.1 (Nat.le_of_ble_eq_true rfl) rfl dX9_lay_318 rfl (by decide) (Nat.le_of_ble_eq_true rfl) rfl (fun v11 h12 => ?_)
    refine am_bipush g dX9_lay_321 (am_il rfl) (am_bi rfl) ?_
    refine am_icmp_eq (tgt := 329) g dX9_lay_323 (by decide) ?_ ?_
    · refine am_aload_n g dX9_lay_329 rfl ?_
      refine am_iload_n g dX9_lay_330 rfl ?_
      refine am_iload g dX9_lay_331 rfl ?_
      refine am_aload_n g dX9_lay_333 rfl ?_
      refine am_getr (q := 24) (a := 23) g clX9 dX9_lay_334 (Nat.le_of_ble_eq_true rfl) rfl (by decide) rfl (Nat.le_of_ble_eq_true rfl) lf_X9_78 ?_
      refine am_iload g dX9_lay_337 rfl ?_
      refine am_iaload (ix := Int.toNat l7) (nI := 16) g dX9_lay_339 (Nat.le_of_ble_eq_true rfl) rfl rfl (Nat.zero_add _) ?_
      refine am_Vv (as := [.inl l1, .inl l8, .inl (h12 30 (Int.toNat l7))]) (S := []) g (cX9_putC l1 l8 (h12 30 (Int.toNat l7)) h12) mi_X9_put lm_X9_131 clX9.1 (Nat.le_of_ble_eq_true rfl) rfl dX9_lay_340 rfl (by decide) (Nat.le_of_ble_eq_true rfl) rfl (fun _ h13 => ?_)
      refine am_iinc g dX9_lay_343 (by decide) rfl ?_
      exact (jX9_lay_346 g hK308) l1 l3 l5 (am_w (l7 + 1)) l8 h13
    · refine am_goto (tgt := 346) g dX9_lay_326 (by decide) ?_
      exact (jX9_lay_346 g hK308) l1 l3 l5 l7 l8 h12
theorem jX9_lay_308 {D : va_G} {a : Nat → ClassId} {ad : Nat → Nat} {G : am_G} (g : am_Gd (EM D a ad) RX9 cX9_lay 9 (some .int) 3 G) : ∀ (l1 : Int), ∀ (l3 : Int), ∀ (l5 : Int), ∀ (l7 : Int), ∀ (l8 : Int), ∀ h : am_M, am_J (EM D a ad) G 9 am_ei 308 [some (.inr (some 0)), some (.inl l1), none, some (.inl l3), none, some (.inl l5), none, some (.inl l7), some (.inl l8)] [] h (fX9_lay_308 l1 l3 l5 l7 l8 h) := by
  unfold fX9_lay_308
  generalize 400 = n
  induction n with
  | zero => intro l1 l3 l5 l7 l8 h; exact am_jn
  | succ n ih => exact jX9_lay_308b g ih
def fX9_lay_297 (l1 : Int) (l3 : Int) (l5 : Int) (h : am_M) : Option (Int × am_M) := am_b (fX9_mix l1 h) (fun _ h8 => fX9_lay_308 l1 l3 l5 0 0 h8)
set_option maxRecDepth 10000 in
theorem jX9_lay_297 {D : va_G} {a : Nat → ClassId} {ad : Nat → Nat} {G : am_G} (g : am_Gd (EM D a ad) RX9 cX9_lay 9 (some .int) 3 G) : ∀ (l1 : Int), ∀ (l3 : Int), ∀ (l5 : Int), ∀ h : am_M, am_J (EM D a ad) G 9 am_ei 297 [some (.inr (some 0)), some (.inl l1), none, some (.inl l3), none, some (.inl l5), none, none, none] [] h (fX9_lay_297 l1 l3 l5 h) := by
  intro l1 l3 l5 h
  unfold fX9_lay_297
  refine am_aload_n g dX9_lay_297 rfl ?_
  refine am_iload_n g dX9_lay_298 rfl ?_
  refine am_Vv (as := [.inl l1]) (S := []) g (cX9_mixC l1 h) mi_X9_mix lm_X9_147 clX9.1 (Nat.le_of_ble_eq_true rfl) rfl dX9_lay_299 rfl (by decide) (Nat.le_of_ble_eq_true rfl) rfl (fun _ h8 => ?_)
  refine am_iconst g dX9_lay_302 (am_il rfl) rfl ?_
  refine am_istore g dX9_lay_303 (by decide) ?_
  refine am_iconst g dX9_lay_305 (am_il rfl) rfl ?_
  refine am_istore g dX9_lay_306 (by decide) ?_
  exact (jX9_lay_308 g) l1 l3 l5 0 0 h8
def fX9_lay_291 (K230 : Int → Int → Int → Int → Int → am_M → Option (Int × am_M)) (l1 : Int) (l3 : Int) (l5 : Int) (l6 : Int) (l7 : Int) (h : am_M) : Option (Int × am_M) := K230 l1 l3 l5 l6 (am_w (l7 + 1)) h
set_option maxRecDepth 10000 in
theorem jX9_lay_291 {D : va_G} {a : Nat → ClassId} {ad : Nat → Nat} {G : am_G} (g : am_Gd (EM D a ad) RX9 cX9_lay 9 (some .int) 3 G) {K230 : Int → Int → Int → Int → Int → am_M → Option (Int × am_M)} (hK230 : ∀ (l1 : Int), ∀ (l3 : Int), ∀ (l5 : Int), ∀ (l6 : Int), ∀ (l7 : Int), ∀ h : am_M, am_J (EM D a ad) G 9 am_ei 230 [some (.inr (some 0)), some (.inl l1), none, some (.inl l3), none, some (.inl l5), some (.inl l6), some (.inl l7), none] [] h (K230 l1 l3 l5 l6 l7 h)) : ∀ (l1 : Int), ∀ (l3 : Int), ∀ (l5 : Int), ∀ (l6 : Int), ∀ (l7 : Int), ∀ h : am_M, am_J (EM D a ad) G 9 am_ei 291 [some (.inr (some 0)), some (.inl l1), none, some (.inl l3), none, some (.inl l5), some (.inl l6), some (.inl l7), none] [] h (fX9_lay_291 K230 l1 l3 l5 l6 l7 h) := by
  intro l1 l3 l5 l6 l7 h
  unfold fX9_lay_291
  refine am_iinc g dX9_lay_291 (by decide) rfl ?_
  refine am_goto (tgt := 230) g dX9_lay_294 (by decide) ?_
  exact hK230 l1 l3 l5 l6 (am_w (l7 + 1)) h
def fX9_lay_230b (K230 : Int → Int → Int → Int → Int → am_M → Option (Int × am_M)) (l1 : Int) (l3 : Int) (l5 : Int) (l6 : Int) (l7 : Int) (h : am_M) : Option (Int × am_M) := if l7 < (am_w (Int.tdiv l3 2)) then (if l6 ≤ 0 then fX9_lay_297 l1 l3 l5 h else am_b (fX9_at l1 (am_w (2 * l7)) h) (fun v14 h15 => if v14 = (-2) then (am_b (fX9_at l1 (am_w ((am_w (2 * l7)) + 1)) h15) (fun v16 h17 => if v16 = (-2) then am_b (fX9_put l1 (am_w ((am_w (2 * l7)) + 1)) (-1) h17) (fun _ h18 => (fX9_lay_291 K230) l1 l3 l5 (am_w (l6 + (-1))) l7 h18) else (fX9_lay_291 K230) l1 l3 l5 l6 l7 h17)) else (fX9_lay_291 K230) l1 l3 l5 l6 l7 h15)) else fX9_lay_297 l1 l3 l5 h
def fX9_lay_230 : Int → Int → Int → Int → Int → am_M → Option (Int × am_M) := am_it (fun _ _ _ _ _ _ => none) (fX9_lay_230b) 400
set_option maxRecDepth 10000 in
theorem jX9_lay_230b {D : va_G} {a : Nat → ClassId} {ad : Nat → Nat} {G : am_G} (g : am_Gd (EM D a ad) RX9 cX9_lay 9 (some .int) 3 G) {K230 : Int → Int → Int → Int → Int → am_M → Option (Int × am_M)} (hK230 : ∀ (l1 : Int), ∀ (l3 : Int), ∀ (l5 : Int), ∀ (l6 : Int), ∀ (l7 : Int), ∀ h : am_M, am_J (EM D a ad) G 9 am_ei 230 [some (.inr (some 0)), some (.inl l1), none, some (.inl l3), none, some (.inl l5), some (.inl l6), some (.inl l7), none] [] h (K230 l1 l3 l5 l6 l7 h)) : ∀ (l1 : Int), ∀ (l3 : Int), ∀ (l5 : Int), ∀ (l6 : Int), ∀ (l7 : Int), ∀ h : am_M, am_J (EM D a ad) G 9 am_ei 230 [some (.inr (some 0)), some (.inl l1), none, some (.inl l3), none, some (.inl l5), some (.inl l6), some (.inl l7), none] [] h (fX9_lay_230b K230 l1 l3 l5 l6 l7 h) := by
  intro l1 l3 l5 l6 l7 h
  unfold fX9_lay_230b
  refine am_iload g dX9_lay_230 rfl ?_
  refine am_iload_n g dX9_lay_232 rfl ?_
  refine am_iconst g dX9_lay_233 (am_il rfl) rfl ?_
  refine am_idiv g dX9_lay_234 (by decide) ?_
  refine am_icmp_ge (tgt := 297) g dX9_lay_235 (by decide) ?_ ?_
  · refine am_drop 6 ?_
    refine am_drop 7 ?_
    exact (jX9_lay_297 g) l1 l3 l5 h
  · refine am_iload g dX9_lay_238 rfl ?_
    refine am_if_le (tgt := 297) g dX9_lay_240 (by decide) ?_ ?_
    · refine am_drop 6 ?_
      refine am_drop 7 ?_
      exact (jX9_lay_297 g) l1 l3 l5 h
    · refine am_aload_n g dX9_lay_243 rfl ?_
      refine am_iload_n g dX9_lay_244 rfl ?_
      refine am_iconst g dX9_lay_245 (am_il rfl) rfl ?_
      refine am_iload g dX9_lay_246 rfl ?_
      refine am_imul g dX9_lay_248 ?_
      refine am_Vi (as := [.inl l1, .inl (am_w (2 * l7))]) (S := []) g (cX9_atC l1 (am_w (2 * l7)) h) mi_X9_at lm_X9_143 clX9.1 (Nat.le_of_ble_eq_true rfl) rfl dX9_lay_249 rfl (by decide) (Nat.le_of_ble_eq_true rfl) rfl (fun v14 h15 => ?_)
      refine am_bipush g dX9_lay_252 (am_il rfl) (am_bi rfl) ?_
      refine am_icmp_ne (tgt := 291) g dX9_lay_254 (by decide) ?_ ?_
      · exact (jX9_lay_291 g hK230) l1 l3 l5 l6 l7 h15
      · refine am_aload_n g dX9_lay_257 rfl ?_
        refine am_iload_n g dX9_lay_258 rfl ?_
        refine am_iconst g dX9_lay_259 (am_il rfl) rfl ?_
        refine am_iload g dX9_lay_260 rfl ?_
        refine am_imul g dX9_lay_262 ?_
        refine am_iconst g dX9_lay_263 (am_il rfl) rfl ?_
        refine am_iadd g dX9_lay_264 ?_
        refine am_Vi (as := [.inl l1, .inl (am_w ((am_w (2 * l7)) + 1))]) (S := []) g (cX9_atC l1 (am_w ((am_w (2 * l7)) + 1)) h15) mi_X9_at lm_X9_143 clX9.1 (Nat.le_of_ble_eq_true rfl) rfl dX9_lay_265 rfl (by decide) (Nat.le_of_ble_eq_true rfl) rfl (fun v16 h17 => ?_)
        refine am_bipush g dX9_lay_268 (am_il rfl) (am_bi rfl) ?_
        refine am_icmp_eq (tgt := 276) g dX9_lay_270 (by decide) ?_ ?_
        · refine am_aload_n g dX9_lay_276 rfl ?_
          refine am_iload_n g dX9_lay_277 rfl ?_
          refine am_iconst g dX9_lay_278 (am_il rfl) rfl ?_
          refine am_iload g dX9_lay_279 rfl ?_
          refine am_imul g dX9_lay_281 ?_
          refine am_iconst g dX9_lay_282 (am_il rfl) rfl ?_
          refine am_iadd g dX9_lay_283 ?_
          refine am_iconst g dX9_lay_284 (am_il rfl) rfl ?_
          refine am_Vv (as := [.inl l1, .inl (am_w ((am_w (2 * l7)) + 1)), .inl (-1)]) (S := []) g (cX9_putC l1 (am_w ((am_w (2 * l7)) + 1)) (-1) h17) mi_X9_put lm_X9_131 clX9.1 (Nat.le_of_ble_eq_true rfl) rfl dX9_lay_285 rfl (by decide) (Nat.le_of_ble_eq_true rfl) rfl (fun _ h18 => ?_)
          refine am_iinc g dX9_lay_288 (by decide) rfl ?_
          exact (jX9_lay_291 g hK230) l1 l3 l5 (am_w (l6 + (-1))) l7 h18
        · refine am_goto (tgt := 291) g dX9_lay_273 (by decide) ?_
          exact (jX9_lay_291 g hK230) l1 l3 l5 l6 l7 h17
theorem jX9_lay_230 {D : va_G} {a : Nat → ClassId} {ad : Nat → Nat} {G : am_G} (g : am_Gd (EM D a ad) RX9 cX9_lay 9 (some .int) 3 G) : ∀ (l1 : Int), ∀ (l3 : Int), ∀ (l5 : Int), ∀ (l6 : Int), ∀ (l7 : Int), ∀ h : am_M, am_J (EM D a ad) G 9 am_ei 230 [some (.inr (some 0)), some (.inl l1), none, some (.inl l3), none, some (.inl l5), some (.inl l6), some (.inl l7), none] [] h (fX9_lay_230 l1 l3 l5 l6 l7 h) := by
  unfold fX9_lay_230
  generalize 400 = n
  induction n with
  | zero => intro l1 l3 l5 l6 l7 h; exact am_jn
  | succ n ih => exact jX9_lay_230b g ih
def fX9_lay_227 (l1 : Int) (l3 : Int) (l5 : Int) (l6 : Int) (h : am_M) : Option (Int × am_M) := fX9_lay_230 l1 l3 l5 l6 0 h
set_option maxRecDepth 10000 in
theorem jX9_lay_227 {D : va_G} {a : Nat → ClassId} {ad : Nat → Nat} {G : am_G} (g : am_Gd (EM D a ad) RX9 cX9_lay 9 (some .int) 3 G) : ∀ (l1 : Int), ∀ (l3 : Int), ∀ (l5 : Int), ∀ (l6 : Int), ∀ h : am_M, am_J (EM D a ad) G 9 am_ei 227 [some (.inr (some 0)), some (.inl l1), none, some (.inl l3), none, some (.inl l5), some (.inl l6), none, none] [] h (fX9_lay_227 l1 l3 l5 l6 h) := by
  intro l1 l3 l5 l6 h
  unfold fX9_lay_227
  refine am_iconst g dX9_lay_227 (am_il rfl) rfl ?_
  refine am_istore g dX9_lay_228 (by decide) ?_
  exact (jX9_lay_230 g) l1 l3 l5 l6 0 h
def fX9_lay_221 (K167 : Int → Int → Int → Int → Int → Int → am_M → Option (Int × am_M)) (l1 : Int) (l3 : Int) (l4 : Int) (l5 : Int) (l6 : Int) (l7 : Int) (h : am_M) : Option (Int × am_M) := K167 l1 l3 l4 l5 l6 (am_w (l7 + 1)) h
set_option maxRecDepth 10000 in
theorem jX9_lay_221 {D : va_G} {a : Nat → ClassId} {ad : Nat → Nat} {G : am_G} (g : am_Gd (EM D a ad) RX9 cX9_lay 9 (some .int) 3 G) {K167 : Int → Int → Int → Int → Int → Int → am_M → Option (Int × am_M)} (hK167 : ∀ (l1 : Int), ∀ (l3 : Int), ∀ (l4 : Int), ∀ (l5 : Int), ∀ (l6 : Int), ∀ (l7 : Int), ∀ h : am_M, am_J (EM D a ad) G 9 am_ei 167 [some (.inr (some 0)), some (.inl l1), none, some (.inl l3), some (.inl l4), some (.inl l5), some (.inl l6), some (.inl l7), none] [] h (K167 l1 l3 l4 l5 l6 l7 h)) : ∀ (l1 : Int), ∀ (l3 : Int), ∀ (l4 : Int), ∀ (l5 : Int), ∀ (l6 : Int), ∀ (l7 : Int), ∀ h : am_M, am_J (EM D a ad) G 9 am_ei 221 [some (.inr (some 0)), some (.inl l1), none, some (.inl l3), some (.inl l4), some (.inl l5), some (.inl l6), some (.inl l7), none] [] h (fX9_lay_221 K167 l1 l3 l4 l5 l6 l7 h) := by
  intro l1 l3 l4 l5 l6 l7 h
  unfold fX9_lay_221
  refine am_iinc g dX9_lay_221 (by decide) rfl ?_
  refine am_goto (tgt := 167) g dX9_lay_224 (by decide) ?_
  exact hK167 l1 l3 l4 l5 l6 (am_w (l7 + 1)) h
def fX9_lay_167b (K167 : Int → Int → Int → Int → Int → Int → am_M → Option (Int × am_M)) (l1 : Int) (l3 : Int) (l4 : Int) (l5 : Int) (l6 : Int) (l7 : Int) (h : am_M) : Option (Int × am_M) := if 0 ≤ l1 ∧ l1 < 4 then if l7 < (h 4 (Int.toNat l1)) then (if l6 ≤ 0 then fX9_lay_227 l1 l3 l5 l6 h else am_b (fX9_seedPlace l3 l7 l4 h) (fun v19 h20 => am_l (am_xor v19 1) (fun x21 => am_b (fX9_at l1 x21 h20) (fun v22 h23 => if v22 = (-2) then am_b (fX9_put l1 x21 (-1) h23) (fun _ h24 => (fX9_lay_221 K167) l1 l3 l4 l5 (am_w (l6 + (-1))) l7 h24) else (fX9_lay_221 K167) l1 l3 l4 l5 l6 l7 h23)))) else fX9_lay_227 l1 l3 l5 l6 h else none
def fX9_lay_167 : Int → Int → Int → Int → Int → Int → am_M → Option (Int × am_M) := am_it (fun _ _ _ _ _ _ _ => none) (fX9_lay_167b) 400
set_option maxRecDepth 10000 in
theorem jX9_lay_167b {D : va_G} {a : Nat → ClassId} {ad : Nat → Nat} {G : am_G} (g : am_Gd (EM D a ad) RX9 cX9_lay 9 (some .int) 3 G) {K167 : Int → Int → Int → Int → Int → Int → am_M → Option (Int × am_M)} (hK167 : ∀ (l1 : Int), ∀ (l3 : Int), ∀ (l4 : Int), ∀ (l5 : Int), ∀ (l6 : Int), ∀ (l7 : Int), ∀ h : am_M, am_J (EM D a ad) G 9 am_ei 167 [some (.inr (some 0)), some (.inl l1), none, some (.inl l3), some (.inl l4), some (.inl l5), some (.inl l6), some (.inl l7), none] [] h (K167 l1 l3 l4 l5 l6 l7 h)) : ∀ (l1 : Int), ∀ (l3 : Int), ∀ (l4 : Int), ∀ (l5 : Int), ∀ (l6 : Int), ∀ (l7 : Int), ∀ h : am_M, am_J (EM D a ad) G 9 am_ei 167 [some (.inr (some 0)), some (.inl l1), none, some (.inl l3), some (.inl l4), some (.inl l5), some (.inl l6), some (.inl l7), none] [] h (fX9_lay_167b K167 l1 l3 l4 l5 l6 l7 h) := by
  intro l1 l3 l4 l5 l6 l7 h
  unfold fX9_lay_167b
  refine am_iload g dX9_lay_167 rfl ?_
  refine am_aload_n g dX9_lay_169 rfl ?_
  refine am_getr (q := 5) (a := 6) g clX9 dX9_lay_170 (Nat.le_of_ble_eq_true rfl) rfl (by decide) rfl (Nat.le_of_ble_eq_true rfl) lf_X9_25 ?_
  refine am_iload_n g dX9_lay_173 rfl ?_
  refine am_iaload (ix := Int.toNat l1) (nI := 4) g dX9_lay_174 (Nat.le_of_ble_eq_true rfl) rfl rfl (Nat.zero_add _) ?_
  refine am_icmp_ge (tgt := 227) g dX9_lay_175 (by decide) ?_ ?_
  · refine am_drop 4 ?_
    refine am_drop 7 ?_
    exact (jX9_lay_227 g) l1 l3 l5 l6 h
  · refine am_iload g dX9_lay_178 rfl ?_
    refine am_if_le (tgt := 227) g dX9_lay_180 (by decide) ?_ ?_
    · refine am_drop 4 ?_
      refine am_drop 7 ?_
      exact (jX9_lay_227 g) l1 l3 l5 l6 h
    · refine am_iload_n g dX9_lay_183 rfl ?_
      refine am_iload g dX9_lay_184 rfl ?_
      refine am_iload g dX9_lay_186 rfl ?_
      refine am_Si (as := [.inl l3, .inl l7, .inl l4]) (S := []) g (cX9_seedPlaceC l3 l7 l4 h) mi_X9_seedPlace lm_X9_139 dX9_lay_188 rfl (by decide) (Nat.le_of_ble_eq_true rfl) rfl (fun v19 h20 => ?_)
      refine am_iconst g dX9_lay_191 (am_il rfl) rfl ?_
      refine am_ixor g dX9_lay_192 ?_
      refine am_gv (fun x21 => ?_)
      refine am_istore g dX9_lay_193 (by decide) ?_
      refine am_aload_n g dX9_lay_195 rfl ?_
      refine am_iload_n g dX9_lay_196 rfl ?_
      refine am_iload g dX9_lay_197 rfl ?_
      refine am_Vi (as := [.inl l1, .inl x21]) (S := []) g (cX9_atC l1 x21 h20) mi_X9_at lm_X9_143 clX9.1 (Nat.le_of_ble_eq_true rfl) rfl dX9_lay_199 rfl (by decide) (Nat.le_of_ble_eq_true rfl) rfl (fun v22 h23 => ?_)
      refine am_bipush g dX9_lay_202 (am_il rfl) (am_bi rfl) ?_
      refine am_icmp_eq (tgt := 210) g dX9_lay_204 (by decide) ?_ ?_
      · refine am_aload_n g dX9_lay_210 rfl ?_
        refine am_iload_n g dX9_lay_211 rfl ?_
        refine am_iload g dX9_lay_212 rfl ?_
        refine am_iconst g dX9_lay_214 (am_il rfl) rfl ?_
        refine am_Vv (as := [.inl l1, .inl x21, .inl (-1)]) (S := []) g (cX9_putC l1 x21 (-1) h23) mi_X9_put lm_X9_131 clX9.1 (Nat.le_of_ble_eq_true rfl) rfl dX9_lay_215 rfl (by decide) (Nat.le_of_ble_eq_true rfl) rfl (fun _ h24 => ?_)
        refine am_iinc g dX9_lay_218 (by decide) rfl ?_
        refine am_drop 8 ?_
        exact (jX9_lay_221 g hK167) l1 l3 l4 l5 (am_w (l6 + (-1))) l7 h24
      · refine am_goto (tgt := 221) g dX9_lay_207 (by decide) ?_
        refine am_drop 8 ?_
        exact (jX9_lay_221 g hK167) l1 l3 l4 l5 l6 l7 h23
theorem jX9_lay_167 {D : va_G} {a : Nat → ClassId} {ad : Nat → Nat} {G : am_G} (g : am_Gd (EM D a ad) RX9 cX9_lay 9 (some .int) 3 G) : ∀ (l1 : Int), ∀ (l3 : Int), ∀ (l4 : Int), ∀ (l5 : Int), ∀ (l6 : Int), ∀ (l7 : Int), ∀ h : am_M, am_J (EM D a ad) G 9 am_ei 167 [some (.inr (some 0)), some (.inl l1), none, some (.inl l3), some (.inl l4), some (.inl l5), some (.inl l6), some (.inl l7), none] [] h (fX9_lay_167 l1 l3 l4 l5 l6 l7 h) := by
  unfold fX9_lay_167
  generalize 400 = n
  induction n with
  | zero => intro l1 l3 l4 l5 l6 l7 h; exact am_jn
  | succ n ih => exact jX9_lay_167b g ih
def fX9_lay_150 (l1 : Int) (l3 : Int) (l4 : Int) (h : am_M) : Option (Int × am_M) := if 0 ≤ l1 ∧ l1 < 4 then am_l (am_w (l3 - (h 3 (Int.toNat l1)))) (fun x7 => fX9_lay_167 l1 l3 l4 x7 x7 0 h) else none
set_option maxRecDepth 10000 in
theorem jX9_lay_150 {D : va_G} {a : Nat → ClassId} {ad : Nat → Nat} {G : am_G} (g : am_Gd (EM D a ad) RX9 cX9_lay 9 (some .int) 3 G) : ∀ (l1 : Int), ∀ (l3 : Int), ∀ (l4 : Int), ∀ h : am_M, am_J (EM D a ad) G 9 am_ei 150 [some (.inr (some 0)), some (.inl l1), none, some (.inl l3), some (.inl l4), none, none, none, none] [] h (fX9_lay_150 l1 l3 l4 h) := by
  intro l1 l3 l4 h
  unfold fX9_lay_150
  refine am_iload_n g dX9_lay_150 rfl ?_
  refine am_aload_n g dX9_lay_151 rfl ?_
  refine am_getr (q := 3) (a := 4) g clX9 dX9_lay_152 (Nat.le_of_ble_eq_true rfl) rfl (by decide) rfl (Nat.le_of_ble_eq_true rfl) lf_X9_19 ?_
  refine am_iload_n g dX9_lay_155 rfl ?_
  refine am_iaload (ix := Int.toNat l1) (nI := 4) g dX9_lay_156 (Nat.le_of_ble_eq_true rfl) rfl rfl (Nat.zero_add _) ?_
  refine am_isub g dX9_lay_157 ?_
  refine am_gv (fun x7 => ?_)
  refine am_istore g dX9_lay_158 (by decide) ?_
  refine am_iload g dX9_lay_160 rfl ?_
  refine am_istore g dX9_lay_162 (by decide) ?_
  refine am_iconst g dX9_lay_164 (am_il rfl) rfl ?_
  refine am_istore g dX9_lay_165 (by decide) ?_
  exact (jX9_lay_167 g) l1 l3 l4 x7 x7 0 h
def fX9_lay_108b (K108 : Int → Int → Int → Int → am_M → Option (Int × am_M)) (l1 : Int) (l3 : Int) (l4 : Int) (l5 : Int) (h : am_M) : Option (Int × am_M) := if 0 ≤ l1 ∧ l1 < 4 then if l5 < (h 4 (Int.toNat l1)) then (am_b (fX9_seedPlace l3 l5 l4 h) (fun v25 h26 => if 0 ≤ (am_w ((am_w (16 * l1)) + l5)) ∧ (am_w ((am_w (16 * l1)) + l5)) < 64 then am_b (fX9_put l1 v25 (h26 6 (Int.toNat (am_w ((am_w (16 * l1)) + l5)))) h26) (fun _ h27 => K108 l1 l3 l4 (am_w (l5 + 1)) h27) else none)) else fX9_lay_150 l1 l3 l4 h else none
def fX9_lay_108 : Int → Int → Int → Int → am_M → Option (Int × am_M) := am_it (fun _ _ _ _ _ => none) (fX9_lay_108b) 400
set_option maxRecDepth 10000 in
theorem jX9_lay_108b {D : va_G} {a : Nat → ClassId} {ad : Nat → Nat} {G : am_G} (g : am_Gd (EM D a ad) RX9 cX9_lay 9 (some .int) 3 G) {K108 : Int → Int → Int → Int → am_M → Option (Int × am_M)} (hK108 : ∀ (l1 : Int), ∀ (l3 : Int), ∀ (l4 : Int), ∀ (l5 : Int), ∀ h : am_M, am_J (EM D a ad) G 9 am_ei 108 [some (.inr (some 0)), some (.inl l1), none, some (.inl l3), some (.inl l4), some (.inl l5), none, none, none] [] h (K108 l1 l3 l4 l5 h)) : ∀ (l1 : Int), ∀ (l3 : Int), ∀ (l4 : Int), ∀ (l5 : Int), ∀ h : am_M, am_J (EM D a ad) G 9 am_ei 108 [some (.inr (some 0)), some (.inl l1), none, some (.inl l3), some (.inl l4), some (.inl l5), none, none, none] [] h (fX9_lay_108b K108 l1 l3 l4 l5 h) := by
  intro l1 l3 l4 l5 h
  unfold fX9_lay_108b
  refine am_iload g dX9_lay_108 rfl ?_
  refine am_aload_n g dX9_lay_110 rfl ?_
  refine am_getr (q := 5) (a := 6) g clX9 dX9_lay_111 (Nat.le_of_ble_eq_true rfl) rfl (by decide) rfl (Nat.le_of_ble_eq_true rfl) lf_X9_25 ?_
  refine am_iload_n g dX9_lay_114 rfl ?_
  refine am_iaload (ix := Int.toNat l1) (nI := 4) g dX9_lay_115 (Nat.le_of_ble_eq_true rfl) rfl rfl (Nat.zero_add _) ?_
  refine am_icmp_ge (tgt := 150) g dX9_lay_116 (by decide) ?_ ?_
  · refine am_drop 5 ?_
    exact (jX9_lay_150 g) l1 l3 l4 h
  · refine am_aload_n g dX9_lay_119 rfl ?_
    refine am_iload_n g dX9_lay_120 rfl ?_
    refine am_iload_n g dX9_lay_121 rfl ?_
    refine am_iload g dX9_lay_122 rfl ?_
    refine am_iload g dX9_lay_124 rfl ?_
    refine am_Si (as := [.inl l3, .inl l5, .inl l4]) (S := [.inl l1, .inr (some 0)]) g (cX9_seedPlaceC l3 l5 l4 h) mi_X9_seedPlace lm_X9_139 dX9_lay_126 rfl (by decide) (Nat.le_of_ble_eq_true rfl) rfl (fun v25 h26 => ?_)
    refine am_aload_n g dX9_lay_129 rfl ?_
    refine am_getr (q := 4) (a := 5) g clX9 dX9_lay_130 (Nat.le_of_ble_eq_true rfl) rfl (by decide) rfl (Nat.le_of_ble_eq_true rfl) lf_X9_22 ?_
    refine am_bipush g dX9_lay_133 (am_il rfl) (am_bi rfl) ?_
    refine am_iload_n g dX9_lay_135 rfl ?_
    refine am_imul g dX9_lay_136 ?_
    refine am_iload g dX9_lay_137 rfl ?_
    refine am_iadd g dX9_lay_139 ?_
    refine am_iaload (ix := Int.toNat (am_w ((am_w (16 * l1)) + l5))) (nI := 64) g dX9_lay_140 (Nat.le_of_ble_eq_true rfl) rfl rfl (Nat.zero_add _) ?_
    refine am_Vv (as := [.inl l1, .inl v25, .inl (h26 6 (Int.toNat (am_w ((am_w (16 * l1)) + l5))))]) (S := []) g (cX9_putC l1 v25 (h26 6 (Int.toNat (am_w ((am_w (16 * l1)) + l5)))) h26) mi_X9_put lm_X9_131 clX9.1 (Nat.le_of_ble_eq_true rfl) rfl dX9_lay_141 rfl (by decide) (Nat.le_of_ble_eq_true rfl) rfl (fun _ h27 => ?_)
    refine am_iinc g dX9_lay_144 (by decide) rfl ?_
    refine am_goto (tgt := 108) g dX9_lay_147 (by decide) ?_
    exact hK108 l1 l3 l4 (am_w (l5 + 1)) h27
theorem jX9_lay_108 {D : va_G} {a : Nat → ClassId} {ad : Nat → Nat} {G : am_G} (g : am_Gd (EM D a ad) RX9 cX9_lay 9 (some .int) 3 G) : ∀ (l1 : Int), ∀ (l3 : Int), ∀ (l4 : Int), ∀ (l5 : Int), ∀ h : am_M, am_J (EM D a ad) G 9 am_ei 108 [some (.inr (some 0)), some (.inl l1), none, some (.inl l3), some (.inl l4), some (.inl l5), none, none, none] [] h (fX9_lay_108 l1 l3 l4 l5 h) := by
  unfold fX9_lay_108
  generalize 400 = n
  induction n with
  | zero => intro l1 l3 l4 l5 h; exact am_jn
  | succ n ih => exact jX9_lay_108b g ih
def fX9_lay_103 (l1 : Int) (l3 : Int) (s0 : Int) (h : am_M) : Option (Int × am_M) := fX9_lay_108 l1 l3 s0 0 h
set_option maxRecDepth 10000 in
theorem jX9_lay_103 {D : va_G} {a : Nat → ClassId} {ad : Nat → Nat} {G : am_G} (g : am_Gd (EM D a ad) RX9 cX9_lay 9 (some .int) 3 G) : ∀ (l1 : Int), ∀ (l3 : Int), ∀ (s0 : Int), ∀ h : am_M, am_J (EM D a ad) G 9 am_ei 103 [some (.inr (some 0)), some (.inl l1), none, some (.inl l3), none, none, none, none, none] [.inl s0] h (fX9_lay_103 l1 l3 s0 h) := by
  intro l1 l3 s0 h
  unfold fX9_lay_103
  refine am_istore g dX9_lay_103 (by decide) ?_
  refine am_iconst g dX9_lay_105 (am_il rfl) rfl ?_
  refine am_istore g dX9_lay_106 (by decide) ?_
  exact (jX9_lay_108 g) l1 l3 s0 0 h
def fX9_lay_90 (l1 : Int) (l3 : Int) (h : am_M) : Option (Int × am_M) := am_b (fX9_number 2 h) (fun v5 h6 => if v5 = 0 then fX9_lay_103 l1 l3 0 h6 else fX9_lay_103 l1 l3 1 h6)
set_option maxRecDepth 10000 in
theorem jX9_lay_90 {D : va_G} {a : Nat → ClassId} {ad : Nat → Nat} {G : am_G} (g : am_Gd (EM D a ad) RX9 cX9_lay 9 (some .int) 3 G) : ∀ (l1 : Int), ∀ (l3 : Int), ∀ h : am_M, am_J (EM D a ad) G 9 am_ei 90 [some (.inr (some 0)), some (.inl l1), none, some (.inl l3), none, none, none, none, none] [] h (fX9_lay_90 l1 l3 h) := by
  intro l1 l3 h
  unfold fX9_lay_90
  refine am_aload_n g dX9_lay_90 rfl ?_
  refine am_iconst g dX9_lay_91 (am_il rfl) rfl ?_
  refine am_Vi (as := [.inl 2]) (S := []) g (cX9_numberC 2 h) mi_X9_number lm_X9_135 clX9.1 (Nat.le_of_ble_eq_true rfl) rfl dX9_lay_92 rfl (by decide) (Nat.le_of_ble_eq_true rfl) rfl (fun v5 h6 => ?_)
  refine am_if_eq (tgt := 102) g dX9_lay_95 (by decide) ?_ ?_
  · refine am_iconst g dX9_lay_102 (am_il rfl) rfl ?_
    exact (jX9_lay_103 g) l1 l3 0 h6
  · refine am_iconst g dX9_lay_98 (am_il rfl) rfl ?_
    refine am_goto (tgt := 103) g dX9_lay_99 (by decide) ?_
    exact (jX9_lay_103 g) l1 l3 1 h6
def fX9_lay_69b (K69 : Int → Int → Int → am_M → Option (Int × am_M)) (l1 : Int) (l3 : Int) (l4 : Int) (h : am_M) : Option (Int × am_M) := if l4 < l3 then am_b (fX9_put l1 l4 (-2) h) (fun _ h28 => K69 l1 l3 (am_w (l4 + 1)) h28) else fX9_lay_90 l1 l3 h
def fX9_lay_69 : Int → Int → Int → am_M → Option (Int × am_M) := am_it (fun _ _ _ _ => none) (fX9_lay_69b) 400
set_option maxRecDepth 10000 in
theorem jX9_lay_69b {D : va_G} {a : Nat → ClassId} {ad : Nat → Nat} {G : am_G} (g : am_Gd (EM D a ad) RX9 cX9_lay 9 (some .int) 3 G) {K69 : Int → Int → Int → am_M → Option (Int × am_M)} (hK69 : ∀ (l1 : Int), ∀ (l3 : Int), ∀ (l4 : Int), ∀ h : am_M, am_J (EM D a ad) G 9 am_ei 69 [some (.inr (some 0)), some (.inl l1), none, some (.inl l3), some (.inl l4), none, none, none, none] [] h (K69 l1 l3 l4 h)) : ∀ (l1 : Int), ∀ (l3 : Int), ∀ (l4 : Int), ∀ h : am_M, am_J (EM D a ad) G 9 am_ei 69 [some (.inr (some 0)), some (.inl l1), none, some (.inl l3), some (.inl l4), none, none, none, none] [] h (fX9_lay_69b K69 l1 l3 l4 h) := by
  intro l1 l3 l4 h
  unfold fX9_lay_69b
  refine am_iload g dX9_lay_69 rfl ?_
  refine am_iload_n g dX9_lay_71 rfl ?_
  refine am_icmp_ge (tgt := 90) g dX9_lay_72 (by decide) ?_ ?_
  · refine am_drop 4 ?_
    exact (jX9_lay_90 g) l1 l3 h
  · refine am_aload_n g dX9_lay_75 rfl ?_
    refine am_iload_n g dX9_lay_76 rfl ?_
    refine am_iload g dX9_lay_77 rfl ?_
    refine am_bipush g dX9_lay_79 (am_il rfl) (am_bi rfl) ?_
    refine am_Vv (as := [.inl l1, .inl l4, .inl (-2)]) (S := []) g (cX9_putC l1 l4 (-2) h) mi_X9_put lm_X9_131 clX9.1 (Nat.le_of_ble_eq_true rfl) rfl dX9_lay_81 rfl (by decide) (Nat.le_of_ble_eq_true rfl) rfl (fun _ h28 => ?_)
    refine am_iinc g dX9_lay_84 (by decide) rfl ?_
    refine am_goto (tgt := 69) g dX9_lay_87 (by decide) ?_
    exact hK69 l1 l3 (am_w (l4 + 1)) h28
theorem jX9_lay_69 {D : va_G} {a : Nat → ClassId} {ad : Nat → Nat} {G : am_G} (g : am_Gd (EM D a ad) RX9 cX9_lay 9 (some .int) 3 G) : ∀ (l1 : Int), ∀ (l3 : Int), ∀ (l4 : Int), ∀ h : am_M, am_J (EM D a ad) G 9 am_ei 69 [some (.inr (some 0)), some (.inl l1), none, some (.inl l3), some (.inl l4), none, none, none, none] [] h (fX9_lay_69 l1 l3 l4 h) := by
  unfold fX9_lay_69
  generalize 400 = n
  induction n with
  | zero => intro l1 l3 l4 h; exact am_jn
  | succ n ih => exact jX9_lay_69b g ih
def fX9_lay (a1 : Int) (a2 : Int) (h : am_M) : Option (Int × am_M) := am_b (fX9_isDraw a1 h) (fun v1 h2 => if v1 = 0 then some ((-1), h2) else if 0 ≤ a1 ∧ a1 < 4 then if (h2 5 (Int.toNat a1)) = 0 then (if 0 ≤ a1 ∧ a1 < 4 then am_l (h2 1 (Int.toNat a1)) (fun x3 => if 0 ≤ a1 ∧ a1 < 4 then if (h2 3 (Int.toNat a1)) < (am_w ((am_w (Int.tdiv x3 2)) + 1)) then some ((-5), h2) else if 0 ≤ a1 ∧ a1 < 4 then if 0 ≤ a1 ∧ a1 < 4 then if (h2 3 (Int.toNat a1)) < (h2 4 (Int.toNat a1)) then some ((-5), h2) else am_l (am_up h2 33 0 a2) (fun h4 => fX9_lay_69 a1 x3 0 h4) else none else none else none) else none) else some ((-4), h2) else none)
set_option maxRecDepth 10000 in
theorem cX9_layC {D : va_G} {a : Nat → ClassId} {ad : Nat → Nat} (a1 : Int) (a2 : Int) (h : am_M) : am_C (EM D a ad) yX9_lay cX9_lay 9 (some .int) 3 [.inr (some 0), .inl a1, .inl a2] h am_ei (fX9_lay a1 a2 h) := by
  refine am_ofJ (L := [some (.inr (some 0)), some (.inl a1), some (.inl a2), none, none, none, none, none, none]) (by decide) rfl (Nat.le_of_ble_eq_true rfl) (fun G g => ?_)
  have g : am_Gd (EM D a ad) RX9 cX9_lay 9 (some .int) 3 G := g
  unfold fX9_lay
  refine am_aload_n g dX9_lay_0 rfl ?_
  refine am_iload_n g dX9_lay_1 rfl ?_
  refine am_Vi (as := [.inl a1]) (S := []) g (cX9_isDrawC a1 h) mi_X9_isDraw lm_X9_123 clX9.1 (Nat.le_of_ble_eq_true rfl) rfl dX9_lay_2 rfl (by decide) (Nat.le_of_ble_eq_true rfl) rfl (fun v1 h2 => ?_)
  refine am_if_ne (tgt := 10) g dX9_lay_5 (by decide) ?_ ?_
  · refine am_aload_n g dX9_lay_10 rfl ?_
    refine am_getr (q := 6) (a := 7) g clX9 dX9_lay_11 (Nat.le_of_ble_eq_true rfl) rfl (by decide) rfl (Nat.le_of_ble_eq_true rfl) lf_X9_28 ?_
    refine am_iload_n g dX9_lay_14 rfl ?_
    refine am_zaload (ix := Int.toNat a1) (nI := 4) g dX9_lay_15 (Nat.le_of_ble_eq_true rfl) rfl rfl (Nat.zero_add _) ?_
    refine am_if_eq (tgt := 22) g dX9_lay_16 (by decide) ?_ ?_
    · refine am_aload_n g dX9_lay_22 rfl ?_
      refine am_getr (q := 1) (a := 2) g clX9 dX9_lay_23 (Nat.le_of_ble_eq_true rfl) rfl (by decide) rfl (Nat.le_of_ble_eq_true rfl) lf_X9_13 ?_
      refine am_iload_n g dX9_lay_26 rfl ?_
      refine am_iaload (ix := Int.toNat a1) (nI := 4) g dX9_lay_27 (Nat.le_of_ble_eq_true rfl) rfl rfl (Nat.zero_add _) ?_
      refine am_gv (fun x3 => ?_)
      refine am_istore_n g dX9_lay_28 (by decide) ?_
      refine am_aload_n g dX9_lay_29 rfl ?_
      refine am_getr (q := 3) (a := 4) g clX9 dX9_lay_30 (Nat.le_of_ble_eq_true rfl) rfl (by decide) rfl (Nat.le_of_ble_eq_true rfl) lf_X9_19 ?_
      refine am_iload_n g dX9_lay_33 rfl ?_
      refine am_iaload (ix := Int.toNat a1) (nI := 4) g dX9_lay_34 (Nat.le_of_ble_eq_true rfl) rfl rfl (Nat.zero_add _) ?_
      refine am_iload_n g dX9_lay_35 rfl ?_
      refine am_iconst g dX9_lay_36 (am_il rfl) rfl ?_
      refine am_idiv g dX9_lay_37 (by decide) ?_
      refine am_iconst g dX9_lay_38 (am_il rfl) rfl ?_
      refine am_iadd g dX9_lay_39 ?_
      refine am_icmp_lt (tgt := 58) g dX9_lay_40 (by decide) ?_ ?_
      · refine am_bipush g dX9_lay_58 (am_il rfl) (am_bi rfl) ?_
        exact am_ireturn g dX9_lay_60
      · refine am_aload_n g dX9_lay_43 rfl ?_
        refine am_getr (q := 3) (a := 4) g clX9 dX9_lay_44 (Nat.le_of_ble_eq_true rfl) rfl (by decide) rfl (Nat.le_of_ble_eq_true rfl) lf_X9_19 ?_
        refine am_iload_n g dX9_lay_47 rfl ?_
        refine am_iaload (ix := Int.toNat a1) (nI := 4) g dX9_lay_48 (Nat.le_of_ble_eq_true rfl) rfl rfl (Nat.zero_add _) ?_
        refine am_aload_n g dX9_lay_49 rfl ?_
        refine am_getr (q := 5) (a := 6) g clX9 dX9_lay_50 (Nat.le_of_ble_eq_true rfl) rfl (by decide) rfl (Nat.le_of_ble_eq_true rfl) lf_X9_25 ?_
        refine am_iload_n g dX9_lay_53 rfl ?_
        refine am_iaload (ix := Int.toNat a1) (nI := 4) g dX9_lay_54 (Nat.le_of_ble_eq_true rfl) rfl rfl (Nat.zero_add _) ?_
        refine am_icmp_ge (tgt := 61) g dX9_lay_55 (by decide) ?_ ?_
        · refine am_aload_n g dX9_lay_61 rfl ?_
          refine am_iload_n g dX9_lay_62 rfl ?_
          refine am_puti (q := 23) (kd := 33) (ix := 0) g clX9 dX9_lay_63 (Nat.le_of_ble_eq_true rfl) rfl (by decide) rfl lf_X9_127 rfl rfl ?_
          refine am_gm (fun h4 => ?_)
          refine am_iconst g dX9_lay_66 (am_il rfl) rfl ?_
          refine am_istore g dX9_lay_67 (by decide) ?_
          refine am_drop 2 ?_
          exact (jX9_lay_69 g) a1 x3 0 h4
        · refine am_bipush g dX9_lay_58 (am_il rfl) (am_bi rfl) ?_
          exact am_ireturn g dX9_lay_60
    · refine am_bipush g dX9_lay_19 (am_il rfl) (am_bi rfl) ?_
      exact am_ireturn g dX9_lay_21
  · refine am_iconst g dX9_lay_8 (am_il rfl) rfl ?_
    exact am_ireturn g dX9_lay_9
def fX9_place (a1 : Int) (a2 : Int) (h : am_M) : Option (Int × am_M) := am_b (fX9_isDraw a1 h) (fun v1 h2 => if v1 = 0 then some ((-2), h2) else if 0 ≤ a1 ∧ a1 < 4 then if (h2 5 (Int.toNat a1)) = 0 then some ((-2), h2) else if 0 ≤ a1 ∧ a1 < 4 then am_b (fX9_in a2 0 (am_w ((h2 1 (Int.toNat a1)) - 1)) h2) (fun v3 h4 => if v3 = 0 then some ((-2), h4) else am_b (fX9_at a1 a2 h4) (fun v5 h6 => some (v5, h6))) else none else none)
set_option maxRecDepth 10000 in
theorem cX9_placeC {D : va_G} {a : Nat → ClassId} {ad : Nat → Nat} (a1 : Int) (a2 : Int) (h : am_M) : am_C (EM D a ad) yX9_place cX9_place 3 (some .int) 3 [.inr (some 0), .inl a1, .inl a2] h am_ei (fX9_place a1 a2 h) := by
  refine am_ofJ (L := [some (.inr (some 0)), some (.inl a1), some (.inl a2)]) (by decide) rfl (Nat.le_of_ble_eq_true rfl) (fun G g => ?_)
  have g : am_Gd (EM D a ad) RX9 cX9_place 3 (some .int) 3 G := g
  unfold fX9_place
  refine am_aload_n g dX9_place_0 rfl ?_
  refine am_iload_n g dX9_place_1 rfl ?_
  refine am_Vi (as := [.inl a1]) (S := []) g (cX9_isDrawC a1 h) mi_X9_isDraw lm_X9_123 clX9.1 (Nat.le_of_ble_eq_true rfl) rfl dX9_place_2 rfl (by decide) (Nat.le_of_ble_eq_true rfl) rfl (fun v1 h2 => ?_)
  refine am_if_eq (tgt := 42) g dX9_place_5 (by decide) ?_ ?_
  · refine am_bipush g dX9_place_42 (am_il rfl) (am_bi rfl) ?_
    exact am_ireturn g dX9_place_44
  · refine am_aload_n g dX9_place_8 rfl ?_
    refine am_getr (q := 6) (a := 7) g clX9 dX9_place_9 (Nat.le_of_ble_eq_true rfl) rfl (by decide) rfl (Nat.le_of_ble_eq_true rfl) lf_X9_28 ?_
    refine am_iload_n g dX9_place_12 rfl ?_
    refine am_zaload (ix := Int.toNat a1) (nI := 4) g dX9_place_13 (Nat.le_of_ble_eq_true rfl) rfl rfl (Nat.zero_add _) ?_
    refine am_if_eq (tgt := 42) g dX9_place_14 (by decide) ?_ ?_
    · refine am_bipush g dX9_place_42 (am_il rfl) (am_bi rfl) ?_
      exact am_ireturn g dX9_place_44
    · refine am_iload_n g dX9_place_17 rfl ?_
      refine am_iconst g dX9_place_18 (am_il rfl) rfl ?_
      refine am_aload_n g dX9_place_19 rfl ?_
      refine am_getr (q := 1) (a := 2) g clX9 dX9_place_20 (Nat.le_of_ble_eq_true rfl) rfl (by decide) rfl (Nat.le_of_ble_eq_true rfl) lf_X9_13 ?_
      refine am_iload_n g dX9_place_23 rfl ?_
      refine am_iaload (ix := Int.toNat a1) (nI := 4) g dX9_place_24 (Nat.le_of_ble_eq_true rfl) rfl rfl (Nat.zero_add _) ?_
      refine am_iconst g dX9_place_25 (am_il rfl) rfl ?_
      refine am_isub g dX9_place_26 ?_
      refine am_Si (as := [.inl a2, .inl 0, .inl (am_w ((h2 1 (Int.toNat a1)) - 1))]) (S := []) g (cX9_inC a2 0 (am_w ((h2 1 (Int.toNat a1)) - 1)) h2) mi_X9_in lm_X9_111 dX9_place_27 rfl (by decide) (Nat.le_of_ble_eq_true rfl) rfl (fun v3 h4 => ?_)
      refine am_if_eq (tgt := 42) g dX9_place_30 (by decide) ?_ ?_
      · refine am_bipush g dX9_place_42 (am_il rfl) (am_bi rfl) ?_
        exact am_ireturn g dX9_place_44
      · refine am_aload_n g dX9_place_33 rfl ?_
        refine am_iload_n g dX9_place_34 rfl ?_
        refine am_iload_n g dX9_place_35 rfl ?_
        refine am_Vi (as := [.inl a1, .inl a2]) (S := []) g (cX9_atC a1 a2 h4) mi_X9_at lm_X9_143 clX9.1 (Nat.le_of_ble_eq_true rfl) rfl dX9_place_36 rfl (by decide) (Nat.le_of_ble_eq_true rfl) rfl (fun v5 h6 => ?_)
        refine am_goto (tgt := 44) g dX9_place_39 (by decide) ?_
        exact am_ireturn g dX9_place_44
def fX9_rounds (a1 : Int) (h : am_M) : Option (Int × am_M) := if 0 ≤ a1 ∧ a1 < 4 then if (h 1 (Int.toNat a1)) = 4 then some (2, h) else if 0 ≤ a1 ∧ a1 < 4 then if (h 1 (Int.toNat a1)) = 8 then some (3, h) else some (4, h) else none else none
set_option maxRecDepth 10000 in
theorem cX9_roundsC {D : va_G} {a : Nat → ClassId} {ad : Nat → Nat} (a1 : Int) (h : am_M) : am_C (EM D a ad) yX9_rounds cX9_rounds 2 (some .int) 1 [.inr (some 0), .inl a1] h am_ei (fX9_rounds a1 h) := by
  refine am_ofJ (L := [some (.inr (some 0)), some (.inl a1)]) (by decide) rfl (Nat.le_of_ble_eq_true rfl) (fun G g => ?_)
  have g : am_Gd (EM D a ad) RX9 cX9_rounds 2 (some .int) 1 G := g
  unfold fX9_rounds
  refine am_aload_n g dX9_rounds_0 rfl ?_
  refine am_getr (q := 1) (a := 2) g clX9 dX9_rounds_1 (Nat.le_of_ble_eq_true rfl) rfl (by decide) rfl (Nat.le_of_ble_eq_true rfl) lf_X9_13 ?_
  refine am_iload_n g dX9_rounds_4 rfl ?_
  refine am_iaload (ix := Int.toNat a1) (nI := 4) g dX9_rounds_5 (Nat.le_of_ble_eq_true rfl) rfl rfl (Nat.zero_add _) ?_
  refine am_iconst g dX9_rounds_6 (am_il rfl) rfl ?_
  refine am_icmp_ne (tgt := 14) g dX9_rounds_7 (by decide) ?_ ?_
  · refine am_aload_n g dX9_rounds_14 rfl ?_
    refine am_getr (q := 1) (a := 2) g clX9 dX9_rounds_15 (Nat.le_of_ble_eq_true rfl) rfl (by decide) rfl (Nat.le_of_ble_eq_true rfl) lf_X9_13 ?_
    refine am_iload_n g dX9_rounds_18 rfl ?_
    refine am_iaload (ix := Int.toNat a1) (nI := 4) g dX9_rounds_19 (Nat.le_of_ble_eq_true rfl) rfl rfl (Nat.zero_add _) ?_
    refine am_bipush g dX9_rounds_20 (am_il rfl) (am_bi rfl) ?_
    refine am_icmp_ne (tgt := 29) g dX9_rounds_22 (by decide) ?_ ?_
    · refine am_iconst g dX9_rounds_29 (am_il rfl) rfl ?_
      exact am_ireturn g dX9_rounds_30
    · refine am_iconst g dX9_rounds_25 (am_il rfl) rfl ?_
      refine am_goto (tgt := 30) g dX9_rounds_26 (by decide) ?_
      exact am_ireturn g dX9_rounds_30
  · refine am_iconst g dX9_rounds_10 (am_il rfl) rfl ?_
    refine am_goto (tgt := 30) g dX9_rounds_11 (by decide) ?_
    exact am_ireturn g dX9_rounds_30
def fX9_firstOf_5b (K5 : Int → Int → Int → Int → am_M → Option (Int × am_M)) (l1 : Int) (l2 : Int) (l3 : Int) (l4 : Int) (h : am_M) : Option (Int × am_M) := if l4 < l2 then (if 0 ≤ l1 ∧ l1 < 4 then am_l (am_w (l3 + (am_shr (h 1 (Int.toNat l1)) (am_w (l4 + 1))))) (fun x1 => K5 l1 l2 x1 (am_w (l4 + 1)) h) else none) else some (l3, h)
def fX9_firstOf_5 : Int → Int → Int → Int → am_M → Option (Int × am_M) := am_it (fun _ _ _ _ _ => none) (fX9_firstOf_5b) 400
set_option maxRecDepth 10000 in
theorem jX9_firstOf_5b {D : va_G} {a : Nat → ClassId} {ad : Nat → Nat} {G : am_G} (g : am_Gd (EM D a ad) RX9 cX9_firstOf 5 (some .int) 1 G) {K5 : Int → Int → Int → Int → am_M → Option (Int × am_M)} (hK5 : ∀ (l1 : Int), ∀ (l2 : Int), ∀ (l3 : Int), ∀ (l4 : Int), ∀ h : am_M, am_J (EM D a ad) G 5 am_ei 5 [some (.inr (some 0)), some (.inl l1), some (.inl l2), some (.inl l3), some (.inl l4)] [] h (K5 l1 l2 l3 l4 h)) : ∀ (l1 : Int), ∀ (l2 : Int), ∀ (l3 : Int), ∀ (l4 : Int), ∀ h : am_M, am_J (EM D a ad) G 5 am_ei 5 [some (.inr (some 0)), some (.inl l1), some (.inl l2), some (.inl l3), some (.inl l4)] [] h (fX9_firstOf_5b K5 l1 l2 l3 l4 h) := by
  intro l1 l2 l3 l4 h
  unfold fX9_firstOf_5b
  refine am_iload g dX9_firstOf_5 rfl ?_
  refine am_iload_n g dX9_firstOf_7 rfl ?_
  refine am_icmp_ge (tgt := 31) g dX9_firstOf_8 (by decide) ?_ ?_
  · refine am_iload_n g dX9_firstOf_31 rfl ?_
    exact am_ireturn g dX9_firstOf_32
  · refine am_iload_n g dX9_firstOf_11 rfl ?_
    refine am_aload_n g dX9_firstOf_12 rfl ?_
    refine am_getr (q := 1) (a := 2) g clX9 dX9_firstOf_13 (Nat.le_of_ble_eq_true rfl) rfl (by decide) rfl (Nat.le_of_ble_eq_true rfl) lf_X9_13 ?_
    refine am_iload_n g dX9_firstOf_16 rfl ?_
    refine am_iaload (ix := Int.toNat l1) (nI := 4) g dX9_firstOf_17 (Nat.le_of_ble_eq_true rfl) rfl rfl (Nat.zero_add _) ?_
    refine am_iload g dX9_firstOf_18 rfl ?_
    refine am_iconst g dX9_firstOf_20 (am_il rfl) rfl ?_
    refine am_iadd g dX9_firstOf_21 ?_
    refine am_ishr g dX9_firstOf_22 ?_
    refine am_iadd g dX9_firstOf_23 ?_
    refine am_gv (fun x1 => ?_)
    refine am_istore_n g dX9_firstOf_24 (by decide) ?_
    refine am_iinc g dX9_firstOf_25 (by decide) rfl ?_
    refine am_goto (tgt := 5) g dX9_firstOf_28 (by decide) ?_
    exact hK5 l1 l2 x1 (am_w (l4 + 1)) h
theorem jX9_firstOf_5 {D : va_G} {a : Nat → ClassId} {ad : Nat → Nat} {G : am_G} (g : am_Gd (EM D a ad) RX9 cX9_firstOf 5 (some .int) 1 G) : ∀ (l1 : Int), ∀ (l2 : Int), ∀ (l3 : Int), ∀ (l4 : Int), ∀ h : am_M, am_J (EM D a ad) G 5 am_ei 5 [some (.inr (some 0)), some (.inl l1), some (.inl l2), some (.inl l3), some (.inl l4)] [] h (fX9_firstOf_5 l1 l2 l3 l4 h) := by
  unfold fX9_firstOf_5
  generalize 400 = n
  induction n with
  | zero => intro l1 l2 l3 l4 h; exact am_jn
  | succ n ih => exact jX9_firstOf_5b g ih
def fX9_firstOf (a1 : Int) (a2 : Int) (h : am_M) : Option (Int × am_M) := fX9_firstOf_5 a1 a2 0 0 h
set_option maxRecDepth 10000 in
theorem cX9_firstOfC {D : va_G} {a : Nat → ClassId} {ad : Nat → Nat} (a1 : Int) (a2 : Int) (h : am_M) : am_C (EM D a ad) yX9_firstOf cX9_firstOf 5 (some .int) 1 [.inr (some 0), .inl a1, .inl a2] h am_ei (fX9_firstOf a1 a2 h) := by
  refine am_ofJ (L := [some (.inr (some 0)), some (.inl a1), some (.inl a2), none, none]) (by decide) rfl (Nat.le_of_ble_eq_true rfl) (fun G g => ?_)
  have g : am_Gd (EM D a ad) RX9 cX9_firstOf 5 (some .int) 1 G := g
  unfold fX9_firstOf
  refine am_iconst g dX9_firstOf_0 (am_il rfl) rfl ?_
  refine am_istore_n g dX9_firstOf_1 (by decide) ?_
  refine am_iconst g dX9_firstOf_2 (am_il rfl) rfl ?_
  refine am_istore g dX9_firstOf_3 (by decide) ?_
  exact (jX9_firstOf_5 g) a1 a2 0 0 h
def fX9_roundOf_15b (K15 : Int → Int → Int → Int → am_M → Option (Int × am_M)) (l2 : Int) (l3 : Int) (l4 : Int) (l5 : Int) (h : am_M) : Option (Int × am_M) := if l2 < (am_w (l4 + l5)) then some (l3, h) else am_l (am_w (l4 + l5)) (fun x2 => am_l (am_w (Int.tdiv l5 2)) (fun x3 => K15 l2 (am_w (l3 + 1)) x2 x3 h))
def fX9_roundOf_15 : Int → Int → Int → Int → am_M → Option (Int × am_M) := am_it (fun _ _ _ _ _ => none) (fX9_roundOf_15b) 400
set_option maxRecDepth 10000 in
theorem jX9_roundOf_15b {D : va_G} {a : Nat → ClassId} {ad : Nat → Nat} {G : am_G} (g : am_Gd (EM D a ad) RX9 cX9_roundOf 6 (some .int) 1 G) {K15 : Int → Int → Int → Int → am_M → Option (Int × am_M)} (hK15 : ∀ (l2 : Int), ∀ (l3 : Int), ∀ (l4 : Int), ∀ (l5 : Int), ∀ h : am_M, am_J (EM D a ad) G 6 am_ei 15 [none, none, some (.inl l2), some (.inl l3), some (.inl l4), some (.inl l5)] [] h (K15 l2 l3 l4 l5 h)) : ∀ (l2 : Int), ∀ (l3 : Int), ∀ (l4 : Int), ∀ (l5 : Int), ∀ h : am_M, am_J (EM D a ad) G 6 am_ei 15 [none, none, some (.inl l2), some (.inl l3), some (.inl l4), some (.inl l5)] [] h (fX9_roundOf_15b K15 l2 l3 l4 l5 h) := by
  intro l2 l3 l4 l5 h
  unfold fX9_roundOf_15b
  refine am_iload_n g dX9_roundOf_15 rfl ?_
  refine am_iload g dX9_roundOf_16 rfl ?_
  refine am_iload g dX9_roundOf_18 rfl ?_
  refine am_iadd g dX9_roundOf_20 ?_
  refine am_icmp_lt (tgt := 43) g dX9_roundOf_21 (by decide) ?_ ?_
  · refine am_iload_n g dX9_roundOf_43 rfl ?_
    exact am_ireturn g dX9_roundOf_44
  · refine am_iload g dX9_roundOf_24 rfl ?_
    refine am_iload g dX9_roundOf_26 rfl ?_
    refine am_iadd g dX9_roundOf_28 ?_
    refine am_gv (fun x2 => ?_)
    refine am_istore g dX9_roundOf_29 (by decide) ?_
    refine am_iload g dX9_roundOf_31 rfl ?_
    refine am_iconst g dX9_roundOf_33 (am_il rfl) rfl ?_
    refine am_idiv g dX9_roundOf_34 (by decide) ?_
    refine am_gv (fun x3 => ?_)
    refine am_istore g dX9_roundOf_35 (by decide) ?_
    refine am_iinc g dX9_roundOf_37 (by decide) rfl ?_
    refine am_goto (tgt := 15) g dX9_roundOf_40 (by decide) ?_
    exact hK15 l2 (am_w (l3 + 1)) x2 x3 h
theorem jX9_roundOf_15 {D : va_G} {a : Nat → ClassId} {ad : Nat → Nat} {G : am_G} (g : am_Gd (EM D a ad) RX9 cX9_roundOf 6 (some .int) 1 G) : ∀ (l2 : Int), ∀ (l3 : Int), ∀ (l4 : Int), ∀ (l5 : Int), ∀ h : am_M, am_J (EM D a ad) G 6 am_ei 15 [none, none, some (.inl l2), some (.inl l3), some (.inl l4), some (.inl l5)] [] h (fX9_roundOf_15 l2 l3 l4 l5 h) := by
  unfold fX9_roundOf_15
  generalize 400 = n
  induction n with
  | zero => intro l2 l3 l4 l5 h; exact am_jn
  | succ n ih => exact jX9_roundOf_15b g ih
def fX9_roundOf (a1 : Int) (a2 : Int) (h : am_M) : Option (Int × am_M) := if 0 ≤ a1 ∧ a1 < 4 then am_l (am_w (Int.tdiv (h 1 (Int.toNat a1)) 2)) (fun x1 => fX9_roundOf_15 a2 0 0 x1 h) else none
set_option maxRecDepth 10000 in
theorem cX9_roundOfC {D : va_G} {a : Nat → ClassId} {ad : Nat → Nat} (a1 : Int) (a2 : Int) (h : am_M) : am_C (EM D a ad) yX9_roundOf cX9_roundOf 6 (some .int) 1 [.inr (some 0), .inl a1, .inl a2] h am_ei (fX9_roundOf a1 a2 h) := by
  refine am_ofJ (L := [some (.inr (some 0)), some (.inl a1), some (.inl a2), none, none, none]) (by decide) rfl (Nat.le_of_ble_eq_true rfl) (fun G g => ?_)
  have g : am_Gd (EM D a ad) RX9 cX9_roundOf 6 (some .int) 1 G := g
  unfold fX9_roundOf
  refine am_iconst g dX9_roundOf_0 (am_il rfl) rfl ?_
  refine am_istore_n g dX9_roundOf_1 (by decide) ?_
  refine am_iconst g dX9_roundOf_2 (am_il rfl) rfl ?_
  refine am_istore g dX9_roundOf_3 (by decide) ?_
  refine am_aload_n g dX9_roundOf_5 rfl ?_
  refine am_getr (q := 1) (a := 2) g clX9 dX9_roundOf_6 (Nat.le_of_ble_eq_true rfl) rfl (by decide) rfl (Nat.le_of_ble_eq_true rfl) lf_X9_13 ?_
  refine am_iload_n g dX9_roundOf_9 rfl ?_
  refine am_iaload (ix := Int.toNat a1) (nI := 4) g dX9_roundOf_10 (Nat.le_of_ble_eq_true rfl) rfl rfl (Nat.zero_add _) ?_
  refine am_iconst g dX9_roundOf_11 (am_il rfl) rfl ?_
  refine am_idiv g dX9_roundOf_12 (by decide) ?_
  refine am_gv (fun x1 => ?_)
  refine am_istore g dX9_roundOf_13 (by decide) ?_
  refine am_drop 0 ?_
  refine am_drop 1 ?_
  exact (jX9_roundOf_15 g) a2 0 0 x1 h
def fX9_feeds (a1 : Int) (a2 : Int) (h : am_M) : Option (Int × am_M) := am_l (am_w (Int.tdiv a1 16)) (fun x1 => am_b (fX9_roundOf x1 (Int.tmod a1 16) h) (fun v2 h3 => am_b (fX9_firstOf x1 v2 h3) (fun v4 h5 => am_l (am_w ((Int.tmod a1 16) - v4)) (fun x6 => am_b (fX9_firstOf x1 (am_w (v2 - 1)) h5) (fun v7 h8 => some (am_w ((am_w ((am_w ((am_w (16 * x1)) + v7)) + (am_w (2 * x6)))) + a2), h8))))))
set_option maxRecDepth 10000 in
theorem cX9_feedsC {D : va_G} {a : Nat → ClassId} {ad : Nat → Nat} (a1 : Int) (a2 : Int) (h : am_M) : am_C (EM D a ad) yX9_feeds cX9_feeds 6 (some .int) 2 [.inr (some 0), .inl a1, .inl a2] h am_ei (fX9_feeds a1 a2 h) := by
  refine am_ofJ (L := [some (.inr (some 0)), some (.inl a1), some (.inl a2), none, none, none]) (by decide) rfl (Nat.le_of_ble_eq_true rfl) (fun G g => ?_)
  have g : am_Gd (EM D a ad) RX9 cX9_feeds 6 (some .int) 2 G := g
  unfold fX9_feeds
  refine am_iload_n g dX9_feeds_0 rfl ?_
  refine am_bipush g dX9_feeds_1 (am_il rfl) (am_bi rfl) ?_
  refine am_idiv g dX9_feeds_3 (by decide) ?_
  refine am_gv (fun x1 => ?_)
  refine am_istore_n g dX9_feeds_4 (by decide) ?_
  refine am_aload_n g dX9_feeds_5 rfl ?_
  refine am_iload_n g dX9_feeds_6 rfl ?_
  refine am_iload_n g dX9_feeds_7 rfl ?_
  refine am_bipush g dX9_feeds_8 (am_il rfl) (am_bi rfl) ?_
  refine am_irem g dX9_feeds_10 (by decide) ?_
  refine am_Vi (as := [.inl x1, .inl (Int.tmod a1 16)]) (S := []) g (cX9_roundOfC x1 (Int.tmod a1 16) h) mi_X9_roundOf lm_X9_167 clX9.1 (Nat.le_of_ble_eq_true rfl) rfl dX9_feeds_11 rfl (by decide) (Nat.le_of_ble_eq_true rfl) rfl (fun v2 h3 => ?_)
  refine am_istore g dX9_feeds_14 (by decide) ?_
  refine am_iload_n g dX9_feeds_16 rfl ?_
  refine am_bipush g dX9_feeds_17 (am_il rfl) (am_bi rfl) ?_
  refine am_irem g dX9_feeds_19 (by decide) ?_
  refine am_aload_n g dX9_feeds_20 rfl ?_
  refine am_iload_n g dX9_feeds_21 rfl ?_
  refine am_iload g dX9_feeds_22 rfl ?_
  refine am_Vi (as := [.inl x1, .inl v2]) (S := [.inl (Int.tmod a1 16)]) g (cX9_firstOfC x1 v2 h3) mi_X9_firstOf lm_X9_179 clX9.1 (Nat.le_of_ble_eq_true rfl) rfl dX9_feeds_24 rfl (by decide) (Nat.le_of_ble_eq_true rfl) rfl (fun v4 h5 => ?_)
  refine am_isub g dX9_feeds_27 ?_
  refine am_gv (fun x6 => ?_)
  refine am_istore g dX9_feeds_28 (by decide) ?_
  refine am_bipush g dX9_feeds_30 (am_il rfl) (am_bi rfl) ?_
  refine am_iload_n g dX9_feeds_32 rfl ?_
  refine am_imul g dX9_feeds_33 ?_
  refine am_aload_n g dX9_feeds_34 rfl ?_
  refine am_iload_n g dX9_feeds_35 rfl ?_
  refine am_iload g dX9_feeds_36 rfl ?_
  refine am_iconst g dX9_feeds_38 (am_il rfl) rfl ?_
  refine am_isub g dX9_feeds_39 ?_
  refine am_Vi (as := [.inl x1, .inl (am_w (v2 - 1))]) (S := [.inl (am_w (16 * x1))]) g (cX9_firstOfC x1 (am_w (v2 - 1)) h5) mi_X9_firstOf lm_X9_179 clX9.1 (Nat.le_of_ble_eq_true rfl) rfl dX9_feeds_40 rfl (by decide) (Nat.le_of_ble_eq_true rfl) rfl (fun v7 h8 => ?_)
  refine am_iadd g dX9_feeds_43 ?_
  refine am_iconst g dX9_feeds_44 (am_il rfl) rfl ?_
  refine am_iload g dX9_feeds_45 rfl ?_
  refine am_imul g dX9_feeds_47 ?_
  refine am_iadd g dX9_feeds_48 ?_
  refine am_iload_n g dX9_feeds_49 rfl ?_
  refine am_iadd g dX9_feeds_50 ?_
  exact am_ireturn g dX9_feeds_51
def fX9_isOfBye (SO : Int → Int → am_M → Option (Int × am_M)) (a1 : Int) (h : am_M) : Option (Int × am_M) := am_b (fX9_roundOf (am_w (Int.tdiv a1 16)) (Int.tmod a1 16) h) (fun v1 h2 => if v1 = 0 then (am_b (SO a1 0 h2) (fun v3 h4 => if v3 = (-1) then some (1, h4) else am_b (SO a1 1 h4) (fun v5 h6 => if v5 = (-1) then some (1, h6) else some (0, h6)))) else some (0, h2))
set_option maxRecDepth 10000 in
theorem oX9_isOfBye {D : va_G} {a : Nat → ClassId} {ad : Nat → Nat} {k kS : Nat} {SO : Int → Int → am_M → Option (Int × am_M)} (hSO : ∀ (a1 a2 : Int) (h : am_M), am_C (EM D a ad) yX9_sideOf cX9_sideOf 6 (some .int) kS [.inr (some 0), .inl a1, .inl a2] h am_ei (SO a1 a2 h)) (hk : kS + 1 ≤ k) (h4 : 4 ≤ kS) (a1 : Int) (h : am_M) : am_C (EM D a ad) yX9_isOfBye cX9_isOfBye 2 (some .boolean) k [.inr (some 0), .inl a1] h am_ei (fX9_isOfBye SO a1 h) := by
  refine am_ofJ (L := [some (.inr (some 0)), some (.inl a1)]) (by decide) rfl (Nat.le_of_ble_eq_true rfl) (fun G g => ?_)
  have g : am_Gd (EM D a ad) RX9 cX9_isOfBye 2 (some .boolean) k G := g
  unfold fX9_isOfBye
  refine am_aload_n g dX9_isOfBye_0 rfl ?_
  refine am_iload_n g dX9_isOfBye_1 rfl ?_
  refine am_bipush g dX9_isOfBye_2 (am_il rfl) (am_bi rfl) ?_
  refine am_idiv g dX9_isOfBye_4 (by decide) ?_
  refine am_iload_n g dX9_isOfBye_5 rfl ?_
  refine am_bipush g dX9_isOfBye_6 (am_il rfl) (am_bi rfl) ?_
  refine am_irem g dX9_isOfBye_8 (by decide) ?_
  refine am_Vi (as := [.inl (am_w (Int.tdiv a1 16)), .inl (Int.tmod a1 16)]) (S := []) g (cX9_roundOfC (am_w (Int.tdiv a1 16)) (Int.tmod a1 16) h) mi_X9_roundOf lm_X9_167 clX9.1 (Nat.le_of_ble_eq_true rfl) rfl dX9_isOfBye_9 rfl (by omega) (Nat.le_of_ble_eq_true rfl) rfl (fun v1 h2 => ?_)
  refine am_if_ne (tgt := 39) g dX9_isOfBye_12 (by decide) ?_ ?_
  · refine am_iconst g dX9_isOfBye_39 (am_il rfl) rfl ?_
    exact am_zreturn g dX9_isOfBye_40 (by decide)
  · refine am_aload_n g dX9_isOfBye_15 rfl ?_
    refine am_iload_n g dX9_isOfBye_16 rfl ?_
    refine am_iconst g dX9_isOfBye_17 (am_il rfl) rfl ?_
    refine am_Vi (as := [.inl a1, .inl 0]) (S := []) g (hSO a1 0 h2) mi_X9_sideOf lm_X9_173 clX9.1 (Nat.le_of_ble_eq_true rfl) rfl dX9_isOfBye_18 rfl (by omega) (Nat.le_of_ble_eq_true rfl) rfl (fun v3 h4 => ?_)
    refine am_iconst g dX9_isOfBye_21 (am_il rfl) rfl ?_
    refine am_icmp_eq (tgt := 35) g dX9_isOfBye_22 (by decide) ?_ ?_
    · refine am_iconst g dX9_isOfBye_35 (am_il rfl) rfl ?_
      refine am_goto (tgt := 40) g dX9_isOfBye_36 (by decide) ?_
      exact am_zreturn g dX9_isOfBye_40 (by decide)
    · refine am_aload_n g dX9_isOfBye_25 rfl ?_
      refine am_iload_n g dX9_isOfBye_26 rfl ?_
      refine am_iconst g dX9_isOfBye_27 (am_il rfl) rfl ?_
      refine am_Vi (as := [.inl a1, .inl 1]) (S := []) g (hSO a1 1 h4) mi_X9_sideOf lm_X9_173 clX9.1 (Nat.le_of_ble_eq_true rfl) rfl dX9_isOfBye_28 rfl (by omega) (Nat.le_of_ble_eq_true rfl) rfl (fun v5 h6 => ?_)
      refine am_iconst g dX9_isOfBye_31 (am_il rfl) rfl ?_
      refine am_icmp_ne (tgt := 39) g dX9_isOfBye_32 (by decide) ?_ ?_
      · refine am_iconst g dX9_isOfBye_39 (am_il rfl) rfl ?_
        exact am_zreturn g dX9_isOfBye_40 (by decide)
      · refine am_iconst g dX9_isOfBye_35 (am_il rfl) rfl ?_
        refine am_goto (tgt := 40) g dX9_isOfBye_36 (by decide) ?_
        exact am_zreturn g dX9_isOfBye_40 (by decide)
def fX9_play_26 (K27 : Int → Int → Int → am_M → Option (Unit × am_M)) (l1 : Int) (l2 : Int) (h : am_M) : Option (Unit × am_M) := K27 l1 l2 0 h
set_option maxRecDepth 10000 in
theorem jX9_play_26 {D : va_G} {a : Nat → ClassId} {ad : Nat → Nat} {G : am_G} (g : am_Gd (EM D a ad) RX9 cX9_play 5 none 1 G) {K27 : Int → Int → Int → am_M → Option (Unit × am_M)} (hK27 : ∀ (l1 : Int), ∀ (l2 : Int), ∀ (s0 : Int), ∀ h : am_M, am_J (EM D a ad) G 5 am_ev 27 [some (.inr (some 0)), some (.inl l1), some (.inl l2), none, none] [.inl s0] h (K27 l1 l2 s0 h)) : ∀ (l1 : Int), ∀ (l2 : Int), ∀ h : am_M, am_J (EM D a ad) G 5 am_ev 26 [some (.inr (some 0)), some (.inl l1), some (.inl l2), none, none] [] h (fX9_play_26 K27 l1 l2 h) := by
  intro l1 l2 h
  unfold fX9_play_26
  refine am_iconst g dX9_play_26 (am_il rfl) rfl ?_
  exact hK27 l1 l2 0 h
def fX9_play_85 (K86 : Int → Int → Int → Int → am_M → Option (Unit × am_M)) (l1 : Int) (l2 : Int) (l3 : Int) (h : am_M) : Option (Unit × am_M) := K86 l1 l2 l3 0 h
set_option maxRecDepth 10000 in
theorem jX9_play_85 {D : va_G} {a : Nat → ClassId} {ad : Nat → Nat} {G : am_G} (g : am_Gd (EM D a ad) RX9 cX9_play 5 none 1 G) {K86 : Int → Int → Int → Int → am_M → Option (Unit × am_M)} (hK86 : ∀ (l1 : Int), ∀ (l2 : Int), ∀ (l3 : Int), ∀ (s0 : Int), ∀ h : am_M, am_J (EM D a ad) G 5 am_ev 86 [some (.inr (some 0)), some (.inl l1), some (.inl l2), some (.inl l3), none] [.inl s0] h (K86 l1 l2 l3 s0 h)) : ∀ (l1 : Int), ∀ (l2 : Int), ∀ (l3 : Int), ∀ h : am_M, am_J (EM D a ad) G 5 am_ev 85 [some (.inr (some 0)), some (.inl l1), some (.inl l2), some (.inl l3), none] [] h (fX9_play_85 K86 l1 l2 l3 h) := by
  intro l1 l2 l3 h
  unfold fX9_play_85
  refine am_iconst g dX9_play_85 (am_il rfl) rfl ?_
  exact hK86 l1 l2 l3 0 h
def fX9_play_230 (l1 : Int) (l2 : Int) (h : am_M) : Option (Unit × am_M) := am_l (am_up h 51 0 2) (fun h8 => if 0 ≤ (am_w (2 * (h8 39 0))) ∧ (am_w (2 * (h8 39 0))) < 10 then am_l (am_up h8 37 (Int.toNat (am_w (2 * (h8 39 0)))) (h8 35 0)) (fun h9 => if 0 ≤ (am_w ((am_w (2 * (h9 39 0))) + 1)) ∧ (am_w ((am_w (2 * (h9 39 0))) + 1)) < 10 then am_l (am_up h9 37 (Int.toNat (am_w ((am_w (2 * (h9 39 0))) + 1))) (h9 35 1)) (fun h10 => am_l (am_up h10 39 0 (am_w ((h10 39 0) + 1))) (fun h11 => am_l (am_up h11 35 0 0) (fun h12 => am_l (am_up h12 35 1 0) (fun h13 => if 0 ≤ l1 ∧ l1 < 2 then if 0 ≤ l1 ∧ l1 < 2 then am_l (am_up h13 36 (Int.toNat l1) (am_w ((h13 36 (Int.toNat l1)) + 1))) (fun h14 => if 0 ≤ l1 ∧ l1 < 2 then if (h14 36 (Int.toNat l1)) = l2 then am_l (am_up h14 51 0 3) (fun h15 => some ((), h15)) else some ((), h14) else none) else none else none)))) else none) else none)
set_option maxRecDepth 10000 in
theorem jX9_play_230 {D : va_G} {a : Nat → ClassId} {ad : Nat → Nat} {G : am_G} (g : am_Gd (EM D a ad) RX9 cX9_play 5 none 1 G) : ∀ (l1 : Int), ∀ (l2 : Int), ∀ h : am_M, am_J (EM D a ad) G 5 am_ev 230 [some (.inr (some 0)), some (.inl l1), some (.inl l2), none, none] [] h (fX9_play_230 l1 l2 h) := by
  intro l1 l2 h
  unfold fX9_play_230
  refine am_aload_n g dX9_play_230 rfl ?_
  refine am_iconst g dX9_play_231 (am_il rfl) rfl ?_
  refine am_puti (q := 32) (kd := 51) (ix := 0) g clX9 dX9_play_232 (Nat.le_of_ble_eq_true rfl) rfl (by decide) rfl lf_X9_208 rfl rfl ?_
  refine am_gm (fun h8 => ?_)
  refine am_aload_n g dX9_play_235 rfl ?_
  refine am_getr (q := 28) (a := 27) g clX9 dX9_play_236 (Nat.le_of_ble_eq_true rfl) rfl (by decide) rfl (Nat.le_of_ble_eq_true rfl) lf_X9_90 ?_
  refine am_iconst g dX9_play_239 (am_il rfl) rfl ?_
  refine am_aload_n g dX9_play_240 rfl ?_
  refine am_geti (q := 29) (kd := 39) (ix := 0) g clX9 dX9_play_241 (Nat.le_of_ble_eq_true rfl) rfl (by decide) rfl lf_X9_199 ?_
  refine am_imul g dX9_play_244 ?_
  refine am_aload_n g dX9_play_245 rfl ?_
  refine am_getr (q := 26) (a := 25) g clX9 dX9_play_246 (Nat.le_of_ble_eq_true rfl) rfl (by decide) rfl (Nat.le_of_ble_eq_true rfl) lf_X9_84 ?_
  refine am_iconst g dX9_play_249 (am_il rfl) rfl ?_
  refine am_ialoadC (ix := 0) (nI := 2) g dX9_play_250 (Nat.le_of_ble_eq_true rfl) rfl rfl rfl rfl ?_
  refine am_iastore (ix := Int.toNat (am_w (2 * (h8 39 0)))) (nI := 10) g dX9_play_251 (Nat.le_of_ble_eq_true rfl) rfl rfl (Nat.zero_add _) ?_
  refine am_gm (fun h9 => ?_)
  refine am_aload_n g dX9_play_252 rfl ?_
  refine am_getr (q := 28) (a := 27) g clX9 dX9_play_253 (Nat.le_of_ble_eq_true rfl) rfl (by decide) rfl (Nat.le_of_ble_eq_true rfl) lf_X9_90 ?_
  refine am_iconst g dX9_play_256 (am_il rfl) rfl ?_
  refine am_aload_n g dX9_play_257 rfl ?_
  refine am_geti (q := 29) (kd := 39) (ix := 0) g clX9 dX9_play_258 (Nat.le_of_ble_eq_true rfl) rfl (by decide) rfl lf_X9_199 ?_
  refine am_imul g dX9_play_261 ?_
  refine am_iconst g dX9_play_262 (am_il rfl) rfl ?_
  refine am_iadd g dX9_play_263 ?_
  refine am_aload_n g dX9_play_264 rfl ?_
  refine am_getr (q := 26) (a := 25) g clX9 dX9_play_265 (Nat.le_of_ble_eq_true rfl) rfl (by decide) rfl (Nat.le_of_ble_eq_true rfl) lf_X9_84 ?_
  refine am_iconst g dX9_play_268 (am_il rfl) rfl ?_
  refine am_ialoadC (ix := 1) (nI := 2) g dX9_play_269 (Nat.le_of_ble_eq_true rfl) rfl rfl rfl rfl ?_
  refine am_iastore (ix := Int.toNat (am_w ((am_w (2 * (h9 39 0))) + 1))) (nI := 10) g dX9_play_270 (Nat.le_of_ble_eq_true rfl) rfl rfl (Nat.zero_add _) ?_
  refine am_gm (fun h10 => ?_)
  refine am_aload_n g dX9_play_271 rfl ?_
  refine am_dup g dX9_play_272 ?_
  refine am_geti (q := 29) (kd := 39) (ix := 0) g clX9 dX9_play_273 (Nat.le_of_ble_eq_true rfl) rfl (by decide) rfl lf_X9_199 ?_
  refine am_iconst g dX9_play_276 (am_il rfl) rfl ?_
  refine am_iadd g dX9_play_277 ?_
  refine am_puti (q := 29) (kd := 39) (ix := 0) g clX9 dX9_play_278 (Nat.le_of_ble_eq_true rfl) rfl (by decide) rfl lf_X9_199 rfl rfl ?_
  refine am_gm (fun h11 => ?_)
  refine am_aload_n g dX9_play_281 rfl ?_
  refine am_getr (q := 26) (a := 25) g clX9 dX9_play_282 (Nat.le_of_ble_eq_true rfl) rfl (by decide) rfl (Nat.le_of_ble_eq_true rfl) lf_X9_84 ?_
  refine am_iconst g dX9_play_285 (am_il rfl) rfl ?_
  refine am_iconst g dX9_play_286 (am_il rfl) rfl ?_
  refine am_iastoreC (ix := 0) (nI := 2) g dX9_play_287 (Nat.le_of_ble_eq_true rfl) rfl rfl rfl rfl ?_
  refine am_gm (fun h12 => ?_)
  refine am_aload_n g dX9_play_288 rfl ?_
  refine am_getr (q := 26) (a := 25) g clX9 dX9_play_289 (Nat.le_of_ble_eq_true rfl) rfl (by decide) rfl (Nat.le_of_ble_eq_true rfl) lf_X9_84 ?_
  refine am_iconst g dX9_play_292 (am_il rfl) rfl ?_
  refine am_iconst g dX9_play_293 (am_il rfl) rfl ?_
  refine am_iastoreC (ix := 1) (nI := 2) g dX9_play_294 (Nat.le_of_ble_eq_true rfl) rfl rfl rfl rfl ?_
  refine am_gm (fun h13 => ?_)
  refine am_aload_n g dX9_play_295 rfl ?_
  refine am_getr (q := 27) (a := 26) g clX9 dX9_play_296 (Nat.le_of_ble_eq_true rfl) rfl (by decide) rfl (Nat.le_of_ble_eq_true rfl) lf_X9_87 ?_
  refine am_iload_n g dX9_play_299 rfl ?_
  refine am_dup2 g dX9_play_300 ?_
  refine am_iaload (ix := Int.toNat l1) (nI := 2) g dX9_play_301 (Nat.le_of_ble_eq_true rfl) rfl rfl (Nat.zero_add _) ?_
  refine am_iconst g dX9_play_302 (am_il rfl) rfl ?_
  refine am_iadd g dX9_play_303 ?_
  refine am_iastore (ix := Int.toNat l1) (nI := 2) g dX9_play_304 (Nat.le_of_ble_eq_true rfl) rfl rfl (Nat.zero_add _) ?_
  refine am_gm (fun h14 => ?_)
  refine am_aload_n g dX9_play_305 rfl ?_
  refine am_getr (q := 27) (a := 26) g clX9 dX9_play_306 (Nat.le_of_ble_eq_true rfl) rfl (by decide) rfl (Nat.le_of_ble_eq_true rfl) lf_X9_87 ?_
  refine am_iload_n g dX9_play_309 rfl ?_
  refine am_iaload (ix := Int.toNat l1) (nI := 2) g dX9_play_310 (Nat.le_of_ble_eq_true rfl) rfl rfl (Nat.zero_add _) ?_
  refine am_iload_n g dX9_play_311 rfl ?_
  refine am_icmp_ne (tgt := 320) g dX9_play_312 (by decide) ?_ ?_
  · exact am_vreturn g dX9_play_320
  · refine am_aload_n g dX9_play_315 rfl ?_
    refine am_iconst g dX9_play_316 (am_il rfl) rfl ?_
    refine am_puti (q := 32) (kd := 51) (ix := 0) g clX9 dX9_play_317 (Nat.le_of_ble_eq_true rfl) rfl (by decide) rfl lf_X9_208 rfl rfl ?_
    refine am_gm (fun h15 => ?_)
    exact am_vreturn g dX9_play_320
def fX9_play_195 (l1 : Int) (l2 : Int) (l3 : Int) (h : am_M) : Option (Unit × am_M) := if l3 = 0 then (if 0 ≤ l1 ∧ l1 < 2 then if (h 35 (Int.toNat l1)) < 6 then some ((), h) else if 0 ≤ l1 ∧ l1 < 2 then if 0 ≤ (am_w (1 - l1)) ∧ (am_w (1 - l1)) < 2 then if (am_w ((h 35 (Int.toNat l1)) - (h 35 (Int.toNat (am_w (1 - l1)))))) < 2 then some ((), h) else fX9_play_230 l1 l2 h else none else none else none) else fX9_play_230 l1 l2 h
set_option maxRecDepth 10000 in
theorem jX9_play_195 {D : va_G} {a : Nat → ClassId} {ad : Nat → Nat} {G : am_G} (g : am_Gd (EM D a ad) RX9 cX9_play 5 none 1 G) : ∀ (l1 : Int), ∀ (l2 : Int), ∀ (l3 : Int), ∀ h : am_M, am_J (EM D a ad) G 5 am_ev 195 [some (.inr (some 0)), some (.inl l1), some (.inl l2), some (.inl l3), none] [] h (fX9_play_195 l1 l2 l3 h) := by
  intro l1 l2 l3 h
  unfold fX9_play_195
  refine am_iload_n g dX9_play_195 rfl ?_
  refine am_if_ne (tgt := 230) g dX9_play_196 (by decide) ?_ ?_
  · refine am_drop 3 ?_
    exact (jX9_play_230 g) l1 l2 h
  · refine am_aload_n g dX9_play_199 rfl ?_
    refine am_getr (q := 26) (a := 25) g clX9 dX9_play_200 (Nat.le_of_ble_eq_true rfl) rfl (by decide) rfl (Nat.le_of_ble_eq_true rfl) lf_X9_84 ?_
    refine am_iload_n g dX9_play_203 rfl ?_
    refine am_iaload (ix := Int.toNat l1) (nI := 2) g dX9_play_204 (Nat.le_of_ble_eq_true rfl) rfl rfl (Nat.zero_add _) ?_
    refine am_bipush g dX9_play_205 (am_il rfl) (am_bi rfl) ?_
    refine am_icmp_lt (tgt := 229) g dX9_play_207 (by decide) ?_ ?_
    · exact am_vreturn g dX9_play_229
    · refine am_aload_n g dX9_play_210 rfl ?_
      refine am_getr (q := 26) (a := 25) g clX9 dX9_play_211 (Nat.le_of_ble_eq_true rfl) rfl (by decide) rfl (Nat.le_of_ble_eq_true rfl) lf_X9_84 ?_
      refine am_iload_n g dX9_play_214 rfl ?_
      refine am_iaload (ix := Int.toNat l1) (nI := 2) g dX9_play_215 (Nat.le_of_ble_eq_true rfl) rfl rfl (Nat.zero_add _) ?_
      refine am_aload_n g dX9_play_216 rfl ?_
      refine am_getr (q := 26) (a := 25) g clX9 dX9_play_217 (Nat.le_of_ble_eq_true rfl) rfl (by decide) rfl (Nat.le_of_ble_eq_true rfl) lf_X9_84 ?_
      refine am_iconst g dX9_play_220 (am_il rfl) rfl ?_
      refine am_iload_n g dX9_play_221 rfl ?_
      refine am_isub g dX9_play_222 ?_
      refine am_iaload (ix := Int.toNat (am_w (1 - l1))) (nI := 2) g dX9_play_223 (Nat.le_of_ble_eq_true rfl) rfl rfl (Nat.zero_add _) ?_
      refine am_isub g dX9_play_224 ?_
      refine am_iconst g dX9_play_225 (am_il rfl) rfl ?_
      refine am_icmp_ge (tgt := 230) g dX9_play_226 (by decide) ?_ ?_
      · refine am_drop 3 ?_
        exact (jX9_play_230 g) l1 l2 h
      · exact am_vreturn g dX9_play_229
def fX9_play_86 (l1 : Int) (l2 : Int) (l3 : Int) (s0 : Int) (h : am_M) : Option (Unit × am_M) := if s0 = 0 then (if l3 = 0 then some ((), h) else if (Int.tmod (am_w ((h 34 0) + (h 34 1))) 6) = 0 then am_l (am_up h 40 0 (am_w ((h 40 0) + 1))) (fun h17 => some ((), h17)) else some ((), h)) else am_l (am_up h 51 0 1) (fun h3 => if 0 ≤ l1 ∧ l1 < 2 then if 0 ≤ l1 ∧ l1 < 2 then am_l (am_up h3 35 (Int.toNat l1) (am_w ((h3 35 (Int.toNat l1)) + 1))) (fun h4 => am_l (am_up h4 38 0 (am_w ((h4 38 0) + 1))) (fun h5 => am_l (am_up h5 34 0 0) (fun h6 => am_l (am_up h6 34 1 0) (fun h7 => if (Int.tmod (am_w ((h7 35 0) + (h7 35 1))) 2) = 1 then am_l (am_up h7 40 0 (am_w ((h7 40 0) + 1))) (fun h16 => fX9_play_195 l1 l2 l3 h16) else fX9_play_195 l1 l2 l3 h7)))) else none else none)
set_option maxRecDepth 10000 in
theorem jX9_play_86 {D : va_G} {a : Nat → ClassId} {ad : Nat → Nat} {G : am_G} (g : am_Gd (EM D a ad) RX9 cX9_play 5 none 1 G) : ∀ (l1 : Int), ∀ (l2 : Int), ∀ (l3 : Int), ∀ (s0 : Int), ∀ h : am_M, am_J (EM D a ad) G 5 am_ev 86 [some (.inr (some 0)), some (.inl l1), some (.inl l2), some (.inl l3), none] [.inl s0] h (fX9_play_86 l1 l2 l3 s0 h) := by
  intro l1 l2 l3 s0 h
  unfold fX9_play_86
  refine am_istore g dX9_play_86 (by decide) ?_
  refine am_iload g dX9_play_88 rfl ?_
  refine am_if_ne (tgt := 127) g dX9_play_90 (by decide) ?_ ?_
  · refine am_aload_n g dX9_play_127 rfl ?_
    refine am_iconst g dX9_play_128 (am_il rfl) rfl ?_
    refine am_puti (q := 32) (kd := 51) (ix := 0) g clX9 dX9_play_129 (Nat.le_of_ble_eq_true rfl) rfl (by decide) rfl lf_X9_208 rfl rfl ?_
    refine am_gm (fun h3 => ?_)
    refine am_aload_n g dX9_play_132 rfl ?_
    refine am_getr (q := 26) (a := 25) g clX9 dX9_play_133 (Nat.le_of_ble_eq_true rfl) rfl (by decide) rfl (Nat.le_of_ble_eq_true rfl) lf_X9_84 ?_
    refine am_iload_n g dX9_play_136 rfl ?_
    refine am_dup2 g dX9_play_137 ?_
    refine am_iaload (ix := Int.toNat l1) (nI := 2) g dX9_play_138 (Nat.le_of_ble_eq_true rfl) rfl rfl (Nat.zero_add _) ?_
    refine am_iconst g dX9_play_139 (am_il rfl) rfl ?_
    refine am_iadd g dX9_play_140 ?_
    refine am_iastore (ix := Int.toNat l1) (nI := 2) g dX9_play_141 (Nat.le_of_ble_eq_true rfl) rfl rfl (Nat.zero_add _) ?_
    refine am_gm (fun h4 => ?_)
    refine am_aload_n g dX9_play_142 rfl ?_
    refine am_dup g dX9_play_143 ?_
    refine am_geti (q := 30) (kd := 38) (ix := 0) g clX9 dX9_play_144 (Nat.le_of_ble_eq_true rfl) rfl (by decide) rfl lf_X9_202 ?_
    refine am_iconst g dX9_play_147 (am_il rfl) rfl ?_
    refine am_iadd g dX9_play_148 ?_
    refine am_puti (q := 30) (kd := 38) (ix := 0) g clX9 dX9_play_149 (Nat.le_of_ble_eq_true rfl) rfl (by decide) rfl lf_X9_202 rfl rfl ?_
    refine am_gm (fun h5 => ?_)
    refine am_aload_n g dX9_play_152 rfl ?_
    refine am_getr (q := 25) (a := 24) g clX9 dX9_play_153 (Nat.le_of_ble_eq_true rfl) rfl (by decide) rfl (Nat.le_of_ble_eq_true rfl) lf_X9_81 ?_
    refine am_iconst g dX9_play_156 (am_il rfl) rfl ?_
    refine am_iconst g dX9_play_157 (am_il rfl) rfl ?_
    refine am_iastoreC (ix := 0) (nI := 2) g dX9_play_158 (Nat.le_of_ble_eq_true rfl) rfl rfl rfl rfl ?_
    refine am_gm (fun h6 => ?_)
    refine am_aload_n g dX9_play_159 rfl ?_
    refine am_getr (q := 25) (a := 24) g clX9 dX9_play_160 (Nat.le_of_ble_eq_true rfl) rfl (by decide) rfl (Nat.le_of_ble_eq_true rfl) lf_X9_81 ?_
    refine am_iconst g dX9_play_163 (am_il rfl) rfl ?_
    refine am_iconst g dX9_play_164 (am_il rfl) rfl ?_
    refine am_iastoreC (ix := 1) (nI := 2) g dX9_play_165 (Nat.le_of_ble_eq_true rfl) rfl rfl rfl rfl ?_
    refine am_gm (fun h7 => ?_)
    refine am_aload_n g dX9_play_166 rfl ?_
    refine am_getr (q := 26) (a := 25) g clX9 dX9_play_167 (Nat.le_of_ble_eq_true rfl) rfl (by decide) rfl (Nat.le_of_ble_eq_true rfl) lf_X9_84 ?_
    refine am_iconst g dX9_play_170 (am_il rfl) rfl ?_
    refine am_ialoadC (ix := 0) (nI := 2) g dX9_play_171 (Nat.le_of_ble_eq_true rfl) rfl rfl rfl rfl ?_
    refine am_aload_n g dX9_play_172 rfl ?_
    refine am_getr (q := 26) (a := 25) g clX9 dX9_play_173 (Nat.le_of_ble_eq_true rfl) rfl (by decide) rfl (Nat.le_of_ble_eq_true rfl) lf_X9_84 ?_
    refine am_iconst g dX9_play_176 (am_il rfl) rfl ?_
    refine am_ialoadC (ix := 1) (nI := 2) g dX9_play_177 (Nat.le_of_ble_eq_true rfl) rfl rfl rfl rfl ?_
    refine am_iadd g dX9_play_178 ?_
    refine am_iconst g dX9_play_179 (am_il rfl) rfl ?_
    refine am_irem g dX9_play_180 (by decide) ?_
    refine am_iconst g dX9_play_181 (am_il rfl) rfl ?_
    refine am_icmp_ne (tgt := 195) g dX9_play_182 (by decide) ?_ ?_
    · refine am_drop 4 ?_
      exact (jX9_play_195 g) l1 l2 l3 h7
    · refine am_aload_n g dX9_play_185 rfl ?_
      refine am_dup g dX9_play_186 ?_
      refine am_geti (q := 31) (kd := 40) (ix := 0) g clX9 dX9_play_187 (Nat.le_of_ble_eq_true rfl) rfl (by decide) rfl lf_X9_205 ?_
      refine am_iconst g dX9_play_190 (am_il rfl) rfl ?_
      refine am_iadd g dX9_play_191 ?_
      refine am_puti (q := 31) (kd := 40) (ix := 0) g clX9 dX9_play_192 (Nat.le_of_ble_eq_true rfl) rfl (by decide) rfl lf_X9_205 rfl rfl ?_
      refine am_gm (fun h16 => ?_)
      refine am_drop 4 ?_
      exact (jX9_play_195 g) l1 l2 l3 h16
  · refine am_iload_n g dX9_play_93 rfl ?_
    refine am_if_eq (tgt := 126) g dX9_play_94 (by decide) ?_ ?_
    · exact am_vreturn g dX9_play_126
    · refine am_aload_n g dX9_play_97 rfl ?_
      refine am_getr (q := 25) (a := 24) g clX9 dX9_play_98 (Nat.le_of_ble_eq_true rfl) rfl (by decide) rfl (Nat.le_of_ble_eq_true rfl) lf_X9_81 ?_
      refine am_iconst g dX9_play_101 (am_il rfl) rfl ?_
      refine am_ialoadC (ix := 0) (nI := 2) g dX9_play_102 (Nat.le_of_ble_eq_true rfl) rfl rfl rfl rfl ?_
      refine am_aload_n g dX9_play_103 rfl ?_
      refine am_getr (q := 25) (a := 24) g clX9 dX9_play_104 (Nat.le_of_ble_eq_true rfl) rfl (by decide) rfl (Nat.le_of_ble_eq_true rfl) lf_X9_81 ?_
      refine am_iconst g dX9_play_107 (am_il rfl) rfl ?_
      refine am_ialoadC (ix := 1) (nI := 2) g dX9_play_108 (Nat.le_of_ble_eq_true rfl) rfl rfl rfl rfl ?_
      refine am_iadd g dX9_play_109 ?_
      refine am_bipush g dX9_play_110 (am_il rfl) (am_bi rfl) ?_
      refine am_irem g dX9_play_112 (by decide) ?_
      refine am_if_ne (tgt := 126) g dX9_play_113 (by decide) ?_ ?_
      · exact am_vreturn g dX9_play_126
      · refine am_aload_n g dX9_play_116 rfl ?_
        refine am_dup g dX9_play_117 ?_
        refine am_geti (q := 31) (kd := 40) (ix := 0) g clX9 dX9_play_118 (Nat.le_of_ble_eq_true rfl) rfl (by decide) rfl lf_X9_205 ?_
        refine am_iconst g dX9_play_121 (am_il rfl) rfl ?_
        refine am_iadd g dX9_play_122 ?_
        refine am_puti (q := 31) (kd := 40) (ix := 0) g clX9 dX9_play_123 (Nat.le_of_ble_eq_true rfl) rfl (by decide) rfl lf_X9_205 rfl rfl ?_
        refine am_gm (fun h17 => ?_)
        exact am_vreturn g dX9_play_126
def fX9_play_59 (l1 : Int) (l2 : Int) (l3 : Int) (s0 : Int) (s1 : Int) (h : am_M) : Option (Unit × am_M) := if s1 < s0 then (fX9_play_85 fX9_play_86) l1 l2 l3 h else if 0 ≤ l1 ∧ l1 < 2 then if 0 ≤ (am_w (1 - l1)) ∧ (am_w (1 - l1)) < 2 then if (am_w ((h 34 (Int.toNat l1)) - (h 34 (Int.toNat (am_w (1 - l1)))))) < 2 then (fX9_play_85 fX9_play_86) l1 l2 l3 h else fX9_play_86 l1 l2 l3 1 h else none else none
set_option maxRecDepth 10000 in
theorem jX9_play_59 {D : va_G} {a : Nat → ClassId} {ad : Nat → Nat} {G : am_G} (g : am_Gd (EM D a ad) RX9 cX9_play 5 none 1 G) : ∀ (l1 : Int), ∀ (l2 : Int), ∀ (l3 : Int), ∀ (s0 : Int), ∀ (s1 : Int), ∀ h : am_M, am_J (EM D a ad) G 5 am_ev 59 [some (.inr (some 0)), some (.inl l1), some (.inl l2), some (.inl l3), none] [.inl s0, .inl s1] h (fX9_play_59 l1 l2 l3 s0 s1 h) := by
  intro l1 l2 l3 s0 s1 h
  unfold fX9_play_59
  refine am_icmp_lt (tgt := 85) g dX9_play_59 (by decide) ?_ ?_
  · exact (jX9_play_85 g (jX9_play_86 g)) l1 l2 l3 h
  · refine am_aload_n g dX9_play_62 rfl ?_
    refine am_getr (q := 25) (a := 24) g clX9 dX9_play_63 (Nat.le_of_ble_eq_true rfl) rfl (by decide) rfl (Nat.le_of_ble_eq_true rfl) lf_X9_81 ?_
    refine am_iload_n g dX9_play_66 rfl ?_
    refine am_iaload (ix := Int.toNat l1) (nI := 2) g dX9_play_67 (Nat.le_of_ble_eq_true rfl) rfl rfl (Nat.zero_add _) ?_
    refine am_aload_n g dX9_play_68 rfl ?_
    refine am_getr (q := 25) (a := 24) g clX9 dX9_play_69 (Nat.le_of_ble_eq_true rfl) rfl (by decide) rfl (Nat.le_of_ble_eq_true rfl) lf_X9_81 ?_
    refine am_iconst g dX9_play_72 (am_il rfl) rfl ?_
    refine am_iload_n g dX9_play_73 rfl ?_
    refine am_isub g dX9_play_74 ?_
    refine am_iaload (ix := Int.toNat (am_w (1 - l1))) (nI := 2) g dX9_play_75 (Nat.le_of_ble_eq_true rfl) rfl rfl (Nat.zero_add _) ?_
    refine am_isub g dX9_play_76 ?_
    refine am_iconst g dX9_play_77 (am_il rfl) rfl ?_
    refine am_icmp_lt (tgt := 85) g dX9_play_78 (by decide) ?_ ?_
    · exact (jX9_play_85 g (jX9_play_86 g)) l1 l2 l3 h
    · refine am_iconst g dX9_play_81 (am_il rfl) rfl ?_
      refine am_goto (tgt := 86) g dX9_play_82 (by decide) ?_
      exact (jX9_play_86 g) l1 l2 l3 1 h
def fX9_play_27 (l1 : Int) (l2 : Int) (s0 : Int) (h : am_M) : Option (Unit × am_M) := if 0 ≤ l1 ∧ l1 < 2 then if 0 ≤ l1 ∧ l1 < 2 then am_l (am_up h 34 (Int.toNat l1) (am_w ((h 34 (Int.toNat l1)) + 1))) (fun h1 => am_l (am_up h1 51 0 0) (fun h2 => if 0 ≤ l1 ∧ l1 < 2 then if s0 = 0 then fX9_play_59 l1 l2 s0 4 (h2 34 (Int.toNat l1)) h2 else fX9_play_59 l1 l2 s0 7 (h2 34 (Int.toNat l1)) h2 else none)) else none else none
set_option maxRecDepth 10000 in
theorem jX9_play_27 {D : va_G} {a : Nat → ClassId} {ad : Nat → Nat} {G : am_G} (g : am_Gd (EM D a ad) RX9 cX9_play 5 none 1 G) : ∀ (l1 : Int), ∀ (l2 : Int), ∀ (s0 : Int), ∀ h : am_M, am_J (EM D a ad) G 5 am_ev 27 [some (.inr (some 0)), some (.inl l1), some (.inl l2), none, none] [.inl s0] h (fX9_play_27 l1 l2 s0 h) := by
  intro l1 l2 s0 h
  unfold fX9_play_27
  refine am_istore_n g dX9_play_27 (by decide) ?_
  refine am_aload_n g dX9_play_28 rfl ?_
  refine am_getr (q := 25) (a := 24) g clX9 dX9_play_29 (Nat.le_of_ble_eq_true rfl) rfl (by decide) rfl (Nat.le_of_ble_eq_true rfl) lf_X9_81 ?_
  refine am_iload_n g dX9_play_32 rfl ?_
  refine am_dup2 g dX9_play_33 ?_
  refine am_iaload (ix := Int.toNat l1) (nI := 2) g dX9_play_34 (Nat.le_of_ble_eq_true rfl) rfl rfl (Nat.zero_add _) ?_
  refine am_iconst g dX9_play_35 (am_il rfl) rfl ?_
  refine am_iadd g dX9_play_36 ?_
  refine am_iastore (ix := Int.toNat l1) (nI := 2) g dX9_play_37 (Nat.le_of_ble_eq_true rfl) rfl rfl (Nat.zero_add _) ?_
  refine am_gm (fun h1 => ?_)
  refine am_aload_n g dX9_play_38 rfl ?_
  refine am_iconst g dX9_play_39 (am_il rfl) rfl ?_
  refine am_puti (q := 32) (kd := 51) (ix := 0) g clX9 dX9_play_40 (Nat.le_of_ble_eq_true rfl) rfl (by decide) rfl lf_X9_208 rfl rfl ?_
  refine am_gm (fun h2 => ?_)
  refine am_aload_n g dX9_play_43 rfl ?_
  refine am_getr (q := 25) (a := 24) g clX9 dX9_play_44 (Nat.le_of_ble_eq_true rfl) rfl (by decide) rfl (Nat.le_of_ble_eq_true rfl) lf_X9_81 ?_
  refine am_iload_n g dX9_play_47 rfl ?_
  refine am_iaload (ix := Int.toNat l1) (nI := 2) g dX9_play_48 (Nat.le_of_ble_eq_true rfl) rfl rfl (Nat.zero_add _) ?_
  refine am_iload_n g dX9_play_49 rfl ?_
  refine am_if_eq (tgt := 58) g dX9_play_50 (by decide) ?_ ?_
  · refine am_iconst g dX9_play_58 (am_il rfl) rfl ?_
    exact (jX9_play_59 g) l1 l2 s0 4 (h2 34 (Int.toNat l1)) h2
  · refine am_bipush g dX9_play_53 (am_il rfl) (am_bi rfl) ?_
    refine am_goto (tgt := 59) g dX9_play_55 (by decide) ?_
    exact (jX9_play_59 g) l1 l2 s0 7 (h2 34 (Int.toNat l1)) h2
def fX9_play (a1 : Int) (a2 : Int) (h : am_M) : Option (Unit × am_M) := if (h 35 0) = 6 then (if (h 35 1) = 6 then fX9_play_27 a1 a2 1 h else (fX9_play_26 fX9_play_27) a1 a2 h) else (fX9_play_26 fX9_play_27) a1 a2 h
set_option maxRecDepth 10000 in
theorem cX9_playC {D : va_G} {a : Nat → ClassId} {ad : Nat → Nat} (a1 : Int) (a2 : Int) (h : am_M) : am_C (EM D a ad) yX9_play cX9_play 5 none 1 [.inr (some 0), .inl a1, .inl a2] h am_ev (fX9_play a1 a2 h) := by
  refine am_ofJ (L := [some (.inr (some 0)), some (.inl a1), some (.inl a2), none, none]) (by decide) rfl (Nat.le_of_ble_eq_true rfl) (fun G g => ?_)
  have g : am_Gd (EM D a ad) RX9 cX9_play 5 none 1 G := g
  unfold fX9_play
  refine am_aload_n g dX9_play_0 rfl ?_
  refine am_getr (q := 26) (a := 25) g clX9 dX9_play_1 (Nat.le_of_ble_eq_true rfl) rfl (by decide) rfl (Nat.le_of_ble_eq_true rfl) lf_X9_84 ?_
  refine am_iconst g dX9_play_4 (am_il rfl) rfl ?_
  refine am_ialoadC (ix := 0) (nI := 2) g dX9_play_5 (Nat.le_of_ble_eq_true rfl) rfl rfl rfl rfl ?_
  refine am_bipush g dX9_play_6 (am_il rfl) (am_bi rfl) ?_
  refine am_icmp_ne (tgt := 26) g dX9_play_8 (by decide) ?_ ?_
  · exact (jX9_play_26 g (jX9_play_27 g)) a1 a2 h
  · refine am_aload_n g dX9_play_11 rfl ?_
    refine am_getr (q := 26) (a := 25) g clX9 dX9_play_12 (Nat.le_of_ble_eq_true rfl) rfl (by decide) rfl (Nat.le_of_ble_eq_true rfl) lf_X9_84 ?_
    refine am_iconst g dX9_play_15 (am_il rfl) rfl ?_
    refine am_ialoadC (ix := 1) (nI := 2) g dX9_play_16 (Nat.le_of_ble_eq_true rfl) rfl rfl rfl rfl ?_
    refine am_bipush g dX9_play_17 (am_il rfl) (am_bi rfl) ?_
    refine am_icmp_ne (tgt := 26) g dX9_play_19 (by decide) ?_ ?_
    · exact (jX9_play_26 g (jX9_play_27 g)) a1 a2 h
    · refine am_iconst g dX9_play_22 (am_il rfl) rfl ?_
      refine am_goto (tgt := 27) g dX9_play_23 (by decide) ?_
      exact (jX9_play_27 g) a1 a2 1 h
def fX9_replay_56b (K56 : Int → Int → Int → am_M → Option (Unit × am_M)) (l1 : Int) (l2 : Int) (l3 : Int) (h : am_M) : Option (Unit × am_M) := if l3 < l2 then (if 0 ≤ (am_w ((am_w (300 * l1)) + l3)) ∧ (am_w ((am_w (300 * l1)) + l3)) < 19200 then if 0 ≤ (am_w (Int.tdiv l1 16)) ∧ (am_w (Int.tdiv l1 16)) < 4 then am_b (fX9_play (h 23 (Int.toNat (am_w ((am_w (300 * l1)) + l3)))) (h 2 (Int.toNat (am_w (Int.tdiv l1 16)))) h) (fun _ h5 => K56 l1 l2 (am_w (l3 + 1)) h5) else none else none) else some ((), h)
def fX9_replay_56 : Int → Int → Int → am_M → Option (Unit × am_M) := am_it (fun _ _ _ _ => none) (fX9_replay_56b) 400
set_option maxRecDepth 10000 in
theorem jX9_replay_56b {D : va_G} {a : Nat → ClassId} {ad : Nat → Nat} {G : am_G} (g : am_Gd (EM D a ad) RX9 cX9_replay 4 none 2 G) {K56 : Int → Int → Int → am_M → Option (Unit × am_M)} (hK56 : ∀ (l1 : Int), ∀ (l2 : Int), ∀ (l3 : Int), ∀ h : am_M, am_J (EM D a ad) G 4 am_ev 56 [some (.inr (some 0)), some (.inl l1), some (.inl l2), some (.inl l3)] [] h (K56 l1 l2 l3 h)) : ∀ (l1 : Int), ∀ (l2 : Int), ∀ (l3 : Int), ∀ h : am_M, am_J (EM D a ad) G 4 am_ev 56 [some (.inr (some 0)), some (.inl l1), some (.inl l2), some (.inl l3)] [] h (fX9_replay_56b K56 l1 l2 l3 h) := by
  intro l1 l2 l3 h
  unfold fX9_replay_56b
  refine am_iload_n g dX9_replay_56 rfl ?_
  refine am_iload_n g dX9_replay_57 rfl ?_
  refine am_icmp_ge (tgt := 92) g dX9_replay_58 (by decide) ?_ ?_
  · exact am_vreturn g dX9_replay_92
  · refine am_aload_n g dX9_replay_61 rfl ?_
    refine am_aload_n g dX9_replay_62 rfl ?_
    refine am_getr (q := 10) (a := 11) g clX9 dX9_replay_63 (Nat.le_of_ble_eq_true rfl) rfl (by decide) rfl (Nat.le_of_ble_eq_true rfl) lf_X9_41 ?_
    refine am_sipush g dX9_replay_66 (am_il rfl) (am_si rfl) ?_
    refine am_iload_n g dX9_replay_69 rfl ?_
    refine am_imul g dX9_replay_70 ?_
    refine am_iload_n g dX9_replay_71 rfl ?_
    refine am_iadd g dX9_replay_72 ?_
    refine am_baload (ix := Int.toNat (am_w ((am_w (300 * l1)) + l3))) (nI := 19200) g dX9_replay_73 (Nat.le_of_ble_eq_true rfl) rfl rfl (Nat.zero_add _) ?_
    refine am_aload_n g dX9_replay_74 rfl ?_
    refine am_getr (q := 2) (a := 3) g clX9 dX9_replay_75 (Nat.le_of_ble_eq_true rfl) rfl (by decide) rfl (Nat.le_of_ble_eq_true rfl) lf_X9_16 ?_
    refine am_iload_n g dX9_replay_78 rfl ?_
    refine am_bipush g dX9_replay_79 (am_il rfl) (am_bi rfl) ?_
    refine am_idiv g dX9_replay_81 (by decide) ?_
    refine am_iaload (ix := Int.toNat (am_w (Int.tdiv l1 16))) (nI := 4) g dX9_replay_82 (Nat.le_of_ble_eq_true rfl) rfl rfl (Nat.zero_add _) ?_
    refine am_Vv (as := [.inl (h 23 (Int.toNat (am_w ((am_w (300 * l1)) + l3)))), .inl (h 2 (Int.toNat (am_w (Int.tdiv l1 16))))]) (S := []) g (cX9_playC (h 23 (Int.toNat (am_w ((am_w (300 * l1)) + l3)))) (h 2 (Int.toNat (am_w (Int.tdiv l1 16)))) h) mi_X9_play lm_X9_211 clX9.1 (Nat.le_of_ble_eq_true rfl) rfl dX9_replay_83 rfl (by decide) (Nat.le_of_ble_eq_true rfl) rfl (fun _ h5 => ?_)
    refine am_iinc g dX9_replay_86 (by decide) rfl ?_
    refine am_goto (tgt := 56) g dX9_replay_89 (by decide) ?_
    exact hK56 l1 l2 (am_w (l3 + 1)) h5
theorem jX9_replay_56 {D : va_G} {a : Nat → ClassId} {ad : Nat → Nat} {G : am_G} (g : am_Gd (EM D a ad) RX9 cX9_replay 4 none 2 G) : ∀ (l1 : Int), ∀ (l2 : Int), ∀ (l3 : Int), ∀ h : am_M, am_J (EM D a ad) G 4 am_ev 56 [some (.inr (some 0)), some (.inl l1), some (.inl l2), some (.inl l3)] [] h (fX9_replay_56 l1 l2 l3 h) := by
  unfold fX9_replay_56
  generalize 400 = n
  induction n with
  | zero => intro l1 l2 l3 h; exact am_jn
  | succ n ih => exact jX9_replay_56b g ih
def fX9_replay_34 (l1 : Int) (l2 : Int) (h : am_M) : Option (Unit × am_M) := am_l (am_up h 39 0 0) (fun h1 => am_l (am_up h1 38 0 0) (fun h2 => am_l (am_up h2 40 0 0) (fun h3 => am_l (am_up h3 51 0 0) (fun h4 => fX9_replay_56 l1 l2 0 h4))))
set_option maxRecDepth 10000 in
theorem jX9_replay_34 {D : va_G} {a : Nat → ClassId} {ad : Nat → Nat} {G : am_G} (g : am_Gd (EM D a ad) RX9 cX9_replay 4 none 2 G) : ∀ (l1 : Int), ∀ (l2 : Int), ∀ h : am_M, am_J (EM D a ad) G 4 am_ev 34 [some (.inr (some 0)), some (.inl l1), some (.inl l2), none] [] h (fX9_replay_34 l1 l2 h) := by
  intro l1 l2 h
  unfold fX9_replay_34
  refine am_aload_n g dX9_replay_34 rfl ?_
  refine am_iconst g dX9_replay_35 (am_il rfl) rfl ?_
  refine am_puti (q := 29) (kd := 39) (ix := 0) g clX9 dX9_replay_36 (Nat.le_of_ble_eq_true rfl) rfl (by decide) rfl lf_X9_199 rfl rfl ?_
  refine am_gm (fun h1 => ?_)
  refine am_aload_n g dX9_replay_39 rfl ?_
  refine am_iconst g dX9_replay_40 (am_il rfl) rfl ?_
  refine am_puti (q := 30) (kd := 38) (ix := 0) g clX9 dX9_replay_41 (Nat.le_of_ble_eq_true rfl) rfl (by decide) rfl lf_X9_202 rfl rfl ?_
  refine am_gm (fun h2 => ?_)
  refine am_aload_n g dX9_replay_44 rfl ?_
  refine am_iconst g dX9_replay_45 (am_il rfl) rfl ?_
  refine am_puti (q := 31) (kd := 40) (ix := 0) g clX9 dX9_replay_46 (Nat.le_of_ble_eq_true rfl) rfl (by decide) rfl lf_X9_205 rfl rfl ?_
  refine am_gm (fun h3 => ?_)
  refine am_aload_n g dX9_replay_49 rfl ?_
  refine am_iconst g dX9_replay_50 (am_il rfl) rfl ?_
  refine am_puti (q := 32) (kd := 51) (ix := 0) g clX9 dX9_replay_51 (Nat.le_of_ble_eq_true rfl) rfl (by decide) rfl lf_X9_208 rfl rfl ?_
  refine am_gm (fun h4 => ?_)
  refine am_iconst g dX9_replay_54 (am_il rfl) rfl ?_
  refine am_istore_n g dX9_replay_55 (by decide) ?_
  exact (jX9_replay_56 g) l1 l2 0 h4
def fX9_replay_2b (K2 : Int → Int → Int → am_M → Option (Unit × am_M)) (l1 : Int) (l2 : Int) (l3 : Int) (h : am_M) : Option (Unit × am_M) := if l3 < 2 then (if 0 ≤ l3 ∧ l3 < 2 then am_l (am_up h 34 (Int.toNat l3) 0) (fun h6 => if 0 ≤ l3 ∧ l3 < 2 then am_l (am_up h6 35 (Int.toNat l3) 0) (fun h7 => if 0 ≤ l3 ∧ l3 < 2 then am_l (am_up h7 36 (Int.toNat l3) 0) (fun h8 => K2 l1 l2 (am_w (l3 + 1)) h8) else none) else none) else none) else fX9_replay_34 l1 l2 h
def fX9_replay_2 : Int → Int → Int → am_M → Option (Unit × am_M) := am_it (fun _ _ _ _ => none) (fX9_replay_2b) 400
set_option maxRecDepth 10000 in
theorem jX9_replay_2b {D : va_G} {a : Nat → ClassId} {ad : Nat → Nat} {G : am_G} (g : am_Gd (EM D a ad) RX9 cX9_replay 4 none 2 G) {K2 : Int → Int → Int → am_M → Option (Unit × am_M)} (hK2 : ∀ (l1 : Int), ∀ (l2 : Int), ∀ (l3 : Int), ∀ h : am_M, am_J (EM D a ad) G 4 am_ev 2 [some (.inr (some 0)), some (.inl l1), some (.inl l2), some (.inl l3)] [] h (K2 l1 l2 l3 h)) : ∀ (l1 : Int), ∀ (l2 : Int), ∀ (l3 : Int), ∀ h : am_M, am_J (EM D a ad) G 4 am_ev 2 [some (.inr (some 0)), some (.inl l1), some (.inl l2), some (.inl l3)] [] h (fX9_replay_2b K2 l1 l2 l3 h) := by
  intro l1 l2 l3 h
  unfold fX9_replay_2b
  refine am_iload_n g dX9_replay_2 rfl ?_
  refine am_iconst g dX9_replay_3 (am_il rfl) rfl ?_
  refine am_icmp_ge (tgt := 34) g dX9_replay_4 (by decide) ?_ ?_
  · refine am_drop 3 ?_
    exact (jX9_replay_34 g) l1 l2 h
  · refine am_aload_n g dX9_replay_7 rfl ?_
    refine am_getr (q := 25) (a := 24) g clX9 dX9_replay_8 (Nat.le_of_ble_eq_true rfl) rfl (by decide) rfl (Nat.le_of_ble_eq_true rfl) lf_X9_81 ?_
    refine am_iload_n g dX9_replay_11 rfl ?_
    refine am_iconst g dX9_replay_12 (am_il rfl) rfl ?_
    refine am_iastore (ix := Int.toNat l3) (nI := 2) g dX9_replay_13 (Nat.le_of_ble_eq_true rfl) rfl rfl (Nat.zero_add _) ?_
    refine am_gm (fun h6 => ?_)
    refine am_aload_n g dX9_replay_14 rfl ?_
    refine am_getr (q := 26) (a := 25) g clX9 dX9_replay_15 (Nat.le_of_ble_eq_true rfl) rfl (by decide) rfl (Nat.le_of_ble_eq_true rfl) lf_X9_84 ?_
    refine am_iload_n g dX9_replay_18 rfl ?_
    refine am_iconst g dX9_replay_19 (am_il rfl) rfl ?_
    refine am_iastore (ix := Int.toNat l3) (nI := 2) g dX9_replay_20 (Nat.le_of_ble_eq_true rfl) rfl rfl (Nat.zero_add _) ?_
    refine am_gm (fun h7 => ?_)
    refine am_aload_n g dX9_replay_21 rfl ?_
    refine am_getr (q := 27) (a := 26) g clX9 dX9_replay_22 (Nat.le_of_ble_eq_true rfl) rfl (by decide) rfl (Nat.le_of_ble_eq_true rfl) lf_X9_87 ?_
    refine am_iload_n g dX9_replay_25 rfl ?_
    refine am_iconst g dX9_replay_26 (am_il rfl) rfl ?_
    refine am_iastore (ix := Int.toNat l3) (nI := 2) g dX9_replay_27 (Nat.le_of_ble_eq_true rfl) rfl rfl (Nat.zero_add _) ?_
    refine am_gm (fun h8 => ?_)
    refine am_iinc g dX9_replay_28 (by decide) rfl ?_
    refine am_goto (tgt := 2) g dX9_replay_31 (by decide) ?_
    exact hK2 l1 l2 (am_w (l3 + 1)) h8
theorem jX9_replay_2 {D : va_G} {a : Nat → ClassId} {ad : Nat → Nat} {G : am_G} (g : am_Gd (EM D a ad) RX9 cX9_replay 4 none 2 G) : ∀ (l1 : Int), ∀ (l2 : Int), ∀ (l3 : Int), ∀ h : am_M, am_J (EM D a ad) G 4 am_ev 2 [some (.inr (some 0)), some (.inl l1), some (.inl l2), some (.inl l3)] [] h (fX9_replay_2 l1 l2 l3 h) := by
  unfold fX9_replay_2
  generalize 400 = n
  induction n with
  | zero => intro l1 l2 l3 h; exact am_jn
  | succ n ih => exact jX9_replay_2b g ih
def fX9_replay (a1 : Int) (a2 : Int) (h : am_M) : Option (Unit × am_M) := fX9_replay_2 a1 a2 0 h
set_option maxRecDepth 10000 in
theorem cX9_replayC {D : va_G} {a : Nat → ClassId} {ad : Nat → Nat} (a1 : Int) (a2 : Int) (h : am_M) : am_C (EM D a ad) yX9_replay cX9_replay 4 none 2 [.inr (some 0), .inl a1, .inl a2] h am_ev (fX9_replay a1 a2 h) := by
  refine am_ofJ (L := [some (.inr (some 0)), some (.inl a1), some (.inl a2), none]) (by decide) rfl (Nat.le_of_ble_eq_true rfl) (fun G g => ?_)
  have g : am_Gd (EM D a ad) RX9 cX9_replay 4 none 2 G := g
  unfold fX9_replay
  refine am_iconst g dX9_replay_0 (am_il rfl) rfl ?_
  refine am_istore_n g dX9_replay_1 (by decide) ?_
  exact (jX9_replay_2 g) a1 a2 0 h
