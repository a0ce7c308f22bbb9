/-! ===== the law, from its entry ===== -/
theorem lcL7 : am_lk (.classLink R_law 7 RX8) := ⟨List.mem_append_right _ (List.mem_of_getElem? (i := 12) (by decide +kernel)), rfl⟩
theorem lcL10 : am_lk (.classLink R_law 10 RX9) := ⟨List.mem_append_right _ (List.mem_of_getElem? (i := 756) (by decide +kernel)), rfl⟩
theorem liL9 : am_lk (.methodLink R_law 9 yX8_init) := ⟨List.mem_append_right _ (List.mem_of_getElem? (i := 14) (by decide +kernel)), rfl⟩
theorem liL12 : am_lk (.methodLink R_law 12 yX9_init) := ⟨List.mem_append_right _ (List.mem_of_getElem? (i := 758) (by decide +kernel)), rfl⟩
theorem ln_X8 : am_lk (.instantiable RX8 6) := ⟨List.mem_append_right _ (List.mem_of_getElem? (i := 13) (by decide +kernel)), rfl⟩
theorem ln_X9 : am_lk (.instantiable RX9 39) := ⟨List.mem_append_right _ (List.mem_of_getElem? (i := 757) (by decide +kernel)), rfl⟩
theorem lt_int : (Cond.arrayClass .int) ∈ lw_tbl := List.mem_append_right _ (List.mem_of_getElem? (i := 99) (by decide +kernel))
theorem lt_boolean : (Cond.arrayClass .boolean) ∈ lw_tbl := List.mem_append_right _ (List.mem_of_getElem? (i := 100) (by decide +kernel))
theorem lt_byte : (Cond.arrayClass .byte) ∈ lw_tbl := List.mem_append_right _ (List.mem_of_getElem? (i := 880) (by decide +kernel))
theorem lt_X2 : (Cond.arrayOver (.object "CourtDraws$Draw")) ∈ lw_tbl := List.mem_append_right _ (List.mem_of_getElem? (i := 27) (by decide +kernel))
theorem lt_X1 : (Cond.arrayOver (.object "CourtDraws$Court")) ∈ lw_tbl := List.mem_append_right _ (List.mem_of_getElem? (i := 29) (by decide +kernel))
theorem ws_ac {s : State} {args : Array Value} {ty : FieldType} (h : (Cond.arrayClass ty).before args s = true) (hr : ∀ c, s.vm.findClass ("[" ++ ty.toString) = some c → va_RA s c ty) : ∃ c, ArrOfT s c ty ∧ va_RA s c ty := by
  obtain ⟨c, k, comp, h1, h2, h3⟩ := Cond.arrayClass_spec h
  exact ⟨c, fun n z => ⟨fun k h => (by cases h), k, h2, comp, h3⟩, hr c h1⟩
theorem ws_ao {s : State} {args : Array Value} {C : String} (h : (Cond.arrayOver (.object C)).before args s = true) : ∃ c, ArrOfT s c (.object C) ∧ va_RA s c (.object C) := by
  obtain ⟨comp, c, k, h1, h2, h3, h4, h5⟩ := Cond.arrayOver_spec h
  exact ⟨c, fun n z => ⟨fun k h => (by cases h), k, h3, comp, h4⟩, k, comp, h3, h4, h1, h5⟩
theorem ws_K {s : State} {args : Array Value} (hts : ∀ w ∈ lw_tbl, w.before args s = true) : ∃ (D : va_G) (a : Nat → ClassId), va_K D vwCl (kc_ty a) s := by
  have key : ∀ k : Nat, ∃ r : ClassId × (Nat → Nat), ∀ q, vwCl[k]? = some q → u_Kn s q.1 q.2.1 q.2.2 r.1 r.2 := by
    intro k
    match k with
    | 0 =>
      obtain ⟨c, i, h⟩ := u_known (C := RX0) (T := TX0) (N := 6) (n := 6) hts inX0 (hts _ ln_X0.1)
      exact ⟨(c, i), fun q hq => by cases hq; exact h⟩
    | 1 =>
      obtain ⟨c, i, h⟩ := u_known (C := RX1) (T := TX1) (N := 6) (n := 6) hts inX1 (hts _ ln_X1.1)
      exact ⟨(c, i), fun q hq => by cases hq; exact h⟩
    | 2 =>
      obtain ⟨c, i, h⟩ := u_known (C := RX2) (T := TX2) (N := 13) (n := 13) hts inX2 (hts _ ln_X2.1)
      exact ⟨(c, i), fun q hq => by cases hq; exact h⟩
    | 3 =>
      obtain ⟨c, i, h⟩ := u_known (C := RX3) (T := TX3) (N := 4) (n := 4) hts inX3 (hts _ ln_X3.1)
      exact ⟨(c, i), fun q hq => by cases hq; exact h⟩
    | 4 =>
      obtain ⟨c, i, h⟩ := u_known (C := RX4) (T := TX4) (N := 4) (n := 4) hts inX4 (hts _ ln_X4.1)
      exact ⟨(c, i), fun q hq => by cases hq; exact h⟩
    | 5 =>
      obtain ⟨c, i, h⟩ := u_known (C := RX5) (T := TX5) (N := 7) (n := 7) hts inX5 (hts _ ln_X5.1)
      exact ⟨(c, i), fun q hq => by cases hq; exact h⟩
    | 6 =>
      obtain ⟨c, i, h⟩ := u_known (C := RX6) (T := TX6) (N := 1) (n := 1) hts inX6 (hts _ ln_X6.1)
      exact ⟨(c, i), fun q hq => by cases hq; exact h⟩
    | 7 =>
      obtain ⟨c, i, h⟩ := u_known (C := RX7) (T := TX7) (N := 7) (n := 7) hts inX7 (hts _ ln_X7.1)
      exact ⟨(c, i), fun q hq => by cases hq; exact h⟩
    | 8 =>
      obtain ⟨c, i, h⟩ := u_known (C := RX8) (T := TX8) (N := 6) (n := 6) hts inX8 (hts _ ln_X8.1)
      exact ⟨(c, i), fun q hq => by cases hq; exact h⟩
    | 9 =>
      obtain ⟨c, i, h⟩ := u_known (C := RX9) (T := TX9) (N := 39) (n := 39) hts inX9 (hts _ ln_X9.1)
      exact ⟨(c, i), fun q hq => by cases hq; exact h⟩
    | k + 10 =>
      obtain ⟨c, i, h⟩ := u_known (C := RX0) (T := TX0) (N := 6) (n := 6) hts inX0 (hts _ ln_X0.1)
      exact ⟨(c, i), fun q hq => by
        have := (List.getElem?_eq_some_iff.mp hq).1
        simp only [vwCl, List.length_cons, List.length_nil] at this
        omega⟩
  have hf : ∀ (k : Nat) (q : vw_C), vwCl[k]? = some q → u_Kn s q.1 q.2.1 q.2.2 (Classical.choose (key k)).1 (Classical.choose (key k)).2 := fun k => Classical.choose_spec (key k)
  obtain ⟨cI, i1, i2⟩ := ws_ac (hts _ lt_int) (fun c h => h)
  obtain ⟨cZ, z1, z2⟩ := ws_ac (hts _ lt_boolean) (fun c h => h)
  obtain ⟨cB, b1, b2⟩ := ws_ac (hts _ lt_byte) (fun c h => h)
  obtain ⟨cD, d1, d2⟩ := ws_ao (hts _ lt_X2)
  obtain ⟨cC, c1, c2⟩ := ws_ao (hts _ lt_X1)
  refine ⟨(fun k => (Classical.choose (key k)).1, fun k => (Classical.choose (key k)).2), fun t => [cI, cZ, cB, cD].getD t cC, fun k q hq => hf k q hq, fun k q hq => ?_⟩
  match k, hq with
  | 0, hq => cases hq; exact ⟨i1, i2⟩
  | 1, hq => cases hq; exact ⟨z1, z2⟩
  | 2, hq => cases hq; exact ⟨b1, b2⟩
  | 3, hq => cases hq; exact ⟨d1, d2⟩
  | 4, hq => cases hq; exact ⟨c1, c2⟩
  | k + 5, hq =>
    have := (List.getElem?_eq_some_iff.mp hq).1
    simp only [kc_ty, List.length_cons, List.length_nil] at this
    omega
set_option maxHeartbeats 4000000 in
set_option maxRecDepth 100000 in
/-- THE LAW, from its entry: for every script of at most 3072 ints it comes to its end with true -/
theorem whole_start {p : Program} {e : Env} {s : State} {m : MethodId} {below : List Frame} {meth : Method} {c : Code} (l : Launch) {b L : Nat} {xs : Nat → Int32} (hL : L ≤ 3072) (C0 : lw_At p s m meth c b L xs) : W p l e room_1 s m #[Value.ref b] below meth c s.heap [] 0 0 (lw_Z below #[Value.ref b] s) (entryFrame m ([Value.ref b] : List Value).toArray 4) := by
  obtain ⟨hx, hb, hr, hml, hown, hts, hX, hbl, hlocks, hgv⟩ := id C0
  have hTW : am_TW s := fun w hw => va_Nw.of (am_ok_tab hw.2) (hts w hw.1)
  obtain ⟨D, a, hK⟩ := ws_K hts
  have g : kc_Gd D a R_law cL_law 4 room_1 l (fun q => s.heap.size ≤ q) false (s.heap, fun cells slots pc ls st H locs => W p l e room_1 s m #[Value.ref b] below meth c H locs cells slots (lw_Z below #[Value.ref b] s) (F0 m pc ls st)) := ⟨p, e, s, m, _, below, meth, c, _, hx, hb, hml, (fun h => absurd h (by decide)), hown, hK, ⟨hTW, va_AO.of (hts _ lt_X2), va_AO.of (hts _ lt_X1)⟩, fun _ h => h, rfl⟩
  have J : kc_J D (s.heap, fun cells slots pc ls st H locs => W p l e room_1 s m #[Value.ref b] below meth c H locs cells slots (lw_Z below #[Value.ref b] s) (F0 m pc ls st)) 4 (fun q => s.heap.size ≤ q) 0 0 0 [(0, .ref b)] [] [] := by
    refine kc_nw g f0X8 clX8 dL_law_0 lcL7 ln_X8 lz_X8 f0X8_ok (Nat.le_of_ble_eq_true rfl) (Nat.le_of_ble_eq_true rfl) (fun q1 => ?_)
    refine kc_du g dL_law_3 ?_
    refine kc_ci g (kX8 D a) mi_kX8 liL9 dL_law_4 ⟨(Nat.le_of_ble_eq_true rfl), (Nat.le_of_ble_eq_true rfl)⟩ (Nat.le_of_ble_eq_true rfl) ⟨(Nat.le_of_ble_eq_true rfl), (Nat.le_of_ble_eq_true rfl)⟩ (fun u hu => ?_)
    subst hu
    refine kc_as g [(1, .ref (u 0)), (0, .ref b)] dL_law_7 rfl (Nat.le_of_ble_eq_true rfl) rfl ?_
    refine kc_nw g f0X9 clX9 dL_law_8 lcL10 ln_X9 lz_X9 f0X9_ok (Nat.le_of_ble_eq_true rfl) (Nat.le_of_ble_eq_true rfl) (fun q2 => ?_)
    refine kc_du g dL_law_11 ?_
    refine kc_ci g (kX9 D a) mi_kX9 liL12 dL_law_12 ⟨(Nat.le_of_ble_eq_true rfl), (Nat.le_of_ble_eq_true rfl)⟩ (Nat.le_of_ble_eq_true rfl) ⟨(Nat.le_of_ble_eq_true rfl), (Nat.le_of_ble_eq_true rfl)⟩ (fun v hv => ?_)
    subst hv
    refine kc_as g [(2, .ref (v 0)), (1, .ref (u 0)), (0, .ref b)] dL_law_15 rfl (Nat.le_of_ble_eq_true rfl) rfl ?_
    refine kc_ic (v := nI 0) g dL_law_16 (by decide) ?_
    refine kc_is g [(3, .int (nI 0)), (2, .ref (v 0)), (1, .ref (u 0)), (0, .ref b)] dL_law_17 rfl (Nat.le_of_ble_eq_true rfl) rfl ?_
    intro H locs ls hl hP hD hS
    obtain ⟨p1, p2, a1, a2, x1, x2, x3⟩ := worlds hP hD
    exact lg_loop (D := D) (a := a) (u := u) (v := v) (b := b) (L := L) (xs := xs) (H0 := s.heap) (G := fun pc ls st H locs => W p l e room_1 s m #[Value.ref b] below meth c H locs 115 22158 (lw_Z below #[Value.ref b] s) (F0 m pc ls st)) ⟨p, l, e, s, m, below, meth, c, hx, hb, hml, hown, hK, hTW, hX, hbl, rfl, hr, hlocks, rfl⟩ ⟨⟨a1, shX_sep, shX_own⟩, ⟨a2, shM_sep, shM_own⟩, x1, x2, x3⟩ hL L 0 h00 h00 (Nat.le_add_left _ _) (Nat.zero_le _) h00_rel h00_in h00_in H locs ls hl p1 p2 hS
  have hl := lv_entry ([.ref b]) (n := 4) (Nat.le_of_ble_eq_true rfl)
  rw [lg_entry_eq]
  generalize (lg_sl ([.ref b]) ++ List.replicate (4 - (lg_sl ([.ref b])).length) Slot.unset).toArray = ls at hl ⊢
  exact J s.heap [] ls hl (fun k q h => by simp at h) ⟨fun i j p q h => by simp at h, fun k q h => by simp at h⟩ va_S.rf
