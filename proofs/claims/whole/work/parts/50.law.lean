/-! THE CLAIM OUT OF ONE WALK OF THE LAW'S BODY. Your part is whole_start (and what it stands on); all else here is the same for every law, but numbers. -/
def R_law : String := "CourtDrawsLaw"
def lw_P (b : Addr) (xs : List Int32) (args : Array Value) (s : State) : Prop := args = #[.ref b] ∧ s.IntsAt b xs ∧ xs.length ≤ 3072 ∧ (Jvm.Cond.and given_1 narrow_1).before args s = true
def lw_Q (_ : Array Value) (s : State) (o : Outcome) (t : State) : Prop := o = .returned (some (.int 1)) ∧ Framed s o t [] 600000 7302250
def lw_Z (below : List Frame) (a : Array Value) (s : State) : State → Prop := fun t => ∃ o, t.status = .running ∧ Ended t below o ∧ lw_Q a s o t
/-- the law's own end, with 1 on the stack, nothing written that was there before, its room as the claim has it -/
theorem lw_ret {p : Program} {l : Launch} {e : Env} {s : State} {m : MethodId} {below : List Frame} {meth : Method} {c : Code} {b : Nat} (hx : p.tables.exec = Jvm.exec) (hb : c.code = code) (hr : meth.sig.returnType = ret) (hlocks : meth.locks = false) {pc : Nat} {H : Heap} {ls : Array Slot} (hdg : decode code pc = .ok (.ireturn, 1)) : W p l e room_1 s m #[Value.ref b] below meth c H [] 600000 7302250 (lw_Z below #[Value.ref b] s) (F0 m pc ls [.int 1]) := by
  intro T hT X
  obtain ⟨fs, hret, hrun, hended, hW, hframe⟩ := X.leave (v := some (.int 1)) (hlocks := hlocks) (fun h => by rw [hr] at h; cases h)
  have hmeth' : T.vm.method? m = some meth := X.method'
  refine ⟨T.setFrames fs, ?_, .returned (some (.int 1)), hrun, hended, rfl, ⟨_, rfl⟩, hW, hframe⟩
  jvm_step X.here [X.here.top, hx, hb, hdg, hmeth', hr, ret, narrow_b1]
  (try refine ⟨rfl, ?_⟩); (try refine ⟨rfl, ?_⟩)
  first | (intro acts; rw [hret _ acts rfl rfl rfl]) | rw [hret _ _ rfl rfl rfl]
  exact Steps.refl _
/-- what holds at the law's entry: the machine, the code, the tables' words (any of lw_tbl by 'hts w (by decide +kernel)'), the script of L ints xs at the cell b, what the Statement gives of the start (any of its parts by flat_of_before) -/
def lw_At (p : Program) (s : State) (m : MethodId) (meth : Method) (c : Code) (b L : Nat) (xs : Nat → Int32) : Prop :=
  p.tables.exec = Jvm.exec ∧ c.code = code ∧ meth.sig.returnType = ret ∧ c.maxLocals = 4 ∧ s.vm.findClass R_law = some m.cls ∧ (∀ w ∈ lw_tbl, w.before #[Value.ref b] s = true) ∧ va_X b L xs s s.heap ∧ b < s.heap.size ∧ meth.locks = false ∧ (Jvm.Cond.and given_1 narrow_1).before #[Value.ref b] s = true
/-! ===== the law: rows ===== -/
abbrev lg_G : Type := Nat → Array Slot → List Value → Heap → List Loc → Prop
def lg_Gd (D : va_G) (a : Nat → ClassId) (b L : Nat) (xs : Nat → Int32) (H0 : Heap) (G : lg_G) : Prop :=
  ∃ (p : Program) (l : Launch) (e : Env) (s : State) (m : MethodId) (below : List Frame) (meth : Method) (c : Code),
    p.tables.exec = Jvm.exec ∧ c.code = code ∧ c.maxLocals = 4 ∧ s.vm.findClass R_law = some m.cls ∧ va_K D vwCl (kc_ty a) s ∧ am_TW s ∧ va_X b L xs s s.heap ∧ b < s.heap.size ∧ s.heap = H0 ∧ meth.sig.returnType = ret ∧ meth.locks = false ∧
    G = fun pc ls st H locs => W p l e room_1 s m #[Value.ref b] below meth c H locs 115 22158 (lw_Z below #[Value.ref b] s) (F0 m pc ls st)
/-- the two worlds are good, new, apart -/
def lg_ok (D : va_G) (a : Nat → ClassId) (u v : Nat → Nat) (H0 : Heap) : Prop := am_g (EX D a u) ∧ am_g (EM D a v) ∧ (∀ i, i < 81 → H0.size ≤ u i) ∧ (∀ i, i < 34 → H0.size ≤ v i) ∧ ∀ i j, i < 81 → j < 34 → u i ≠ v j
def lg_J (D : va_G) (a : Nat → ClassId) (u v : Nat → Nat) (H0 : Heap) (G : lg_G) (pc : Nat) (lv : List (Nat × Value)) (st : List Value) (hx hm : am_M) : Prop :=
  am_Rg hx → am_Rg hm → ∀ (H : Heap) (locs : List Loc) (ls : Array Slot), lv_has ls 4 lv → va_P D vwCl (am_ws (EX D a u) hx) H → va_P D vwCl (am_ws (EM D a v) hm) H → va_S (fun q => H0.size ≤ q) H0 H locs → G pc ls st H locs
def lg_lv (b : Nat) (u v : Nat → Nat) (i : Nat) : List (Nat × Value) := [(3, .int (nI i)), (2, .ref (v 0)), (1, .ref (u 0)), (0, .ref b)]
/-- the script's k-th int behind i -/
def ag (xs : Nat → Int32) (i k : Nat) : Int := (xs (i + k)).toInt
theorem ag_in (xs : Nat → Int32) (i k : Nat) : am_in (ag xs i k) := am_tin _
theorem ag_of (xs : Nat → Int32) (i k : Nat) : Int32.ofInt (ag xs i k) = xs (i + k) := by
  apply Int32.toInt_inj.mp
  rw [am_ti (ag_in xs i k)]
  rfl
def bzi (z : Int) : Int := if z = 0 then 0 else 1
theorem bzi_01 (z : Int) : bzi z = 0 ∨ bzi z = 1 := by
  unfold bzi
  split
  · exact Or.inl rfl
  · exact Or.inr rfl
theorem bzi_in (z : Int) : am_in (bzi z) := by
  unfold am_in
  rcases bzi_01 z with e | e <;> rw [e] <;> decide
section
variable {D : va_G} {a : Nat → ClassId} {u v : Nat → Nat} {b L : Nat} {xs : Nat → Int32} {H0 : Heap} {G : lg_G} {pc i : Nat} {st : List Value} {hx hm : am_M}
theorem lg_a1 (g : lg_Gd D a b L xs H0 G) (d : decode cL_law pc = .ok (.aload_n 1, 1)) (kk : lg_J D a u v H0 G (pc + 1) (lg_lv b u v i) (.ref (u 0) :: st) hx hm) : lg_J D a u v H0 G pc (lg_lv b u v i) st hx hm := by
  obtain ⟨p, l, e, s, m, below, meth, c, hxx, hb, hml, hown, hK, hTW, hX, hbl, rfl, hr, hlk, rfl⟩ := g
  exact fun r1 r2 H locs ls hl p1 p2 hS => lv_aload_n hxx hb d rfl (lv_at hl 2 rfl) (kk r1 r2 H locs ls hl p1 p2 hS)
theorem lg_a2 (g : lg_Gd D a b L xs H0 G) (d : decode cL_law pc = .ok (.aload_n 2, 1)) (kk : lg_J D a u v H0 G (pc + 1) (lg_lv b u v i) (.ref (v 0) :: st) hx hm) : lg_J D a u v H0 G pc (lg_lv b u v i) st hx hm := by
  obtain ⟨p, l, e, s, m, below, meth, c, hxx, hb, hml, hown, hK, hTW, hX, hbl, rfl, hr, hlk, rfl⟩ := g
  exact fun r1 r2 H locs ls hl p1 p2 hS => lv_aload_n hxx hb d rfl (lv_at hl 1 rfl) (kk r1 r2 H locs ls hl p1 p2 hS)
/-- an int of the script -/
theorem lg_ar (g : lg_Gd D a b L xs H0 G) (hL : L ≤ 3072) (hi : i + 6 ≤ L) (k : Nat) (hk : k < 6) {kn : Int} (hkn : Int32.ofInt kn = nI k) (d0 : decode cL_law pc = .ok (.aload_n 0, 1)) (d1 : decode cL_law (pc + 1) = .ok (.iload_n 3, 1)) (d2 : decode cL_law (pc + 2) = .ok (.iconst kn, 1)) (d3 : decode cL_law (pc + 3) = .ok (.iadd, 1)) (d4 : decode cL_law (pc + 4) = .ok (.iaload, 1))
    (kk : lg_J D a u v H0 G (pc + 5) (lg_lv b u v i) (.int (Int32.ofInt (ag xs i k)) :: st) hx hm) : lg_J D a u v H0 G pc (lg_lv b u v i) st hx hm := by
  obtain ⟨p, l, e, s, m, below, meth, c, hxx, hb, hml, hown, hK, hTW, hX, hbl, rfl, hr, hlk, rfl⟩ := g
  intro r1 r2 H locs ls hl p1 p2 hS
  have q := kk r1 r2 H locs ls hl p1 p2 hS
  have hik : i + k < 2 ^ 31 := Nat.lt_of_lt_of_le (show i + k < 3072 by omega) (by decide)
  have hn : vp_in (nI (i + k)) L := vp_in_nI (by omega) (Nat.lt_of_le_of_lt hL (by decide))
  refine lv_aload_n hxx hb d0 rfl (lv_at hl 3 rfl) (lv_iload_n hxx hb d1 rfl (lv_at hl 0 rfl) (lv_iconst hxx hb d2 hkn (lv_iadd hxx hb d3 ?_)))
  rw [nI_add]
  refine va_sld hxx hb hX hbl (Nat.not_le.mpr hbl) hS hn d4 ?_
  rw [nI_clamp hik, ← ag_of xs i k]
  exact q
/-- a truth of an int -/
theorem lg_bz (g : lg_Gd D a b L xs H0 G) {z : Int} (hz : am_in z) {lv : List (Nat × Value)} (d0 : decode cL_law pc = .ok (.ifCond .eq 7, 3)) (d1 : decode cL_law (pc + 3) = .ok (.iconst 1, 1)) (d2 : decode cL_law (pc + 4) = .ok (.goto 4, 3)) (d3 : decode cL_law (pc + 7) = .ok (.iconst 0, 1))
    (kk : lg_J D a u v H0 G (pc + 8) lv (.int (Int32.ofInt (bzi z)) :: st) hx hm) : lg_J D a u v H0 G pc lv (.int (Int32.ofInt z) :: st) hx hm := by
  obtain ⟨p, l, e, s, m, below, meth, c, hxx, hb, hml, hown, hK, hTW, hX, hbl, rfl, hr, hlk, rfl⟩ := g
  intro r1 r2 H locs ls hl p1 p2 hS
  have q := kk r1 r2 H locs ls hl p1 p2 hS
  refine lv_if_eq (tgt := pc + 7) hxx hb d0 (by omega) (fun h0 => ?_) (fun h0 => ?_)
  · have e0 : z = 0 := (am_oi hz (show am_in 0 from ⟨by decide, by decide⟩)).mp (show Int32.ofInt z = Int32.ofInt 0 from h0)
    refine lv_iconst (v := Int32.ofInt 0) hxx hb d3 rfl ?_
    unfold bzi at q
    rw [if_pos e0] at q
    exact q
  · have e0 : ¬ z = 0 := fun e => h0 (by rw [e]; rfl)
    refine lv_iconst (v := Int32.ofInt 1) hxx hb d1 rfl (lv_goto (tgt := pc + 8) hxx hb d2 (by omega) ?_)
    unfold bzi at q
    rw [if_neg e0] at q
    exact q
end
section
variable {p : Program} {l : Launch} {e : Env} {R : Room} {s : State} {m : MethodId} {args : Array Value} {below : List Frame} {meth : Method} {c : Code} {H : Heap} {locs : List Loc} {Q : State → Prop} {E : am_E}
theorem lg_run {cells slots pc : Nat} {ls : Array Slot} {st0 rest : List Value} {rv : Option am_V} {h1 : am_M} {a : Array Value} {A : Nat → Prop} (hr : va_Run p l e R s m args below meth c H locs cells slots 0 0 (F0 m pc ls st0) rest (am_Qc E rv h1 a) (am_A E)) (hA : ∀ q, am_A E q → A q) (hS : va_S A s.heap H locs)
    (kk : ∀ (H1 : Heap) (locs1 : List Loc), (∀ x, rv = some x → am_rv E x) → am_Rg h1 → va_P (am_D E) vwCl (am_ws E h1) H1 → (∀ q : Nat, q < H.size → ¬ am_A E q → H1[q]? = H[q]?) → va_S A s.heap H1 locs1 → W p l e R s m args below meth c H1 locs1 cells slots Q (F0 m (pc + 3) ls ((rv.map (am_c E)).toList ++ rest))) : W p l e R s m args below meth c H locs cells slots Q (F0 m pc ls st0) := by
  intro T hT X
  obtain ⟨v, st₀, t, T', L, h0, X', hL, e1, e2, ⟨hv, ⟨hP, hK, hTW⟩, ⟨hz, hk⟩, hr1, hr2⟩, st⟩ := hr T hT X
  have hv' : v = rv.map (am_c E) := Outcome.returned.inj hv
  subst hv'
  rw [h0] at hz hk
  obtain ⟨t2, a1, b1⟩ := kk T'.heap (locs ++ L) hr1 hr2 (by rw [e1]; exact hP) (fun q q1 q2 => by rw [e1]; exact hk q q1 q2)
    ⟨Nat.le_trans hS.1 (by rw [e1]; exact hz), fun q q1 q2 => by rw [e1, hk q (Nat.lt_of_lt_of_le q1 hS.1) (fun z => q2 (hA q z))]; exact hS.2.1 q q1 q2, fun q hq => by
      rcases List.mem_append.mp hq with z | z
      · exact hS.2.2 q z
      · exact hA _ (hL q z)⟩ T' rfl X'
  exact ⟨t2, st t2 a1, b1⟩
theorem lg_call {cells slots pc n idx k maxL : Nat} {ls : Array Slot} {y : MethodName} {cc' : ByteArray} {ret' : Option FieldType} {C own : String} {cc : ByteArray} {nL ci N : Nat} {T : u_T} {fs : List ((Nat × Nat) ⊕ Nat)} {as : List am_V} {h h1 : am_M} {rv : Option am_V} {rest st0 : List Value} {A : Nat → Prop}
    (hx : p.tables.exec = Jvm.exec) (hb : c.code = cc) (hml : c.maxLocals = nL) (hown : s.vm.findClass own = some m.cls) (hK : va_K (am_D E) vwCl (am_tys E) s) (hTW : am_TW s) (hM : am_Met E y cc' maxL ret' k (.inr (some 0) :: as) h rv h1) (mi : am_mi y cc' maxL ret' n C) (hlw : am_lk (.methodLink own idx y)) (d : decode cc pc = .ok (.invokevirtual idx, 3)) (hn : as.length = n) (hcl : vwCl[ci]? = some (C, T, N)) (hN : 0 < am_N E) (hs : am_sh E 0 = .inr (.inl (ci, fs))) (hk : k + 1 ≤ R.frames ∧ 8 + (40 + 11) + 60 * k ≤ R.locals) (hr : (rest.map fun v => v.category).sum ≤ 8) (hc : cells ≤ R.cells ∧ slots ≤ R.slots) (hls : ls.size = nL) (e0 : st0 = (as.map (am_c E)).reverse ++ .ref (am_ad E 0) :: rest) (hP : va_P (am_D E) vwCl (am_ws E h) H) (hA : ∀ q, am_A E q → A q) (hS : va_S A s.heap H locs)
    (kk : ∀ (H1 : Heap) (locs1 : List Loc), (∀ x, rv = some x → am_rv E x) → am_Rg h1 → va_P (am_D E) vwCl (am_ws E h1) H1 → (∀ q : Nat, q < H.size → ¬ am_A E q → H1[q]? = H[q]?) → va_S A s.heap H1 locs1 → W p l e R s m args below meth c H1 locs1 cells slots Q (F0 m (pc + 3) ls ((rv.map (am_c E)).toList ++ rest))) : W p l e R s m args below meth c H locs cells slots Q (F0 m pc ls st0) := by
  obtain ⟨m1, m2, m3, m4, m5, m6, m7⟩ := mi
  refine lg_run (rest := rest) (a := (Value.ref (am_ad E 0) :: as.map (am_c E)).toArray) ?_ hA hS kk
  refine va_runV (Ts := []) (nL := nL) (As := as.map (am_c E)) (b := am_ad E 0) (C := C) (n := n) ⟨hx, hb, hml, hown, fun w hw => by cases hw⟩ (hM l)
    ⟨⟨rfl, rfl, hk.1, ?_, fun w hw a' U hW => ?_, List.mem_cons_self, hTW.use m1 _, hTW.use m4 _, m5, am_plen m6, hTW.use hlw _⟩, hTW.use m2 _, hTW.use m3 _⟩ ⟨am_blind E _ h, ?_, fun U hU hW => ⟨rfl, by rw [hU]; exact hP, va_K.moved hW.alike hK, hTW.warm hW⟩⟩ rfl (by rw [List.length_map]; exact hn) hls e0 (lv_room hr) d hc
  · show 8 + (maxL + 11) + 60 * k ≤ R.locals
    have := hk.2
    omega
  · rw [List.mem_singleton.mp hw]
    exact (hTW.warm hW).use m1 _
  · exact va_recv hK hP hcl (fs := fs.map (am_f E h)) (by rw [am_ws_at E h hN, hs]; rfl)
end
section
variable {D : va_G} {a : Nat → ClassId} {u v : Nat → Nat} {b L : Nat} {xs : Nat → Int32} {H0 : Heap} {G : lg_G} {pc i : Nat} {st : List Value} {hx hm : am_M}
/-- a call of the class -/
theorem lg_cX (g : lg_Gd D a b L xs H0 G) (ok : lg_ok D a u v H0) {y : MethodName} {cc' : ByteArray} {maxL k n idx : Nat} {ret' : Option FieldType} {as : List am_V} {o : Option (Int × am_M)} {val : Int} {hx' : am_M} {st0 : List Value} (hC : am_C (EX D a u) y cc' maxL ret' k (.inr (some 0) :: as) hx am_ei o) (mi : am_mi y cc' maxL ret' n RX8) (hlw : am_lk (.methodLink R_law idx y)) (d : decode cL_law pc = .ok (.invokevirtual idx, 3)) (hn : as.length = n) (hk : k ≤ 1000) (ha : ∀ w ∈ as, am_rv (EX D a u) w) (ho : o = some (val, hx')) (hr : (st.map fun v => v.category).sum ≤ 8) (e0 : st0 = (as.map (am_c (EX D a u))).reverse ++ .ref (u 0) :: st)
    (kk : lg_J D a u v H0 G (pc + 3) (lg_lv b u v i) (.int (Int32.ofInt val) :: st) hx' hm) : lg_J D a u v H0 G pc (lg_lv b u v i) st0 hx hm := by
  obtain ⟨p, l, e, s, m, below, meth, c, hxx, hb, hml, hown, hK, hTW, hX, hbl, rfl, hrt, hlk, rfl⟩ := g
  obtain ⟨g1, g2, g3, g4, g5⟩ := ok
  intro r1 r2 H locs ls hl p1 p2 hS
  have hM := hC g1 (fun w hw => by
    rcases List.mem_cons.mp hw with z | z
    · rw [z]; show 0 < 81; decide
    · exact ha w z) r1 val hx' ho
  refine lg_call (A := fun q => s.heap.size ≤ q) hxx hb hml hown hK hTW hM mi hlw d hn clX8.1 (show 0 < 81 by decide) rfl ⟨by show k + 1 ≤ 2048; omega, by show 8 + (40 + 11) + 60 * k ≤ 84000; omega⟩ hr ⟨by decide, by decide⟩ hl.1 e0 p1 (fun q h => ?_) hS (fun H1 l1 c1 c2 c3 c4 c5 => ?_)
  · obtain ⟨j, hj, rfl⟩ := h
    exact g3 j hj
  · refine kk c2 r2 H1 l1 ls hl c3 (p2.kept (fun j q hq => c4 q.1 (p2 j q hq).lt (fun h => ?_))) c5
    obtain ⟨h1, rfl⟩ := am_ws_inv (EM D a v) hm hq
    obtain ⟨j2, hj2, hj3⟩ := h
    exact g5 j2 j hj2 h1 hj3.symm
/-- a call of the reference -/
theorem lg_cM (g : lg_Gd D a b L xs H0 G) (ok : lg_ok D a u v H0) {y : MethodName} {cc' : ByteArray} {maxL k n idx : Nat} {ret' : Option FieldType} {as : List am_V} {o : Option (Int × am_M)} {val : Int} {hm' : am_M} {st0 : List Value} (hC : am_C (EM D a v) y cc' maxL ret' k (.inr (some 0) :: as) hm am_ei o) (mi : am_mi y cc' maxL ret' n RX9) (hlw : am_lk (.methodLink R_law idx y)) (d : decode cL_law pc = .ok (.invokevirtual idx, 3)) (hn : as.length = n) (hk : k ≤ 1000) (ha : ∀ w ∈ as, am_rv (EM D a v) w) (ho : o = some (val, hm')) (hr : (st.map fun v => v.category).sum ≤ 8) (e0 : st0 = (as.map (am_c (EM D a v))).reverse ++ .ref (v 0) :: st)
    (kk : lg_J D a u v H0 G (pc + 3) (lg_lv b u v i) (.int (Int32.ofInt val) :: st) hx hm') : lg_J D a u v H0 G pc (lg_lv b u v i) st0 hx hm := by
  obtain ⟨p, l, e, s, m, below, meth, c, hxx, hb, hml, hown, hK, hTW, hX, hbl, rfl, hrt, hlk, rfl⟩ := g
  obtain ⟨g1, g2, g3, g4, g5⟩ := ok
  intro r1 r2 H locs ls hl p1 p2 hS
  have hM := hC g2 (fun w hw => by
    rcases List.mem_cons.mp hw with z | z
    · rw [z]; show 0 < 34; decide
    · exact ha w z) r2 val hm' ho
  refine lg_call (A := fun q => s.heap.size ≤ q) hxx hb hml hown hK hTW hM mi hlw d hn clX9.1 (show 0 < 34 by decide) rfl ⟨by show k + 1 ≤ 2048; omega, by show 8 + (40 + 11) + 60 * k ≤ 84000; omega⟩ hr ⟨by decide, by decide⟩ hl.1 e0 p2 (fun q h => ?_) hS (fun H1 l1 c1 c2 c3 c4 c5 => ?_)
  · obtain ⟨j, hj, rfl⟩ := h
    exact g4 j hj
  · refine kk r1 c2 H1 l1 ls hl (p1.kept (fun j q hq => c4 q.1 (p1 j q hq).lt (fun h => ?_))) c3 c5
    obtain ⟨h1, rfl⟩ := am_ws_inv (EX D a u) hx hq
    obtain ⟨j2, hj2, hj3⟩ := h
    exact g5 j j2 h1 hj2 hj3
/-- both answered alike -/
theorem lg_eq (g : lg_Gd D a b L xs H0 G) {off : Int} {x : Int32} {lv : List (Nat × Value)} (d : decode cL_law pc = .ok (.if_icmp .eq off, 3)) (ht : (pc : Int) + off = (1347 : Nat)) (kk : lg_J D a u v H0 G 1347 lv st hx hm) : lg_J D a u v H0 G pc lv (.int x :: .int x :: st) hx hm := by
  obtain ⟨p, l, e, s, m, below, meth, c, hxx, hb, hml, hown, hK, hTW, hX, hbl, rfl, hr, hlk, rfl⟩ := g
  exact fun r1 r2 H locs ls hl p1 p2 hS => lv_icmp_eq hxx hb d ht (fun _ => kk r1 r2 H locs ls hl p1 p2 hS) (fun n => absurd rfl n)
theorem lg_nx (g : lg_Gd D a b L xs H0 G) (kk : lg_J D a u v H0 G 18 (lg_lv b u v (i + 6)) [] hx hm) : lg_J D a u v H0 G 1347 (lg_lv b u v i) [] hx hm := by
  obtain ⟨p, l, e, s, m, below, meth, c, hxx, hb, hml, hown, hK, hTW, hX, hbl, rfl, hr, hlk, rfl⟩ := g
  intro r1 r2 H locs ls hl p1 p2 hS
  refine lv_iinc (k := 0) (v := nI (i + 6)) (lv' := lg_lv b u v (i + 6)) hxx hb dL_law_1347 hl rfl (by rw [← nI_add]; rfl) (by decide) rfl (fun ls hl => ?_)
  exact lv_goto (tgt := 18) hxx hb dL_law_1350 (by decide) (kk r1 r2 H locs ls hl p1 p2 hS)
theorem lg_ex (g : lg_Gd D a b L xs H0 G) : lg_J D a u v H0 G 1353 (lg_lv b u v i) [] hx hm := by
  obtain ⟨p, l, e, s, m, below, meth, c, hxx, hb, hml, hown, hK, hTW, hX, hbl, rfl, hr, hlk, rfl⟩ := g
  intro r1 r2 H locs ls hl p1 p2 hS
  refine lv_iconst (v := 1) hxx hb dL_law_1353 (by decide) ?_
  refine va_forget (fun q hq => hS.2.2 q hq) ?_
  refine W.widen (k := 600000) (n := 7302250) (by decide) (by decide) ?_
  exact lw_ret hxx hb hr hlk dL_law_1354
theorem lg_hd (g : lg_Gd D a b L xs H0 G) (hL : L ≤ 3072) (hi : i ≤ 4000) (k1 : ¬ i + 6 ≤ L → lg_J D a u v H0 G 1353 (lg_lv b u v i) [] hx hm) (k2 : i + 6 ≤ L → lg_J D a u v H0 G 33 (lg_lv b u v i) [.int (xs i &&& Int32.ofInt 63)] hx hm) : lg_J D a u v H0 G 18 (lg_lv b u v i) [] hx hm := by
  obtain ⟨p, l, e, s, m, below, meth, c, hxx, hb, hml, hown, hK, hTW, hX, hbl, rfl, hr, hlk, rfl⟩ := g
  intro r1 r2 H locs ls hl p1 p2 hS
  have i31 : i < 2 ^ 31 := Nat.lt_of_le_of_lt hi (by decide)
  have L31 : L < 2 ^ 31 := Nat.lt_of_le_of_lt hL (by decide)
  have eL : Int32.ofNat L - Int32.ofInt 6 = Int32.ofInt ((L : Int) - 6) := by
    have e1 : Int32.ofNat L = Int32.ofInt (L : Int) := by
      apply Int32.toInt_inj.mp
      rw [show (Int32.ofNat L).toInt = (L : Int) from nI_toInt L31, am_ti ⟨by omega, by omega⟩]
    rw [e1, am_sub, am_ofw]
  have iL : Int32.ofInt ((L : Int) - 6) < nI i ↔ (L : Int) - 6 < i := by
    rw [Int32.lt_iff_toInt_lt, am_ti ⟨by omega, by omega⟩, nI_toInt i31]
  refine lv_iload_n hxx hb dL_law_18 rfl (lv_at hl 0 rfl) (lv_aload_n hxx hb dL_law_19 rfl (lv_at hl 3 rfl) (va_slen hxx hb hX hbl (Nat.not_le.mpr hbl) hS dL_law_20 (lv_bipush (v := Int32.ofInt 6) hxx hb dL_law_21 (by decide) (lv_isub hxx hb dL_law_23 ?_))))
  rw [eL]
  refine lv_icmp_gt (tgt := 1353) hxx hb dL_law_24 (by decide) (fun h => ?_) (fun h => ?_)
  · exact k1 (by have := iL.mp h; omega) r1 r2 H locs ls hl p1 p2 hS
  · have h6 : i + 6 ≤ L := by
      have : ¬ ((L : Int) - 6 < i) := fun z => h (iL.mpr z)
      omega
    have q := k2 h6 r1 r2 H locs ls hl p1 p2 hS
    have hn : vp_in (nI i) L := vp_in_nI (by omega) L31
    refine lv_aload_n hxx hb dL_law_27 rfl (lv_at hl 3 rfl) (lv_iload_n hxx hb dL_law_28 rfl (lv_at hl 0 rfl) (va_sld hxx hb hX hbl (Nat.not_le.mpr hbl) hS hn dL_law_29 ?_))
    rw [nI_clamp i31]
    exact lv_bipush (v := Int32.ofInt 63) hxx hb dL_law_30 (by decide) (lv_iand hxx hb dL_law_32 q)
def lg_tg : List Nat := [180, 213, 256, 289, 322, 355, 388, 421, 464, 497, 530, 553, 586, 619, 642, 675, 718, 741, 764, 807, 850, 945, 978, 1017, 1050, 1083, 1116, 1149, 1192, 1225, 1248, 1281, 1314]
theorem lg_to : ∀ j, j < 33 → (#[147, 180, 223, 256, 289, 322, 355, 388, 431, 464, 497, 520, 553, 586, 609, 642, 685, 708, 731, 774, 817, 912, 945, 984, 1017, 1050, 1083, 1116, 1159, 1192, 1215, 1248, 1281] : Array Int)[j]? = some ((lg_tg.getD j 0 : Int) - 33) := by decide +kernel
theorem lg_sw (g : lg_Gd D a b L xs H0 G) {x : Int32} {lv : List (Nat × Value)} (kd : lg_J D a u v H0 G 1347 lv [] hx hm) (kk : ∀ j, j < 33 → lg_J D a u v H0 G (lg_tg.getD j 0) lv [] hx hm) : lg_J D a u v H0 G 33 lv [.int x] hx hm := by
  obtain ⟨p, l, e, s, m, below, meth, c, hxx, hb, hml, hown, hK, hTW, hX, hbl, rfl, hr, hlk, rfl⟩ := g
  intro r1 r2 H locs ls hl p1 p2 hS
  by_cases h : x.toInt < 0 ∨ 32 < x.toInt
  · exact lv_tableOut (tgt := 1347) hxx hb dL_law_33 h (by decide) (kd r1 r2 H locs ls hl p1 p2 hS)
  · obtain ⟨j, hj⟩ : ∃ j : Nat, x.toInt = j := ⟨x.toInt.toNat, by omega⟩
    have j33 : j < 33 := by omega
    have o := lg_to j j33
    refine lv_tableIn (tgt := lg_tg.getD j 0) hxx hb dL_law_33 (fun z => h (Or.inl z)) (fun z => h (Or.inr z)) (by rw [hj, Int.sub_zero, Int.toNat_natCast]; exact o) (by show ((33 : Nat) : Int) + _ = _; omega) (kk j j33 r1 r2 H locs ls hl p1 p2 hS)
end
