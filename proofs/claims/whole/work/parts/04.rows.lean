/-! ===== the abstract machine: words of the tables, contracts, the judgement ===== -/
def am_ok : Cond → Bool
  | .methodLinkNest .. => true
  | .fieldLinkNest .. => true
  | w => w.onTables && w.keeps
theorem am_ok_tab {w : Cond} (h : am_ok w = true) : w.onTables = true := by
  cases w <;> first | rfl | (simp only [am_ok, Bool.and_eq_true] at h; exact h.1)
def am_lk (w : Cond) : Prop := w ∈ lw_tbl ∧ am_ok w = true
def am_TW (U : State) : Prop := ∀ w, am_lk w → va_Nw w U
theorem am_TW.use {U : State} (h : am_TW U) {w : Cond} (hw : am_lk w) (args : Array Value) : w.before args U = true := va_Nw.use (am_ok_tab hw.2) (h w hw)
theorem am_TW.same {u U : State} (e : u.vm = U.vm) (h : am_TW u) : am_TW U := fun w hw => va_Nw.same (am_ok_tab hw.2) e (h w hw)
theorem am_TW.warm {s U : State} (hW : s.WarmedH U.vm) (h : am_TW s) : am_TW U := by
  intro w hw
  have h1 := h w hw
  have h2 := hw.2
  cases w with
  | methodLinkNest a i x hh => exact va_Nw.warmM hW h1
  | fieldLinkNest a i b n d hh => exact va_Nw.warmF hW h1
  | _ => exact word_at hW (Or.inl h2) h1
def am_rv (E : am_E) : am_V → Prop
  | .inl n => am_in n
  | .inr none => True
  | .inr (some i) => i < am_N E
def am_Rg (h : am_M) : Prop := ∀ k i, am_in (h k i)
def am_tys (E : am_E) : List (ClassId × FieldType) := [(am_a E 0, .int), (am_a E 1, .boolean), (am_a E 2, .byte), (am_a E 3, .object "CourtDraws$Draw"), (am_a E 4, .object "CourtDraws$Court")]
/-- the state U holds the world E with the memory h -/
def am_B (E : am_E) (h : am_M) (U : State) : Prop := va_P (am_D E) vwCl (am_ws E h) U.heap ∧ va_K (am_D E) vwCl (am_tys E) U ∧ am_TW U
def am_Qc (E : am_E) (rv : Option am_V) (h' : am_M) : Array Value → State → Outcome → State → Prop := fun _ st oc t => oc = .returned (rv.map (am_c E)) ∧ am_B E h' t ∧ va_F (am_A E) st t ∧ (∀ x, rv = some x → am_rv E x) ∧ am_Rg h'
def am_room (k : Nat) : Room := { frames := k, cells := 0, slots := 0, locals := 60 * k }
def am_Met (E : am_E) (y : MethodName) (cc : ByteArray) (maxL : Nat) (ret : Option FieldType) (k : Nat) (as : List am_V) (h : am_M) (rv : Option am_V) (h' : am_M) : Prop :=
  ∀ l : Launch, Met l y [Cond.code y cc maxL ret] (am_room k) (va_Pc (as.map (am_c E)) (am_B E h)) (am_Qc E rv h') 0 0 (am_A E)
theorem am_Rg.up {h : am_M} (hh : am_Rg h) (k i : Nat) {v : Int} (hv : am_in v) : am_Rg (am_up h k i v) := by
  intro a b
  unfold am_up
  split
  · split
    · exact hv
    · exact hh a b
  · exact hh a b
/-- a good world -/
def am_g (E : am_E) : Prop := am_ap E ∧ am_sep (am_sh E) (am_N E) = true ∧ am_own (am_sh E) (am_N E) = true
/-- THE CONTRACT: if the function's answer is o = some (v, h'), the method returns it, and leaves the memory h' -/
def am_C (E : am_E) (y : MethodName) (cc : ByteArray) (maxL : Nat) (ret : Option FieldType) (k : Nat) (as : List am_V) (h : am_M) {α : Type} (enc : α → Option am_V) (o : Option (α × am_M)) : Prop :=
  am_g E → (∀ v ∈ as, am_rv E v) → am_Rg h → ∀ v h', o = some (v, h') → am_Met E y cc maxL ret k as h (enc v) h'
def am_ei (v : Int) : Option am_V := some (.inl v)
def am_ev (_ : Unit) : Option am_V := none
def am_er (v : Option Nat) : Option am_V := some (.inr v)
abbrev am_G : Type := Heap × (Option am_V × am_M → Nat → Array Slot → List Value → Heap → List Loc → Prop)
def am_Gd (E : am_E) (own : String) (cc : ByteArray) (nL : Nat) (ret : Option FieldType) (k : Nat) (G : am_G) : Prop :=
  ∃ (p : Program) (l : Launch) (e : Env) (s : State) (m : MethodId) (args : Array Value) (below : List Frame) (meth : Method) (c : Code),
    p.tables.exec = Jvm.exec ∧ c.code = cc ∧ c.maxLocals = nL ∧ meth.sig.returnType = ret ∧ meth.locks = false ∧ s.vm.findClass own = some m.cls ∧ va_K (am_D E) vwCl (am_tys E) s ∧ am_TW s ∧ am_g E ∧
    G = (s.heap, fun r pc ls st H locs => W p l e (am_room k) s m args below meth c H locs 0 0 (MQ below (am_Qc E r.1 r.2) args s 0 0 (am_A E)) (F0 m pc ls st))
/-- the locals -/
def am_lh (E : am_E) (ls : Array Slot) (nL : Nat) (L : List (Option am_V)) : Prop := ls.size = nL ∧ lv_wf ls ∧ ∀ (i : Nat) (v : am_V), L[i]? = some (some v) → ls[i]? = some (Slot.val (am_c E v))
def am_lv (E : am_E) (L : List (Option am_V)) : List (Nat × Value) := (List.range L.length).filterMap (fun i => (L[i]?.bind id).map (fun v => (i, am_c E v)))
theorem am_lv_mem {E : am_E} {L : List (Option am_V)} {q : Nat × Value} : q ∈ am_lv E L ↔ ∃ v, L[q.1]? = some (some v) ∧ q.2 = am_c E v := by
  obtain ⟨i, w⟩ := q
  simp only [am_lv, List.mem_filterMap, List.mem_range, Option.map_eq_some_iff, Option.bind_eq_some_iff, id]
  constructor
  · rintro ⟨j, hj, v, ⟨a, h1, rfl⟩, h2⟩
    cases h2
    exact ⟨v, h1, rfl⟩
  · rintro ⟨v, h1, rfl⟩
    exact ⟨i, (List.getElem?_eq_some_iff.mp h1).1, v, ⟨some v, h1, rfl⟩, rfl⟩
theorem am_lh.has {E : am_E} {ls : Array Slot} {nL : Nat} {L : List (Option am_V)} (h : am_lh E ls nL L) : lv_has ls nL (am_lv E L) :=
  ⟨h.1, h.2.1, fun q hq => by
    obtain ⟨v, h1, h2⟩ := am_lv_mem.mp hq
    rw [h2]; exact h.2.2 _ _ h1⟩
theorem am_lh.of {E : am_E} {ls : Array Slot} {nL : Nat} {L L' : List (Option am_V)} {i : Nat} {v : am_V} {l : List (Nat × Value)} (hl : l = (i, am_c E v) :: (am_lv E L).filter (fun q => !(q.1 == i) && !(q.1 + 1 == i && q.2.category == 2))) (h : lv_has ls nL l) (hL : L.set i (some v) = L') : am_lh E ls nL L' := by
  subst hL
  refine ⟨h.1, h.2.1, fun j w hj => ?_⟩
  by_cases hji : j = i
  · subst hji
    have hlt : j < L.length := by
      have := (List.getElem?_eq_some_iff.mp hj).1
      simpa using this
    rw [List.getElem?_set_self hlt] at hj
    have hvw : v = w := Option.some.inj (Option.some.inj hj)
    rw [← hvw]
    exact h.2.2 (j, am_c E v) (by rw [hl]; exact List.mem_cons_self)
  · rw [List.getElem?_set_ne (Ne.symm hji)] at hj
    refine h.2.2 (j, am_c E w) (by
      rw [hl]
      refine List.mem_cons_of_mem _ (List.mem_filter.mpr ⟨am_lv_mem.mpr ⟨w, hj, rfl⟩, ?_⟩)
      simp [hji, am_c_cat])
/-- THE JUDGEMENT: from this place, with these locals, this stack and memory, the method comes to the answer o -/
def am_J (E : am_E) (G : am_G) (nL : Nat) {α : Type} (enc : α → Option am_V) (pc : Nat) (L : List (Option am_V)) (S : List am_V) (h : am_M) (o : Option (α × am_M)) : Prop :=
  (∀ v, some v ∈ L → am_rv E v) → (∀ v ∈ S, am_rv E v) → am_Rg h → ∀ v h', o = some (v, h') →
    ∀ (H : Heap) (locs : List Loc) (ls : Array Slot), va_P (am_D E) vwCl (am_ws E h) H → va_S (am_A E) G.1 H locs → am_lh E ls nL L → G.2 (enc v, h') pc ls (S.map (am_c E)) H locs
/-- the answer of a call, handed on -/
def am_b {α β : Type} (o : Option (α × am_M)) (K : α → am_M → Option (β × am_M)) : Option (β × am_M) := match o with
  | some q => K q.1 q.2
  | none => none
theorem am_b_some {α β : Type} {v : α} {h : am_M} {K : α → am_M → Option (β × am_M)} : am_b (some (v, h)) K = K v h := rfl
theorem am_b_eq {α β : Type} {o : Option (α × am_M)} {v : α} {h : am_M} {K : α → am_M → Option (β × am_M)} (e : o = some (v, h)) : am_b o K = K v h := by rw [e]; rfl
theorem am_b_inv {α β : Type} {o : Option (α × am_M)} {K : α → am_M → Option (β × am_M)} {r : β × am_M} (e : am_b o K = some r) : ∃ v h, o = some (v, h) ∧ K v h = some r := by
  cases o with
  | none => cases e
  | some q => exact ⟨q.1, q.2, rfl, e⟩
section
variable {E : am_E} {G : am_G} {own : String} {cc : ByteArray} {nL : Nat} {ret : Option FieldType} {k : Nat} {α : Type} {enc : α → Option am_V} {pc : Nat} {L : List (Option am_V)} {S : List am_V} {h : am_M} {o : Option (α × am_M)}
/-- a step that changes the stack alone -/
theorem am_st {pc' : Nat} {S S' : List am_V} (hr : (∀ v, some v ∈ L → am_rv E v) → (∀ v ∈ S, am_rv E v) → am_Rg h → ∀ v ∈ S', am_rv E v)
    (hs : (∀ v ∈ S, am_rv E v) → ∀ r H locs ls, va_P (am_D E) vwCl (am_ws E h) H → am_lh E ls nL L → G.2 r pc' ls (S'.map (am_c E)) H locs → G.2 r pc ls (S.map (am_c E)) H locs)
    (kk : am_J E G nL enc pc' L S' h o) : am_J E G nL enc pc L S h o := by
  intro h1 h2 h3 v h' e
  have b := kk h1 (hr h1 h2 h3) h3 v h' e
  exact fun H locs ls x y z => hs h2 _ _ _ _ x z (b H locs ls x y z)
theorem am_pc {pc' : Nat} (e : pc = pc') (kk : am_J E G nL enc pc' L S h o) : am_J E G nL enc pc L S h o := e ▸ kk
theorem am_rv2 {a b : Int} {S : List am_V} (h : ∀ v ∈ (Sum.inl b :: Sum.inl a :: S : List am_V), am_rv E v) : am_in a ∧ am_in b ∧ ∀ v ∈ S, am_rv E v :=
  ⟨h (.inl a) (by simp), h (.inl b) (by simp), fun v hv => h v (by simp [hv])⟩
theorem am_rv1 {x : am_V} {S : List am_V} (h : ∀ v ∈ (x :: S : List am_V), am_rv E v) : am_rv E x ∧ ∀ v ∈ S, am_rv E v :=
  ⟨h x (by simp), fun v hv => h v (by simp [hv])⟩
theorem am_rvc {x : am_V} {S : List am_V} (hx : am_rv E x) (h : ∀ v ∈ S, am_rv E v) : ∀ v ∈ (x :: S : List am_V), am_rv E v := by
  intro v hv
  rcases List.mem_cons.mp hv with e | e
  · rw [e]; exact hx
  · exact h v e
theorem am_rvi {n : Int} {S : List am_V} (hx : am_in n) (h : ∀ v ∈ S, am_rv E v) : ∀ v ∈ (Sum.inl n :: S : List am_V), am_rv E v := am_rvc (x := .inl n) hx h
theorem am_iconst (g : am_Gd E own cc nL ret k G) {n : Int} (d : decode cc pc = .ok (.iconst n, 1)) (hn : am_in n) (hv : Int32.ofInt n = Int32.ofInt n) (kk : am_J E G nL enc (pc + 1) L (.inl n :: S) h o) : am_J E G nL enc pc L S h o := by
  obtain ⟨p, l, e, s, m, args, below, meth, c, hx, hb, hml, hrt, hlk, hown, hK, hTW, hg, rfl⟩ := g
  exact am_st (fun _ h2 _ => am_rvi hn h2) (fun _ r H locs ls _ _ q => lv_iconst hx hb d hv q) kk
theorem am_bipush (g : am_Gd E own cc nL ret k G) {n : Int} (d : decode cc pc = .ok (.bipush n, 2)) (hn : am_in n) (hv : (Int8.ofInt n).toInt32 = Int32.ofInt n) (kk : am_J E G nL enc (pc + 2) L (.inl n :: S) h o) : am_J E G nL enc pc L S h o := by
  obtain ⟨p, l, e, s, m, args, below, meth, c, hx, hb, hml, hrt, hlk, hown, hK, hTW, hg, rfl⟩ := g
  exact am_st (fun _ h2 _ => am_rvi hn h2) (fun _ r H locs ls _ _ q => lv_bipush hx hb d hv q) kk
theorem am_sipush (g : am_Gd E own cc nL ret k G) {n : Int} (d : decode cc pc = .ok (.sipush n, 3)) (hn : am_in n) (hv : (Int16.ofInt n).toInt32 = Int32.ofInt n) (kk : am_J E G nL enc (pc + 3) L (.inl n :: S) h o) : am_J E G nL enc pc L S h o := by
  obtain ⟨p, l, e, s, m, args, below, meth, c, hx, hb, hml, hrt, hlk, hown, hK, hTW, hg, rfl⟩ := g
  exact am_st (fun _ h2 _ => am_rvi hn h2) (fun _ r H locs ls _ _ q => lv_sipush hx hb d hv q) kk
theorem am_ldc (g : am_Gd E own cc nL ret k G) {n : Int} {i : Nat} {v : Int32} (d : decode cc pc = .ok (.ldc i, 2)) (hn : am_in n) (hw : am_lk (.constant own i v)) (hv : v = Int32.ofInt n) (kk : am_J E G nL enc (pc + 2) L (.inl n :: S) h o) : am_J E G nL enc pc L S h o := by
  obtain ⟨p, l, e, s, m, args, below, meth, c, hx, hb, hml, hrt, hlk, hown, hK, hTW, hg, rfl⟩ := g
  subst hv
  exact am_st (fun _ h2 _ => am_rvi hn h2) (fun _ r H locs ls _ _ q => lv_ldc hx hb hown (hTW.use hw _) d q) kk
theorem am_null (g : am_Gd E own cc nL ret k G) (d : decode cc pc = .ok (.aconst_null, 1)) (kk : am_J E G nL enc (pc + 1) L (.inr none :: S) h o) : am_J E G nL enc pc L S h o := by
  obtain ⟨p, l, e, s, m, args, below, meth, c, hx, hb, hml, hrt, hlk, hown, hK, hTW, hg, rfl⟩ := g
  exact am_st (fun _ h2 _ => am_rvc (x := .inr none) trivial h2) (fun _ r H locs ls _ _ q => lv_null hx hb d q) kk
theorem am_Lr {i : Nat} {v : am_V} (hL : L[i]? = some (some v)) (h1 : ∀ v, some v ∈ L → am_rv E v) : am_rv E v := h1 v (List.mem_of_getElem? hL)
theorem am_iload_n (g : am_Gd E own cc nL ret k G) {i : Fin 4} {n : Int} (d : decode cc pc = .ok (.iload_n i, 1)) (hL : L[(i : Nat)]? = some (some (.inl n))) (kk : am_J E G nL enc (pc + 1) L (.inl n :: S) h o) : am_J E G nL enc pc L S h o := by
  obtain ⟨p, l, e, s, m, args, below, meth, c, hx, hb, hml, hrt, hlk, hown, hK, hTW, hg, rfl⟩ := g
  exact am_st (fun h1 h2 _ => am_rvc (am_Lr hL h1) h2) (fun _ r H locs ls _ hl q => lv_iload_n hx hb d rfl (hl.2.2 _ _ hL) q) kk
theorem am_iload (g : am_Gd E own cc nL ret k G) {i : Nat} {n : Int} (d : decode cc pc = .ok (.iload i, 2)) (hL : L[i]? = some (some (.inl n))) (kk : am_J E G nL enc (pc + 2) L (.inl n :: S) h o) : am_J E G nL enc pc L S h o := by
  obtain ⟨p, l, e, s, m, args, below, meth, c, hx, hb, hml, hrt, hlk, hown, hK, hTW, hg, rfl⟩ := g
  exact am_st (fun h1 h2 _ => am_rvc (am_Lr hL h1) h2) (fun _ r H locs ls _ hl q => lv_iload hx hb d (hl.2.2 _ _ hL) q) kk
theorem am_aload_n (g : am_Gd E own cc nL ret k G) {i : Fin 4} {n : Option Nat} (d : decode cc pc = .ok (.aload_n i, 1)) (hL : L[(i : Nat)]? = some (some (.inr n))) (kk : am_J E G nL enc (pc + 1) L (.inr n :: S) h o) : am_J E G nL enc pc L S h o := by
  obtain ⟨p, l, e, s, m, args, below, meth, c, hx, hb, hml, hrt, hlk, hown, hK, hTW, hg, rfl⟩ := g
  refine am_st (fun h1 h2 _ => am_rvc (am_Lr hL h1) h2) (fun _ r H locs ls _ hl q => ?_) kk
  cases n with
  | none => exact lv_aload_nN hx hb d rfl (hl.2.2 _ _ hL) q
  | some a => exact lv_aload_n hx hb d rfl (hl.2.2 _ _ hL) q
theorem am_aload (g : am_Gd E own cc nL ret k G) {i : Nat} {n : Option Nat} (d : decode cc pc = .ok (.aload i, 2)) (hL : L[i]? = some (some (.inr n))) (kk : am_J E G nL enc (pc + 2) L (.inr n :: S) h o) : am_J E G nL enc pc L S h o := by
  obtain ⟨p, l, e, s, m, args, below, meth, c, hx, hb, hml, hrt, hlk, hown, hK, hTW, hg, rfl⟩ := g
  refine am_st (fun h1 h2 _ => am_rvc (am_Lr hL h1) h2) (fun _ r H locs ls _ hl q => ?_) kk
  cases n with
  | none => exact lv_aloadN hx hb d (hl.2.2 _ _ hL) q
  | some a => exact lv_aload hx hb d (hl.2.2 _ _ hL) q
theorem am_Ls {i : Nat} {v : am_V} (hv : am_rv E v) (h1 : ∀ v, some v ∈ L → am_rv E v) : ∀ w, some w ∈ L.set i (some v) → am_rv E w := by
  intro w hw
  rcases List.mem_or_eq_of_mem_set hw with q | q
  · exact h1 w q
  · cases q; exact hv
theorem am_istore_n (g : am_Gd E own cc nL ret k G) {i : Fin 4} {n : Int} (d : decode cc pc = .ok (.istore_n i, 1)) (hi : (i : Nat) < nL) (kk : am_J E G nL enc (pc + 1) (L.set (i : Nat) (some (.inl n))) S h o) : am_J E G nL enc pc L (.inl n :: S) h o := by
  obtain ⟨p, l, e, s, m, args, below, meth, c, hx, hb, hml, hrt, hlk, hown, hK, hTW, hg, rfl⟩ := g
  intro h1 h2 h3 v h' e
  obtain ⟨hv, h2⟩ := am_rv1 h2
  have b := kk (am_Ls hv h1) h2 h3 v h' e
  refine fun H locs ls x y z => ?_
  exact lv_istore_n hx hb d rfl z.has hi rfl (fun ls' hl' => b H locs ls' x y (am_lh.of rfl hl' rfl))
theorem am_istore (g : am_Gd E own cc nL ret k G) {i : Nat} {n : Int} (d : decode cc pc = .ok (.istore i, 2)) (hi : i < nL) (kk : am_J E G nL enc (pc + 2) (L.set i (some (.inl n))) S h o) : am_J E G nL enc pc L (.inl n :: S) h o := by
  obtain ⟨p, l, e, s, m, args, below, meth, c, hx, hb, hml, hrt, hlk, hown, hK, hTW, hg, rfl⟩ := g
  intro h1 h2 h3 v h' e
  obtain ⟨hv, h2⟩ := am_rv1 h2
  have b := kk (am_Ls hv h1) h2 h3 v h' e
  refine fun H locs ls x y z => ?_
  exact lv_istore hx hb d z.has hi rfl (fun ls' hl' => b H locs ls' x y (am_lh.of rfl hl' rfl))
theorem am_astore_n (g : am_Gd E own cc nL ret k G) {i : Fin 4} {n : Option Nat} (d : decode cc pc = .ok (.astore_n i, 1)) (hi : (i : Nat) < nL) (kk : am_J E G nL enc (pc + 1) (L.set (i : Nat) (some (.inr n))) S h o) : am_J E G nL enc pc L (.inr n :: S) h o := by
  obtain ⟨p, l, e, s, m, args, below, meth, c, hx, hb, hml, hrt, hlk, hown, hK, hTW, hg, rfl⟩ := g
  intro h1 h2 h3 v h' e
  obtain ⟨hv, h2⟩ := am_rv1 h2
  have b := kk (am_Ls hv h1) h2 h3 v h' e
  refine fun H locs ls x y z => ?_
  cases n with
  | none => exact lv_astore_nN hx hb d rfl z.has hi rfl (fun ls' hl' => b H locs ls' x y (am_lh.of rfl hl' rfl))
  | some a => exact lv_astore_n hx hb d rfl z.has hi rfl (fun ls' hl' => b H locs ls' x y (am_lh.of rfl hl' rfl))
theorem am_astore (g : am_Gd E own cc nL ret k G) {i : Nat} {n : Option Nat} (d : decode cc pc = .ok (.astore i, 2)) (hi : i < nL) (kk : am_J E G nL enc (pc + 2) (L.set i (some (.inr n))) S h o) : am_J E G nL enc pc L (.inr n :: S) h o := by
  obtain ⟨p, l, e, s, m, args, below, meth, c, hx, hb, hml, hrt, hlk, hown, hK, hTW, hg, rfl⟩ := g
  intro h1 h2 h3 v h' e
  obtain ⟨hv, h2⟩ := am_rv1 h2
  have b := kk (am_Ls hv h1) h2 h3 v h' e
  refine fun H locs ls x y z => ?_
  cases n with
  | none => exact lv_astoreN hx hb d z.has hi rfl (fun ls' hl' => b H locs ls' x y (am_lh.of rfl hl' rfl))
  | some a => exact lv_astore hx hb d z.has hi rfl (fun ls' hl' => b H locs ls' x y (am_lh.of rfl hl' rfl))
theorem am_iinc (g : am_Gd E own cc nL ret k G) {i : Nat} {n x : Int} (d : decode cc pc = .ok (.iinc i n, 3)) (hi : i < nL) (hL : L[i]? = some (some (.inl x))) (kk : am_J E G nL enc (pc + 3) (L.set i (some (.inl (am_w (x + n))))) S h o) : am_J E G nL enc pc L S h o := by
  obtain ⟨p, l, e, s, m, args, below, meth, c, hx, hb, hml, hrt, hlk, hown, hK, hTW, hg, rfl⟩ := g
  intro h1 h2 h3 v h' e
  have b := kk (am_Ls (show am_rv E (.inl (am_w (x + n))) from am_w_in _) h1) h2 h3 v h' e
  refine fun H locs ls y1 y z => ?_
  obtain ⟨j, hj⟩ := List.getElem?_of_mem (am_lv_mem (E := E) (L := L) (q := (i, .int (Int32.ofInt x))) |>.mpr ⟨.inl x, hL, rfl⟩)
  exact lv_iinc (v := Int32.ofInt (am_w (x + n))) hx hb d z.has hj (am_add x n) hi rfl (fun ls' hl' => b H locs ls' y1 y (am_lh.of (v := .inl (am_w (x + n))) rfl hl' rfl))
theorem am_iadd (g : am_Gd E own cc nL ret k G) {a b : Int} (d : decode cc pc = .ok (.iadd, 1)) (kk : am_J E G nL enc (pc + 1) L (.inl (am_w (a + b)) :: S) h o) : am_J E G nL enc pc L (.inl b :: .inl a :: S) h o := by
  obtain ⟨p, l, e, s, m, args, below, meth, c, hx, hb, hml, hrt, hlk, hown, hK, hTW, hg, rfl⟩ := g
  exact am_st (fun _ h2 _ => am_rvi (am_w_in _) (am_rv2 h2).2.2) (fun _ r H locs ls _ _ q => lv_iadd hx hb d (by rw [am_add a b]; exact q)) kk
theorem am_isub (g : am_Gd E own cc nL ret k G) {a b : Int} (d : decode cc pc = .ok (.isub, 1)) (kk : am_J E G nL enc (pc + 1) L (.inl (am_w (a - b)) :: S) h o) : am_J E G nL enc pc L (.inl b :: .inl a :: S) h o := by
  obtain ⟨p, l, e, s, m, args, below, meth, c, hx, hb, hml, hrt, hlk, hown, hK, hTW, hg, rfl⟩ := g
  exact am_st (fun _ h2 _ => am_rvi (am_w_in _) (am_rv2 h2).2.2) (fun _ r H locs ls _ _ q => lv_isub hx hb d (by rw [am_sub a b]; exact q)) kk
theorem am_imul (g : am_Gd E own cc nL ret k G) {a b : Int} (d : decode cc pc = .ok (.imul, 1)) (kk : am_J E G nL enc (pc + 1) L (.inl (am_w (a * b)) :: S) h o) : am_J E G nL enc pc L (.inl b :: .inl a :: S) h o := by
  obtain ⟨p, l, e, s, m, args, below, meth, c, hx, hb, hml, hrt, hlk, hown, hK, hTW, hg, rfl⟩ := g
  exact am_st (fun _ h2 _ => am_rvi (am_w_in _) (am_rv2 h2).2.2) (fun _ r H locs ls _ _ q => lv_imul hx hb d (by rw [am_mul a b]; exact q)) kk
theorem am_ineg (g : am_Gd E own cc nL ret k G) {a : Int} (d : decode cc pc = .ok (.ineg, 1)) (kk : am_J E G nL enc (pc + 1) L (.inl (am_w (-a)) :: S) h o) : am_J E G nL enc pc L (.inl a :: S) h o := by
  obtain ⟨p, l, e, s, m, args, below, meth, c, hx, hb, hml, hrt, hlk, hown, hK, hTW, hg, rfl⟩ := g
  exact am_st (fun _ h2 _ => am_rvi (am_w_in _) (am_rv1 h2).2) (fun _ r H locs ls _ _ q => lv_ineg hx hb d (by rw [am_neg a]; exact q)) kk
theorem am_z : am_in 0 := by unfold am_in; omega
theorem am_nz {b : Int} (hb : am_in b) (h : b ≠ 0) : ¬ Int32.ofInt b = 0 := fun e => h ((am_oi hb am_z).mp e)
theorem am_idiv (g : am_Gd E own cc nL ret k G) {a b : Int} (d : decode cc pc = .ok (.idiv, 1)) (hne : b ≠ 0) (kk : am_J E G nL enc (pc + 1) L (.inl (am_w (a.tdiv b)) :: S) h o) : am_J E G nL enc pc L (.inl b :: .inl a :: S) h o := by
  obtain ⟨p, l, e, s, m, args, below, meth, c, hx, hb, hml, hrt, hlk, hown, hK, hTW, hg, rfl⟩ := g
  exact am_st (fun _ h2 _ => am_rvi (am_w_in _) (am_rv2 h2).2.2) (fun h2 r H locs ls _ _ q => lv_idiv hx hb d (am_nz (am_rv2 h2).2.1 hne) (by rw [am_div (am_rv2 h2).1 (am_rv2 h2).2.1]; exact q)) kk
theorem am_irem (g : am_Gd E own cc nL ret k G) {a b : Int} (d : decode cc pc = .ok (.irem, 1)) (hne : b ≠ 0) (kk : am_J E G nL enc (pc + 1) L (.inl (a.tmod b) :: S) h o) : am_J E G nL enc pc L (.inl b :: .inl a :: S) h o := by
  obtain ⟨p, l, e, s, m, args, below, meth, c, hx, hb, hml, hrt, hlk, hown, hK, hTW, hg, rfl⟩ := g
  exact am_st (fun _ h2 _ => am_rvi (am_tmod_in (am_rv2 h2).1) (am_rv2 h2).2.2) (fun h2 r H locs ls _ _ q => lv_irem hx hb d (am_nz (am_rv2 h2).2.1 hne) (by rw [am_rem (am_rv2 h2).1 (am_rv2 h2).2.1]; exact q)) kk
theorem am_no {c : Prop} [Decidable c] (kk : c → am_J E G nL enc pc L S h o) : am_J E G nL enc pc L S h (if c then o else none) := by
  by_cases hc : c
  · rw [if_pos hc]; exact kk hc
  · rw [if_neg hc]; exact fun _ _ _ v h' e => by cases e
theorem am_iremG (g : am_Gd E own cc nL ret k G) {a b : Int} (d : decode cc pc = .ok (.irem, 1)) (kk : am_J E G nL enc (pc + 1) L (.inl (a.tmod b) :: S) h o) : am_J E G nL enc pc L (.inl b :: .inl a :: S) h (if b ≠ 0 then o else none) := am_no fun hne => am_irem g d hne kk
theorem am_iand (g : am_Gd E own cc nL ret k G) {a b : Int} (d : decode cc pc = .ok (.iand, 1)) (kk : am_J E G nL enc (pc + 1) L (.inl (am_and a b) :: S) h o) : am_J E G nL enc pc L (.inl b :: .inl a :: S) h o := by
  obtain ⟨p, l, e, s, m, args, below, meth, c, hx, hb, hml, hrt, hlk, hown, hK, hTW, hg, rfl⟩ := g
  refine am_st (fun _ h2 _ => am_rvc (show am_rv E (.inl (am_and a b)) from am_tin _) (am_rv2 h2).2.2) (fun h2 r H locs ls _ _ q => lv_iand hx hb d ?_) kk
  have q' : Int32.ofInt (am_and a b) = _ := Int32.ofInt_toInt _
  rw [← q']; exact q
theorem am_ior (g : am_Gd E own cc nL ret k G) {a b : Int} (d : decode cc pc = .ok (.ior, 1)) (kk : am_J E G nL enc (pc + 1) L (.inl (am_or a b) :: S) h o) : am_J E G nL enc pc L (.inl b :: .inl a :: S) h o := by
  obtain ⟨p, l, e, s, m, args, below, meth, c, hx, hb, hml, hrt, hlk, hown, hK, hTW, hg, rfl⟩ := g
  refine am_st (fun _ h2 _ => am_rvc (show am_rv E (.inl (am_or a b)) from am_tin _) (am_rv2 h2).2.2) (fun h2 r H locs ls _ _ q => lv_ior hx hb d ?_) kk
  have q' : Int32.ofInt (am_or a b) = _ := Int32.ofInt_toInt _
  rw [← q']; exact q
theorem am_ixor (g : am_Gd E own cc nL ret k G) {a b : Int} (d : decode cc pc = .ok (.ixor, 1)) (kk : am_J E G nL enc (pc + 1) L (.inl (am_xor a b) :: S) h o) : am_J E G nL enc pc L (.inl b :: .inl a :: S) h o := by
  obtain ⟨p, l, e, s, m, args, below, meth, c, hx, hb, hml, hrt, hlk, hown, hK, hTW, hg, rfl⟩ := g
  refine am_st (fun _ h2 _ => am_rvc (show am_rv E (.inl (am_xor a b)) from am_tin _) (am_rv2 h2).2.2) (fun h2 r H locs ls _ _ q => lv_ixor hx hb d ?_) kk
  have q' : Int32.ofInt (am_xor a b) = _ := Int32.ofInt_toInt _
  rw [← q']; exact q
theorem am_ishl (g : am_Gd E own cc nL ret k G) {a b : Int} (d : decode cc pc = .ok (.ishl, 1)) (kk : am_J E G nL enc (pc + 1) L (.inl (am_shl a b) :: S) h o) : am_J E G nL enc pc L (.inl b :: .inl a :: S) h o := by
  obtain ⟨p, l, e, s, m, args, below, meth, c, hx, hb, hml, hrt, hlk, hown, hK, hTW, hg, rfl⟩ := g
  refine am_st (fun _ h2 _ => am_rvc (show am_rv E (.inl (am_shl a b)) from am_tin _) (am_rv2 h2).2.2) (fun h2 r H locs ls _ _ q => lv_ishl hx hb d ?_) kk
  have q' : Int32.ofInt (am_shl a b) = _ := Int32.ofInt_toInt _
  rw [← q']; exact q
theorem am_ishr (g : am_Gd E own cc nL ret k G) {a b : Int} (d : decode cc pc = .ok (.ishr, 1)) (kk : am_J E G nL enc (pc + 1) L (.inl (am_shr a b) :: S) h o) : am_J E G nL enc pc L (.inl b :: .inl a :: S) h o := by
  obtain ⟨p, l, e, s, m, args, below, meth, c, hx, hb, hml, hrt, hlk, hown, hK, hTW, hg, rfl⟩ := g
  refine am_st (fun _ h2 _ => am_rvc (show am_rv E (.inl (am_shr a b)) from am_tin _) (am_rv2 h2).2.2) (fun h2 r H locs ls _ _ q => lv_ishr hx hb d ?_) kk
  have q' : Int32.ofInt (am_shr a b) = _ := Int32.ofInt_toInt _
  rw [← q']; exact q
theorem am_iushr (g : am_Gd E own cc nL ret k G) {a b : Int} (d : decode cc pc = .ok (.iushr, 1)) (kk : am_J E G nL enc (pc + 1) L (.inl (am_ushr a b) :: S) h o) : am_J E G nL enc pc L (.inl b :: .inl a :: S) h o := by
  obtain ⟨p, l, e, s, m, args, below, meth, c, hx, hb, hml, hrt, hlk, hown, hK, hTW, hg, rfl⟩ := g
  exact am_st (fun _ h2 _ => am_rvc (show am_rv E (.inl (am_ushr a b)) from am_tin _) (am_rv2 h2).2.2) (fun h2 r H locs ls _ _ q => lv_iushr hx hb d (Int32.ofInt_toInt _).symm q) kk
theorem am_dup (g : am_Gd E own cc nL ret k G) {v : am_V} (d : decode cc pc = .ok (.dup, 1)) (kk : am_J E G nL enc (pc + 1) L (v :: v :: S) h o) : am_J E G nL enc pc L (v :: S) h o := by
  obtain ⟨p, l, e, s, m, args, below, meth, c, hx, hb, hml, hrt, hlk, hown, hK, hTW, hg, rfl⟩ := g
  exact am_st (fun _ h2 _ => am_rvc (am_rv1 h2).1 h2) (fun h2 r H locs ls _ _ q => lv_dup hx hb d (am_c_cat E v) q) kk
theorem am_dup2 (g : am_Gd E own cc nL ret k G) {v w : am_V} (d : decode cc pc = .ok (.dup2, 1)) (kk : am_J E G nL enc (pc + 1) L (v :: w :: v :: w :: S) h o) : am_J E G nL enc pc L (v :: w :: S) h o := by
  obtain ⟨p, l, e, s, m, args, below, meth, c, hx, hb, hml, hrt, hlk, hown, hK, hTW, hg, rfl⟩ := g
  exact am_st (fun _ h2 _ => am_rvc (am_rv1 h2).1 (am_rvc (am_rv1 (am_rv1 h2).2).1 h2)) (fun h2 r H locs ls _ _ q => lv_dup2_11 hx hb d (am_c_cat E v) (am_c_cat E w) q) kk
theorem am_pop (g : am_Gd E own cc nL ret k G) {v : am_V} (d : decode cc pc = .ok (.pop, 1)) (kk : am_J E G nL enc (pc + 1) L S h o) : am_J E G nL enc pc L (v :: S) h o := by
  obtain ⟨p, l, e, s, m, args, below, meth, c, hx, hb, hml, hrt, hlk, hown, hK, hTW, hg, rfl⟩ := g
  exact am_st (fun _ h2 _ => (am_rv1 h2).2) (fun h2 r H locs ls _ _ q => lv_pop hx hb d (am_c_cat E v) q) kk
theorem am_goto (g : am_Gd E own cc nL ret k G) {off : Int} {tgt : Nat} (d : decode cc pc = .ok (.goto off, 3)) (ht : (pc : Int) + off = (tgt : Int)) (kk : am_J E G nL enc tgt L S h o) : am_J E G nL enc pc L S h o := by
  obtain ⟨p, l, e, s, m, args, below, meth, c, hx, hb, hml, hrt, hlk, hown, hK, hTW, hg, rfl⟩ := g
  exact am_st (fun _ h2 _ => h2) (fun h2 r H locs ls _ _ q => lv_goto hx hb d ht q) kk
theorem am_i2b (g : am_Gd E own cc nL ret k G) {a : Int} (d : decode cc pc = .ok (.i2b, 1)) (kk : am_J E G nL enc (pc + 1) L (.inl a :: S) h o) : am_J E G nL enc pc L (.inl a :: S) h (if -128 ≤ a ∧ a < 128 then o else none) := am_no fun hc => by
  obtain ⟨p, l, e, s, m, args, below, meth, c, hx, hb, hml, hrt, hlk, hown, hK, hTW, hg, rfl⟩ := g
  refine am_st (fun _ h2 _ => h2) (fun h2 r H locs ls _ _ q => lv_i2b hx hb d ?_ q) kk
  apply Int32.toInt_inj.mp
  rw [Int8.toInt_toInt32, Int32.toInt_toInt8, am_ti (am_rv1 h2).1, Int.bmod_def]
  split <;> omega
theorem am_br {c : Prop} [Decidable c] {S' : List am_V} {pt pf : Nat} {ot ow : Option (α × am_M)} (hr : (∀ v ∈ S, am_rv E v) → ∀ v ∈ S', am_rv E v)
    (hs : (∀ v ∈ S, am_rv E v) → ∀ r H locs ls, (c → G.2 r pt ls (S'.map (am_c E)) H locs) → (¬ c → G.2 r pf ls (S'.map (am_c E)) H locs) → G.2 r pc ls (S.map (am_c E)) H locs)
    (kt : c → am_J E G nL enc pt L S' h ot) (kf : ¬ c → am_J E G nL enc pf L S' h ow) : am_J E G nL enc pc L S h (if c then ot else ow) := by
  intro h1 h2 h3 v h' e
  by_cases hc : c
  · rw [if_pos hc] at e
    have b := kt hc h1 (hr h2) h3 v h' e
    exact fun H locs ls x y z => hs h2 _ _ _ _ (fun _ => b H locs ls x y z) (fun n => absurd hc n)
  · rw [if_neg hc] at e
    have b := kf hc h1 (hr h2) h3 v h' e
    exact fun H locs ls x y z => hs h2 _ _ _ _ (fun n => absurd n hc) (fun _ => b H locs ls x y z)
theorem am_if_eq (g : am_Gd E own cc nL ret k G) {a : Int} {off : Int} {tgt : Nat} {ot ow : Option (α × am_M)} (d : decode cc pc = .ok (.ifCond .eq off, 3)) (ht : (pc : Int) + off = (tgt : Int)) (kt : am_J E G nL enc tgt L S h ot) (kf : am_J E G nL enc (pc + 3) L S h ow) : am_J E G nL enc pc L (.inl a :: S) h (if a = 0 then ot else ow) := by
  obtain ⟨p, l, e, s, m, args, below, meth, c, hx, hb, hml, hrt, hlk, hown, hK, hTW, hg, rfl⟩ := g
  exact am_br (fun h2 => (am_rv1 h2).2) (fun h2 r H locs ls qt qf => lv_if_eq hx hb d ht (fun q => qt ((am_oi (am_rv1 h2).1 am_z).mp q)) (fun q => qf (fun z => q ((am_oi (am_rv1 h2).1 am_z).mpr z)))) (fun _ => kt) (fun _ => kf)
theorem am_icmp_eq (g : am_Gd E own cc nL ret k G) {a b : Int} {off : Int} {tgt : Nat} {ot ow : Option (α × am_M)} (d : decode cc pc = .ok (.if_icmp .eq off, 3)) (ht : (pc : Int) + off = (tgt : Int)) (kt : am_J E G nL enc tgt L S h ot) (kf : am_J E G nL enc (pc + 3) L S h ow) : am_J E G nL enc pc L (.inl b :: .inl a :: S) h (if a = b then ot else ow) := by
  obtain ⟨p, l, e, s, m, args, below, meth, c, hx, hb, hml, hrt, hlk, hown, hK, hTW, hg, rfl⟩ := g
  exact am_br (fun h2 => (am_rv2 h2).2.2) (fun h2 r H locs ls qt qf => lv_icmp_eq hx hb d ht (fun q => qt ((am_oi (am_rv2 h2).1 (am_rv2 h2).2.1).mp q)) (fun q => qf (fun z => q ((am_oi (am_rv2 h2).1 (am_rv2 h2).2.1).mpr z)))) (fun _ => kt) (fun _ => kf)
theorem am_if_ne (g : am_Gd E own cc nL ret k G) {a : Int} {off : Int} {tgt : Nat} {ot ow : Option (α × am_M)} (d : decode cc pc = .ok (.ifCond .ne off, 3)) (ht : (pc : Int) + off = (tgt : Int)) (kt : am_J E G nL enc tgt L S h ot) (kf : am_J E G nL enc (pc + 3) L S h ow) : am_J E G nL enc pc L (.inl a :: S) h (if a = 0 then ow else ot) := by
  obtain ⟨p, l, e, s, m, args, below, meth, c, hx, hb, hml, hrt, hlk, hown, hK, hTW, hg, rfl⟩ := g
  exact am_br (fun h2 => (am_rv1 h2).2) (fun h2 r H locs ls qt qf => lv_if_ne hx hb d ht (fun q => qf (fun z => q ((am_oi (am_rv1 h2).1 am_z).mpr z))) (fun q => qt ((am_oi (am_rv1 h2).1 am_z).mp q))) (fun _ => kf) (fun _ => kt)
theorem am_icmp_ne (g : am_Gd E own cc nL ret k G) {a b : Int} {off : Int} {tgt : Nat} {ot ow : Option (α × am_M)} (d : decode cc pc = .ok (.if_icmp .ne off, 3)) (ht : (pc : Int) + off = (tgt : Int)) (kt : am_J E G nL enc tgt L S h ot) (kf : am_J E G nL enc (pc + 3) L S h ow) : am_J E G nL enc pc L (.inl b :: .inl a :: S) h (if a = b then ow else ot) := by
  obtain ⟨p, l, e, s, m, args, below, meth, c, hx, hb, hml, hrt, hlk, hown, hK, hTW, hg, rfl⟩ := g
  exact am_br (fun h2 => (am_rv2 h2).2.2) (fun h2 r H locs ls qt qf => lv_icmp_ne hx hb d ht (fun q => qf (fun z => q ((am_oi (am_rv2 h2).1 (am_rv2 h2).2.1).mpr z))) (fun q => qt ((am_oi (am_rv2 h2).1 (am_rv2 h2).2.1).mp q))) (fun _ => kf) (fun _ => kt)
theorem am_if_lt (g : am_Gd E own cc nL ret k G) {a : Int} {off : Int} {tgt : Nat} {ot ow : Option (α × am_M)} (d : decode cc pc = .ok (.ifCond .lt off, 3)) (ht : (pc : Int) + off = (tgt : Int)) (kt : am_J E G nL enc tgt L S h ot) (kf : am_J E G nL enc (pc + 3) L S h ow) : am_J E G nL enc pc L (.inl a :: S) h (if a < 0 then ot else ow) := by
  obtain ⟨p, l, e, s, m, args, below, meth, c, hx, hb, hml, hrt, hlk, hown, hK, hTW, hg, rfl⟩ := g
  exact am_br (fun h2 => (am_rv1 h2).2) (fun h2 r H locs ls qt qf => lv_if_lt hx hb d ht (fun q => qt ((am_lt (am_rv1 h2).1 am_z).mp q)) (fun q => qf (fun z => q ((am_lt (am_rv1 h2).1 am_z).mpr z)))) (fun _ => kt) (fun _ => kf)
theorem am_icmp_lt (g : am_Gd E own cc nL ret k G) {a b : Int} {off : Int} {tgt : Nat} {ot ow : Option (α × am_M)} (d : decode cc pc = .ok (.if_icmp .lt off, 3)) (ht : (pc : Int) + off = (tgt : Int)) (kt : am_J E G nL enc tgt L S h ot) (kf : am_J E G nL enc (pc + 3) L S h ow) : am_J E G nL enc pc L (.inl b :: .inl a :: S) h (if a < b then ot else ow) := by
  obtain ⟨p, l, e, s, m, args, below, meth, c, hx, hb, hml, hrt, hlk, hown, hK, hTW, hg, rfl⟩ := g
  exact am_br (fun h2 => (am_rv2 h2).2.2) (fun h2 r H locs ls qt qf => lv_icmp_lt hx hb d ht (fun q => qt ((am_lt (am_rv2 h2).1 (am_rv2 h2).2.1).mp q)) (fun q => qf (fun z => q ((am_lt (am_rv2 h2).1 (am_rv2 h2).2.1).mpr z)))) (fun _ => kt) (fun _ => kf)
theorem am_if_ge (g : am_Gd E own cc nL ret k G) {a : Int} {off : Int} {tgt : Nat} {ot ow : Option (α × am_M)} (d : decode cc pc = .ok (.ifCond .ge off, 3)) (ht : (pc : Int) + off = (tgt : Int)) (kt : am_J E G nL enc tgt L S h ot) (kf : am_J E G nL enc (pc + 3) L S h ow) : am_J E G nL enc pc L (.inl a :: S) h (if a < 0 then ow else ot) := by
  obtain ⟨p, l, e, s, m, args, below, meth, c, hx, hb, hml, hrt, hlk, hown, hK, hTW, hg, rfl⟩ := g
  exact am_br (fun h2 => (am_rv1 h2).2) (fun h2 r H locs ls qt qf => lv_if_ge hx hb d ht (fun q => qf (Int.not_lt.mpr ((am_le am_z (am_rv1 h2).1).mp q))) (fun q => qt (Int.not_le.mp (fun z => q ((am_le am_z (am_rv1 h2).1).mpr z))))) (fun _ => kf) (fun _ => kt)
theorem am_icmp_ge (g : am_Gd E own cc nL ret k G) {a b : Int} {off : Int} {tgt : Nat} {ot ow : Option (α × am_M)} (d : decode cc pc = .ok (.if_icmp .ge off, 3)) (ht : (pc : Int) + off = (tgt : Int)) (kt : am_J E G nL enc tgt L S h ot) (kf : am_J E G nL enc (pc + 3) L S h ow) : am_J E G nL enc pc L (.inl b :: .inl a :: S) h (if a < b then ow else ot) := by
  obtain ⟨p, l, e, s, m, args, below, meth, c, hx, hb, hml, hrt, hlk, hown, hK, hTW, hg, rfl⟩ := g
  exact am_br (fun h2 => (am_rv2 h2).2.2) (fun h2 r H locs ls qt qf => lv_icmp_ge hx hb d ht (fun q => qf (Int.not_lt.mpr ((am_le (am_rv2 h2).2.1 (am_rv2 h2).1).mp q))) (fun q => qt (Int.not_le.mp (fun z => q ((am_le (am_rv2 h2).2.1 (am_rv2 h2).1).mpr z))))) (fun _ => kf) (fun _ => kt)
theorem am_if_gt (g : am_Gd E own cc nL ret k G) {a : Int} {off : Int} {tgt : Nat} {ot ow : Option (α × am_M)} (d : decode cc pc = .ok (.ifCond .gt off, 3)) (ht : (pc : Int) + off = (tgt : Int)) (kt : am_J E G nL enc tgt L S h ot) (kf : am_J E G nL enc (pc + 3) L S h ow) : am_J E G nL enc pc L (.inl a :: S) h (if a ≤ 0 then ow else ot) := by
  obtain ⟨p, l, e, s, m, args, below, meth, c, hx, hb, hml, hrt, hlk, hown, hK, hTW, hg, rfl⟩ := g
  exact am_br (fun h2 => (am_rv1 h2).2) (fun h2 r H locs ls qt qf => lv_if_gt hx hb d ht (fun q => qf (Int.not_le.mpr ((am_lt am_z (am_rv1 h2).1).mp q))) (fun q => qt (Int.not_lt.mp (fun z => q ((am_lt am_z (am_rv1 h2).1).mpr z))))) (fun _ => kf) (fun _ => kt)
theorem am_icmp_gt (g : am_Gd E own cc nL ret k G) {a b : Int} {off : Int} {tgt : Nat} {ot ow : Option (α × am_M)} (d : decode cc pc = .ok (.if_icmp .gt off, 3)) (ht : (pc : Int) + off = (tgt : Int)) (kt : am_J E G nL enc tgt L S h ot) (kf : am_J E G nL enc (pc + 3) L S h ow) : am_J E G nL enc pc L (.inl b :: .inl a :: S) h (if a ≤ b then ow else ot) := by
  obtain ⟨p, l, e, s, m, args, below, meth, c, hx, hb, hml, hrt, hlk, hown, hK, hTW, hg, rfl⟩ := g
  exact am_br (fun h2 => (am_rv2 h2).2.2) (fun h2 r H locs ls qt qf => lv_icmp_gt hx hb d ht (fun q => qf (Int.not_le.mpr ((am_lt (am_rv2 h2).2.1 (am_rv2 h2).1).mp q))) (fun q => qt (Int.not_lt.mp (fun z => q ((am_lt (am_rv2 h2).2.1 (am_rv2 h2).1).mpr z))))) (fun _ => kf) (fun _ => kt)
theorem am_if_le (g : am_Gd E own cc nL ret k G) {a : Int} {off : Int} {tgt : Nat} {ot ow : Option (α × am_M)} (d : decode cc pc = .ok (.ifCond .le off, 3)) (ht : (pc : Int) + off = (tgt : Int)) (kt : am_J E G nL enc tgt L S h ot) (kf : am_J E G nL enc (pc + 3) L S h ow) : am_J E G nL enc pc L (.inl a :: S) h (if a ≤ 0 then ot else ow) := by
  obtain ⟨p, l, e, s, m, args, below, meth, c, hx, hb, hml, hrt, hlk, hown, hK, hTW, hg, rfl⟩ := g
  exact am_br (fun h2 => (am_rv1 h2).2) (fun h2 r H locs ls qt qf => lv_if_le hx hb d ht (fun q => qt ((am_le (am_rv1 h2).1 am_z).mp q)) (fun q => qf (fun z => q ((am_le (am_rv1 h2).1 am_z).mpr z)))) (fun _ => kt) (fun _ => kf)
theorem am_icmp_le (g : am_Gd E own cc nL ret k G) {a b : Int} {off : Int} {tgt : Nat} {ot ow : Option (α × am_M)} (d : decode cc pc = .ok (.if_icmp .le off, 3)) (ht : (pc : Int) + off = (tgt : Int)) (kt : am_J E G nL enc tgt L S h ot) (kf : am_J E G nL enc (pc + 3) L S h ow) : am_J E G nL enc pc L (.inl b :: .inl a :: S) h (if a ≤ b then ot else ow) := by
  obtain ⟨p, l, e, s, m, args, below, meth, c, hx, hb, hml, hrt, hlk, hown, hK, hTW, hg, rfl⟩ := g
  exact am_br (fun h2 => (am_rv2 h2).2.2) (fun h2 r H locs ls qt qf => lv_icmp_le hx hb d ht (fun q => qt ((am_le (am_rv2 h2).1 (am_rv2 h2).2.1).mp q)) (fun q => qf (fun z => q ((am_le (am_rv2 h2).1 (am_rv2 h2).2.1).mpr z)))) (fun _ => kt) (fun _ => kf)
/-- a reference that may be null: what is told of it if it isn't -/
theorem am_rf {α β : Type} {r : Option Nat} {K0 : Prop} {K1 : Nat → Prop} (a : r = none → K0) (b : ∀ i, r = some i → K1 i) : match r with | none => K0 | some i => K1 i := by
  cases r with
  | none => exact a rfl
  | some i => exact b i rfl
theorem am_ifnull (g : am_Gd E own cc nL ret k G) {r : Option Nat} {off : Int} {tgt : Nat} {ot ow : Option (α × am_M)} (d : decode cc pc = .ok (.ifnull off, 3)) (ht : (pc : Int) + off = (tgt : Int)) (kt : am_J E G nL enc tgt L S h ot) (kf : am_J E G nL enc (pc + 3) L S h ow) : am_J E G nL enc pc L (.inr r :: S) h (if r = none then ot else ow) := by
  obtain ⟨p, l, e, s, m, args, below, meth, c, hx, hb, hml, hrt, hlk, hown, hK, hTW, hg, rfl⟩ := g
  refine am_br (fun h2 => (am_rv1 h2).2) (fun h2 r' H locs ls qt qf => ?_) (fun _ => kt) (fun _ => kf)
  cases r with
  | none => exact lv_ifnullN hx hb d ht (qt rfl)
  | some a => exact lv_ifnull hx hb d (qf (by simp))
theorem am_ifnonnull (g : am_Gd E own cc nL ret k G) {r : Option Nat} {off : Int} {tgt : Nat} {ot ow : Option (α × am_M)} (d : decode cc pc = .ok (.ifnonnull off, 3)) (ht : (pc : Int) + off = (tgt : Int)) (kt : am_J E G nL enc tgt L S h ot) (kf : am_J E G nL enc (pc + 3) L S h ow) : am_J E G nL enc pc L (.inr r :: S) h (if r = none then ow else ot) := by
  obtain ⟨p, l, e, s, m, args, below, meth, c, hx, hb, hml, hrt, hlk, hown, hK, hTW, hg, rfl⟩ := g
  refine am_br (fun h2 => (am_rv1 h2).2) (fun h2 r' H locs ls qt qf => ?_) (fun _ => kf) (fun _ => kt)
  cases r with
  | none => exact lv_ifnonnullN hx hb d (qt rfl)
  | some a => exact lv_ifnonnull hx hb d ht (qf (by simp))
theorem am_swOut (g : am_Gd E own cc nL ret k G) {dflt lo hi : Int} {offs : Array Int} {len tgt : Nat} {x : Int} (d : decode cc pc = .ok (.tableswitch dflt lo hi offs, len)) (hc : x < lo ∨ hi < x) (ht : (pc : Int) + dflt = (tgt : Int)) (kk : am_J E G nL enc tgt L S h o) : am_J E G nL enc pc L (.inl x :: S) h o := by
  obtain ⟨p, l, e, s, m, args, below, meth, c, hx, hb, hml, hrt, hlk, hown, hK, hTW, hg, rfl⟩ := g
  exact am_st (fun _ h2 _ => (am_rv1 h2).2) (fun h2 r H locs ls _ _ q => lv_tableOut hx hb d (by rw [am_ti (am_rv1 h2).1]; exact hc) ht q) kk
theorem am_swIn (g : am_Gd E own cc nL ret k G) {dflt lo hi off : Int} {offs : Array Int} {len tgt : Nat} {x : Int} (d : decode cc pc = .ok (.tableswitch dflt lo hi offs, len)) (h1 : ¬ x < lo) (h2 : ¬ hi < x) (ho : offs[(x - lo).toNat]? = some off) (ht : (pc : Int) + off = (tgt : Int)) (kk : am_J E G nL enc tgt L S h o) : am_J E G nL enc pc L (.inl x :: S) h o := by
  obtain ⟨p, l, e, s, m, args, below, meth, c, hx, hb, hml, hrt, hlk, hown, hK, hTW, hg, rfl⟩ := g
  exact am_st (fun _ h2 _ => (am_rv1 h2).2) (fun h3 r H locs ls _ _ q => lv_tableIn hx hb d (by rw [am_ti (am_rv1 h3).1]; exact h1) (by rw [am_ti (am_rv1 h3).1]; exact h2) (by rw [am_ti (am_rv1 h3).1]; exact ho) ht q) kk
theorem am_if {c : Prop} [Decidable c] {ot ow : Option (α × am_M)} (kt : c → am_J E G nL enc pc L S h ot) (kf : ¬ c → am_J E G nL enc pc L S h ow) : am_J E G nL enc pc L S h (if c then ot else ow) := by
  by_cases hc : c
  · rw [if_pos hc]; exact kt hc
  · rw [if_neg hc]; exact kf hc
theorem am_b01 {v : Int} (h : v = 0 ∨ v = 1) : narrow .boolean (.int (Int32.ofInt v)) = .int (Int32.ofInt v) ∧ fits .boolean (.int (Int32.ofInt v)) = true ∧ vp_nar .boolean (Int32.ofInt v) = Int32.ofInt v := by
  rcases h with rfl | rfl <;> exact ⟨by decide +kernel, by decide +kernel, by decide +kernel⟩
theorem am_qc {s : State} {args : Array Value} {H : Heap} {locs : List Loc} {rv : Option am_V} (hP : va_P (am_D E) vwCl (am_ws E h) H) (hS : va_S (am_A E) s.heap H locs) (hK : va_K (am_D E) vwCl (am_tys E) s) (hTW : am_TW s) (hr : ∀ x, rv = some x → am_rv E x) (hh : am_Rg h) : ∀ t : State, t.heap = H → s.WarmedH t.vm → am_Qc E rv h args s (.returned (rv.map (am_c E))) t :=
  fun t ht hW => ⟨rfl, ⟨by rw [ht]; exact hP, va_K.moved hW.alike hK, hTW.warm hW⟩, hS.F ht, hr, hh⟩
theorem am_ireturn {L : List (Option am_V)} {n : Int} (g : am_Gd E own cc nL (some .int) k G) (d : decode cc pc = .ok (.ireturn, 1)) : am_J E G nL am_ei pc L [.inl n] h (some (n, h)) := by
  obtain ⟨p, l, e, s, m, args, below, meth, c, hx, hb, hml, hrt, hlk, hown, hK, hTW, hg, rfl⟩ := g
  intro h1 h2 h3 v h' e
  cases e
  have hrr := am_rv1 h2
  refine fun H locs ls hP hS hl => ?_
  exact W.iret hx hb hrt (am_qc (rv := some (.inl n)) hP hS hK hTW (fun x hx => by cases hx; exact hrr.1) h3) hS.2.2 d
theorem am_zreturn {L : List (Option am_V)} {n : Int} (g : am_Gd E own cc nL (some .boolean) k G) (d : decode cc pc = .ok (.ireturn, 1)) (hn : n = 0 ∨ n = 1) : am_J E G nL am_ei pc L [.inl n] h (some (n, h)) := by
  obtain ⟨p, l, e, s, m, args, below, meth, c, hx, hb, hml, hrt, hlk, hown, hK, hTW, hg, rfl⟩ := g
  intro h1 h2 h3 v h' e
  cases e
  have hrr := am_rv1 h2
  refine fun H locs ls hP hS hl => ?_
  exact W.zret hx hb hrt (am_b01 hn).1 (am_qc (rv := some (.inl n)) hP hS hK hTW (fun x hx => by cases hx; exact hrr.1) h3) hS.2.2 d
theorem am_zreturnG {L : List (Option am_V)} {n : Int} (g : am_Gd E own cc nL (some .boolean) k G) (d : decode cc pc = .ok (.ireturn, 1)) : am_J E G nL am_ei pc L [.inl n] h (if n = 0 ∨ n = 1 then some (n, h) else none) := am_no fun hn => am_zreturn g d hn
theorem am_vreturn {L : List (Option am_V)} (g : am_Gd E own cc nL none k G) (d : decode cc pc = .ok (.return_, 1)) : am_J E G nL am_ev pc L [] h (some ((), h)) := by
  obtain ⟨p, l, e, s, m, args, below, meth, c, hx, hb, hml, hrt, hlk, hown, hK, hTW, hg, rfl⟩ := g
  intro h1 h2 h3 v h' e
  obtain rfl : h = h' := (Prod.mk.inj (Option.some.inj e)).2
  refine fun H locs ls hP hS hl => ?_
  exact W.vret hx hb hrt (am_qc (rv := none) hP hS hK hTW (fun x hx => by cases hx) h3) hS.2.2 d
theorem am_areturn {L : List (Option am_V)} {r : Option Nat} {C : String} (g : am_Gd E own cc nL (some (.object C)) k G) (d : decode cc pc = .ok (.areturn, 1)) : am_J E G nL am_er pc L [.inr r] h (some (r, h)) := by
  obtain ⟨p, l, e, s, m, args, below, meth, c, hx, hb, hml, hrt, hlk, hown, hK, hTW, hg, rfl⟩ := g
  intro h1 h2 h3 v h' e
  cases e
  have hrr := am_rv1 h2
  refine fun H locs ls hP hS hl => ?_
  refine W.aret (v := am_c E (.inr r)) hx hb hrt (Or.inl ⟨_, rfl⟩) ?_ (am_qc (rv := some (.inr r)) hP hS hK hTW (fun x hx => by cases hx; exact hrr.1) h3) hS.2.2 d
  cases r with
  | none => exact Or.inl rfl
  | some a => exact Or.inr ⟨_, rfl⟩
theorem am_clamp {i : Int} (hi : am_in i) : (Int32.ofInt i).toNatClampNeg = i.toNat := by
  show (Int32.ofInt i).toInt.toNat = i.toNat
  rw [am_ti hi]
theorem am_vin {i : Int} {n : Nat} (hi : am_in i) (h1 : 0 ≤ i) (h2 : i < (n : Int)) : vp_in (Int32.ofInt i) n := by
  rw [vp_in_iff, am_ti hi]
  exact ⟨h1, h2⟩
/-- a read of an array: which array class t, of which type -/
theorem am_ld {id kd off n ix t : Nat} {i nI : Int} {pc' : Nat} (hid : id < am_N E) (hs : am_sh E id = .inl (t, kd, off, n)) (hn : (n : Int) = nI) (hx : off + i.toNat = ix)
    (hst : ∀ r H locs ls, va_P (am_D E) vwCl (am_ws E h) H → (am_ws E h)[id]? = some (am_ad E id, .inl (am_a E t, n, .inl (fun j => if j < n then Int32.ofInt (h kd (off + j)) else 0))) → vp_in (Int32.ofInt i) n → G.2 r pc' ls (.int ((fun j => if j < n then Int32.ofInt (h kd (off + j)) else 0) (Int32.ofInt i).toNatClampNeg) :: S.map (am_c E)) H locs → G.2 r pc ls (.int (Int32.ofInt i) :: .ref (am_ad E id) :: S.map (am_c E)) H locs)
    (kk : am_J E G nL enc pc' L (.inl (h kd ix) :: S) h o) : am_J E G nL enc pc L (.inl i :: .inr (some id) :: S) h (if 0 ≤ i ∧ i < nI then o else none) := am_no fun hc => by
  subst hn hx
  refine am_st (fun _ h2 h3 => am_rvi (h3 _ _) (am_rv1 (am_rv1 h2).2).2) (fun h2 r H locs ls hP _ q => hst r H locs ls hP (by rw [am_ws_at E h hid, hs]; rfl) (am_vin (am_rv1 h2).1 hc.1 hc.2) ?_) kk
  rw [am_clamp (am_rv1 h2).1]
  have : i.toNat < n := by omega
  simp only [this, if_true]
  exact q
/-- a write to an array -/
theorem am_sto {id kd off n ix t : Nat} {i nI x : Int} {pc' : Nat} (g : am_g E) (hid : id < am_N E) (hs : am_sh E id = .inl (t, kd, off, n)) (hn : (n : Int) = nI) (hx : off + i.toNat = ix)
    (hst : ∀ r H locs ls, va_P (am_D E) vwCl (am_ws E h) H → va_S (am_A E) G.1 H locs → (am_ws E h)[id]? = some (am_ad E id, .inl (am_a E t, n, .inl (fun j => if j < n then Int32.ofInt (h kd (off + j)) else 0))) → vp_in (Int32.ofInt i) n →
      (∀ H1 locs1, va_P (am_D E) vwCl ((am_ws E h).set id (am_ad E id, .inl (am_a E t, n, .inl (upd (fun j => if j < n then Int32.ofInt (h kd (off + j)) else 0) (Int32.ofInt i).toNatClampNeg (Int32.ofInt x))))) H1 → va_S (am_A E) G.1 H1 locs1 → G.2 r pc' ls (S.map (am_c E)) H1 locs1) →
      G.2 r pc ls (.int (Int32.ofInt x) :: .int (Int32.ofInt i) :: .ref (am_ad E id) :: S.map (am_c E)) H locs)
    (kk : am_J E G nL enc pc' L S (am_up h kd ix x) o) : am_J E G nL enc pc L (.inl x :: .inl i :: .inr (some id) :: S) h (if 0 ≤ i ∧ i < nI then o else none) := am_no fun hc => by
  subst hn hx
  intro h1 h2 h3 v h' e
  have hxr : am_in x := (am_rv1 h2).1
  have hir : am_in i := (am_rv1 (am_rv1 h2).2).1
  have hSr := (am_rv1 (am_rv1 (am_rv1 h2).2).2).2
  have b := kk h1 hSr (h3.up kd _ hxr) v h' e
  refine fun H locs ls hP hS hl => hst _ H locs ls hP hS (by rw [am_ws_at E h hid, hs]; rfl) (am_vin hir hc.1 hc.2) (fun H1 locs1 hP1 hS1 => b H1 locs1 ls ?_ hS1 hl)
  have hin : i.toNat < n := by omega
  rw [am_ws_set E (h' := am_up h kd (off + i.toNat) x) hid ?_ ?_] at hP1
  · exact hP1
  · rw [hs, am_clamp hir]
    simp only [am_e]
    congr 4
    funext j
    by_cases hj : j = i.toNat
    · subst hj
      simp [upd, hin, am_up_s]
    · simp only [upd, hj, if_false]
      by_cases hjn : j < n
      · simp only [hjn, if_true]
        rw [am_up_i _ _ _ (by omega)]
      · simp only [hjn, if_false]
  · intro j hj hji
    exact am_e_up g.2.1 h (i := id) hid hj hji (q := (kd, off, n)) (by rw [hs]; simp [am_pl]) rfl (by simp) (by simp; omega)
theorem am_iaload (g : am_Gd E own cc nL ret k G) {id kd off n ix : Nat} {i nI : Int} (d : decode cc pc = .ok (.iaload, 1)) (hid : id < am_N E) (hs : am_sh E id = .inl (0, kd, off, n)) (hn : (n : Int) = nI) (hx : off + i.toNat = ix) (kk : am_J E G nL enc (pc + 1) L (.inl (h kd ix) :: S) h o) : am_J E G nL enc pc L (.inl i :: .inr (some id) :: S) h (if 0 ≤ i ∧ i < nI then o else none) := by
  obtain ⟨p, l, e, s, m, args, below, meth, c, hx', hb, hml, hrt, hlk, hown, hK, hTW, hg, rfl⟩ := g
  exact am_ld hid hs hn hx (fun r H locs ls hP ha hv q => va_iald hx' hb hK hP id 0 ha rfl hv d q) kk
theorem am_zaload (g : am_Gd E own cc nL ret k G) {id kd off n ix : Nat} {i nI : Int} (d : decode cc pc = .ok (.baload, 1)) (hid : id < am_N E) (hs : am_sh E id = .inl (1, kd, off, n)) (hn : (n : Int) = nI) (hx : off + i.toNat = ix) (kk : am_J E G nL enc (pc + 1) L (.inl (h kd ix) :: S) h o) : am_J E G nL enc pc L (.inl i :: .inr (some id) :: S) h (if 0 ≤ i ∧ i < nI then o else none) := by
  obtain ⟨p, l, e, s, m, args, below, meth, c, hx', hb, hml, hrt, hlk, hown, hK, hTW, hg, rfl⟩ := g
  exact am_ld hid hs hn hx (fun r H locs ls hP ha hv q => va_zald hx' hb hK hP id 1 ha rfl hv d q) kk
theorem am_baload (g : am_Gd E own cc nL ret k G) {id kd off n ix : Nat} {i nI : Int} (d : decode cc pc = .ok (.baload, 1)) (hid : id < am_N E) (hs : am_sh E id = .inl (2, kd, off, n)) (hn : (n : Int) = nI) (hx : off + i.toNat = ix) (kk : am_J E G nL enc (pc + 1) L (.inl (h kd ix) :: S) h o) : am_J E G nL enc pc L (.inl i :: .inr (some id) :: S) h (if 0 ≤ i ∧ i < nI then o else none) := by
  obtain ⟨p, l, e, s, m, args, below, meth, c, hx', hb, hml, hrt, hlk, hown, hK, hTW, hg, rfl⟩ := g
  exact am_ld hid hs hn hx (fun r H locs ls hP ha hv q => va_bald hx' hb hK hP id 2 ha rfl hv d q) kk
theorem am_iastore (g : am_Gd E own cc nL ret k G) {id kd off n ix : Nat} {i nI x : Int} (d : decode cc pc = .ok (.iastore, 1)) (hid : id < am_N E) (hs : am_sh E id = .inl (0, kd, off, n)) (hn : (n : Int) = nI) (hx : off + i.toNat = ix) (kk : am_J E G nL enc (pc + 1) L S (am_up h kd ix x) o) : am_J E G nL enc pc L (.inl x :: .inl i :: .inr (some id) :: S) h (if 0 ≤ i ∧ i < nI then o else none) := by
  obtain ⟨p, l, e, s, m, args, below, meth, c, hx', hb, hml, hrt, hlk, hown, hK, hTW, hg, rfl⟩ := g
  exact am_sto hg hid hs hn hx (fun r H locs ls hP hS ha hv q => va_iast hx' hb hK hP (hg.1.D h) hS id 0 ha rfl hv d (fun H1 l1 p1 _ s1 => q H1 l1 p1 s1)) kk
theorem am_zastore (g : am_Gd E own cc nL ret k G) {id kd off n ix : Nat} {i nI x : Int} (d : decode cc pc = .ok (.bastore, 1)) (hid : id < am_N E) (hs : am_sh E id = .inl (1, kd, off, n)) (hn : (n : Int) = nI) (hx : off + i.toNat = ix) (kk : am_J E G nL enc (pc + 1) L S (am_up h kd ix x) o) : am_J E G nL enc pc L (.inl x :: .inl i :: .inr (some id) :: S) h (if x = 0 ∨ x = 1 then (if 0 ≤ i ∧ i < nI then o else none) else none) := am_no fun hz => by
  obtain ⟨p, l, e, s, m, args, below, meth, c, hx', hb, hml, hrt, hlk, hown, hK, hTW, hg, rfl⟩ := g
  exact am_sto hg hid hs hn hx (fun r H locs ls hP hS ha hv q => va_zast hx' hb hK hP (hg.1.D h) hS id 1 ha rfl hv d (fun H1 l1 p1 _ s1 => q H1 l1 (by rw [(am_b01 hz).2.2] at p1; exact p1) s1)) kk
theorem am_bastore (g : am_Gd E own cc nL ret k G) {id kd off n ix : Nat} {i nI x : Int} (d : decode cc pc = .ok (.bastore, 1)) (hid : id < am_N E) (hs : am_sh E id = .inl (2, kd, off, n)) (hn : (n : Int) = nI) (hx : off + i.toNat = ix) (kk : am_J E G nL enc (pc + 1) L S (am_up h kd ix x) o) : am_J E G nL enc pc L (.inl x :: .inl i :: .inr (some id) :: S) h (if -128 ≤ x ∧ x < 128 then (if 0 ≤ i ∧ i < nI then o else none) else none) := am_no fun hz => by
  obtain ⟨p, l, e, s, m, args, below, meth, c, hx', hb, hml, hrt, hlk, hown, hK, hTW, hg, rfl⟩ := g
  have hnar : vp_nar .byte (Int32.ofInt x) = Int32.ofInt x := by
    rw [vp_nar_byte]
    apply Int32.toInt_inj.mp
    rw [Int8.toInt_toInt32, Int32.toInt_toInt8, am_ti (by unfold am_in; omega), Int.bmod_def]
    split <;> omega
  exact am_sto hg hid hs hn hx (fun r H locs ls hP hS ha hv q => va_bast hx' hb hK hP (hg.1.D h) hS id 2 ha rfl hv d (fun H1 l1 p1 _ s1 => q H1 l1 (by rw [hnar] at p1; exact p1) s1)) kk
/-- an element of an array of cells -/
theorem am_aaload (g : am_Gd E own cc nL ret k G) {id b n t : Nat} {C : String} {i nI : Int} (d : decode cc pc = .ok (.aaload, 1)) (hid : id < am_N E) (hs : am_sh E id = .inr (.inr (t, b, n))) (ht : (am_tys E)[t]? = some (am_a E t, .object C)) (hn : (n : Int) = nI) (hbn : b + n ≤ am_N E) (kk : (0 ≤ i ∧ i < nI) → am_J E G nL enc (pc + 1) L (.inr (some (b + i.toNat)) :: S) h o) : am_J E G nL enc pc L (.inl i :: .inr (some id) :: S) h (if 0 ≤ i ∧ i < nI then o else none) := am_no fun hc => by
  obtain ⟨p, l, e, s, m, args, below, meth, c, hx, hb, hml, hrt, hlk, hown, hK, hTW, hg, rfl⟩ := g
  subst hn
  refine am_st (fun _ h2 h3 => am_rvc (show am_rv E (.inr (some (b + i.toNat))) from (by show b + i.toNat < am_N E; omega)) (am_rv1 (am_rv1 h2).2).2) (fun h2 r H locs ls hP _ q => va_aldq hx hb hK hP id t (by rw [am_ws_at E h hid, hs]; rfl) ht (am_vin (am_rv1 h2).1 hc.1 hc.2) d ?_) (kk hc)
  rw [am_clamp (am_rv1 h2).1]
  have : i.toNat < n := by omega
  simp only [this, if_true]
  exact q
/-- a class whose objects the worlds hold -/
def am_Cl (ci : Nat) (C : String) (T : u_T) (N : Nat) (ty : Nat → FieldType) : Prop := vwCl[ci]? = some (C, T, N) ∧ (∀ w ∈ u_ws C T N, am_lk w) ∧ (∀ q, q < N → parseFieldDescriptor (T q).2.2.1 = some (ty q)) ∧ ∀ a, a < N → ∀ b, b < N → a ≠ b → (T a).2.1 ≠ (T b).2.1
theorem am_Cl.mk {ci N : Nat} {C : String} {T : u_T} {ty : Nat → FieldType} (h1 : vwCl[ci]? = some (C, T, N)) (h2 : ∀ w ∈ u_ws C T N, w ∈ lw_tbl) (h3 : (u_ws C T N).all am_ok = true) (h4 : ∀ q, q < N → parseFieldDescriptor (T q).2.2.1 = some (ty q)) (h5 : ∀ a, a < N → ∀ b, b < N → a ≠ b → (T a).2.1 ≠ (T b).2.1) : am_Cl ci C T N ty :=
  ⟨h1, fun w hw => ⟨h2 w hw, List.all_eq_true.mp h3 w hw⟩, h4, h5⟩
theorem am_getf (g : am_Gd E own cc nL ret k G) {id ci q N idx : Nat} {C : String} {T : u_T} {ty : Nat → FieldType} {fs : List ((Nat × Nat) ⊕ Nat)} {f : (Nat × Nat) ⊕ Nat} {v : am_V} (cl : am_Cl ci C T N ty) (d : decode cc pc = .ok (.getfield idx, 3)) (hid : id < am_N E) (hs : am_sh E id = .inr (.inl (ci, fs))) (hq : q < N) (hf : fs[q]? = some f) (hlw : am_lk (.fieldLink own idx (T q).1 (T q).2.1 (T q).2.2.1)) (hv : am_f E h f = am_c E v) (hr : am_Rg h → am_rv E v) (kk : am_J E G nL enc (pc + 3) L (v :: S) h o) : am_J E G nL enc pc L (.inr (some id) :: S) h o := by
  obtain ⟨p, l, e, s, m, args, below, meth, c, hx, hb, hml, hrt, hlk, hown, hK, hTW, hg, rfl⟩ := g
  refine am_st (fun _ h2 h3 => am_rvc (hr h3) (am_rv1 h2).2) (fun h2 r H locs ls hP _ qq => ?_) kk
  exact va_get (Ts := u_ws C T N) hx hb (fun w hw => hTW.use (cl.2.1 w hw) _) (fun _ z => z) hown hK hP id (fs := fs.map (am_f E h)) (by rw [am_ws_at E h hid, hs]; rfl) cl.1 q hq (hTW.use hlw _) (fun _ z => z) (by rw [List.getElem?_map, hf]; rfl) d (by rw [hv]; exact qq)
theorem am_geti (g : am_Gd E own cc nL ret k G) {id ci q N idx kd ix : Nat} {C : String} {T : u_T} {ty : Nat → FieldType} {fs : List ((Nat × Nat) ⊕ Nat)} (cl : am_Cl ci C T N ty) (d : decode cc pc = .ok (.getfield idx, 3)) (hid : id < am_N E) (hs : am_sh E id = .inr (.inl (ci, fs))) (hq : q < N) (hf : fs[q]? = some (.inl (kd, ix))) (hlw : am_lk (.fieldLink own idx (T q).1 (T q).2.1 (T q).2.2.1)) (kk : am_J E G nL enc (pc + 3) L (.inl (h kd ix) :: S) h o) : am_J E G nL enc pc L (.inr (some id) :: S) h o :=
  am_getf (v := .inl (h kd ix)) g cl d hid hs hq hf hlw rfl (fun z => z _ _) kk
theorem am_getr (g : am_Gd E own cc nL ret k G) {id ci q N idx a : Nat} {C : String} {T : u_T} {ty : Nat → FieldType} {fs : List ((Nat × Nat) ⊕ Nat)} (cl : am_Cl ci C T N ty) (d : decode cc pc = .ok (.getfield idx, 3)) (hid : id < am_N E) (hs : am_sh E id = .inr (.inl (ci, fs))) (hq : q < N) (hf : fs[q]? = some (.inr a)) (ha : a < am_N E) (hlw : am_lk (.fieldLink own idx (T q).1 (T q).2.1 (T q).2.2.1)) (kk : am_J E G nL enc (pc + 3) L (.inr (some a) :: S) h o) : am_J E G nL enc pc L (.inr (some id) :: S) h o :=
  am_getf (v := .inr (some a)) g cl d hid hs hq hf hlw rfl (fun _ => ha) kk
theorem am_own_ne (hg : am_g E) {id ci a b : Nat} {fs : List ((Nat × Nat) ⊕ Nat)} {x y : Nat × Nat} (hid : id < am_N E) (hs : am_sh E id = .inr (.inl (ci, fs))) (ha : fs[a]? = some (.inl x)) (hb : fs[b]? = some (.inl y)) (hab : a ≠ b) : x ≠ y := by
  have h1 := List.all_eq_true.mp hg.2.2 id (List.mem_range.mpr hid)
  rw [hs] at h1
  have h2 := List.all_eq_true.mp h1 a (List.mem_range.mpr (List.getElem?_eq_some_iff.mp ha).1)
  have h3 := List.all_eq_true.mp h2 b (List.mem_range.mpr (List.getElem?_eq_some_iff.mp hb).1)
  rw [ha, hb] at h3
  simpa [hab] using h3
theorem am_put (g : am_Gd E own cc nL ret k G) {id ci q N idx kd ix : Nat} {x : Int} {C : String} {T : u_T} {ty : Nat → FieldType} {fs : List ((Nat × Nat) ⊕ Nat)} (cl : am_Cl ci C T N ty) (d : decode cc pc = .ok (.putfield idx, 3)) (hid : id < am_N E) (hs : am_sh E id = .inr (.inl (ci, fs))) (hq : q < N) (hf : fs[q]? = some (.inl (kd, ix))) (hlw : am_lk (.fieldLink own idx (T q).1 (T q).2.1 (T q).2.2.1)) (hfin : (T q).2.2.2 = false) (hna : narrow (ty q) (.int (Int32.ofInt x)) = .int (Int32.ofInt x)) (hfi : fits (ty q) (.int (Int32.ofInt x)) = true) (kk : am_J E G nL enc (pc + 3) L S (am_up h kd ix x) o) : am_J E G nL enc pc L (.inl x :: .inr (some id) :: S) h o := by
  obtain ⟨p, l, e, s, m, args, below, meth, c, hx, hb, hml, hrt, hlk, hown, hK, hTW, hg, rfl⟩ := g
  intro h1 h2 h3 v h' e
  have hxr : am_in x := (am_rv1 h2).1
  have b := kk h1 (am_rv1 (am_rv1 h2).2).2 (h3.up kd _ hxr) v h' e
  have hl := (List.getElem?_eq_some_iff.mp hf).1
  refine fun H locs ls hP hS hll => va_put (Ts := u_ws C T N) (ty := ty q) hx hb (fun w hw => hTW.use (cl.2.1 w hw) _) (fun _ z => z) ty cl.2.2.1 cl.2.2.2 hown hK hP (hg.1.D h) hS id (fs := fs.map (am_f E h)) (by rw [am_ws_at E h hid, hs]; rfl) cl.1 q hq (hTW.use hlw _) (fun _ z => z) hfin (cl.2.2.1 q hq) hna hfi (by rw [List.length_map]; exact hl) d (fun H1 l1 p1 _ s1 => b H1 l1 ls ?_ s1 hll)
  rw [am_ws_set E (h' := am_up h kd ix x) hid ?_ ?_] at p1
  · exact p1
  · rw [hs]
    simp only [am_e]
    congr 2
    apply List.ext_getElem?
    intro j
    by_cases hj : j = q
    · subst hj
      rw [List.getElem?_set_self (by rw [List.length_map]; exact hl), List.getElem?_map, hf]
      simp [am_f, am_up_s, am_c]
    · rw [List.getElem?_set_ne (Ne.symm hj), List.getElem?_map, List.getElem?_map]
      cases hfj : fs[j]? with
      | none => rfl
      | some f =>
        simp only [Option.map_some]
        rcases f with ⟨y1, y2⟩ | z
        · have hne := am_own_ne hg hid hs hf hfj (Ne.symm hj)
          simp only [am_f]
          by_cases hk1 : y1 = kd
          · subst hk1
            rw [am_up_i]
            intro h9
            subst h9
            exact hne rfl
          · rw [am_up_k _ _ _ _ hk1]
        · rfl
  · intro j hj hji
    exact am_e_up hg.2.1 h (i := id) hid hj hji (q := (kd, ix, 1)) (by rw [hs]; simp only [am_pl, List.mem_filterMap]; exact ⟨.inl (kd, ix), List.mem_of_getElem? hf, rfl⟩) rfl (by simp) (by simp)
theorem am_puti (g : am_Gd E own cc nL ret k G) {id ci q N idx kd ix : Nat} {x : Int} {C : String} {T : u_T} {ty : Nat → FieldType} {fs : List ((Nat × Nat) ⊕ Nat)} (cl : am_Cl ci C T N ty) (d : decode cc pc = .ok (.putfield idx, 3)) (hid : id < am_N E) (hs : am_sh E id = .inr (.inl (ci, fs))) (hq : q < N) (hf : fs[q]? = some (.inl (kd, ix))) (hlw : am_lk (.fieldLink own idx (T q).1 (T q).2.1 (T q).2.2.1)) (hfin : (T q).2.2.2 = false) (hty : ty q = .int) (kk : am_J E G nL enc (pc + 3) L S (am_up h kd ix x) o) : am_J E G nL enc pc L (.inl x :: .inr (some id) :: S) h o :=
  am_put g cl d hid hs hq hf hlw hfin (by rw [hty]; rfl) (by rw [hty]; rfl) kk
theorem am_putz (g : am_Gd E own cc nL ret k G) {id ci q N idx kd ix : Nat} {x : Int} {C : String} {T : u_T} {ty : Nat → FieldType} {fs : List ((Nat × Nat) ⊕ Nat)} (cl : am_Cl ci C T N ty) (d : decode cc pc = .ok (.putfield idx, 3)) (hid : id < am_N E) (hs : am_sh E id = .inr (.inl (ci, fs))) (hq : q < N) (hf : fs[q]? = some (.inl (kd, ix))) (hlw : am_lk (.fieldLink own idx (T q).1 (T q).2.1 (T q).2.2.1)) (hfin : (T q).2.2.2 = false) (hty : ty q = .boolean) (kk : am_J E G nL enc (pc + 3) L S (am_up h kd ix x) o) : am_J E G nL enc pc L (.inl x :: .inr (some id) :: S) h (if x = 0 ∨ x = 1 then o else none) := am_no fun hz =>
  am_put g cl d hid hs hq hf hlw hfin (by rw [hty]; exact (am_b01 hz).1) (by rw [hty]; exact (am_b01 hz).2.1) kk
end
