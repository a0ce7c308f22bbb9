/-! ===== constructors: rows over a growing world, the object itself the first cell ===== -/
def kc_ty (a : Nat → ClassId) : List (ClassId × FieldType) := [(a 0, .int), (a 1, .boolean), (a 2, .byte), (a 3, .object "CourtDraws$Draw"), (a 4, .object "CourtDraws$Court")]
def zr (n : Nat) : Nat → Int32 := fun j => if j < n then Int32.ofInt 0 else 0
theorem zr_0 (n : Nat) : zr n = fun _ => 0 := by
  funext j
  unfold zr
  split <;> rfl
def kc_TW (U : State) : Prop := am_TW U ∧ va_AO "CourtDraws$Draw" U ∧ va_AO "CourtDraws$Court" U
theorem kc_TW.use {U : State} (h : kc_TW U) {w : Cond} (hw : am_lk w) (args : Array Value) : w.before args U = true := am_TW.use h.1 hw args
theorem kc_TW.same {u U : State} (e : u.vm = U.vm) (h : kc_TW u) : kc_TW U := ⟨am_TW.same e h.1, va_AO.moved (e ▸ Vm.Alike.refl u.vm) h.2.1, va_AO.moved (e ▸ Vm.Alike.refl u.vm) h.2.2⟩
theorem kc_TW.warm {s U : State} (hW : s.WarmedH U.vm) (h : kc_TW s) : kc_TW U := ⟨am_TW.warm hW h.1, va_AO.moved hW.alike h.2.1, va_AO.moved hW.alike h.2.2⟩
theorem kc_ac {U : State} {c : ClassId} {ty : FieldType} (h : ArrOfT U c ty ∧ va_RA U c ty) (hf : U.vm.findClass ("[" ++ ty.toString) = some c) (args : Array Value) : (Cond.arrayClass ty).before args U = true := by
  obtain ⟨_, k, hk, comp, hkind⟩ := h.1 0 (fun _ => .null)
  have hk' : U.vm.classes[c]? = some k := hk
  simp [Cond.before, Cond.holds, Cond.value, hf, hk', hkind]
abbrev kc_G : Type := Heap × (Nat → Nat → Nat → Array Slot → List Value → Heap → List Loc → Prop)
def kc_Gd (D : va_G) (a : Nat → ClassId) (own : String) (cc : ByteArray) (nL : Nat) (R : Room) (l : Launch) (A : Nat → Prop) (ini : Bool) (G : kc_G) : Prop :=
  ∃ (p : Program) (e : Env) (s : State) (m : MethodId) (args : Array Value) (below : List Frame) (meth : Method) (c : Code) (Q : State → Prop),
    p.tables.exec = Jvm.exec ∧ c.code = cc ∧ c.maxLocals = nL ∧ (ini = true → meth.name = "<init>") ∧ s.vm.findClass own = some m.cls ∧ va_K D vwCl (kc_ty a) s ∧ kc_TW s ∧ (∀ q, s.heap.size ≤ q → A q) ∧
    G = (s.heap, fun cells slots pc ls st H locs => W p l e R s m args below meth c H locs cells slots Q (F0 m pc ls st))
def kc_J (D : va_G) (G : kc_G) (nL : Nat) (A : Nat → Prop) (cells slots pc : Nat) (lv : List (Nat × Value)) (st : List Value) (ws : va_W) : Prop :=
  ∀ (H : Heap) (locs : List Loc) (ls : Array Slot), lv_has ls nL lv → va_P D vwCl ws H → va_D A ws → va_S A G.1 H locs → G.2 cells slots pc ls st H locs
theorem va_RA_u {U : State} {c1 c2 : ClassId} {ty : FieldType} (h1 : va_RA U c1 ty) (h2 : va_RA U c2 ty) : c1 = c2 := by
  cases ty with
  | object C =>
    obtain ⟨_, _, _, _, _, x⟩ := h1
    obtain ⟨_, _, _, _, _, y⟩ := h2
    exact Option.some.inj (x.symm.trans y)
  | _ => exact Option.some.inj ((show U.vm.findClass _ = some c1 from h1).symm.trans (show U.vm.findClass _ = some c2 from h2))
section
variable {D : va_G} {a : Nat → ClassId} {own : String} {cc : ByteArray} {nL : Nat} {R : Room} {l : Launch} {A : Nat → Prop} {ini : Bool} {G : kc_G} {cells slots pc : Nat} {lv : List (Nat × Value)} {st : List Value} {ws ar : va_W} {c0 : Nat × va_E}
theorem kc_al (g : kc_Gd D a own cc nL R l A ini G) {k : Fin 4} {x : Nat} (i : Nat) (d : decode cc pc = .ok (.aload_n k, 1)) (hi : lv[i]? = some ((k : Nat), .ref x)) (kk : kc_J D G nL A cells slots (pc + 1) lv (.ref x :: st) ws) : kc_J D G nL A cells slots pc lv st ws := by
  obtain ⟨p, e, s, m, args, below, meth, c, Q, hx, hb, hml, hin, hown, hK, hTW, hA, rfl⟩ := g
  exact fun H locs ls hl hP hD hS => lv_aload_n hx hb d rfl (lv_at hl i hi) (kk H locs ls hl hP hD hS)
theorem kc_il (g : kc_Gd D a own cc nL R l A ini G) {k : Fin 4} {x : Int32} (i : Nat) (d : decode cc pc = .ok (.iload_n k, 1)) (hi : lv[i]? = some ((k : Nat), .int x)) (kk : kc_J D G nL A cells slots (pc + 1) lv (.int x :: st) ws) : kc_J D G nL A cells slots pc lv st ws := by
  obtain ⟨p, e, s, m, args, below, meth, c, Q, hx, hb, hml, hin, hown, hK, hTW, hA, rfl⟩ := g
  exact fun H locs ls hl hP hD hS => lv_iload_n hx hb d rfl (lv_at hl i hi) (kk H locs ls hl hP hD hS)
theorem kc_ic (g : kc_Gd D a own cc nL R l A ini G) {n : Int} {v : Int32} (d : decode cc pc = .ok (.iconst n, 1)) (hv : Int32.ofInt n = v) (kk : kc_J D G nL A cells slots (pc + 1) lv (.int v :: st) ws) : kc_J D G nL A cells slots pc lv st ws := by
  obtain ⟨p, e, s, m, args, below, meth, c, Q, hx, hb, hml, hin, hown, hK, hTW, hA, rfl⟩ := g
  exact fun H locs ls hl hP hD hS => lv_iconst hx hb d hv (kk H locs ls hl hP hD hS)
theorem kc_bi (g : kc_Gd D a own cc nL R l A ini G) {n : Int} {v : Int32} (d : decode cc pc = .ok (.bipush n, 2)) (hv : (Int8.ofInt n).toInt32 = v) (kk : kc_J D G nL A cells slots (pc + 2) lv (.int v :: st) ws) : kc_J D G nL A cells slots pc lv st ws := by
  obtain ⟨p, e, s, m, args, below, meth, c, Q, hx, hb, hml, hin, hown, hK, hTW, hA, rfl⟩ := g
  exact fun H locs ls hl hP hD hS => lv_bipush hx hb d hv (kk H locs ls hl hP hD hS)
theorem kc_si (g : kc_Gd D a own cc nL R l A ini G) {n : Int} {v : Int32} (d : decode cc pc = .ok (.sipush n, 3)) (hv : (Int16.ofInt n).toInt32 = v) (kk : kc_J D G nL A cells slots (pc + 3) lv (.int v :: st) ws) : kc_J D G nL A cells slots pc lv st ws := by
  obtain ⟨p, e, s, m, args, below, meth, c, Q, hx, hb, hml, hin, hown, hK, hTW, hA, rfl⟩ := g
  exact fun H locs ls hl hP hD hS => lv_sipush hx hb d hv (kk H locs ls hl hP hD hS)
theorem kc_du (g : kc_Gd D a own cc nL R l A ini G) {x : Nat} (d : decode cc pc = .ok (.dup, 1)) (kk : kc_J D G nL A cells slots (pc + 1) lv (.ref x :: .ref x :: st) ws) : kc_J D G nL A cells slots pc lv (.ref x :: st) ws := by
  obtain ⟨p, e, s, m, args, below, meth, c, Q, hx, hb, hml, hin, hown, hK, hTW, hA, rfl⟩ := g
  exact fun H locs ls hl hP hD hS => lv_dup hx hb d rfl (kk H locs ls hl hP hD hS)
theorem kc_is (g : kc_Gd D a own cc nL R l A ini G) {k : Fin 4} {i : Nat} {x : Int32} (lv' : List (Nat × Value)) (d : decode cc pc = .ok (.istore_n k, 1)) (hi : (k : Nat) = i) (hn : i < nL) (hl' : (i, Value.int x) :: lv.filter (fun q => !(q.1 == i) && !(q.1 + 1 == i && q.2.category == 2)) = lv') (kk : kc_J D G nL A cells slots (pc + 1) lv' st ws) : kc_J D G nL A cells slots pc lv (.int x :: st) ws := by
  obtain ⟨p, e, s, m, args, below, meth, c, Q, hx, hb, hml, hin, hown, hK, hTW, hA, rfl⟩ := g
  exact fun H locs ls hl hP hD hS => lv_istore_n hx hb d hi hl hn hl' (fun ls hl => kk H locs ls hl hP hD hS)
theorem kc_as (g : kc_Gd D a own cc nL R l A ini G) {k : Fin 4} {i : Nat} {x : Nat} (lv' : List (Nat × Value)) (d : decode cc pc = .ok (.astore_n k, 1)) (hi : (k : Nat) = i) (hn : i < nL) (hl' : (i, Value.ref x) :: lv.filter (fun q => !(q.1 == i) && !(q.1 + 1 == i && q.2.category == 2)) = lv') (kk : kc_J D G nL A cells slots (pc + 1) lv' st ws) : kc_J D G nL A cells slots pc lv (.ref x :: st) ws := by
  obtain ⟨p, e, s, m, args, below, meth, c, Q, hx, hb, hml, hin, hown, hK, hTW, hA, rfl⟩ := g
  exact fun H locs ls hl hP hD hS => lv_astore_n hx hb d hi hl hn hl' (fun ls hl => kk H locs ls hl hP hD hS)
theorem kc_ii (g : kc_Gd D a own cc nL R l A ini G) {i k : Nat} {n : Int} {x : Int32} (v : Int32) (lv' : List (Nat × Value)) (d : decode cc pc = .ok (.iinc i n, 3)) (hk : lv[k]? = some (i, .int x)) (hv : x + Int32.ofInt n = v) (hn : i < nL) (hl' : (i, Value.int v) :: lv.filter (fun q => !(q.1 == i) && !(q.1 + 1 == i && q.2.category == 2)) = lv') (kk : kc_J D G nL A cells slots (pc + 3) lv' st ws) : kc_J D G nL A cells slots pc lv st ws := by
  obtain ⟨p, e, s, m, args, below, meth, c, Q, hx, hb, hml, hin, hown, hK, hTW, hA, rfl⟩ := g
  exact fun H locs ls hl hP hD hS => lv_iinc hx hb d hl hk hv hn hl' (fun ls hl => kk H locs ls hl hP hD hS)
theorem kc_ge (g : kc_Gd D a own cc nL R l A ini G) {x y : Int32} {off : Int} (tgt : Nat) (d : decode cc pc = .ok (.if_icmp .ge off, 3)) (ht : (pc : Int) + off = (tgt : Int)) (hc : y ≤ x) (kk : kc_J D G nL A cells slots tgt lv st ws) : kc_J D G nL A cells slots pc lv (.int y :: .int x :: st) ws := by
  obtain ⟨p, e, s, m, args, below, meth, c, Q, hx, hb, hml, hin, hown, hK, hTW, hA, rfl⟩ := g
  exact fun H locs ls hl hP hD hS => lv_icmp_ge hx hb d ht (fun _ => kk H locs ls hl hP hD hS) (fun n => absurd hc n)
theorem kc_lt (g : kc_Gd D a own cc nL R l A ini G) {x y : Int32} {off : Int} (tgt : Nat) (d : decode cc pc = .ok (.if_icmp .ge off, 3)) (ht : (pc : Int) + off = (tgt : Int)) (hc : ¬ y ≤ x) (kk : kc_J D G nL A cells slots (pc + 3) lv st ws) : kc_J D G nL A cells slots pc lv (.int y :: .int x :: st) ws := by
  obtain ⟨p, e, s, m, args, below, meth, c, Q, hx, hb, hml, hin, hown, hK, hTW, hA, rfl⟩ := g
  exact fun H locs ls hl hP hD hS => lv_icmp_ge hx hb d ht (fun n => absurd n hc) (fun _ => kk H locs ls hl hP hD hS)
theorem kc_go (g : kc_Gd D a own cc nL R l A ini G) {off : Int} (tgt : Nat) (d : decode cc pc = .ok (.goto off, 3)) (ht : (pc : Int) + off = (tgt : Int)) (kk : kc_J D G nL A cells slots tgt lv st ws) : kc_J D G nL A cells slots pc lv st ws := by
  obtain ⟨p, e, s, m, args, below, meth, c, Q, hx, hb, hml, hin, hown, hK, hTW, hA, rfl⟩ := g
  exact fun H locs ls hl hP hD hS => lv_goto hx hb d ht (kk H locs ls hl hP hD hS)
/-- Object's own constructor -/
theorem kc_oi (g : kc_Gd D a own cc nL R l A ini G) {idx x : Nat} (d : decode cc pc = .ok (.invokespecial idx, 3)) (h1 : am_lk (.methodLink own idx Lib.objectInit)) (h2 : am_lk (.instanceMethod Lib.objectInit)) (h3 : am_lk (.code Lib.objectInit ⟨#[0xb1]⟩ 1 none)) (hf : 1 ≤ R.frames) (hr : (st.map fun v => v.category).sum + 12 ≤ R.locals) (kk : kc_J D G nL A cells slots (pc + 3) lv st ws) : kc_J D G nL A cells slots pc lv (.ref x :: st) ws := by
  obtain ⟨p, e, s, m, args, below, meth, c, Q, hx, hb, hml, hin, hown, hK, hTW, hA, rfl⟩ := g
  intro H locs ls hl hP hD hS
  refine W.objInit hx hb hown (hTW.use h1 _) (hTW.use h2 _) (hTW.use h3 _) rfl (by rw [hml]; exact hl.1) rfl d hf ?_ (kk H locs ls hl hP hD hS)
  show 2 * 0 + _ + 12 ≤ _
  omega
/-- a new array of numbers -/
theorem kc_na (g : kc_Gd D a own cc nL R l A ini G) {atype : ArrayType} (t N : Nat) {n : Int32} {ty : FieldType} (d : decode cc pc = .ok (.newarray atype, 2)) (hty : newarray.typeOf atype = ty) (hra : ∀ (U : State) (c : ClassId), va_RA U c ty → U.vm.findClass ("[" ++ ty.toString) = some c) (ht : (kc_ty a)[t]? = some (a t, ty)) (hdv : defaultValue ty = .int 0) (hn : ¬ n < 0) (hN : n.toNatClampNeg = N) (hby : N * componentBytes ty ≤ 536870912) (hc : cells + 1 ≤ R.cells) (hs : slots + N ≤ R.slots)
    (kk : ∀ q, kc_J D G nL A (cells + 1) (slots + N) (pc + 2) lv (.ref q :: st) (c0 :: (ar ++ [(q, .inl (a t, N, .inl (zr N)))]))) : kc_J D G nL A cells slots pc lv (.int n :: st) (c0 :: ar) := by
  obtain ⟨p, e, s, m, args, below, meth, c, Q, hx, hb, hml, hin, hown, hK, hTW, hA, rfl⟩ := g
  intro H locs ls hl hP hD hS
  refine va_newa (a0 := (N, .inl (zr N))) hx hb (by rw [hty]; exact kc_ac (hK.2 t _ ht) (hra _ _ (hK.2 t _ ht).2) _) hty hK hP hD hS hA (fun cA => ?_) hn hN hby hc hs d (fun q cA H1 hK1 hP1 hD1 hS1 => ?_)
  · rw [vp_cell_i, zr_0, hdv]
  · have e1 : cA = a t := va_RA_u (hK1.2 5 _ rfl).2 (hK.2 t _ ht).2
    subst e1
    exact kk q H1 locs ls hl hP1 hD1 hS1
/-- a new array of references -/
theorem kc_nq (g : kc_Gd D a own cc nL R l A ini G) {idx : Nat} (t N : Nat) {C : String} {n : Int32} (d : decode cc pc = .ok (.anewarray idx, 3)) (h1 : am_lk (.classLink own idx C)) (h2 : ∀ U, kc_TW U → va_AO C U) (ht : (kc_ty a)[t]? = some (a t, .object C)) (hn : ¬ n < 0) (hN : n.toNatClampNeg = N) (hby : N * 4 ≤ 536870912) (hc : cells + 1 ≤ R.cells) (hs : slots + N ≤ R.slots)
    (kk : ∀ q, kc_J D G nL A (cells + 1) (slots + N) (pc + 3) lv (.ref q :: st) (c0 :: (ar ++ [(q, .inl (a t, N, .inr (.inr (.inr (.inr (fun _ => none))))))]))) : kc_J D G nL A cells slots pc lv (.int n :: st) (c0 :: ar) := by
  obtain ⟨p, e, s, m, args, below, meth, c, Q, hx, hb, hml, hin, hown, hK, hTW, hA, rfl⟩ := g
  intro H locs ls hl hP hD hS
  refine va_newq hx hb hown (hTW.use h1 _) (h2 _ hTW) hK hP hD hS hA hn hN hby hc hs d (fun q cA H1 hK1 hP1 hD1 hS1 => ?_)
  have e1 : cA = a t := va_RA_u (hK1.2 5 _ rfl).2 (hK.2 t _ ht).2
  subst e1
  exact kk q H1 locs ls hl hP1 hD1 hS1
/-- a new object -/
theorem kc_nw (g : kc_Gd D a own cc nL R l A ini G) {idx ci N : Nat} {C : String} {T : u_T} {ty : Nat → FieldType} (fs : List Value) (cl : am_Cl ci C T N ty) (d : decode cc pc = .ok (.new idx, 3)) (h1 : am_lk (.classLink own idx C)) (h2 : am_lk (.instantiable C N)) (h3 : am_lk (.initialized C)) (hfs : ∀ j, j < N → defaultValue (ty j) = vp_V fs j) (hc : cells + 1 ≤ R.cells) (hs : slots + N ≤ R.slots)
    (kk : ∀ q, kc_J D G nL A (cells + 1) (slots + N) (pc + 3) lv (.ref q :: st) (ws ++ [(q, .inr (ci, fs))])) : kc_J D G nL A cells slots pc lv st ws := by
  obtain ⟨p, e, s, m, args, below, meth, c, Q, hx, hb, hml, hin, hown, hK, hTW, hA, rfl⟩ := g
  intro H locs ls hl hP hD hS
  exact va_new (Ts := u_ws C T N) (fs := fs) hx hb (fun w hw => hTW.use (cl.2.1 w hw) _) (fun _ z => z) ty cl.2.2.1 hown (hTW.use h1 _) (hTW.use h2 _) (hTW.use h3 _) hK hP hD hS hA cl.1 hfs hc hs d (fun q H1 hP1 hD1 hS1 => kk q H1 locs ls hl hP1 hD1 hS1)
/-- a final field of the object itself -/
theorem kc_pf (g : kc_Gd D a own cc nL R l A true G) {idx ci N h0 : Nat} {C : String} {T : u_T} {ty : Nat → FieldType} {fs : List Value} {v : Value} (k : Nat) (cl : am_Cl ci C T N ty) (d : decode cc pc = .ok (.putfield idx, 3)) (hk : k < N) (hlw : am_lk (.fieldLink own idx (T k).1 (T k).2.1 (T k).2.2.1)) (hfin : (T k).2.2.2 = true) (hdecl : (T k).1 = own) (hn : narrow (ty k) v = v) (hfit : fits (ty k) v = true) (hl : k < fs.length)
    (kk : kc_J D G nL A cells slots (pc + 3) lv st ((h0, .inr (ci, fs.set k v)) :: ar)) : kc_J D G nL A cells slots pc lv (v :: .ref h0 :: st) ((h0, .inr (ci, fs)) :: ar) := by
  obtain ⟨p, e, s, m, args, below, meth, c, Q, hx, hb, hml, hin, hown, hK, hTW, hA, rfl⟩ := g
  intro H locs ls hll hP hD hS
  exact va_putF (Ts := u_ws C T N) hx hb (fun w hw => hTW.use (cl.2.1 w hw) _) (fun _ z => z) ty cl.2.2.1 cl.2.2.2 hown hK hP hD hS 0 (fs := fs) rfl cl.1 k hk (hTW.use hlw _) (fun _ z => z) hfin (hin rfl) hdecl (cl.2.2.1 k hk) hn hfit hl d (fun H1 l1 p1 d1 s1 => kk H1 l1 ls hll p1 d1 s1)
theorem kc_pi (g : kc_Gd D a own cc nL R l A ini G) {idx ci N h0 : Nat} {C : String} {T : u_T} {ty : Nat → FieldType} {fs : List Value} {v : Value} (k : Nat) (cl : am_Cl ci C T N ty) (d : decode cc pc = .ok (.putfield idx, 3)) (hk : k < N) (hlw : am_lk (.fieldLink own idx (T k).1 (T k).2.1 (T k).2.2.1)) (hfin : (T k).2.2.2 = false) (hn : narrow (ty k) v = v) (hfit : fits (ty k) v = true) (hl : k < fs.length)
    (kk : kc_J D G nL A cells slots (pc + 3) lv st ((h0, .inr (ci, fs.set k v)) :: ar)) : kc_J D G nL A cells slots pc lv (v :: .ref h0 :: st) ((h0, .inr (ci, fs)) :: ar) := by
  obtain ⟨p, e, s, m, args, below, meth, c, Q, hx, hb, hml, hin, hown, hK, hTW, hA, rfl⟩ := g
  intro H locs ls hll hP hD hS
  exact va_put (Ts := u_ws C T N) hx hb (fun w hw => hTW.use (cl.2.1 w hw) _) (fun _ z => z) ty cl.2.2.1 cl.2.2.2 hown hK hP hD hS 0 (fs := fs) rfl cl.1 k hk (hTW.use hlw _) (fun _ z => z) hfin (cl.2.2.1 k hk) hn hfit hl d (fun H1 l1 p1 d1 s1 => kk H1 l1 ls hll p1 d1 s1)
theorem kc_gf (g : kc_Gd D a own cc nL R l A ini G) {idx ci N h0 : Nat} {C : String} {T : u_T} {ty : Nat → FieldType} {fs : List Value} {v : Value} (k : Nat) (cl : am_Cl ci C T N ty) (d : decode cc pc = .ok (.getfield idx, 3)) (hk : k < N) (hlw : am_lk (.fieldLink own idx (T k).1 (T k).2.1 (T k).2.2.1)) (hv : fs[k]? = some v)
    (kk : kc_J D G nL A cells slots (pc + 3) lv (v :: st) ((h0, .inr (ci, fs)) :: ar)) : kc_J D G nL A cells slots pc lv (.ref h0 :: st) ((h0, .inr (ci, fs)) :: ar) := by
  obtain ⟨p, e, s, m, args, below, meth, c, Q, hx, hb, hml, hin, hown, hK, hTW, hA, rfl⟩ := g
  intro H locs ls hll hP hD hS
  exact va_get (Ts := u_ws C T N) hx hb (fun w hw => hTW.use (cl.2.1 w hw) _) (fun _ z => z) hown hK hP 0 (fs := fs) rfl cl.1 k hk (hTW.use hlw _) (fun _ z => z) hv d (kk H locs ls hll hP hD hS)
/-- a number into an array of ints -/
theorem kc_ia (g : kc_Gd D a own cc nL R l A ini G) {x n : Nat} {f : Nat → Int32} {i v : Int32} (q0 : Nat) (ha : ws[q0]? = some (x, .inl (a 0, n, .inl f))) (hin : vp_in i n) (d : decode cc pc = .ok (.iastore, 1))
    (kk : kc_J D G nL A cells slots (pc + 1) lv st (ws.set q0 (x, .inl (a 0, n, .inl (va_up f i.toNatClampNeg v))))) : kc_J D G nL A cells slots pc lv (.int v :: .int i :: .ref x :: st) ws := by
  obtain ⟨p, e, s, m, args, below, meth, c, Q, hx, hb, hml, hin0, hown, hK, hTW, hA, rfl⟩ := g
  intro H locs ls hll hP hD hS
  exact va_iast hx hb hK hP hD hS q0 0 ha rfl hin d (fun H1 l1 p1 d1 s1 => kk H1 l1 ls hll p1 d1 s1)
/-- an object into an array of its class -/
theorem kc_aa (g : kc_Gd D a own cc nL R l A ini G) {x v n ci N : Nat} {C : String} {T : u_T} {ty : Nat → FieldType} {f : Nat → Option Nat} {vs : List Value} {i : Int32} (q0 qk t : Nat) (cl : am_Cl ci C T N ty) (ha : ws[q0]? = some (x, .inl (a t, n, .inr (.inr (.inr (.inr f)))))) (ht : (kc_ty a)[t]? = some (a t, .object C)) (hv : ws[qk]? = some (v, .inr (ci, vs))) (hin : vp_in i n) (d : decode cc pc = .ok (.aastore, 1))
    (kk : kc_J D G nL A cells slots (pc + 1) lv st (ws.set q0 (x, .inl (a t, n, .inr (.inr (.inr (.inr (va_up f i.toNatClampNeg (some v))))))))) : kc_J D G nL A cells slots pc lv (.ref v :: .int i :: .ref x :: st) ws := by
  obtain ⟨p, e, s, m, args, below, meth, c, Q, hx, hb, hml, hin0, hown, hK, hTW, hA, rfl⟩ := g
  intro H locs ls hll hP hD hS
  exact va_astq hx hb hK hP hD hS q0 t qk ci ha ht hv cl.1 hin d (fun H1 l1 p1 d1 s1 => kk H1 l1 ls hll p1 d1 s1)
end
/-- A CONSTRUCTOR'S CONTRACT: of the bare object it makes the cells w -/
def kc_M (D : va_G) (a : Nat → ClassId) (y : MethodName) (cc : ByteArray) (nL k mc ms ci : Nat) (fs : List Value) (z : Nat) (w : (Nat → Nat) → va_W) : Prop :=
  ∀ (l : Launch) (h0 sz : Nat), Met l y [Cond.code y cc nL none] { frames := k, cells := mc, slots := ms, locals := 60 * k } (va_Pc [.ref h0] (fun U => U.heap.size = sz ∧ va_P D vwCl [(h0, .inr (ci, fs))] U.heap ∧ va_K D vwCl (kc_ty a) U ∧ kc_TW U)) (va_Qv (fun u : Nat → Nat => u z = h0) (fun u t => va_P D vwCl (w u) t.heap ∧ va_D (va_A [(h0, .inr (ci, fs))] sz) (w u)) (va_A [(h0, .inr (ci, fs))] sz)) mc ms (va_A [(h0, .inr (ci, fs))] sz)
theorem kc_ofJ {D : va_G} {a : Nat → ClassId} {y : MethodName} {cc : ByteArray} {nL k mc ms ci z : Nat} {fs : List Value} {w : (Nat → Nat) → va_W} (hy : plainName y.cls = true) (hnm : y.name = "<init>") (hn0 : 1 ≤ nL)
    (hj : ∀ (l : Launch) (h0 : Nat) (A : Nat → Prop) (G : kc_G), kc_Gd D a y.cls cc nL { frames := k, cells := mc, slots := ms, locals := 60 * k } l A true G → (∀ (u : Nat → Nat), u z = h0 → ∀ (pc : Nat) (H : Heap) (locs : List Loc) (ls : Array Slot), decode cc pc = .ok (.return_, 1) → va_P D vwCl (w u) H → va_D A (w u) → va_S A G.1 H locs → G.2 mc ms pc ls [] H locs) → kc_J D G nL A 0 0 0 [(0, .ref h0)] [] [(h0, .inr (ci, fs))]) : kc_M D a y cc nL k mc ms ci fs z w := by
  intro l h0 sz
  refine Met.ofW (cc := cc) (maxL := nL) (ret := none) hy rfl ?_
  intro p e s m args below meth c s₁ B hml hv
  obtain ⟨rfl, hsz, hP, hK, hTW⟩ := hv
  subst hsz
  have hD0 : va_D (fun _ => True) [(h0, (.inr (ci, fs) : va_E))] := by
    refine ⟨fun i j p q hi hj _ => ?_, fun _ _ _ => trivial⟩
    have a1 := (List.getElem?_eq_some_iff.mp hi).1
    have a2 := (List.getElem?_eq_some_iff.mp hj).1
    simp only [List.length_singleton] at a1 a2
    omega
  have hD := hD0.self (sz := s.heap.size)
  have hl := lv_entry ([.ref h0]) (n := nL) hn0
  rw [lg_entry_eq]
  generalize (lg_sl ([.ref h0]) ++ List.replicate (nL - (lg_sl ([.ref h0])).length) Slot.unset).toArray = ls at hl ⊢
  have key := hj l h0 (va_A [(h0, .inr (ci, fs))] s.heap.size) (s.heap, fun cells slots pc ls st H locs => W p l e { frames := k, cells := mc, slots := ms, locals := 60 * k } s m #[Value.ref h0] below meth c H locs cells slots (MQ below (va_Qv (fun u : Nat → Nat => u z = h0) (fun u t => va_P D vwCl (w u) t.heap ∧ va_D (va_A [(h0, .inr (ci, fs))] s.heap.size) (w u)) (va_A [(h0, .inr (ci, fs))] s.heap.size)) #[Value.ref h0] s mc ms (va_A [(h0, .inr (ci, fs))] s.heap.size)) (F0 m pc ls st)) ⟨p, e, s, m, _, below, meth, c, _, B.exec, B.bytes, hml, fun _ => (name_of_methodNamed B.named B.method).1.trans hnm, findClass_of_methodNamed B.named, hK, hTW, fun q h => Or.inr h, rfl⟩ (fun u hu pc H locs ls d hP1 hD1 hS1 => W.vret B.exec B.bytes B.returns (fun t ht hW => ⟨⟨u, rfl, hu, by rw [ht]; exact hP1, hD1⟩, hS1.F ht⟩) hS1.2.2 d B.notSynchronized)
  exact key s.heap [] ls hl hP hD va_S.rf
theorem kc_blind {D : va_G} {a : Nat → ClassId} {av : List Value} {sz : Nat} {ws : va_W} : FrameBlind (va_Pc av (fun U => U.heap.size = sz ∧ va_P D vwCl ws U.heap ∧ va_K D vwCl (kc_ty a) U ∧ kc_TW U)) := fun ag U g mk q => ⟨q.1, q.2.1, q.2.2.1, va_K.moved (u := U) (U := U.calling g mk ag) (Vm.Alike.refl U.vm) q.2.2.2.1, kc_TW.same (u := U) (U := U.calling g mk ag) rfl q.2.2.2.2⟩
/-- what a constructor is -/
def kc_mi (y : MethodName) (cc : ByteArray) (nL : Nat) : Prop := am_lk (.code y cc nL none) ∧ am_lk (.instanceMethod y) ∧ am_lk (.initialized y.cls) ∧ (y.cls ≠ "java/lang/invoke/MethodHandle" ∧ y.cls ≠ "java/lang/invoke/VarHandle") ∧ (parseMethodDescriptor y.desc).map (fun d => d.parameters.length) = some 0 ∧ y.name = "<init>"
theorem kc_after {D : va_G} {A0 : Nat → Prop} {wr w1 : va_W} {q : Nat} {e : va_E} {H H1 H0 : Heap} {locs : List Loc} (hP : va_P D vwCl (wr ++ [(q, e)]) H) (hD : va_D A0 (wr ++ [(q, e)])) (hS : va_S A0 H0 H locs) (hA : ∀ q, H0.size ≤ q → A0 q) (hk : ∀ x : Nat, x < H.size → ¬ va_A [(q, e)] H.size x → H1[x]? = H[x]?) (hP1 : va_P D vwCl w1 H1) (hD1 : va_D (va_A [(q, e)] H.size) w1) : va_P D vwCl (wr ++ w1) H1 ∧ va_D A0 (wr ++ w1) := by
  have inl : ∀ (k : Nat) (x : Nat × va_E), wr[k]? = some x → (wr ++ [(q, e)])[k]? = some x := fun k x hx => by
    rw [List.getElem?_append_left (List.getElem?_eq_some_iff.mp hx).1]; exact hx
  have last : (wr ++ [(q, e)])[wr.length]? = some (q, e) := by
    rw [List.getElem?_append_right (Nat.le_refl _), Nat.sub_self]; rfl
  have apart : ∀ (k : Nat) (x : Nat × va_E), wr[k]? = some x → x.1 < H.size ∧ ¬ va_A [(q, e)] H.size x.1 := by
    intro k x hx
    have hl := (hP k x (inl k x hx)).lt
    refine ⟨hl, fun h => ?_⟩
    rcases h with ⟨k2, e2, h⟩ | h
    · have z : k2 < 1 := (List.getElem?_eq_some_iff.mp h).1
      rw [show k2 = 0 by omega] at h
      have hq : q = x.1 := congrArg Prod.fst (Option.some.inj h)
      have hij := hD.1 k wr.length x (q, e) (inl k x hx) last hq.symm
      have := (List.getElem?_eq_some_iff.mp hx).1
      omega
    · omega
  have free : ∀ x, va_A [(q, e)] H.size x → A0 x := by
    intro x h
    rcases h with ⟨k2, e2, h⟩ | h
    · have z : k2 < 1 := (List.getElem?_eq_some_iff.mp h).1
      rw [show k2 = 0 by omega] at h
      have hq : q = x := congrArg Prod.fst (Option.some.inj h)
      rw [← hq]
      exact hD.2 wr.length (q, e) last
    · exact hA x (Nat.le_trans hS.1 h)
  refine ⟨va_P.app (fun k x hx => (hP k x (inl k x hx)).kept (hk x.1 (apart k x hx).1 (apart k x hx).2)) hP1, va_D.app ⟨fun i j p q hi hj => hD.1 i j p q (inl i p hi) (inl j q hj), fun k x hx => hD.2 k x (inl k x hx)⟩ (hD1.weaken (fun k x _ h => free x.1 h)) (fun i j x y hx hy hxy => ?_)⟩
  exact (apart i x hx).2 (by rw [hxy]; exact hD1.2 j y hy)
theorem kc_free {D : va_G} {A0 : Nat → Prop} {wr : va_W} {q : Nat} {e : va_E} {H H0 : Heap} {locs : List Loc} (hD : va_D A0 (wr ++ [(q, e)])) (hS : va_S A0 H0 H locs) (hA : ∀ q, H0.size ≤ q → A0 q) : ∀ x, va_A [(q, e)] H.size x → A0 x := by
  have last : (wr ++ [(q, e)])[wr.length]? = some (q, e) := by
    rw [List.getElem?_append_right (Nat.le_refl _), Nat.sub_self]; rfl
  intro x h
  rcases h with ⟨k2, e2, h⟩ | h
  · have z : k2 < 1 := (List.getElem?_eq_some_iff.mp h).1
    rw [show k2 = 0 by omega] at h
    have hq : q = x := congrArg Prod.fst (Option.some.inj h)
    rw [← hq]
    exact hD.2 wr.length (q, e) last
  · exact hA x (Nat.le_trans hS.1 h)
theorem kc_one {D : va_G} {wr : va_W} {x : Nat × va_E} {H : Heap} (hP : va_P D vwCl (wr ++ [x]) H) : va_P D vwCl [x] H := fun k y hy => by
  have z : k < 1 := (List.getElem?_eq_some_iff.mp hy).1
  rw [show k = 0 by omega] at hy
  refine hP wr.length y ?_
  rw [List.getElem?_append_right (Nat.le_refl _), Nat.sub_self]
  exact hy
section
variable {D : va_G} {a : Nat → ClassId} {own : String} {cc : ByteArray} {nL : Nat} {R : Room} {l : Launch} {A : Nat → Prop} {ini : Bool} {G : kc_G} {cells slots pc : Nat} {lv : List (Nat × Value)} {st : List Value} {wr : va_W} {c0 : Nat × va_E}
/-- a constructor is called -/
theorem kc_ci (g : kc_Gd D a own cc nL R l A ini G) {idx q ci k' mc' ms' nL' : Nat} {y : MethodName} {cc' : ByteArray} {z : Nat} {fs' : List Value} {w : (Nat → Nat) → va_W} (hM : kc_M D a y cc' nL' k' mc' ms' ci fs' z w) (mi : kc_mi y cc' nL') (hlw : am_lk (.methodLink own idx y)) (d : decode cc pc = .ok (.invokespecial idx, 3)) (hk : k' + 1 ≤ R.frames ∧ 8 + (nL' + 11) + 60 * k' ≤ R.locals) (hr : (st.map fun v => v.category).sum ≤ 8) (hc : cells + mc' ≤ R.cells ∧ slots + ms' ≤ R.slots)
    (kk : ∀ u, u z = q → kc_J D G nL A (cells + mc') (slots + ms') (pc + 3) lv st (wr ++ w u)) : kc_J D G nL A cells slots pc lv (.ref q :: st) (wr ++ [(q, .inr (ci, fs'))]) := by
  obtain ⟨p, e, s, m, args, below, meth, c, Q, hx, hb, hml, hin, hown, hK, hTW, hA, rfl⟩ := g
  intro H locs ls hl hP hD hS
  obtain ⟨m1, m2, m4, m5, m6, m7⟩ := mi
  have hF := kc_free (D := D) hD hS hA
  refine va_callv (va_runI (Ts := []) (nL := nL) (As := []) (b := q) (rest := st) (n := 0) ⟨hx, hb, hml, hown, fun w hw => by cases hw⟩ (hM l q H.size)
    ⟨⟨rfl, rfl, hk.1, hk.2, fun w hw a' U hW => ?_, List.mem_cons_self, hTW.use m1 _, hTW.use m4 _, m5, am_plen m6, hTW.use hlw _⟩, m7, hTW.use m2 _⟩ ⟨kc_blind, fun U hU hW => ⟨rfl, by rw [hU], by rw [hU]; exact kc_one hP, va_K.moved hW.alike hK, hTW.warm hW⟩⟩ rfl rfl hl.1 rfl (lv_room hr) d hc) hS (fun q _ h => hF q h) hF (fun u t H1 locs1 ht hvm hu hB hz1 hk1 hS1 => ?_)
  · rw [List.mem_singleton.mp hw]
    exact (hTW.warm hW).use m1 _
  · obtain ⟨p1, d1⟩ := kc_after hP hD hS hA hk1 (by rw [← ht]; exact hB.1) hB.2
    exact kk u hu H1 locs1 ls hl p1 d1 hS1
/-- .. of a nest mate -/
theorem kc_cn (g : kc_Gd D a own cc nL R l A ini G) {idx q ci k' mc' ms' nL' : Nat} {host : String} {y : MethodName} {cc' : ByteArray} {z : Nat} {fs' : List Value} {w : (Nat → Nat) → va_W} (hM : kc_M D a y cc' nL' k' mc' ms' ci fs' z w) (mi : kc_mi y cc' nL') (hlw : am_lk (.methodLinkNest own idx y host)) (d : decode cc pc = .ok (.invokespecial idx, 3)) (hk : k' + 1 ≤ R.frames ∧ 8 + (nL' + 11) + 60 * k' ≤ R.locals) (hr : (st.map fun v => v.category).sum ≤ 8) (hc : cells + mc' ≤ R.cells ∧ slots + ms' ≤ R.slots)
    (kk : ∀ u, u z = q → kc_J D G nL A (cells + mc') (slots + ms') (pc + 3) lv st (wr ++ w u)) : kc_J D G nL A cells slots pc lv (.ref q :: st) (wr ++ [(q, .inr (ci, fs'))]) := by
  obtain ⟨p, e, s, m, args, below, meth, c, Q, hx, hb, hml, hin, hown, hK, hTW, hA, rfl⟩ := g
  intro H locs ls hl hP hD hS
  obtain ⟨m1, m2, m4, m5, m6, m7⟩ := mi
  have hF := kc_free (D := D) hD hS hA
  refine va_callv (va_runIN (Ts := []) (nL := nL) (As := []) (b := q) (rest := st) (n := 0) ⟨hx, hb, hml, hown, fun w hw => by cases hw⟩ (hM l q H.size)
    ⟨⟨⟨rfl, rfl, hk.1, hk.2, fun w hw a' U hW => ?_, List.mem_cons_self⟩, hTW.use m1 _, hTW.use m4 _, m5, am_plen m6, hTW.use hlw _⟩, m7, hTW.use m2 _⟩ ⟨kc_blind, fun U hU hW => ⟨rfl, by rw [hU], by rw [hU]; exact kc_one hP, va_K.moved hW.alike hK, hTW.warm hW⟩⟩ rfl rfl hl.1 rfl (lv_room hr) d hc) hS (fun q _ h => hF q h) hF (fun u t H1 locs1 ht hvm hu hB hz1 hk1 hS1 => ?_)
  · rw [List.mem_singleton.mp hw]
    exact (hTW.warm hW).use m1 _
  · obtain ⟨p1, d1⟩ := kc_after hP hD hS hA hk1 (by rw [← ht]; exact hB.1) hB.2
    exact kk u hu H1 locs1 ls hl p1 d1 hS1
end
theorem kc_ws {D : va_G} {G : kc_G} {nL : Nat} {A : Nat → Prop} {cells slots pc : Nat} {lv : List (Nat × Value)} {st : List Value} {ws : va_W} (ws' : va_W) (e : ws = ws') (kk : kc_J D G nL A cells slots pc lv st ws') : kc_J D G nL A cells slots pc lv st ws := e ▸ kk
