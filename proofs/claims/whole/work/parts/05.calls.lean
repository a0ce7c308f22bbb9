/-! ===== the abstract machine: calls, and contracts out of the judgement ===== -/
def am_mi (y : MethodName) (cc : ByteArray) (maxL : Nat) (ret : Option FieldType) (n : Nat) (C : String) : Prop := am_lk (.code y cc maxL ret) ∧ am_lk (.instanceMethod y) ∧ am_lk (.selects C y y) ∧ am_lk (.initialized y.cls) ∧ (y.cls ≠ "java/lang/invoke/MethodHandle" ∧ y.cls ≠ "java/lang/invoke/VarHandle") ∧ (parseMethodDescriptor y.desc).map (fun d => d.parameters.length) = some n ∧ maxL ≤ 40
def am_ms (y : MethodName) (cc : ByteArray) (maxL : Nat) (ret : Option FieldType) (n : Nat) : Prop := am_lk (.code y cc maxL ret) ∧ am_lk (.static y) ∧ am_lk (.initialized y.cls) ∧ (y.cls ≠ "java/lang/invoke/MethodHandle" ∧ y.cls ≠ "java/lang/invoke/VarHandle") ∧ (parseMethodDescriptor y.desc).map (fun d => d.parameters.length) = some n ∧ maxL ≤ 40
theorem am_plen {d : String} {n : Nat} (h : (parseMethodDescriptor d).map (fun d => d.parameters.length) = some n) : ∀ sig, parseMethodDescriptor d = some sig → n = sig.parameters.length := fun sig hs => by
  rw [hs] at h
  exact (Option.some.inj h).symm
theorem am_blind (E : am_E) (av : List Value) (h : am_M) : FrameBlind (va_Pc av (am_B E h)) := fun a U g mk q => ⟨q.1, q.2.1, va_K.moved (u := U) (U := U.calling g mk a) (Vm.Alike.refl U.vm) q.2.2.1, am_TW.same (u := U) (U := U.calling g mk a) rfl q.2.2.2⟩
theorem am_cats (E : am_E) (S : List am_V) : ((S.map (am_c E)).map fun v => v.category).sum = S.length := by
  induction S with
  | nil => rfl
  | cons v S ih => simp only [List.map_cons, List.sum_cons, List.length_cons, ih, am_c_cat]; omega
section
variable {p : Program} {l : Launch} {e : Env} {R : Room} {s : State} {m : MethodId} {args : Array Value} {below : List Frame} {meth : Method} {c : Code} {H : Heap} {locs : List Loc} {Q : State → Prop} {E : am_E}
theorem am_run {pc : Nat} {ls : Array Slot} {st0 rest : List Value} {rv : Option am_V} {h1 : am_M} {a : Array Value} (hr : va_Run p l e R s m args below meth c H locs 0 0 0 0 (F0 m pc ls st0) rest (am_Qc E rv h1 a) (am_A E)) (hS : va_S (am_A E) s.heap H locs)
    (kk : ∀ (H1 : Heap) (locs1 : List Loc), (∀ x, rv = some x → am_rv E x) → am_Rg h1 → va_P (am_D E) vwCl (am_ws E h1) H1 → va_S (am_A E) s.heap H1 locs1 → W p l e R s m args below meth c H1 locs1 0 0 Q (F0 m (pc + 3) ls ((rv.map (am_c E)).toList ++ rest))) : W p l e R s m args below meth c H locs 0 0 Q (F0 m pc ls st0) := by
  intro T hT X
  obtain ⟨v, st₀, t, T', L, h0, X', hL, e1, e2, ⟨hv, ⟨hP, hK, hTW⟩, ⟨hz, hk⟩, hr1, hr2⟩, st⟩ := hr T hT X
  have hv' : v = rv.map (am_c E) := Outcome.returned.inj hv
  subst hv'
  rw [h0] at hz hk
  obtain ⟨t2, a1, b1⟩ := kk T'.heap (locs ++ L) hr1 hr2 (by rw [e1]; exact hP)
    ⟨Nat.le_trans hS.1 (by rw [e1]; exact hz), fun q q1 q2 => by rw [e1, hk q (Nat.lt_of_lt_of_le q1 hS.1) q2]; exact hS.2.1 q q1 q2, fun q hq => by
      rcases List.mem_append.mp hq with z | z
      · exact hS.2.2 q z
      · exact hL q z⟩ T' rfl X'
  exact ⟨t2, st t2 a1, b1⟩
end
section
variable {E : am_E} {G : am_G} {own : String} {cc : ByteArray} {nL : Nat} {ret : Option FieldType} {k : Nat} {α : Type} {enc : α → Option am_V} {pc : Nat} {L : List (Option am_V)} {S : List am_V} {h : am_M} {o : Option (α × am_M)}
variable {y : MethodName} {cc' : ByteArray} {maxL' : Nat} {ret' : Option FieldType} {k' : Nat} {β : Type} {enc' : β → Option am_V} {o' : Option (β × am_M)} {K : β → am_M → Option (α × am_M)} {as : List am_V}
theorem am_inv {S0 : List am_V} (hg : am_g E) (hsr : (∀ v ∈ S0, am_rv E v) → (∀ v ∈ as, am_rv E v) ∧ ∀ v ∈ S, am_rv E v) (hC : am_C E y cc' maxL' ret' k' as h enc' o')
    (hst : ∀ rv h1, am_Met E y cc' maxL' ret' k' as h rv h1 → ∀ r H locs ls, va_P (am_D E) vwCl (am_ws E h) H → va_S (am_A E) G.1 H locs → am_lh E ls nL L → (∀ H1 locs1, (∀ x, rv = some x → am_rv E x) → am_Rg h1 → va_P (am_D E) vwCl (am_ws E h1) H1 → va_S (am_A E) G.1 H1 locs1 → G.2 r (pc + 3) ls ((rv.map (am_c E)).toList ++ S.map (am_c E)) H1 locs1) → G.2 r pc ls (S0.map (am_c E)) H locs)
    (kk : ∀ v h1, am_J E G nL enc (pc + 3) L ((enc' v).toList ++ S) h1 (K v h1)) : am_J E G nL enc pc L S0 h (am_b o' K) := by
  intro h1 h2 h3 v h' e
  obtain ⟨v1, hm, e1, e2⟩ := am_b_inv e
  obtain ⟨ha, hS⟩ := hsr h2
  have c3 := hC hg ha h3 v1 hm e1
  refine fun H locs ls hP hS' hl => hst _ _ c3 _ H locs ls hP hS' hl (fun H1 l1 c1 c2 p1 s1 => ?_)
  have := kk v1 hm h1 (fun x hx => by
    rcases List.mem_append.mp hx with z | z
    · exact c1 x (Option.mem_toList.mp z)
    · exact hS x z) c2 v h' e2 H1 l1 ls p1 s1 hl
  have em : (((enc' v1).toList ++ S).map (am_c E)) = ((enc' v1).map (am_c E)).toList ++ S.map (am_c E) := by
    rw [List.map_append]
    cases enc' v1 <;> rfl
  rw [em] at this
  exact this
theorem am_sr {S0 : List am_V} (e : S0 = as.reverse ++ S) : (∀ v ∈ S0, am_rv E v) → (∀ v ∈ as, am_rv E v) ∧ ∀ v ∈ S, am_rv E v := fun hh =>
  ⟨fun v hv => hh v (by rw [e]; exact List.mem_append_left _ (List.mem_reverse.mpr hv)), fun v hv => hh v (by rw [e]; exact List.mem_append_right _ hv)⟩
theorem am_callV {n idx id ci N : Nat} {C : String} {T : u_T} {fs : List ((Nat × Nat) ⊕ Nat)} {S0 : List am_V} (g : am_Gd E own cc nL ret k G) (hC : am_C E y cc' maxL' ret' k' (.inr (some id) :: as) h enc' o') (mi : am_mi y cc' maxL' ret' n C) (hlw : am_lk (.methodLink own idx y)) (hcl : vwCl[ci]? = some (C, T, N)) (hid : id < am_N E) (hs : am_sh E id = .inr (.inl (ci, fs))) (d : decode cc pc = .ok (.invokevirtual idx, 3)) (hn : as.length = n) (hk : k' + 1 ≤ k) (hS8 : S.length ≤ 8) (e0 : S0 = as.reverse ++ .inr (some id) :: S)
    (kk : ∀ v h1, am_J E G nL enc (pc + 3) L ((enc' v).toList ++ S) h1 (K v h1)) : am_J E G nL enc pc L S0 h (am_b o' K) := by
  obtain ⟨p, l, e, s, m, args, below, meth, c, hx, hb, hml, hrt, hlk, hown, hK, hTW, hg, rfl⟩ := g
  refine am_inv hg (am_sr (as := .inr (some id) :: as) (by rw [e0]; simp)) hC (fun rv h1 hM r H locs ls hP hS hl q => ?_) kk
  obtain ⟨m1, m2, m3, m4, m5, m6, m7⟩ := mi
  refine am_run (rest := S.map (am_c E)) (a := (Value.ref (am_ad E id) :: as.map (am_c E)).toArray) ?_ hS q
  refine va_runV (Ts := []) (nL := nL) (As := as.map (am_c E)) (b := am_ad E id) (C := C) (n := n) ⟨hx, hb, hml, hown, fun w hw => by cases hw⟩ (hM l)
    ⟨⟨rfl, rfl, hk, ?_, fun w hw a' U hW => ?_, List.mem_cons_self, hTW.use m1 _, hTW.use m4 _, m5, am_plen m6, hTW.use hlw _⟩, hTW.use m2 _, hTW.use m3 _⟩ ⟨am_blind E _ h, ?_, fun U hU hW => ⟨rfl, by rw [hU]; exact hP, va_K.moved hW.alike hK, hTW.warm hW⟩⟩ rfl (by rw [List.length_map]; exact hn) hl.1 ?_ (lv_room (by rw [am_cats]; exact hS8)) d ⟨Nat.le_refl _, Nat.le_refl _⟩
  · show 8 + (maxL' + 11) + 60 * k' ≤ 60 * k
    omega
  · rw [List.mem_singleton.mp hw]
    exact (hTW.warm hW).use m1 _
  · exact va_recv hK hP hcl (fs := fs.map (am_f E h)) (by rw [am_ws_at E h hid, hs]; rfl)
  · show S0.map (am_c E) = _
    rw [e0]; simp [am_c, List.map_reverse]
theorem am_callVN {n idx id ci N : Nat} {C host : String} {T : u_T} {fs : List ((Nat × Nat) ⊕ Nat)} {S0 : List am_V} (g : am_Gd E own cc nL ret k G) (hC : am_C E y cc' maxL' ret' k' (.inr (some id) :: as) h enc' o') (mi : am_mi y cc' maxL' ret' n C) (hlw : am_lk (.methodLinkNest own idx y host)) (hcl : vwCl[ci]? = some (C, T, N)) (hid : id < am_N E) (hs : am_sh E id = .inr (.inl (ci, fs))) (d : decode cc pc = .ok (.invokevirtual idx, 3)) (hn : as.length = n) (hk : k' + 1 ≤ k) (hS8 : S.length ≤ 8) (e0 : S0 = as.reverse ++ .inr (some id) :: S)
    (kk : ∀ v h1, am_J E G nL enc (pc + 3) L ((enc' v).toList ++ S) h1 (K v h1)) : am_J E G nL enc pc L S0 h (am_b o' K) := by
  obtain ⟨p, l, e, s, m, args, below, meth, c, hx, hb, hml, hrt, hlk, hown, hK, hTW, hg, rfl⟩ := g
  refine am_inv hg (am_sr (as := .inr (some id) :: as) (by rw [e0]; simp)) hC (fun rv h1 hM r H locs ls hP hS hl q => ?_) kk
  obtain ⟨m1, m2, m3, m4, m5, m6, m7⟩ := mi
  refine am_run (rest := S.map (am_c E)) (a := (Value.ref (am_ad E id) :: as.map (am_c E)).toArray) ?_ hS q
  refine va_runVN (Ts := []) (nL := nL) (As := as.map (am_c E)) (b := am_ad E id) (C := C) (n := n) ⟨hx, hb, hml, hown, fun w hw => by cases hw⟩ (hM l)
    ⟨⟨⟨rfl, rfl, hk, ?_, fun w hw a' U hW => ?_, List.mem_cons_self⟩, hTW.use m1 _, hTW.use m4 _, m5, am_plen m6, hTW.use hlw _⟩, hTW.use m2 _, hTW.use m3 _⟩ ⟨am_blind E _ h, ?_, fun U hU hW => ⟨rfl, by rw [hU]; exact hP, va_K.moved hW.alike hK, hTW.warm hW⟩⟩ rfl (by rw [List.length_map]; exact hn) hl.1 ?_ (lv_room (by rw [am_cats]; exact hS8)) d ⟨Nat.le_refl _, Nat.le_refl _⟩
  · show 8 + (maxL' + 11) + 60 * k' ≤ 60 * k
    omega
  · rw [List.mem_singleton.mp hw]
    exact (hTW.warm hW).use m1 _
  · exact va_recv hK hP hcl (fs := fs.map (am_f E h)) (by rw [am_ws_at E h hid, hs]; rfl)
  · show S0.map (am_c E) = _
    rw [e0]; simp [am_c, List.map_reverse]
theorem am_callS {n idx : Nat} {S0 : List am_V} (g : am_Gd E own cc nL ret k G) (hC : am_C E y cc' maxL' ret' k' as h enc' o') (mi : am_ms y cc' maxL' ret' n) (hlw : am_lk (.methodLink own idx y)) (d : decode cc pc = .ok (.invokestatic idx, 3)) (hn : as.length = n) (hk : k' + 1 ≤ k) (hS8 : S.length ≤ 8) (e0 : S0 = as.reverse ++ S)
    (kk : ∀ v h1, am_J E G nL enc (pc + 3) L ((enc' v).toList ++ S) h1 (K v h1)) : am_J E G nL enc pc L S0 h (am_b o' K) := by
  obtain ⟨p, l, e, s, m, args, below, meth, c, hx, hb, hml, hrt, hlk, hown, hK, hTW, hg, rfl⟩ := g
  refine am_inv hg (am_sr e0) hC (fun rv h1 hM r H locs ls hP hS hl q => ?_) kk
  obtain ⟨m1, m2, m4, m5, m6, m7⟩ := mi
  refine am_run (rest := S.map (am_c E)) (a := (as.map (am_c E)).toArray) ?_ hS q
  refine va_runS (Ts := []) (nL := nL) (As := as.map (am_c E)) (n := n) ⟨hx, hb, hml, hown, fun w hw => by cases hw⟩ (hM l)
    ⟨⟨rfl, rfl, hk, ?_, fun w hw a' U hW => ?_, List.mem_cons_self, hTW.use m1 _, hTW.use m4 _, m5, am_plen m6, hTW.use hlw _⟩, hTW.use m2 _⟩ ⟨am_blind E _ h, fun U hU hW => ⟨rfl, by rw [hU]; exact hP, va_K.moved hW.alike hK, hTW.warm hW⟩⟩ rfl (by rw [List.length_map]; exact hn) hl.1 ?_ (lv_room (by rw [am_cats]; exact hS8)) d ⟨Nat.le_refl _, Nat.le_refl _⟩
  · show 8 + (maxL' + 11) + 60 * k' ≤ 60 * k
    omega
  · rw [List.mem_singleton.mp hw]
    exact (hTW.warm hW).use m1 _
  · show S0.map (am_c E) = _
    rw [e0]; simp [List.map_reverse]
theorem am_callSN {n idx : Nat} {host : String} {S0 : List am_V} (g : am_Gd E own cc nL ret k G) (hC : am_C E y cc' maxL' ret' k' as h enc' o') (mi : am_ms y cc' maxL' ret' n) (hlw : am_lk (.methodLinkNest own idx y host)) (d : decode cc pc = .ok (.invokestatic idx, 3)) (hn : as.length = n) (hk : k' + 1 ≤ k) (hS8 : S.length ≤ 8) (e0 : S0 = as.reverse ++ S)
    (kk : ∀ v h1, am_J E G nL enc (pc + 3) L ((enc' v).toList ++ S) h1 (K v h1)) : am_J E G nL enc pc L S0 h (am_b o' K) := by
  obtain ⟨p, l, e, s, m, args, below, meth, c, hx, hb, hml, hrt, hlk, hown, hK, hTW, hg, rfl⟩ := g
  refine am_inv hg (am_sr e0) hC (fun rv h1 hM r H locs ls hP hS hl q => ?_) kk
  obtain ⟨m1, m2, m4, m5, m6, m7⟩ := mi
  refine am_run (rest := S.map (am_c E)) (a := (as.map (am_c E)).toArray) ?_ hS q
  refine va_runSN (Ts := []) (nL := nL) (As := as.map (am_c E)) (n := n) ⟨hx, hb, hml, hown, fun w hw => by cases hw⟩ (hM l)
    ⟨⟨⟨rfl, rfl, hk, ?_, fun w hw a' U hW => ?_, List.mem_cons_self⟩, hTW.use m1 _, hTW.use m4 _, m5, am_plen m6, hTW.use hlw _⟩, hTW.use m2 _, trivial⟩ ⟨am_blind E _ h, fun U hU hW => ⟨rfl, by rw [hU]; exact hP, va_K.moved hW.alike hK, hTW.warm hW⟩⟩ rfl (by rw [List.length_map]; exact hn) hl.1 ?_ (lv_room (by rw [am_cats]; exact hS8)) d ⟨Nat.le_refl _, Nat.le_refl _⟩
  · show 8 + (maxL' + 11) + 60 * k' ≤ 60 * k
    omega
  · rw [List.mem_singleton.mp hw]
    exact (hTW.warm hW).use m1 _
  · show S0.map (am_c E) = _
    rw [e0]; simp [List.map_reverse]
/-- Math.max -/
theorem am_max {idx : Nat} {a b : Int} (g : am_Gd E own cc nL ret k G) (h1 : am_lk (.methodLink own idx Lib.Math.max.name)) (h2 : am_lk (.static Lib.Math.max.name)) (h3 : am_lk (.initialized "java/lang/Math")) (h4 : am_lk (.code Lib.Math.max.name Lib.Math.max.code 2 (some .int))) (d : decode cc pc = .ok (.invokestatic idx, 3)) (hk : 1 ≤ k) (hS8 : S.length ≤ 8) (kk : am_J E G nL enc (pc + 3) L (.inl (max a b) :: S) h o) : am_J E G nL enc pc L (.inl b :: .inl a :: S) h o := by
  obtain ⟨p, l, e, s, m, args, below, meth, c, hx, hb, hml, hrt, hlk, hown, hK, hTW, hg, rfl⟩ := g
  refine am_st (fun _ hh _ => am_rvi ?_ (am_rv2 hh).2.2) (fun hh r H locs ls hP hl q => va_mmax hx hb (by rw [hml, hl.1]) hown (hTW.use h1 _) (hTW.use h2 _) (hTW.use h3 _) (hTW.use h4 _) hk ?_ (Nat.le_refl _) (Nat.le_refl _) d ?_) kk
  · obtain ⟨z1, z2, -⟩ := am_rv2 hh
    unfold am_in at *
    omega
  · show ((S.map (am_c E)).map fun v => v.category).sum + 13 ≤ 60 * k
    rw [am_cats]; omega
  · obtain ⟨z1, z2, -⟩ := am_rv2 hh
    have em : (if Int32.ofInt a < Int32.ofInt b then Int32.ofInt b else Int32.ofInt a) = Int32.ofInt (max a b) := by
      by_cases hab : a < b
      · rw [if_pos ((am_lt z1 z2).mpr hab)]
        congr 1; omega
      · rw [if_neg (fun z => hab ((am_lt z1 z2).mp z))]
        congr 1; omega
    rw [em]
    exact q
end
theorem am_lva (E : am_E) (as : List am_V) : ∀ (i j : Nat) (v : am_V), as[j]? = some v → (i + j, am_c E v) ∈ lv_args i (as.map (am_c E)) := by
  induction as with
  | nil => intro i j v h; simp at h
  | cons a as ih =>
    intro i j v h
    simp only [List.map_cons, lv_args, am_c_cat]
    cases j with
    | zero =>
      simp only [List.getElem?_cons_zero, Option.some.injEq] at h
      subst h
      exact List.mem_cons_self
    | succ j =>
      simp only [List.getElem?_cons_succ] at h
      refine List.mem_cons_of_mem _ ?_
      have := ih (i + 1) j v h
      rw [show i + 1 + j = i + (j + 1) by omega] at this
      exact this
theorem am_lgl (E : am_E) (as : List am_V) : (lg_sl (as.map (am_c E))).length = as.length := by
  induction as with
  | nil => rfl
  | cons a as ih =>
    simp only [lg_sl, List.map_cons, List.flatMap_cons, List.length_append, List.length_cons, am_c_cat] at *
    rw [ih]
    simp; omega
/-- THE CONTRACT OUT OF THE JUDGEMENT at the entry -/
theorem am_ofJ {E : am_E} {y : MethodName} {cc : ByteArray} {maxL : Nat} {ret : Option FieldType} {k : Nat} {as : List am_V} {h : am_M} {α : Type} {enc : α → Option am_V} {o : Option (α × am_M)} {L : List (Option am_V)} (hy : plainName y.cls = true) (hL : L = as.map some ++ List.replicate (maxL - as.length) none) (hm : as.length ≤ maxL)
    (hj : ∀ G, am_Gd E y.cls cc maxL ret k G → am_J E G maxL enc 0 L [] h o) : am_C E y cc maxL ret k as h enc o := by
  subst hL
  intro hg ha hh v h' eo
  have key : ∀ G, am_Gd E y.cls cc maxL ret k G → _ := fun G gd => hj G gd (fun w hw => by
    rcases List.mem_append.mp hw with z | z
    · obtain ⟨x, hx, hxw⟩ := List.mem_map.mp z
      cases hxw
      exact ha w hx
    · have := (List.mem_replicate.mp z).2
      cases this) (fun w hw => by cases hw) hh v h' eo
  intro l
  refine Met.ofW (cc := cc) (maxL := maxL) (ret := ret) hy rfl ?_
  intro p e s m args below meth c s₁ B hml hv
  obtain ⟨rfl, hP, hK, hTW⟩ := hv
  have hl := lv_entry (as.map (am_c E)) (n := maxL) (by rw [am_lgl]; exact hm)
  rw [lg_entry_eq]
  generalize (lg_sl (as.map (am_c E)) ++ List.replicate (maxL - (lg_sl (as.map (am_c E))).length) Slot.unset).toArray = ls at hl ⊢
  have b := key _ ⟨p, l, e, s, m, (as.map (am_c E)).toArray, below, meth, c, B.exec, B.bytes, hml, B.returns, B.notSynchronized, findClass_of_methodNamed B.named, hK, hTW, hg, rfl⟩
  refine b s.heap [] ls hP va_S.rf ⟨hl.1, hl.2.1, fun i w hw => ?_⟩
  by_cases hi : i < as.length
  · rw [List.getElem?_append_left (by rw [List.length_map]; exact hi), List.getElem?_map] at hw
    cases hx : as[i]? with
    | none => rw [hx] at hw; cases hw
    | some x =>
      rw [hx] at hw
      simp only [Option.map_some, Option.some.injEq] at hw
      subst hw
      have := am_lva E as 0 i x hx
      rw [Nat.zero_add] at this
      exact hl.2.2 _ this
  · rw [List.getElem?_append_right (by rw [List.length_map]; omega)] at hw
    have := (List.mem_replicate.mp (List.mem_of_getElem? hw)).2
    cases this
