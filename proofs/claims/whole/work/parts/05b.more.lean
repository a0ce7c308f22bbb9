/-! ===== the abstract machine: names for what is computed, loops, null, calls by what they answer ===== -/
def am_l {γ β : Type} (x : γ) (K : γ → β) : β := K x
theorem am_l_eq {γ β : Type} (x : γ) (K : γ → β) : am_l x K = K x := rfl
/-- a loop, with fuel -/
def am_it {F : Type} (z : F) (B : F → F) : Nat → F
  | 0 => z
  | n + 1 => B (am_it z B n)
theorem am_it_z {F : Type} (z : F) (B : F → F) : am_it z B 0 = z := rfl
theorem am_it_s {F : Type} (z : F) (B : F → F) (n : Nat) : am_it z B (n + 1) = B (am_it z B n) := rfl
/-- a reference that may be null, to one of the n cells from b on -/
def am_on {β : Type} (r : Option Nat) (b n : Nat) (z : Option β) (K : Nat → Option β) : Option β := match r with
  | none => z
  | some i => if b ≤ i ∧ i < b + n then K (i - b) else none
theorem am_on_none {β : Type} {b n : Nat} {z : Option β} {K : Nat → Option β} : am_on none b n z K = z := rfl
theorem am_on_some {β : Type} {b n d : Nat} {z : Option β} {K : Nat → Option β} (h : d < n) : am_on (some (b + d)) b n z K = K d := by
  simp only [am_on]
  rw [if_pos ⟨by omega, by omega⟩, Nat.add_sub_cancel_left]
theorem am_il {n : Int} (h : (decide (-2147483648 ≤ n) && decide (n < 2147483648)) = true) : am_in n := by
  simp only [Bool.and_eq_true, decide_eq_true_eq] at h
  exact h
theorem am_bi {n : Int} (h : (decide (-128 ≤ n) && decide (n < 128)) = true) : (Int8.ofInt n).toInt32 = Int32.ofInt n := by
  simp only [Bool.and_eq_true, decide_eq_true_eq] at h
  apply Int32.toInt_inj.mp
  rw [am_ti (by unfold am_in; omega), Int8.toInt_toInt32, Int8.toInt_ofInt_of_le (by omega) (by omega)]
theorem am_si {n : Int} (h : (decide (-32768 ≤ n) && decide (n < 32768)) = true) : (Int16.ofInt n).toInt32 = Int32.ofInt n := by
  simp only [Bool.and_eq_true, decide_eq_true_eq] at h
  apply Int32.toInt_inj.mp
  rw [am_ti (by unfold am_in; omega), Int16.toInt_toInt32, Int16.toInt_ofInt_of_le (by omega) (by omega)]
section
variable {E : am_E} {G : am_G} {own : String} {cc : ByteArray} {nL : Nat} {ret : Option FieldType} {k : Nat} {α : Type} {enc : α → Option am_V} {pc : Nat} {L : List (Option am_V)} {S : List am_V} {h : am_M} {o : Option (α × am_M)}
theorem am_jn : am_J E G nL enc pc L S h (none : Option (α × am_M)) := fun _ _ _ v h' e => by cases e
theorem am_gv {x : Int} {K : Int → Option (α × am_M)} (kk : ∀ y : Int, am_J E G nL enc pc L (.inl y :: S) h (K y)) : am_J E G nL enc pc L (.inl x :: S) h (am_l x K) := kk x
theorem am_gm {X : am_M} {K : am_M → Option (α × am_M)} (kk : ∀ m : am_M, am_J E G nL enc pc L S m (K m)) : am_J E G nL enc pc L S X (am_l X K) := kk X
theorem am_drop (i : Nat) (kk : am_J E G nL enc pc (L.set i none) S h o) : am_J E G nL enc pc L S h o := by
  intro h1 h2 h3 v h' e H locs ls hP hS hl
  refine kk (fun w hw => ?_) h2 h3 v h' e H locs ls hP hS ⟨hl.1, hl.2.1, fun j w hw => ?_⟩
  · rcases List.mem_or_eq_of_mem_set hw with q | q
    · exact h1 w q
    · cases q
  · by_cases hj : j = i
    · subst hj
      have hlt : j < L.length := by
        have := (List.getElem?_eq_some_iff.mp hw).1
        simpa using this
      rw [List.getElem?_set_self hlt] at hw
      cases hw
    · rw [List.getElem?_set_ne (Ne.symm hj)] at hw
      exact hl.2.2 j w hw
theorem am_ionull {r : Option Nat} {b n : Nat} {Lf : Option Nat → List (Option am_V)} {off : Int} {tgt : Nat} {ot : Option (α × am_M)} {K : Nat → Option (α × am_M)} (g : am_Gd E own cc nL ret k G) (d : decode cc pc = .ok (.ifnull off, 3)) (ht : (pc : Int) + off = (tgt : Int)) (kt : am_J E G nL enc tgt (Lf none) S h ot) (kf : ∀ d, d < n → am_J E G nL enc (pc + 3) (Lf (some (b + d))) S h (K d)) : am_J E G nL enc pc (Lf r) (.inr r :: S) h (am_on r b n ot K) := by
  cases r with
  | none =>
    have := am_ifnull (r := none) (ow := none) g d ht kt am_jn
    rw [if_pos rfl] at this
    exact this
  | some i =>
    by_cases hc : b ≤ i ∧ i < b + n
    · obtain ⟨q, rfl⟩ : ∃ q, i = b + q := ⟨i - b, by omega⟩
      have := am_ifnull (r := some (b + q)) (ot := none) g d ht am_jn (kf q (by omega))
      rw [if_neg (by simp)] at this
      rw [am_on_some (by omega)]
      exact this
    · simp only [am_on]
      rw [if_neg hc]
      exact am_jn
theorem am_iononnull {r : Option Nat} {b n : Nat} {Lf : Option Nat → List (Option am_V)} {off : Int} {tgt : Nat} {ot : Option (α × am_M)} {K : Nat → Option (α × am_M)} (g : am_Gd E own cc nL ret k G) (d : decode cc pc = .ok (.ifnonnull off, 3)) (ht : (pc : Int) + off = (tgt : Int)) (kf : ∀ d, d < n → am_J E G nL enc tgt (Lf (some (b + d))) S h (K d)) (kt : am_J E G nL enc (pc + 3) (Lf none) S h ot) : am_J E G nL enc pc (Lf r) (.inr r :: S) h (am_on r b n ot K) := by
  cases r with
  | none =>
    have := am_ifnonnull (r := none) (ot := none) g d ht am_jn kt
    rw [if_pos rfl] at this
    exact this
  | some i =>
    by_cases hc : b ≤ i ∧ i < b + n
    · obtain ⟨q, rfl⟩ : ∃ q, i = b + q := ⟨i - b, by omega⟩
      have := am_ifnonnull (r := some (b + q)) (ow := none) g d ht (kf q (by omega)) am_jn
      rw [if_neg (by simp)] at this
      rw [am_on_some (by omega)]
      exact this
    · simp only [am_on]
      rw [if_neg hc]
      exact am_jn
theorem am_ialoadC (g : am_Gd E own cc nL ret k G) {id kd off n ix : Nat} {i nI : Int} (d : decode cc pc = .ok (.iaload, 1)) (hid : id < am_N E) (hs : am_sh E id = .inl (0, kd, off, n)) (hn : (n : Int) = nI) (hx : off + i.toNat = ix) (hc : (decide (0 ≤ i) && decide (i < nI)) = true) (kk : am_J E G nL enc (pc + 1) L (.inl (h kd ix) :: S) h o) : am_J E G nL enc pc L (.inl i :: .inr (some id) :: S) h o := by
  have := am_iaload (i := i) (nI := nI) g d hid hs hn hx kk
  rw [if_pos (by simpa using hc)] at this
  exact this
theorem am_zaloadC (g : am_Gd E own cc nL ret k G) {id kd off n ix : Nat} {i nI : Int} (d : decode cc pc = .ok (.baload, 1)) (hid : id < am_N E) (hs : am_sh E id = .inl (1, kd, off, n)) (hn : (n : Int) = nI) (hx : off + i.toNat = ix) (hc : (decide (0 ≤ i) && decide (i < nI)) = true) (kk : am_J E G nL enc (pc + 1) L (.inl (h kd ix) :: S) h o) : am_J E G nL enc pc L (.inl i :: .inr (some id) :: S) h o := by
  have := am_zaload (i := i) (nI := nI) g d hid hs hn hx kk
  rw [if_pos (by simpa using hc)] at this
  exact this
theorem am_iastoreC (g : am_Gd E own cc nL ret k G) {id kd off n ix : Nat} {i nI x : Int} (d : decode cc pc = .ok (.iastore, 1)) (hid : id < am_N E) (hs : am_sh E id = .inl (0, kd, off, n)) (hn : (n : Int) = nI) (hx : off + i.toNat = ix) (hc : (decide (0 ≤ i) && decide (i < nI)) = true) (kk : am_J E G nL enc (pc + 1) L S (am_up h kd ix x) o) : am_J E G nL enc pc L (.inl x :: .inl i :: .inr (some id) :: S) h o := by
  have := am_iastore (i := i) (nI := nI) g d hid hs hn hx kk
  rw [if_pos (by simpa using hc)] at this
  exact this
theorem am_zastoreB (g : am_Gd E own cc nL ret k G) {id kd off n ix : Nat} {i nI x : Int} (d : decode cc pc = .ok (.bastore, 1)) (hid : id < am_N E) (hs : am_sh E id = .inl (1, kd, off, n)) (hn : (n : Int) = nI) (hx : off + i.toNat = ix) (hz : x = 0 ∨ x = 1) (kk : am_J E G nL enc (pc + 1) L S (am_up h kd ix x) o) : am_J E G nL enc pc L (.inl x :: .inl i :: .inr (some id) :: S) h (if 0 ≤ i ∧ i < nI then o else none) := by
  have := am_zastore (i := i) (nI := nI) g d hid hs hn hx kk
  rw [if_pos hz] at this
  exact this
theorem am_putzB (g : am_Gd E own cc nL ret k G) {id ci q N idx kd ix : Nat} {x : Int} {C : String} {T : u_T} {ty : Nat → FieldType} {fs : List ((Nat × Nat) ⊕ Nat)} (cl : am_Cl ci C T N ty) (d : decode cc pc = .ok (.putfield idx, 3)) (hid : id < am_N E) (hs : am_sh E id = .inr (.inl (ci, fs))) (hq : q < N) (hf : fs[q]? = some (.inl (kd, ix))) (hlw : am_lk (.fieldLink own idx (T q).1 (T q).2.1 (T q).2.2.1)) (hfin : (T q).2.2.2 = false) (hty : ty q = .boolean) (hz : x = 0 ∨ x = 1) (kk : am_J E G nL enc (pc + 3) L S (am_up h kd ix x) o) : am_J E G nL enc pc L (.inl x :: .inr (some id) :: S) h o := by
  have := am_putz (x := x) g cl d hid hs hq hf hlw hfin hty kk
  rw [if_pos hz] at this
  exact this
theorem am_jeq {o' : Option (α × am_M)} (e : o = o') (kk : am_J E G nL enc pc L S h o') : am_J E G nL enc pc L S h o := e ▸ kk
end
section
variable {E : am_E} {G : am_G} {own : String} {cc : ByteArray} {nL : Nat} {ret : Option FieldType} {k : Nat} {α : Type} {enc : α → Option am_V} {pc : Nat} {L : List (Option am_V)} {S : List am_V} {h : am_M} {o : Option (α × am_M)}
variable {y : MethodName} {cc' : ByteArray} {maxL' : Nat} {ret' : Option FieldType} {k' : Nat} {as : List am_V}
theorem am_Vi {o' : Option (Int × am_M)} {K : Int → am_M → Option (α × am_M)} {n idx id ci N : Nat} {C : String} {T : u_T} {fs : List ((Nat × Nat) ⊕ Nat)} {S0 : List am_V} (g : am_Gd E own cc nL ret k G) (hC : am_C E y cc' maxL' ret' k' (.inr (some id) :: as) h am_ei o') (mi : am_mi y cc' maxL' ret' n C) (hlw : am_lk (.methodLink own idx y)) (hcl : vwCl[ci]? = some (C, T, N)) (hid : id < am_N E) (hs : am_sh E id = .inr (.inl (ci, fs))) (d : decode cc pc = .ok (.invokevirtual idx, 3)) (hn : as.length = n) (hk : k' + 1 ≤ k) (hS8 : S.length ≤ 8) (e0 : S0 = as.reverse ++ .inr (some id) :: S)
    (kk : ∀ v h1, am_J E G nL enc (pc + 3) L (.inl v :: S) h1 (K v h1)) : am_J E G nL enc pc L S0 h (am_b o' K) := am_callV g hC mi hlw hcl hid hs d hn hk hS8 e0 kk
theorem am_Si {o' : Option (Int × am_M)} {K : Int → am_M → Option (α × am_M)} {n idx : Nat} {S0 : List am_V} (g : am_Gd E own cc nL ret k G) (hC : am_C E y cc' maxL' ret' k' as h am_ei o') (mi : am_ms y cc' maxL' ret' n) (hlw : am_lk (.methodLink own idx y)) (d : decode cc pc = .ok (.invokestatic idx, 3)) (hn : as.length = n) (hk : k' + 1 ≤ k) (hS8 : S.length ≤ 8) (e0 : S0 = as.reverse ++ S)
    (kk : ∀ v h1, am_J E G nL enc (pc + 3) L (.inl v :: S) h1 (K v h1)) : am_J E G nL enc pc L S0 h (am_b o' K) := am_callS g hC mi hlw d hn hk hS8 e0 kk
theorem am_SNi {o' : Option (Int × am_M)} {K : Int → am_M → Option (α × am_M)} {n idx : Nat} {host : String} {S0 : List am_V} (g : am_Gd E own cc nL ret k G) (hC : am_C E y cc' maxL' ret' k' as h am_ei o') (mi : am_ms y cc' maxL' ret' n) (hlw : am_lk (.methodLinkNest own idx y host)) (d : decode cc pc = .ok (.invokestatic idx, 3)) (hn : as.length = n) (hk : k' + 1 ≤ k) (hS8 : S.length ≤ 8) (e0 : S0 = as.reverse ++ S)
    (kk : ∀ v h1, am_J E G nL enc (pc + 3) L (.inl v :: S) h1 (K v h1)) : am_J E G nL enc pc L S0 h (am_b o' K) := am_callSN g hC mi hlw d hn hk hS8 e0 kk
theorem am_Vv {o' : Option (Unit × am_M)} {K : Unit → am_M → Option (α × am_M)} {n idx id ci N : Nat} {C : String} {T : u_T} {fs : List ((Nat × Nat) ⊕ Nat)} {S0 : List am_V} (g : am_Gd E own cc nL ret k G) (hC : am_C E y cc' maxL' ret' k' (.inr (some id) :: as) h am_ev o') (mi : am_mi y cc' maxL' ret' n C) (hlw : am_lk (.methodLink own idx y)) (hcl : vwCl[ci]? = some (C, T, N)) (hid : id < am_N E) (hs : am_sh E id = .inr (.inl (ci, fs))) (d : decode cc pc = .ok (.invokevirtual idx, 3)) (hn : as.length = n) (hk : k' + 1 ≤ k) (hS8 : S.length ≤ 8) (e0 : S0 = as.reverse ++ .inr (some id) :: S)
    (kk : ∀ v h1, am_J E G nL enc (pc + 3) L (S) h1 (K v h1)) : am_J E G nL enc pc L S0 h (am_b o' K) := am_callV g hC mi hlw hcl hid hs d hn hk hS8 e0 kk
theorem am_Sv {o' : Option (Unit × am_M)} {K : Unit → am_M → Option (α × am_M)} {n idx : Nat} {S0 : List am_V} (g : am_Gd E own cc nL ret k G) (hC : am_C E y cc' maxL' ret' k' as h am_ev o') (mi : am_ms y cc' maxL' ret' n) (hlw : am_lk (.methodLink own idx y)) (d : decode cc pc = .ok (.invokestatic idx, 3)) (hn : as.length = n) (hk : k' + 1 ≤ k) (hS8 : S.length ≤ 8) (e0 : S0 = as.reverse ++ S)
    (kk : ∀ v h1, am_J E G nL enc (pc + 3) L (S) h1 (K v h1)) : am_J E G nL enc pc L S0 h (am_b o' K) := am_callS g hC mi hlw d hn hk hS8 e0 kk
theorem am_SNv {o' : Option (Unit × am_M)} {K : Unit → am_M → Option (α × am_M)} {n idx : Nat} {host : String} {S0 : List am_V} (g : am_Gd E own cc nL ret k G) (hC : am_C E y cc' maxL' ret' k' as h am_ev o') (mi : am_ms y cc' maxL' ret' n) (hlw : am_lk (.methodLinkNest own idx y host)) (d : decode cc pc = .ok (.invokestatic idx, 3)) (hn : as.length = n) (hk : k' + 1 ≤ k) (hS8 : S.length ≤ 8) (e0 : S0 = as.reverse ++ S)
    (kk : ∀ v h1, am_J E G nL enc (pc + 3) L (S) h1 (K v h1)) : am_J E G nL enc pc L S0 h (am_b o' K) := am_callSN g hC mi hlw d hn hk hS8 e0 kk
theorem am_Vr {o' : Option (Option Nat × am_M)} {K : Option Nat → am_M → Option (α × am_M)} {n idx id ci N : Nat} {C : String} {T : u_T} {fs : List ((Nat × Nat) ⊕ Nat)} {S0 : List am_V} (g : am_Gd E own cc nL ret k G) (hC : am_C E y cc' maxL' ret' k' (.inr (some id) :: as) h am_er o') (mi : am_mi y cc' maxL' ret' n C) (hlw : am_lk (.methodLink own idx y)) (hcl : vwCl[ci]? = some (C, T, N)) (hid : id < am_N E) (hs : am_sh E id = .inr (.inl (ci, fs))) (d : decode cc pc = .ok (.invokevirtual idx, 3)) (hn : as.length = n) (hk : k' + 1 ≤ k) (hS8 : S.length ≤ 8) (e0 : S0 = as.reverse ++ .inr (some id) :: S)
    (kk : ∀ v h1, am_J E G nL enc (pc + 3) L (.inr v :: S) h1 (K v h1)) : am_J E G nL enc pc L S0 h (am_b o' K) := am_callV g hC mi hlw hcl hid hs d hn hk hS8 e0 kk
theorem am_Sr {o' : Option (Option Nat × am_M)} {K : Option Nat → am_M → Option (α × am_M)} {n idx : Nat} {S0 : List am_V} (g : am_Gd E own cc nL ret k G) (hC : am_C E y cc' maxL' ret' k' as h am_er o') (mi : am_ms y cc' maxL' ret' n) (hlw : am_lk (.methodLink own idx y)) (d : decode cc pc = .ok (.invokestatic idx, 3)) (hn : as.length = n) (hk : k' + 1 ≤ k) (hS8 : S.length ≤ 8) (e0 : S0 = as.reverse ++ S)
    (kk : ∀ v h1, am_J E G nL enc (pc + 3) L (.inr v :: S) h1 (K v h1)) : am_J E G nL enc pc L S0 h (am_b o' K) := am_callS g hC mi hlw d hn hk hS8 e0 kk
theorem am_SNr {o' : Option (Option Nat × am_M)} {K : Option Nat → am_M → Option (α × am_M)} {n idx : Nat} {host : String} {S0 : List am_V} (g : am_Gd E own cc nL ret k G) (hC : am_C E y cc' maxL' ret' k' as h am_er o') (mi : am_ms y cc' maxL' ret' n) (hlw : am_lk (.methodLinkNest own idx y host)) (d : decode cc pc = .ok (.invokestatic idx, 3)) (hn : as.length = n) (hk : k' + 1 ≤ k) (hS8 : S.length ≤ 8) (e0 : S0 = as.reverse ++ S)
    (kk : ∀ v h1, am_J E G nL enc (pc + 3) L (.inr v :: S) h1 (K v h1)) : am_J E G nL enc pc L S0 h (am_b o' K) := am_callSN g hC mi hlw d hn hk hS8 e0 kk
end
