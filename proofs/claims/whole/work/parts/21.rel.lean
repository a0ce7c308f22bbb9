/-! ===== what the two memories have to do with each other ===== -/
/-- a draw's own row of a kind, from 0 on -/
def lc (h : am_M) (k d w : Nat) : Nat → Int := fun i => if i < w then h k (w * d + i) else 0
theorem lc_at (h : am_M) (k d : Nat) {w i : Nat} (hi : i < w) : lc h k d w i = h k (w * d + i) := by simp [lc, hi]
theorem lc_eq {h h' : am_M} {k : Nat} (d w : Nat) (e : h' k = h k) : lc h' k d w = lc h k d w := by
  funext i; simp [lc, e]
theorem lc_up_k (h : am_M) {k a : Nat} (d w i : Nat) (v : Int) (n : a ≠ k) : lc (am_up h k i v) a d w = lc h a d w := lc_eq d w (am_up_ne h i v n)
theorem lc_up_d (h : am_M) (k : Nat) {d d' w i : Nat} (v : Int) (hi : i < w) (n : d' ≠ d) : lc (am_up h k (w * d + i) v) k d' w = lc h k d' w := by
  funext j
  by_cases hj : j < w
  · rw [lc_at _ _ _ hj, lc_at _ _ _ hj, am_up_i]
    intro e
    rcases Nat.lt_or_gt_of_ne n with q | q
    · have : w * d' + w ≤ w * d := by rw [← Nat.mul_succ]; exact Nat.mul_le_mul_left w q
      omega
    · have : w * d + w ≤ w * d' := by rw [← Nat.mul_succ]; exact Nat.mul_le_mul_left w q
      omega
  · simp [lc, hj]
theorem lc_up_s (h : am_M) (k d : Nat) {w i : Nat} (v : Int) (hi : i < w) : lc (am_up h k (w * d + i) v) k d w = up1 (lc h k d w) i v := by
  funext j
  unfold up1
  by_cases hj : j < w
  · rw [lc_at _ _ _ hj, lc_at _ _ _ hj]
    by_cases e : j = i
    · subst e; rw [if_pos rfl, am_up_s]
    · rw [if_neg e, am_up_i]
      omega
  · have : j ≠ i := by omega
    simp [lc, hj, this]
/-! scores: points, games, sets (each by side), games of the sets that were won, games in all, changes of ends -/
abbrev tl_T : Type := (Nat → Int) × (Nat → Int) × (Nat → Int) × (Nat → Int) × Int × Int
def tl_0 : tl_T := (fun _ => 0, fun _ => 0, fun _ => 0, fun _ => 0, 0, 0)
abbrev tl_tie (t : tl_T) : Prop := t.2.1 0 = 6 ∧ t.2.1 1 = 6
/-- a point is won by side w: the game isn't won by it -/
abbrev tl_on (w : Nat) (t : tl_T) : Prop := t.1 w + 1 < (if tl_tie t then 7 else 4) ∨ t.1 w + 1 - t.1 (1 - w) < 2
/-- .. the set isn't -/
abbrev tl_son (w : Nat) (t : tl_T) : Prop := ¬ tl_tie t ∧ (t.2.1 w + 1 < 6 ∨ t.2.1 w + 1 - t.2.1 (1 - w) < 2)
def tl_ch (t : tl_T) : Int := if (t.2.1 0 + t.2.1 1 + 1) % 2 = 1 then t.2.2.2.2.2 + 1 else t.2.2.2.2.2
def tl_step (w : Nat) (t : tl_T) : tl_T :=
  if tl_on w t then (up1 t.1 w (t.1 w + 1), t.2.1, t.2.2.1, t.2.2.2.1, t.2.2.2.2.1, if tl_tie t ∧ (t.1 0 + t.1 1 + 1) % 6 = 0 then t.2.2.2.2.2 + 1 else t.2.2.2.2.2)
  else if tl_son w t then (fun _ => 0, up1 t.2.1 w (t.2.1 w + 1), t.2.2.1, t.2.2.2.1, t.2.2.2.2.1 + 1, tl_ch t)
  else (fun _ => 0, fun _ => 0, up1 t.2.2.1 w (t.2.2.1 w + 1), up1 (up1 t.2.2.2.1 (2 * (t.2.2.1 0 + t.2.2.1 1)).toNat (up1 t.2.1 w (t.2.1 w + 1) 0)) (2 * (t.2.2.1 0 + t.2.2.1 1) + 1).toNat (up1 t.2.1 w (t.2.1 w + 1) 1), t.2.2.2.2.1 + 1, tl_ch t)
/-- what a point tells: 0, 1 a game, 2 a set, 3 the match -/
def tl_told (L : Int) (w : Nat) (t : tl_T) : Int := if tl_on w t then 0 else if tl_son w t then 1 else if t.2.2.1 w + 1 = L then 3 else 2
def tl_at (p : Nat → Int) : Nat → tl_T
  | 0 => tl_0
  | k + 1 => tl_step (p k).toNat (tl_at p k)
def tl_won (L : Int) (t : tl_T) : Prop := t.2.2.1 0 = L ∨ t.2.2.1 1 = L
/-! a draw: size, length, how many entrants, seeds, laid; entrants, places, who came, how ended, winners, real ends, points, their bits; of the reference: places, points, ended by, won by -/
/-- match j of a laid draw of n places -/
def RM (n : Nat) (L : Int) (P H W R Q B mQ mE mW : Nat → Int) (j : Nat) : Prop :=
  (W j = 0 ∨ W j = 1) ∧ (H j = 0 ∨ H j = 3 ∨ H j = 4 ∨ H j = 5 ∨ H j = 6) ∧
  (H j = 6 ↔ j < n / 2 ∧ (P (2 * j) = -1 ∨ P (2 * j + 1) = -1)) ∧ (H j = 6 → W j = (if P (2 * j) = -1 then 1 else 0) ∧ Q j = 0) ∧
  ((H j = 3 ∨ H j = 4 ∨ H j = 5 ∨ 0 < Q j) → n / 2 ≤ j → H (2 * (j - n / 2)) ≠ 0 ∧ H (2 * (j - n / 2) + 1) ≠ 0) ∧
  (H j = 0 → R j = -1) ∧ (mE j = if H j = 4 ∨ H j = 5 then H j else 0) ∧ (H j = 4 ∨ H j = 5 → mW j = W j) ∧
  (∀ i : Nat, (i : Int) < Q j → (mQ (300 * j + i) = 0 ∨ mQ (300 * j + i) = 1) ∧ am_and (am_ushr (B (10 * j + i / 32)) ((i % 32 : Nat) : Int)) 1 = mQ (300 * j + i)) ∧
  (∀ k : Nat, (k : Int) < Q j → ¬ tl_won L (tl_at (fun i => mQ (300 * j + i)) k)) ∧
  (H j = 3 → (tl_at (fun i => mQ (300 * j + i)) (Q j).toNat).2.2.1 (W j).toNat = L) ∧ (H j ≠ 3 → ¬ tl_won L (tl_at (fun i => mQ (300 * j + i)) (Q j).toNat))
def RLd (n : Nat) (L : Int) (P H W R Q B mP mQ mE mW : Nat → Int) : Prop :=
  (∀ i, i < n → -1 ≤ P i ∧ P i < 40 ∧ mP i = P i) ∧ (∀ q, q < n / 2 → ¬ (P (2 * q) = -1 ∧ P (2 * q + 1) = -1)) ∧ ∀ j, j < n - 1 → RM n L P H W R Q B mQ mE mW j
def RD (S L N Sd Ld : Int) (E P C H W R Q B mP mQ mE mW : Nat → Int) : Prop :=
  (S = 0 ∨ S = 4 ∨ S = 8 ∨ S = 16) ∧ (S ≠ 0 → L = 2 ∨ L = 3) ∧ (0 ≤ N ∧ N ≤ S) ∧ (0 ≤ Sd ∧ Sd ≤ 4) ∧ (Ld = 0 ∨ Ld = 1) ∧
  (∀ i : Nat, (i : Int) < N → 0 ≤ E i ∧ E i < 40 ∧ C (E i).toNat = 1) ∧ (∀ i j : Nat, (i : Int) < N → (j : Int) < N → E i = E j → i = j) ∧ (∀ p, p < 40 → C p = 0 ∨ C p = 1) ∧
  (∀ j, j < 16 → (0 ≤ Q j ∧ Q j ≤ 300) ∧ -1 ≤ R j ∧ R j ≤ 100000) ∧
  (Ld = 0 → S ≠ 0 → ∀ j, j < 16 → H j = 0 ∧ W j = 0 ∧ R j = -1 ∧ Q j = 0 ∧ mE j = 0) ∧
  (Ld = 1 → S ≠ 0 ∧ RLd S.toNat L P H W R Q B mP mQ mE mW)
def RDx (hx hm : am_M) (d : Nat) : Prop := RD (hx 1 d) (hx 2 d) (hx 3 d) (hx 4 d) (hx 5 d) (lc hx 6 d 16) (lc hx 7 d 16) (lc hx 8 d 40) (lc hx 20 d 16) (lc hx 21 d 16) (lc hx 10 d 16) (lc hx 9 d 16) (lc hx 22 d 160) (lc hm 7 d 16) (lc hm 23 d 4800) (lc hm 24 d 16) (lc hm 25 d 16)
/-- the day: covered, lit, opens, how many slots, slots, rules, rain -/
def DY (f12 f13 f15 f16 f17 f18 f19 : Nat → Int) : Prop :=
  (∀ c, c < 6 → (f12 c = 0 ∨ f12 c = 1) ∧ (f13 c = 0 ∨ f13 c = 1) ∧ (0 ≤ f15 c ∧ f15 c ≤ 100000) ∧ 0 ≤ f16 c ∧ f16 c ≤ 6) ∧
  (∀ i, i < 36 → -1000 ≤ f17 i ∧ f17 i < 64 ∧ (0 ≤ f17 i → f17 i % 16 ≠ 15)) ∧
  (∀ r, r < 3 → 0 ≤ f18 r ∧ f18 r ≤ 2000) ∧ (0 ≤ f18 3 ∧ f18 3 ≤ 100000) ∧ (f19 0 = 0 ∨ f19 0 = 1)
def Rel (hx hm : am_M) : Prop := (∀ k, k < 20 → k ≠ 7 → hx k = hm k) ∧ DY (hx 12) (hx 13) (hx 15) (hx 16) (hx 17) (hx 18) (hx 19) ∧ ∀ d, d < 4 → RDx hx hm d
/-- kept but for what is made anew in each call -/
def sc (h h' : am_M) : Prop := ∀ k, k < 30 ∨ (42 ≤ k ∧ k ≠ 51) → h' k = h k
/-- what the relation rests on -/
def sc0 (h h' : am_M) : Prop := ∀ k, k < 30 → h' k = h k
theorem sc.rf (h : am_M) : sc h h := fun _ _ => rfl
theorem sc.tr {h h1 h2 : am_M} (a : sc h h1) (b : sc h1 h2) : sc h h2 := fun k hk => (b k hk).trans (a k hk)
theorem sc.up (h : am_M) {k : Nat} (i : Nat) (v : Int) (hk : 30 ≤ k ∧ (k < 42 ∨ k = 51)) : sc h (am_up h k i v) := fun a ha => am_up_ne h i v (by omega)
theorem sc.upt {h h1 : am_M} (a : sc h h1) {k : Nat} (i : Nat) (v : Int) (hk : 30 ≤ k ∧ (k < 42 ∨ k = 51)) : sc h (am_up h1 k i v) := a.tr (sc.up h1 i v hk)
theorem RDx.of {hx hm hx' hm' : am_M} {d : Nat} (ex : ∀ k, k < 30 → k ≠ 0 → (k < 11 ∨ 20 ≤ k) → hx' k = hx k) (em : ∀ k, k < 30 → (k = 7 ∨ 20 ≤ k) → hm' k = hm k) (h : RDx hx hm d) : RDx hx' hm' d := by
  unfold RDx at *
  rw [ex 1 (by omega) (by omega) (by omega), ex 2 (by omega) (by omega) (by omega), ex 3 (by omega) (by omega) (by omega), ex 4 (by omega) (by omega) (by omega), ex 5 (by omega) (by omega) (by omega), lc_eq d 16 (ex 6 (by omega) (by omega) (by omega)), lc_eq d 16 (ex 7 (by omega) (by omega) (by omega)), lc_eq d 40 (ex 8 (by omega) (by omega) (by omega)), lc_eq d 16 (ex 20 (by omega) (by omega) (by omega)), lc_eq d 16 (ex 21 (by omega) (by omega) (by omega)), lc_eq d 16 (ex 10 (by omega) (by omega) (by omega)), lc_eq d 16 (ex 9 (by omega) (by omega) (by omega)), lc_eq d 160 (ex 22 (by omega) (by omega) (by omega)), lc_eq d 16 (em 7 (by omega) (by omega)), lc_eq d 4800 (em 23 (by omega) (by omega)), lc_eq d 16 (em 24 (by omega) (by omega)), lc_eq d 16 (em 25 (by omega) (by omega))]
  exact h
theorem sc.z {h h' : am_M} (a : sc h h') : sc0 h h' := fun k hk => a k (Or.inl hk)
theorem Rel.sc0 {hx hm hx' hm' : am_M} (r : Rel hx hm) (a : sc0 hx hx') (b : sc0 hm hm') : Rel hx' hm' := by
  obtain ⟨r1, r2, r3⟩ := r
  refine ⟨fun k hk h7 => by rw [a k (by omega), b k (by omega)]; exact r1 k hk h7, ?_, fun d hd => (r3 d hd).of (fun k hk _ _ => a k hk) (fun k hk _ => b k hk)⟩
  rw [a 12 (by omega), a 13 (by omega), a 15 (by omega), a 16 (by omega), a 17 (by omega), a 18 (by omega), a 19 (by omega)]
  exact r2
theorem Rel.sc {hx hm hx' hm' : am_M} (r : Rel hx hm) (a : sc hx hx') (b : sc hm hm') : Rel hx' hm' := r.sc0 a.z b.z
def Same (ox om : Option (Int × am_M)) : Prop := ∃ v hx' hm', ox = some (v, hx') ∧ om = some (v, hm') ∧ Rel hx' hm'
theorem Same.mk {v w : Int} {hx hm : am_M} (e : v = w) (r : Rel hx hm) : Same (some (v, hx)) (some (w, hm)) := ⟨v, hx, hm, rfl, by rw [e], r⟩
/-- equal kinds stay equal behind the same write -/
theorem up_eq {hx hm : am_M} (r : ∀ k, k < 20 → k ≠ 7 → hx k = hm k) (k i : Nat) (v : Int) : ∀ a, a < 20 → a ≠ 7 → am_up hx k i v a = am_up hm k i v a := by
  intro a ha h7
  funext j
  unfold am_up
  rw [r a ha h7]
/-- a write that is of no draw: lands, worths, the day -/
theorem Rel.day {hx hm : am_M} (r : Rel hx hm) (k i : Nat) (v : Int) (hk : k = 0 ∨ (11 ≤ k ∧ k < 20)) (hd : DY (am_up hx k i v 12) (am_up hx k i v 13) (am_up hx k i v 15) (am_up hx k i v 16) (am_up hx k i v 17) (am_up hx k i v 18) (am_up hx k i v 19)) : Rel (am_up hx k i v) (am_up hm k i v) :=
  ⟨up_eq r.1 k i v, hd, fun d hdd => (r.2.2 d hdd).of (fun a _ h0 h1 => am_up_ne hx i v (by omega)) (fun a _ h1 => am_up_ne hm i v (by omega))⟩
