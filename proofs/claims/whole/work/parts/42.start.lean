/-! ===== the start: the two worlds as they are made ===== -/
def h00 : am_M := fun k i => if k = 15 then 600 else if k = 18 then (if i = 0 then 60 else if i = 1 then 90 else if i = 2 then 150 else 1300) else 0
def wXf (a : Nat → ClassId) (u : Nat → Nat) : va_W := [(u 0, .inr (8, [.ref (u 1), .ref (u 7), .ref (u 59), .ref (u 64), .ref (u 70), .ref (u 77)])), (u 1, .inr (0, [.ref (u 2), .ref (u 3), .ref (u 4), .ref (u 5), .ref (u 6), .int (Int32.ofInt 0)])), (u 2, .inl (a 0, 40, .inl (zr 40))), (u 3, .inl (a 3, 4, .inr (.inr (.inr (.inr (fun j => [u 10, u 11, u 12, u 13][j]?)))))), (u 4, .inl (a 4, 6, .inr (.inr (.inr (.inr (fun j => [u 46, u 47, u 48, u 49, u 50, u 51][j]?)))))), (u 5, .inl (a 0, 4, .inl rl4)), (u 6, .inl (a 0, 64, .inl (zr 64))), (u 10, .inr (2, [.ref (u 14), .ref (u 18), .ref (u 22), .ref (u 26), .ref (u 30), .ref (u 34), .ref (u 38), .ref (u 42), .int (Int32.ofInt 0), .int (Int32.ofInt 0), .int (Int32.ofInt 0), .int (Int32.ofInt 0), .int (Int32.ofInt 0)])), (u 14, .inl (a 0, 16, .inl (zr 16))), (u 18, .inl (a 0, 16, .inl (zr 16))), (u 22, .inl (a 1, 40, .inl (zr 40))), (u 26, .inl (a 0, 16, .inl (zr 16))), (u 30, .inl (a 0, 16, .inl (zr 16))), (u 34, .inl (a 0, 16, .inl (zr 16))), (u 38, .inl (a 0, 16, .inl (zr 16))), (u 42, .inl (a 0, 160, .inl (zr 160))), (u 11, .inr (2, [.ref (u 15), .ref (u 19), .ref (u 23), .ref (u 27), .ref (u 31), .ref (u 35), .ref (u 39), .ref (u 43), .int (Int32.ofInt 0), .int (Int32.ofInt 0), .int (Int32.ofInt 0), .int (Int32.ofInt 0), .int (Int32.ofInt 0)])), (u 15, .inl (a 0, 16, .inl (zr 16))), (u 19, .inl (a 0, 16, .inl (zr 16))), (u 23, .inl (a 1, 40, .inl (zr 40))), (u 27, .inl (a 0, 16, .inl (zr 16))), (u 31, .inl (a 0, 16, .inl (zr 16))), (u 35, .inl (a 0, 16, .inl (zr 16))), (u 39, .inl (a 0, 16, .inl (zr 16))), (u 43, .inl (a 0, 160, .inl (zr 160))), (u 12, .inr (2, [.ref (u 16), .ref (u 20), .ref (u 24), .ref (u 28), .ref (u 32), .ref (u 36), .ref (u 40), .ref (u 44), .int (Int32.ofInt 0), .int (Int32.ofInt 0), .int (Int32.ofInt 0), .int (Int32.ofInt 0), .int (Int32.ofInt 0)])), (u 16, .inl (a 0, 16, .inl (zr 16))), (u 20, .inl (a 0, 16, .inl (zr 16))), (u 24, .inl (a 1, 40, .inl (zr 40))), (u 28, .inl (a 0, 16, .inl (zr 16))), (u 32, .inl (a 0, 16, .inl (zr 16))), (u 36, .inl (a 0, 16, .inl (zr 16))), (u 40, .inl (a 0, 16, .inl (zr 16))), (u 44, .inl (a 0, 160, .inl (zr 160))), (u 13, .inr (2, [.ref (u 17), .ref (u 21), .ref (u 25), .ref (u 29), .ref (u 33), .ref (u 37), .ref (u 41), .ref (u 45), .int (Int32.ofInt 0), .int (Int32.ofInt 0), .int (Int32.ofInt 0), .int (Int32.ofInt 0), .int (Int32.ofInt 0)])), (u 17, .inl (a 0, 16, .inl (zr 16))), (u 21, .inl (a 0, 16, .inl (zr 16))), (u 25, .inl (a 1, 40, .inl (zr 40))), (u 29, .inl (a 0, 16, .inl (zr 16))), (u 33, .inl (a 0, 16, .inl (zr 16))), (u 37, .inl (a 0, 16, .inl (zr 16))), (u 41, .inl (a 0, 16, .inl (zr 16))), (u 45, .inl (a 0, 160, .inl (zr 160))), (u 46, .inr (1, [.ref (u 52), .int (Int32.ofInt 0), .int (Int32.ofInt 0), .int (Int32.ofInt 0), .int (Int32.ofInt 0), .int (Int32.ofInt 600)])), (u 52, .inl (a 0, 6, .inl (zr 6))), (u 47, .inr (1, [.ref (u 53), .int (Int32.ofInt 0), .int (Int32.ofInt 0), .int (Int32.ofInt 0), .int (Int32.ofInt 0), .int (Int32.ofInt 600)])), (u 53, .inl (a 0, 6, .inl (zr 6))), (u 48, .inr (1, [.ref (u 54), .int (Int32.ofInt 0), .int (Int32.ofInt 0), .int (Int32.ofInt 0), .int (Int32.ofInt 0), .int (Int32.ofInt 600)])), (u 54, .inl (a 0, 6, .inl (zr 6))), (u 49, .inr (1, [.ref (u 55), .int (Int32.ofInt 0), .int (Int32.ofInt 0), .int (Int32.ofInt 0), .int (Int32.ofInt 0), .int (Int32.ofInt 600)])), (u 55, .inl (a 0, 6, .inl (zr 6))), (u 50, .inr (1, [.ref (u 56), .int (Int32.ofInt 0), .int (Int32.ofInt 0), .int (Int32.ofInt 0), .int (Int32.ofInt 0), .int (Int32.ofInt 600)])), (u 56, .inl (a 0, 6, .inl (zr 6))), (u 51, .inr (1, [.ref (u 57), .int (Int32.ofInt 0), .int (Int32.ofInt 0), .int (Int32.ofInt 0), .int (Int32.ofInt 0), .int (Int32.ofInt 600)])), (u 57, .inl (a 0, 6, .inl (zr 6))), (u 7, .inr (4, [.ref (u 8), .ref (u 9), .ref (u 58), .int (Int32.ofInt 0)])), (u 8, .inl (a 0, 16, .inl (zr 16))), (u 9, .inl (a 0, 4, .inl (zr 4))), (u 58, .inl (a 1, 16, .inl (zr 16))), (u 59, .inr (7, [.ref (u 60), .ref (u 61), .ref (u 62), .ref (u 63), .int (Int32.ofInt 0), .int (Int32.ofInt 0), .int (Int32.ofInt 0)])), (u 60, .inl (a 0, 2, .inl (zr 2))), (u 61, .inl (a 0, 2, .inl (zr 2))), (u 62, .inl (a 0, 2, .inl (zr 2))), (u 63, .inl (a 0, 10, .inl (zr 10))), (u 64, .inr (6, [.ref (u 67)])), (u 67, .inl (a 0, 40, .inl (zr 40))), (u 70, .inr (5, [.ref (u 71), .ref (u 72), .ref (u 73), .ref (u 74), .ref (u 75), .ref (u 76), .ref (u 65)])), (u 71, .inl (a 0, 36, .inl (zr 36))), (u 72, .inl (a 0, 36, .inl (zr 36))), (u 73, .inl (a 0, 36, .inl (zr 36))), (u 74, .inl (a 0, 36, .inl (zr 36))), (u 75, .inl (a 0, 36, .inl (zr 36))), (u 76, .inl (a 0, 6, .inl (zr 6))), (u 65, .inr (6, [.ref (u 68)])), (u 68, .inl (a 0, 40, .inl (zr 40))), (u 77, .inr (3, [.ref (u 78), .ref (u 79), .ref (u 80), .ref (u 66)])), (u 78, .inl (a 1, 64, .inl (zr 64))), (u 79, .inl (a 1, 40, .inl (zr 40))), (u 80, .inl (a 1, 6, .inl (zr 6))), (u 66, .inr (6, [.ref (u 69)])), (u 69, .inl (a 0, 40, .inl (zr 40)))]
def wXe (a : Nat → ClassId) (u : Nat → Nat) : va_W := [(u 0, .inr (8, [.ref (u 1), .ref (u 7), .ref (u 59), .ref (u 64), .ref (u 70), .ref (u 77)])), (u 1, .inr (0, [.ref (u 2), .ref (u 3), .ref (u 4), .ref (u 5), .ref (u 6), .int (Int32.ofInt 0)])), (u 2, .inl (a 0, 40, .inl (zr 40))), (u 3, .inl (a 3, 4, .inr (.inr (.inr (.inr (fun j => [u 10, u 11, u 12, u 13][j]?)))))), (u 4, .inl (a 4, 6, .inr (.inr (.inr (.inr (fun j => [u 46, u 47, u 48, u 49, u 50, u 51][j]?)))))), (u 5, .inl (a 0, 4, .inl rl4)), (u 6, .inl (a 0, 64, .inl (zr 64))), (u 7, .inr (4, [.ref (u 8), .ref (u 9), .ref (u 58), .int (Int32.ofInt 0)])), (u 8, .inl (a 0, 16, .inl (zr 16))), (u 9, .inl (a 0, 4, .inl (zr 4))), (u 10, .inr (2, [.ref (u 14), .ref (u 18), .ref (u 22), .ref (u 26), .ref (u 30), .ref (u 34), .ref (u 38), .ref (u 42), .int (Int32.ofInt 0), .int (Int32.ofInt 0), .int (Int32.ofInt 0), .int (Int32.ofInt 0), .int (Int32.ofInt 0)])), (u 11, .inr (2, [.ref (u 15), .ref (u 19), .ref (u 23), .ref (u 27), .ref (u 31), .ref (u 35), .ref (u 39), .ref (u 43), .int (Int32.ofInt 0), .int (Int32.ofInt 0), .int (Int32.ofInt 0), .int (Int32.ofInt 0), .int (Int32.ofInt 0)])), (u 12, .inr (2, [.ref (u 16), .ref (u 20), .ref (u 24), .ref (u 28), .ref (u 32), .ref (u 36), .ref (u 40), .ref (u 44), .int (Int32.ofInt 0), .int (Int32.ofInt 0), .int (Int32.ofInt 0), .int (Int32.ofInt 0), .int (Int32.ofInt 0)])), (u 13, .inr (2, [.ref (u 17), .ref (u 21), .ref (u 25), .ref (u 29), .ref (u 33), .ref (u 37), .ref (u 41), .ref (u 45), .int (Int32.ofInt 0), .int (Int32.ofInt 0), .int (Int32.ofInt 0), .int (Int32.ofInt 0), .int (Int32.ofInt 0)])), (u 14, .inl (a 0, 16, .inl (zr 16))), (u 15, .inl (a 0, 16, .inl (zr 16))), (u 16, .inl (a 0, 16, .inl (zr 16))), (u 17, .inl (a 0, 16, .inl (zr 16))), (u 18, .inl (a 0, 16, .inl (zr 16))), (u 19, .inl (a 0, 16, .inl (zr 16))), (u 20, .inl (a 0, 16, .inl (zr 16))), (u 21, .inl (a 0, 16, .inl (zr 16))), (u 22, .inl (a 1, 40, .inl (zr 40))), (u 23, .inl (a 1, 40, .inl (zr 40))), (u 24, .inl (a 1, 40, .inl (zr 40))), (u 25, .inl (a 1, 40, .inl (zr 40))), (u 26, .inl (a 0, 16, .inl (zr 16))), (u 27, .inl (a 0, 16, .inl (zr 16))), (u 28, .inl (a 0, 16, .inl (zr 16))), (u 29, .inl (a 0, 16, .inl (zr 16))), (u 30, .inl (a 0, 16, .inl (zr 16))), (u 31, .inl (a 0, 16, .inl (zr 16))), (u 32, .inl (a 0, 16, .inl (zr 16))), (u 33, .inl (a 0, 16, .inl (zr 16))), (u 34, .inl (a 0, 16, .inl (zr 16))), (u 35, .inl (a 0, 16, .inl (zr 16))), (u 36, .inl (a 0, 16, .inl (zr 16))), (u 37, .inl (a 0, 16, .inl (zr 16))), (u 38, .inl (a 0, 16, .inl (zr 16))), (u 39, .inl (a 0, 16, .inl (zr 16))), (u 40, .inl (a 0, 16, .inl (zr 16))), (u 41, .inl (a 0, 16, .inl (zr 16))), (u 42, .inl (a 0, 160, .inl (zr 160))), (u 43, .inl (a 0, 160, .inl (zr 160))), (u 44, .inl (a 0, 160, .inl (zr 160))), (u 45, .inl (a 0, 160, .inl (zr 160))), (u 46, .inr (1, [.ref (u 52), .int (Int32.ofInt 0), .int (Int32.ofInt 0), .int (Int32.ofInt 0), .int (Int32.ofInt 0), .int (Int32.ofInt 600)])), (u 47, .inr (1, [.ref (u 53), .int (Int32.ofInt 0), .int (Int32.ofInt 0), .int (Int32.ofInt 0), .int (Int32.ofInt 0), .int (Int32.ofInt 600)])), (u 48, .inr (1, [.ref (u 54), .int (Int32.ofInt 0), .int (Int32.ofInt 0), .int (Int32.ofInt 0), .int (Int32.ofInt 0), .int (Int32.ofInt 600)])), (u 49, .inr (1, [.ref (u 55), .int (Int32.ofInt 0), .int (Int32.ofInt 0), .int (Int32.ofInt 0), .int (Int32.ofInt 0), .int (Int32.ofInt 600)])), (u 50, .inr (1, [.ref (u 56), .int (Int32.ofInt 0), .int (Int32.ofInt 0), .int (Int32.ofInt 0), .int (Int32.ofInt 0), .int (Int32.ofInt 600)])), (u 51, .inr (1, [.ref (u 57), .int (Int32.ofInt 0), .int (Int32.ofInt 0), .int (Int32.ofInt 0), .int (Int32.ofInt 0), .int (Int32.ofInt 600)])), (u 52, .inl (a 0, 6, .inl (zr 6))), (u 53, .inl (a 0, 6, .inl (zr 6))), (u 54, .inl (a 0, 6, .inl (zr 6))), (u 55, .inl (a 0, 6, .inl (zr 6))), (u 56, .inl (a 0, 6, .inl (zr 6))), (u 57, .inl (a 0, 6, .inl (zr 6))), (u 58, .inl (a 1, 16, .inl (zr 16))), (u 59, .inr (7, [.ref (u 60), .ref (u 61), .ref (u 62), .ref (u 63), .int (Int32.ofInt 0), .int (Int32.ofInt 0), .int (Int32.ofInt 0)])), (u 60, .inl (a 0, 2, .inl (zr 2))), (u 61, .inl (a 0, 2, .inl (zr 2))), (u 62, .inl (a 0, 2, .inl (zr 2))), (u 63, .inl (a 0, 10, .inl (zr 10))), (u 64, .inr (6, [.ref (u 67)])), (u 65, .inr (6, [.ref (u 68)])), (u 66, .inr (6, [.ref (u 69)])), (u 67, .inl (a 0, 40, .inl (zr 40))), (u 68, .inl (a 0, 40, .inl (zr 40))), (u 69, .inl (a 0, 40, .inl (zr 40))), (u 70, .inr (5, [.ref (u 71), .ref (u 72), .ref (u 73), .ref (u 74), .ref (u 75), .ref (u 76), .ref (u 65)])), (u 71, .inl (a 0, 36, .inl (zr 36))), (u 72, .inl (a 0, 36, .inl (zr 36))), (u 73, .inl (a 0, 36, .inl (zr 36))), (u 74, .inl (a 0, 36, .inl (zr 36))), (u 75, .inl (a 0, 36, .inl (zr 36))), (u 76, .inl (a 0, 6, .inl (zr 6))), (u 77, .inr (3, [.ref (u 78), .ref (u 79), .ref (u 80), .ref (u 66)])), (u 78, .inl (a 1, 64, .inl (zr 64))), (u 79, .inl (a 1, 40, .inl (zr 40))), (u 80, .inl (a 1, 6, .inl (zr 6)))]
def wXp : List Nat := [0, 1, 2, 3, 4, 5, 6, 55, 56, 57, 7, 16, 25, 34, 8, 17, 26, 35, 9, 18, 27, 36, 10, 19, 28, 37, 11, 20, 29, 38, 12, 21, 30, 39, 13, 22, 31, 40, 14, 23, 32, 41, 15, 24, 33, 42, 43, 45, 47, 49, 51, 53, 44, 46, 48, 50, 52, 54, 58, 59, 60, 61, 62, 63, 64, 73, 79, 65, 74, 80, 66, 67, 68, 69, 70, 71, 72, 75, 76, 77, 78]
set_option maxHeartbeats 4000000 in
set_option maxRecDepth 100000 in
theorem wXf_eq (a : Nat → ClassId) (u : Nat → Nat) : wX8 a u = wXf a u := rfl
set_option maxHeartbeats 4000000 in
set_option maxRecDepth 100000 in
theorem wXe_map (a : Nat → ClassId) (u : Nat → Nat) : wXp.map (fun i => (wXf a u)[i]?) = (wXe a u).map some := rfl
theorem wXp_nd : va_nd wXp = true := by decide +kernel
theorem rl4_e : rl4 = fun j => if j < 4 then Int32.ofInt (h00 18 (0 + j)) else 0 := by
  funext j
  unfold rl4 h00
  rw [Nat.zero_add]
  rfl
theorem ls4_e (u : Nat → Nat) : (fun j => [u 10, u 11, u 12, u 13][j]?) = fun j => if j < 4 then some (u (10 + j)) else none := by
  funext j
  match j with
  | 0 => rfl
  | 1 => rfl
  | 2 => rfl
  | 3 => rfl
  | j + 4 =>
    rw [if_neg (by omega)]
    rfl
theorem ls6_e (u : Nat → Nat) : (fun j => [u 46, u 47, u 48, u 49, u 50, u 51][j]?) = fun j => if j < 6 then some (u (46 + j)) else none := by
  funext j
  match j with
  | 0 => rfl
  | 1 => rfl
  | 2 => rfl
  | 3 => rfl
  | 4 => rfl
  | 5 => rfl
  | j + 6 =>
    rw [if_neg (by omega)]
    rfl
set_option maxHeartbeats 4000000 in
set_option maxRecDepth 100000 in
theorem wXe_at (D : va_G) (a : Nat → ClassId) (u : Nat → Nat) : ∀ i, i < 81 → (wXe a u)[i]? = some (u i, am_e (EX D a u) h00 (am_sh (EX D a u) i)) := by
  intro i hi
  match i, hi with
  | 0, _ => exact rfl
  | 1, _ => exact rfl
  | 2, _ => exact rfl
  | 3, _ =>
    have e : (wXe a u)[3]? = some (u 3, Sum.inl (a 3, 4, Sum.inr (Sum.inr (Sum.inr (Sum.inr (fun j => [u 10, u 11, u 12, u 13][j]?)))))) := rfl
    rw [e, ls4_e]
    rfl
  | 4, _ =>
    have e : (wXe a u)[4]? = some (u 4, Sum.inl (a 4, 6, Sum.inr (Sum.inr (Sum.inr (Sum.inr (fun j => [u 46, u 47, u 48, u 49, u 50, u 51][j]?)))))) := rfl
    rw [e, ls6_e]
    rfl
  | 5, _ =>
    have e : (wXe a u)[5]? = some (u 5, Sum.inl (a 0, 4, Sum.inl rl4)) := rfl
    rw [e, rl4_e]
    rfl
  | 6, _ => exact rfl
  | 7, _ => exact rfl
  | 8, _ => exact rfl
  | 9, _ => exact rfl
  | 10, _ => exact rfl
  | 11, _ => exact rfl
  | 12, _ => exact rfl
  | 13, _ => exact rfl
  | 14, _ => exact rfl
  | 15, _ => exact rfl
  | 16, _ => exact rfl
  | 17, _ => exact rfl
  | 18, _ => exact rfl
  | 19, _ => exact rfl
  | 20, _ => exact rfl
  | 21, _ => exact rfl
  | 22, _ => exact rfl
  | 23, _ => exact rfl
  | 24, _ => exact rfl
  | 25, _ => exact rfl
  | 26, _ => exact rfl
  | 27, _ => exact rfl
  | 28, _ => exact rfl
  | 29, _ => exact rfl
  | 30, _ => exact rfl
  | 31, _ => exact rfl
  | 32, _ => exact rfl
  | 33, _ => exact rfl
  | 34, _ => exact rfl
  | 35, _ => exact rfl
  | 36, _ => exact rfl
  | 37, _ => exact rfl
  | 38, _ => exact rfl
  | 39, _ => exact rfl
  | 40, _ => exact rfl
  | 41, _ => exact rfl
  | 42, _ => exact rfl
  | 43, _ => exact rfl
  | 44, _ => exact rfl
  | 45, _ => exact rfl
  | 46, _ => exact rfl
  | 47, _ => exact rfl
  | 48, _ => exact rfl
  | 49, _ => exact rfl
  | 50, _ => exact rfl
  | 51, _ => exact rfl
  | 52, _ => exact rfl
  | 53, _ => exact rfl
  | 54, _ => exact rfl
  | 55, _ => exact rfl
  | 56, _ => exact rfl
  | 57, _ => exact rfl
  | 58, _ => exact rfl
  | 59, _ => exact rfl
  | 60, _ => exact rfl
  | 61, _ => exact rfl
  | 62, _ => exact rfl
  | 63, _ => exact rfl
  | 64, _ => exact rfl
  | 65, _ => exact rfl
  | 66, _ => exact rfl
  | 67, _ => exact rfl
  | 68, _ => exact rfl
  | 69, _ => exact rfl
  | 70, _ => exact rfl
  | 71, _ => exact rfl
  | 72, _ => exact rfl
  | 73, _ => exact rfl
  | 74, _ => exact rfl
  | 75, _ => exact rfl
  | 76, _ => exact rfl
  | 77, _ => exact rfl
  | 78, _ => exact rfl
  | 79, _ => exact rfl
  | 80, _ => exact rfl
  | j + 81, h => exact absurd h (by omega)
set_option maxHeartbeats 4000000 in
set_option maxRecDepth 100000 in
theorem wX9_at (D : va_G) (a : Nat → ClassId) (v : Nat → Nat) : ∀ i, i < 34 → (wX9 a v)[i]? = some (v i, am_e (EM D a v) h00 (am_sh (EM D a v) i)) := by
  intro i hi
  match i, hi with
  | 0, _ => exact rfl
  | 1, _ => exact rfl
  | 2, _ => exact rfl
  | 3, _ => exact rfl
  | 4, _ => exact rfl
  | 5, _ => exact rfl
  | 6, _ => exact rfl
  | 7, _ => exact rfl
  | 8, _ => exact rfl
  | 9, _ => exact rfl
  | 10, _ => exact rfl
  | 11, _ => exact rfl
  | 12, _ => exact rfl
  | 13, _ => exact rfl
  | 14, _ => exact rfl
  | 15, _ => exact rfl
  | 16, _ => exact rfl
  | 17, _ => exact rfl
  | 18, _ => exact rfl
  | 19, _ => exact rfl
  | 20, _ => exact rfl
  | 21, _ => exact rfl
  | 22, _ =>
    have e : (wX9 a v)[22]? = some (v 22, Sum.inl (a 0, 4, Sum.inl rl4)) := rfl
    rw [e, rl4_e]
    rfl
  | 23, _ => exact rfl
  | 24, _ => exact rfl
  | 25, _ => exact rfl
  | 26, _ => exact rfl
  | 27, _ => exact rfl
  | 28, _ => exact rfl
  | 29, _ => exact rfl
  | 30, _ => exact rfl
  | 31, _ => exact rfl
  | 32, _ => exact rfl
  | 33, _ => exact rfl
  | j + 34, h => exact absurd h (by omega)
theorem ws_of {E : am_E} {w : va_W} (hl : w.length = am_N E) (h : ∀ i, i < am_N E → w[i]? = some (am_ad E i, am_e E h00 (am_sh E i))) : w = am_ws E h00 := by
  apply List.ext_getElem?
  intro i
  by_cases c : i < am_N E
  · rw [h i c, am_ws_at E h00 c]
  · rw [List.getElem?_eq_none (by omega), List.getElem?_eq_none (by rw [am_ws_len]; omega)]
theorem wXe_ws (D : va_G) (a : Nat → ClassId) (u : Nat → Nat) : wXe a u = am_ws (EX D a u) h00 := ws_of rfl (wXe_at D a u)
theorem wX9_ws (D : va_G) (a : Nat → ClassId) (v : Nat → Nat) : wX9 a v = am_ws (EM D a v) h00 := ws_of rfl (wX9_at D a v)
theorem ap_of {E : am_E} {A : Nat → Prop} {h : am_M} (hD : va_D A (am_ws E h)) : am_ap E := fun i j hi hj e => hD.1 i j _ _ (am_ws_at E h hi) (am_ws_at E h hj) e
/-- both worlds, of what the constructors have made -/
theorem worlds {D : va_G} {a : Nat → ClassId} {u v : Nat → Nat} {A : Nat → Prop} {H : Heap} (hP : va_P D vwCl (([] ++ wX8 a u) ++ wX9 a v) H) (hD : va_D A (([] ++ wX8 a u) ++ wX9 a v)) : va_P D vwCl (am_ws (EX D a u) h00) H ∧ va_P D vwCl (am_ws (EM D a v) h00) H ∧ am_ap (EX D a u) ∧ am_ap (EM D a v) ∧ (∀ i, i < 81 → A (u i)) ∧ (∀ i, i < 34 → A (v i)) ∧ ∀ i j, i < 81 → j < 34 → u i ≠ v j := by
  rw [List.nil_append, wXf_eq, wX9_ws D a v] at hP hD
  have pl : va_P D vwCl (wXf a u) H := fun k q hk => hP k q (by rw [List.getElem?_append_left (List.getElem?_eq_some_iff.mp hk).1]; exact hk)
  have dl : va_D A (wXf a u) := ⟨fun i j p q hi hj => hD.1 i j p q (by rw [List.getElem?_append_left (List.getElem?_eq_some_iff.mp hi).1]; exact hi) (by rw [List.getElem?_append_left (List.getElem?_eq_some_iff.mp hj).1]; exact hj), fun k q hk => hD.2 k q (by rw [List.getElem?_append_left (List.getElem?_eq_some_iff.mp hk).1]; exact hk)⟩
  have inr : ∀ (k : Nat) (q : Nat × va_E), (am_ws (EM D a v) h00)[k]? = some q → (wXf a u ++ am_ws (EM D a v) h00)[(wXf a u).length + k]? = some q := fun k q hk => by
    rw [List.getElem?_append_right (Nat.le_add_right _ _), Nat.add_sub_cancel_left]; exact hk
  have pr : va_P D vwCl (am_ws (EM D a v) h00) H := fun k q hk => hP _ q (inr k q hk)
  have dr : va_D A (am_ws (EM D a v) h00) := ⟨fun i j p q hi hj e => by
    have := hD.1 _ _ p q (inr i p hi) (inr j q hj) e
    omega, fun k q hk => hD.2 _ q (inr k q hk)⟩
  have pe : va_P D vwCl (wXe a u) H := by
    have hs := wXe_map a u
    refine pl.sub wXp ?_
    have e1 : wXp.filterMap (fun i => (wXf a u)[i]?) = (wXp.map (fun i => (wXf a u)[i]?)).filterMap id := by
      rw [List.filterMap_map]; rfl
    rw [e1, hs, List.filterMap_map]
    simp
  have de : va_D A (wXe a u) := dl.sub wXp wXp_nd (wXe_map a u)
  rw [wXe_ws D a u] at pe de
  refine ⟨pe, pr, ap_of de, ap_of dr, fun i hi => de.2 i _ (am_ws_at (EX D a u) h00 hi), fun i hi => dr.2 i _ (am_ws_at (EM D a v) h00 hi), fun i j hi hj e => ?_⟩
  have hm : ∃ k : Nat, (wXf a u)[k]? = some (u i, am_e (EX D a u) h00 (am_sh (EX D a u) i)) := by
    have h1 := wXe_at D a u i hi
    have h2 : (wXp.map (fun i => (wXf a u)[i]?))[i]? = some (some (u i, am_e (EX D a u) h00 (am_sh (EX D a u) i))) := by
      rw [wXe_map, List.getElem?_map, h1]; rfl
    rw [List.getElem?_map] at h2
    cases hp : wXp[i]? with
    | none => rw [hp] at h2; cases h2
    | some k => rw [hp] at h2; exact ⟨k, Option.some.inj h2⟩
  obtain ⟨k, hk⟩ := hm
  have hkl := (List.getElem?_eq_some_iff.mp hk).1
  have := hD.1 k _ _ _ (by rw [List.getElem?_append_left hkl]; exact hk) (inr j _ (am_ws_at (EM D a v) h00 hj)) e
  omega
/-! the start is a good one -/
theorem h00_in (k i : Nat) : am_in (h00 k i) := by
  unfold h00 am_in
  (repeat' split) <;> omega
theorem h00_rel : Rel h00 h00 := by
  have z : ∀ k i, k ≠ 15 → k ≠ 18 → h00 k i = 0 := fun k i h1 h2 => by unfold h00; rw [if_neg h1, if_neg h2]
  have lz : ∀ k d w i, k ≠ 15 → k ≠ 18 → lc h00 k d w i = 0 := fun k d w i h1 h2 => by
    unfold lc
    split
    · exact z k _ h1 h2
    · rfl
  have h18 : ∀ i, 0 ≤ h00 18 i ∧ h00 18 i ≤ 1300 := fun i => by
    unfold h00
    (repeat' split) <;> omega
  have h15 : ∀ i, h00 15 i = 600 := fun i => rfl
  refine ⟨fun _ _ _ => rfl, ⟨fun c hc => ?_, fun i hi => ?_, fun r hr => ?_, ?_, ?_⟩, fun d hd => ?_⟩
  · rw [z 12 c (by decide) (by decide), z 13 c (by decide) (by decide), z 16 c (by decide) (by decide), h15 c]
    decide
  · rw [z 17 i (by decide) (by decide)]
    decide
  · have := h18 r
    omega
  · have := h18 3
    omega
  · rw [z 19 0 (by decide) (by decide)]
    exact Or.inl rfl
  · unfold RDx
    rw [z 1 d (by decide) (by decide), z 3 d (by decide) (by decide), z 4 d (by decide) (by decide), z 5 d (by decide) (by decide)]
    refine ⟨Or.inl rfl, fun e => absurd rfl e, ⟨by decide, by decide⟩, ⟨by decide, by decide⟩, Or.inl rfl, fun i hi => ?_, fun i j hi => ?_, fun p hp => ?_, fun j hj => ?_, fun _ e => absurd rfl e, fun e => absurd e (by decide)⟩
    · omega
    · omega
    · rw [lz 8 d 40 p (by decide) (by decide)]; exact Or.inl rfl
    · rw [lz 9 d 16 j (by decide) (by decide), lz 10 d 16 j (by decide) (by decide)]
      decide
