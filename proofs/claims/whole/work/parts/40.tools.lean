/-! tools for the small machine's equations -/
theorem jz_bI {x : Int} {M : ja_M} {k : Int → ja_M → Option ja_R} : ja_bI (some (some (.inl x), M)) k = k x M := rfl
theorem jz_bV {M : ja_M} {k : ja_M → Option ja_R} : ja_bV (some (none, M)) k = k M := rfl
theorem jz_bL {x : Int} {M : ja_M} {k : Int → ja_M → Option ja_R} : ja_bL (some (some (.inr (.inl x)), M)) k = k x M := rfl
theorem jz_bR {x : Nat} {M : ja_M} {k : Nat → ja_M → Option ja_R} : ja_bR (some (some (.inr (.inr x)), M)) k = k x M := rfl
theorem jz_is0 {x : Int} (h : x ≠ 0) : ja_is0 x = false := by
  rcases x with n | n
  · cases n with
    | zero => exact absurd rfl h
    | succ n => rfl
  · rfl
theorem jz_isB {x : Int} (h : x = 0 ∨ x = 1) : ja_isB x = true := by rcases h with rfl | rfl <;> rfl
theorem jz_up {M : ja_M} {c i d j : Nat} {v : Int} : ja_up M c i v d j = if d = c ∧ j = i then v else M d j := rfl
theorem jz_ald {M : ja_M} {c : Nat} {j : Int} {k : Int → Option ja_R} {n : Nat} (hc : ja_kd c = (100, n)) (h1 : 1 ≤ c) (h2 : c ≤ 171) (h3 : 0 ≤ j) (h4 : j < (n : Int)) : ja_ald true M c j k = k (M c j.toNat) := by
  have e : ja_okc true M c = true := by
    unfold ja_okc
    have a : Nat.ble 1 c = true := Nat.ble_eq_true_of_le h1
    have b : Nat.ble c ja_N0 = true := Nat.ble_eq_true_of_le h2
    rw [a, b]
    rfl
  unfold ja_ald
  rw [hc, e]
  show (if 0 ≤ j ∧ j < (n : Int) then k (M c j.toNat) else none) = _
  rw [if_pos ⟨h3, h4⟩]
theorem jz_ast {M : ja_M} {c : Nat} {j v : Int} {k : ja_M → Option ja_R} {n : Nat} (hc : ja_kd c = (100, n)) (h1 : 1 ≤ c) (h2 : c ≤ 171) (h3 : 0 ≤ j) (h4 : j < (n : Int)) : ja_ast true M c j v k = k (ja_up M c j.toNat v) := by
  have e : ja_okc true M c = true := by
    unfold ja_okc
    have a : Nat.ble 1 c = true := Nat.ble_eq_true_of_le h1
    have b : Nat.ble c ja_N0 = true := Nat.ble_eq_true_of_le h2
    rw [a, b]
    rfl
  unfold ja_ast
  rw [hc, e]
  show (if 0 ≤ j ∧ j < (n : Int) then k (ja_up M c j.toNat v) else none) = _
  rw [if_pos ⟨h3, h4⟩]
/-- a byte of a number -/
def jz_by (a s : Int) : Int := ja_and (ja_ush a s) 255
theorem jz_and255 (x : Int) : 0 ≤ ja_and x 255 ∧ ja_and x 255 ≤ 255 := by
  unfold ja_and
  have h : (Int32.ofInt x &&& Int32.ofInt 255).toBitVec.toNat ≤ 255 := by
    rw [Int32.toBitVec_and, BitVec.toNat_and]
    exact Nat.and_le_right
  have e : (Int32.ofInt x &&& Int32.ofInt 255).toInt = ((Int32.ofInt x &&& Int32.ofInt 255).toBitVec.toNat : Int) := by
    rw [← Int32.toInt_toBitVec, BitVec.toInt_eq_toNat_of_lt (by omega)]
  rw [e]
  omega
