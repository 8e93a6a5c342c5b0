/-! the state that class and reference share -/
/-- the tapes -/
def jT (M : ja_M) : Prop := (0 ≤ M 2 1 ∧ M 2 1 ≤ 160) ∧ M 137 2 = M 2 1 ∧ ∀ j : Nat, (j : Int) < M 2 1 → M 138 j = M 3 j ∧ (1 ≤ M 3 j ∧ M 3 j ≤ 255)
/-- the hunt: none, or so many places and bands -/
def jH (M : ja_M) : Prop := ((M 11 3 = 0 ∧ M 11 4 = 0 ∧ M 11 5 = 0 ∧ M 11 6 = 0) ∨ ((2 ≤ M 11 3 ∧ M 11 3 ≤ 6) ∧ (1 ≤ M 11 4 ∧ M 11 4 ≤ 6) ∧ (0 ≤ M 11 5 ∧ M 11 5 ≤ 9) ∧ (0 ≤ M 11 6 ∧ M 11 6 ≤ 30))) ∧ (M 137 27 = M 11 3 ∧ M 137 28 = M 11 4 ∧ M 137 29 = M 11 5 ∧ M 137 30 = M 11 6) ∧
  (∀ j : Nat, (j : Int) < M 11 3 → (M 151 j = M 12 j ∧ M 152 j = M 13 j) ∧ (0 ≤ M 12 j ∧ M 12 j ≤ 20) ∧ (0 ≤ M 13 j ∧ M 13 j ≤ 20)) ∧ (∀ j : Nat, (j : Int) < M 11 4 → M 153 j = M 14 j ∧ (1 ≤ M 14 j ∧ M 14 j ≤ 5))
/-- the orders and starts -/
def jO (M : ja_M) : Prop := (∀ b t : Nat, (b : Int) < M 11 4 → (t : Int) < M 11 3 → M 154 (6 * b + t) = M (26 + b) t ∧ (0 ≤ M (26 + b) t ∧ M (26 + b) t < M 11 3)) ∧ (∀ b t u : Nat, (b : Int) < M 11 4 → (t : Int) < M 11 3 → (u : Int) < M 11 3 → M (26 + b) t = M (26 + b) u → t = u) ∧
  ∀ b : Nat, (b : Int) < M 11 4 → M 155 b = M 32 b ∧ (0 ≤ M 32 b ∧ M 32 b ≤ 99)
theorem jH.b {M : ja_M} (h : jH M) : (0 ≤ M 11 3 ∧ M 11 3 ≤ 6) ∧ (0 ≤ M 11 4 ∧ M 11 4 ≤ 6) ∧ (0 ≤ M 11 5 ∧ M 11 5 ≤ 9) ∧ (0 ≤ M 11 6 ∧ M 11 6 ≤ 30) ∧ (M 11 3 = 0 ↔ M 11 4 = 0) := by
  have := h.1
  omega
theorem jz_b0 {α : Type} {p : Prop} [Decidable p] {x y : α} : (if (if p then (1 : Int) else 0) = 0 then x else y) = if p then y else x := by
  by_cases h : p
  · rw [if_pos h, if_pos h, if_neg (by decide)]
  · rw [if_neg h, if_neg h, if_pos rfl]
/-! what the class's hunt answers -/
theorem js_hasBand (dd : Nat) (a : Int) (M : ja_M) : ja_x true (dd + 1) 67 [jr 11, ji a] M = some (some (ji (if 0 ≤ a ∧ a < M 11 4 then 1 else 0)), M) := by
  rw [f_Hunt_hasBand_11]
  by_cases h1 : a < 0
  · rw [if_pos h1, if_neg (by omega)]
  by_cases h2 : a < M 11 4
  · rw [if_neg h1, if_pos h2, if_pos (by omega)]
  · rw [if_neg h1, if_neg h2, if_neg (by omega)]
theorem js_hasPlace (dd : Nat) (a : Int) (M : ja_M) : ja_x true (dd + 1) 71 [jr 11, ji a] M = some (some (ji (if 0 ≤ a ∧ a < M 11 3 then 1 else 0)), M) := by
  rw [f_Hunt_hasPlace_11]
  by_cases h1 : a < 0
  · rw [if_pos h1, if_neg (by omega)]
  by_cases h2 : a < M 11 3
  · rw [if_neg h1, if_pos h2, if_pos (by omega)]
  · rw [if_neg h1, if_neg h2, if_neg (by omega)]
theorem js_isBand (dd : Nat) (a : Int) {M : ja_M} (h : jH M) : ja_x true (dd + 2) 240 [jr 137, ji a] M = some (some (ji (if 0 ≤ a ∧ a < M 11 4 then 1 else 0)), M) := by
  have hb := h.b
  rw [f_R_isBand, h.2.1.2.1, ja_w_id (by omega) (by omega), js_in, jz_bI, jz_isB (by split <;> omega)]
  by_cases q : 0 ≤ a ∧ a < M 11 4
  · rw [if_pos q, if_pos (by omega)]
    rfl
  · rw [if_neg q, if_neg (by omega)]
    rfl
theorem js_isPlace (dd : Nat) (a : Int) {M : ja_M} (h : jH M) : ja_x true (dd + 2) 238 [jr 137, ji a] M = some (some (ji (if 0 ≤ a ∧ a < M 11 3 then 1 else 0)), M) := by
  have hb := h.b
  rw [f_R_isPlace, h.2.1.1, ja_w_id (by omega) (by omega), js_in, jz_bI, jz_isB (by split <;> omega)]
  by_cases q : 0 ≤ a ∧ a < M 11 3
  · rw [if_pos q, if_pos (by omega)]
    rfl
  · rw [if_neg q, if_neg (by omega)]
    rfl
/-- the place of a band in a turn, where there are such ones -/
def jv_of (M : ja_M) (b t : Int) : Int := M (26 + b.toNat) t.toNat
theorem jk_row26 : ∀ b, b < 6 → ja_kd (26 + b) = (100, 6) := by decide
theorem js_placeOf (dd : Nat) (b t : Int) {M : ja_M} (h : jH M) : ja_x true (dd + 2) 70 [jr 24, ji b, ji t] M = some (some (ji (if (0 ≤ b ∧ b < M 11 4) ∧ (0 ≤ t ∧ t < M 11 3) then jv_of M b t else -1)), M) := by
  have hb := h.b
  rw [f_Table_placeOf, js_hasBand, jz_bI]
  by_cases h1 : 0 ≤ b ∧ b < M 11 4
  · rw [if_pos h1, if_neg (by decide), js_hasPlace, jz_bI]
    by_cases h2 : 0 ≤ t ∧ t < M 11 3
    · rw [if_pos h2, if_neg (by decide), if_pos (by omega), jz_ald (n := 6) (by rw [show 25 + 1 + b.toNat = 26 + b.toNat by omega]; exact jk_row26 _ (by omega)) (by omega) (by omega) h2.1 (by omega), if_pos ⟨h1, h2⟩]
      rfl
    · rw [if_neg h2, if_pos rfl, if_neg (fun q => h2 q.2)]
  · rw [if_neg h1, if_pos rfl, if_neg (fun q => h1 q.1)]
theorem js_R_of (dd : Nat) {b t : Int} {M : ja_M} (h : jH M) (ho : jO M) (h1 : 0 ≤ b ∧ b < M 11 4) (h2 : 0 ≤ t ∧ t < M 11 3) : ja_x true (dd + 1) 242 [jr 137, ji b, ji t] M = some (some (ji (jv_of M b t)), M) := by
  have hb := h.b
  rw [f_R_of, ja_w_id (x := 6 * b) (by omega) (by omega), ja_w_id (x := 6 * b + t) (by omega) (by omega), if_pos (by omega)]
  have e := (ho.1 b.toNat t.toNat (by omega) (by omega)).1
  rw [show (6 * b + t).toNat = 6 * b.toNat + t.toNat by omega, e]
  rfl
/-- at (promise 12) -/
def jv_at (M : ja_M) (b t : Int) : Int := if (0 ≤ b ∧ b < M 11 4) ∧ (0 ≤ t ∧ t < M 11 3) then jv_of M b t else -1
theorem js_X_at (dd : Nat) (b t : Int) {M : ja_M} (h : jH M) : ja_x true (dd + 3) 86 [jr 1, ji b, ji t] M = some (some (ji (jv_at M b t)), M) := by
  rw [f_X_at, js_placeOf (dd) b t h, jz_bI]
  rfl
theorem js_R_at (dd : Nat) (b t : Int) {M : ja_M} (h : jH M) (ho : jO M) : ja_x true (dd + 3) 252 [jr 137, ji b, ji t] M = some (some (ji (jv_at M b t)), M) := by
  have hb := h.b
  rw [f_R_at, js_isBand dd b h, jz_bI]
  unfold jv_at
  rw [jz_b0]
  by_cases h1 : 0 ≤ b ∧ b < M 11 4
  · rw [if_pos h1, h.2.1.1, ja_w_id (by omega) (by omega), js_in, jz_bI, jz_b0]
    by_cases h2 : 0 ≤ t ∧ t < M 11 3
    · rw [if_pos (show 0 ≤ t ∧ t ≤ M 11 3 - 1 by omega), js_R_of (dd + 1) h ho h1 h2, jz_bI, if_pos ⟨h1, h2⟩]
    · rw [if_neg (show ¬ (0 ≤ t ∧ t ≤ M 11 3 - 1) by omega), if_neg (fun q => h2 q.2)]
  · rw [if_neg h1, if_neg (fun q => h1 q.1)]
