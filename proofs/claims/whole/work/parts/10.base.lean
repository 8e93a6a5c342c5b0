/-! THE SMALL MACHINE'S STATES IN THE REAL HEAP -/
abbrev jb_G : Type := va_G × (ClassId × ClassId × ClassId × ClassId) × Nat
def jb_A (G : jb_G) : Nat → Prop := fun q => G.2.2 ≤ q
def jb_tys (G : jb_G) : List (ClassId × FieldType) := [(G.2.1.1, .int), (G.2.1.2.1, .boolean), (G.2.1.2.2.1, .long), (G.2.1.2.2.2, .array .int)]
def jb_v (ad : Nat → Nat) : ja_V → Value
  | .inl x => .int (Int32.ofInt x)
  | .inr (.inl x) => .long (Int64.ofInt x)
  | .inr (.inr 0) => .null
  | .inr (.inr (k + 1)) => .ref (ad (k + 1))
def ja_ft (k i : Nat) : Nat := ja_nth (ja_nth ja_ftL k []) i 9
def jb_f (φ : Bool) (ad : Nat → Nat) (M : ja_M) (c i : Nat) : Nat → Value
  | 0 => .int (Int32.ofInt (M c i))
  | 1 => .int (Int32.ofInt (M c i))
  | 2 => .long (Int64.ofInt (M c i))
  | _ => jb_v ad (jr (ja_rd φ M c i))
def jb_fs (φ : Bool) (ad : Nat → Nat) (M : ja_M) (c : Nat) : List Value := (List.range (ja_kd c).2).map (fun i => jb_f φ ad M c i (ja_ft (ja_kd c).1 i))
def jb_e (G : jb_G) (φ : Bool) (ad : Nat → Nat) (M : ja_M) (c : Nat) : va_E :=
  if (ja_kd c).1 = 100 then .inl (G.2.1.1, (ja_kd c).2, .inl (fun i => Int32.ofInt (M c i)))
  else if (ja_kd c).1 = 101 then .inl (G.2.1.2.1, (ja_kd c).2, .inl (fun i => Int32.ofInt (M c i)))
  else if (ja_kd c).1 = 102 then .inl (G.2.1.2.2.1, (ja_kd c).2, .inr (.inl (fun i => Int64.ofInt (M c i))))
  else if (ja_kd c).1 = 103 then .inl (G.2.1.2.2.2, (ja_kd c).2, .inr (.inr (.inr (.inr (fun i => if i < (ja_kd c).2 then some (ad (c + 1 + i)) else none)))))
  else .inr ((ja_kd c).1, jb_fs φ ad M c)
def jb_ws (G : jb_G) (φ : Bool) (ad : Nat → Nat) (M : ja_M) : va_W := (List.range (M 0 0).toNat).map (fun k => (ad (k + 1), jb_e G φ ad M (k + 1)))
theorem jb_at {G : jb_G} {φ : Bool} {ad : Nat → Nat} {M : ja_M} {c : Nat} (h1 : 1 ≤ c) (h2 : c ≤ (M 0 0).toNat) : (jb_ws G φ ad M)[c - 1]? = some (ad c, jb_e G φ ad M c) := by
  unfold jb_ws
  rw [List.getElem?_map, List.getElem?_range (by omega)]
  show some (ad (c - 1 + 1), jb_e G φ ad M (c - 1 + 1)) = _
  rw [show c - 1 + 1 = c by omega]
theorem jb_up_ne {M : ja_M} {c i d j : Nat} {v : Int} (h : d ≠ c) : ja_up M c i v d j = M d j := if_neg (fun q => h q.1)
theorem jb_up_nej {M : ja_M} {c i d j : Nat} {v : Int} (h : j ≠ i) : ja_up M c i v d j = M d j := if_neg (fun q => h q.2)
theorem jb_up_eq {M : ja_M} {c i : Nat} {v : Int} : ja_up M c i v c i = v := if_pos ⟨rfl, rfl⟩
/-- cells look only at their own row -/
theorem jb_e_congr {G : jb_G} {φ : Bool} {ad ad' : Nat → Nat} {M M' : ja_M} {c : Nat} (h : ∀ i, M' c i = M c i) (hr : ∀ i, ja_rd φ M c i ≠ 0 → ad' (ja_rd φ M c i) = ad (ja_rd φ M c i)) (h3r : (ja_kd c).1 = 103 → ∀ i, i < (ja_kd c).2 → ad' (c + 1 + i) = ad (c + 1 + i)) : jb_e G φ ad' M' c = jb_e G φ ad M c := by
  have hf : (fun i => Int32.ofInt (M' c i)) = (fun i => Int32.ofInt (M c i)) := by funext i; rw [h]
  have hl : (fun i => Int64.ofInt (M' c i)) = (fun i => Int64.ofInt (M c i)) := by funext i; rw [h]
  have hrd : ∀ i, ja_rd φ M' c i = ja_rd φ M c i := fun i => by unfold ja_rd; rw [h]
  unfold jb_e
  rw [hf, hl]
  by_cases h3 : (ja_kd c).1 = 103
  · have : (fun i => if i < (ja_kd c).2 then some (ad' (c + 1 + i)) else none) = (fun i => if i < (ja_kd c).2 then some (ad (c + 1 + i)) else none) := by
      funext i
      by_cases hi : i < (ja_kd c).2
      · rw [if_pos hi, if_pos hi, h3r h3 i hi]
      · rw [if_neg hi, if_neg hi]
    rw [this]
    simp [h3]
  · have hfs : jb_fs φ ad' M' c = jb_fs φ ad M c := by
      unfold jb_fs
      apply List.map_congr_left
      intro i _
      unfold jb_f
      split
      · rw [h]
      · rw [h]
      · rw [h]
      · rw [hrd]
        have hx := hr i
        generalize ja_rd φ M c i = k at hx
        cases k with
        | zero => rfl
        | succ k =>
          show Value.ref (ad' (k + 1)) = Value.ref (ad (k + 1))
          rw [hx (by omega)]
    rw [hfs]
    simp [h3]
theorem jb_e_same {G : jb_G} {φ : Bool} {ad : Nat → Nat} {M M' : ja_M} {c : Nat} (h : ∀ i, M' c i = M c i) : jb_e G φ ad M' c = jb_e G φ ad M c := jb_e_congr h (fun _ _ => rfl) (fun _ _ _ => rfl)
/-- one cell's row written: one place of the world set -/
theorem jb_set {G : jb_G} {φ : Bool} {ad : Nat → Nat} {M M' : ja_M} {c : Nat} (h1 : 1 ≤ c) (h2 : c ≤ (M 0 0).toNat) (h0 : (M' 0 0).toNat = (M 0 0).toNat) (hne : ∀ d i, d ≠ c → d ≠ 0 → M' d i = M d i) {e : va_E} (he : jb_e G φ ad M' c = e) : (jb_ws G φ ad M).set (c - 1) (ad c, e) = jb_ws G φ ad M' := by
  unfold jb_ws
  rw [h0]
  apply List.ext_getElem?
  intro k
  rw [List.getElem?_set]
  simp only [List.length_map, List.length_range]
  by_cases hk : c - 1 = k
  · subst hk
    rw [if_pos rfl, if_pos (by omega), List.getElem?_map, List.getElem?_range (by omega)]
    show _ = some (ad (c - 1 + 1), jb_e G φ ad M' (c - 1 + 1))
    rw [show c - 1 + 1 = c by omega, he]
  · rw [if_neg hk, List.getElem?_map, List.getElem?_map]
    by_cases hl : k < (M 0 0).toNat
    · rw [List.getElem?_range hl]
      show some (ad (k + 1), jb_e G φ ad M (k + 1)) = some (ad (k + 1), jb_e G φ ad M' (k + 1))
      rw [jb_e_same (M := M) (M' := M') (fun i => hne (k + 1) i (by omega) (by omega))]
    · rw [List.getElem?_eq_none (by rw [List.length_range]; omega)]
      rfl
/-! numbers -/
def jb_ok : ja_V → Prop
  | .inl x => -2147483648 ≤ x ∧ x < 2147483648
  | .inr (.inl x) => -9223372036854775808 ≤ x ∧ x < 9223372036854775808
  | .inr (.inr _) => True
theorem jn_i {x : Int} (h : -2147483648 ≤ x ∧ x < 2147483648) : (Int32.ofInt x).toInt = x := Int32.toInt_ofInt_of_le (by omega) (by omega)
theorem jn_l {x : Int} (h : -9223372036854775808 ≤ x ∧ x < 9223372036854775808) : (Int64.ofInt x).toInt = x := Int64.toInt_ofInt_of_le (by omega) (by omega)
theorem jn_back (z : Int32) : Int32.ofInt z.toInt = z := by simp
theorem jn_backl (z : Int64) : Int64.ofInt z.toInt = z := by simp
theorem jn_r (z : Int32) : -2147483648 ≤ z.toInt ∧ z.toInt < 2147483648 := ⟨by have := z.le_toInt; omega, by have := z.toInt_lt; omega⟩
theorem jn_rl (z : Int64) : -9223372036854775808 ≤ z.toInt ∧ z.toInt < 9223372036854775808 := ⟨by have := z.le_toInt; omega, by have := z.toInt_lt; omega⟩
theorem ja_w_eq (x : Int) : ja_w x = (x + 2147483648) % 4294967296 - 2147483648 := by
  unfold ja_w Int.bmod
  simp only []
  split <;> omega
theorem ja_W_eq (x : Int) : ja_W x = (x + 9223372036854775808) % 18446744073709551616 - 9223372036854775808 := by
  unfold ja_W Int.bmod
  simp only []
  split <;> omega
theorem ja_w_id {x : Int} (h1 : -2147483648 ≤ x) (h2 : x < 2147483648) : ja_w x = x := by rw [ja_w_eq]; omega
theorem ja_W_id {x : Int} (h1 : -9223372036854775808 ≤ x) (h2 : x < 9223372036854775808) : ja_W x = x := by rw [ja_W_eq]; omega
theorem jn_w (x : Int) : -2147483648 ≤ ja_w x ∧ ja_w x < 2147483648 := by rw [ja_w_eq]; omega
theorem jn_W (x : Int) : -9223372036854775808 ≤ ja_W x ∧ ja_W x < 9223372036854775808 := by rw [ja_W_eq]; omega
theorem jn_add (x y : Int) : Int32.ofInt (ja_w (x + y)) = Int32.ofInt x + Int32.ofInt y := by
  apply Int32.toInt_inj.mp
  rw [jn_i (jn_w _), Int32.toInt_add, Int32.toInt_ofInt, Int32.toInt_ofInt]
  unfold ja_w
  simp [Int32.size]
theorem jn_sub (x y : Int) : Int32.ofInt (ja_w (x - y)) = Int32.ofInt x - Int32.ofInt y := by
  apply Int32.toInt_inj.mp
  rw [jn_i (jn_w _), Int32.toInt_sub, Int32.toInt_ofInt, Int32.toInt_ofInt]
  unfold ja_w
  simp [Int32.size]
theorem jn_mul (x y : Int) : Int32.ofInt (ja_w (x * y)) = Int32.ofInt x * Int32.ofInt y := by
  apply Int32.toInt_inj.mp
  rw [jn_i (jn_w _), Int32.toInt_mul, Int32.toInt_ofInt, Int32.toInt_ofInt]
  unfold ja_w
  simp [Int32.size]
theorem jn_neg (x : Int) : Int32.ofInt (ja_w (-x)) = -Int32.ofInt x := by
  apply Int32.toInt_inj.mp
  rw [jn_i (jn_w _), Int32.toInt_neg, Int32.toInt_ofInt]
  unfold ja_w
  simp [Int32.size]
theorem jn_ladd (x y : Int) : Int64.ofInt (ja_W (x + y)) = Int64.ofInt x + Int64.ofInt y := by
  apply Int64.toInt_inj.mp
  rw [jn_l (jn_W _), Int64.toInt_add, Int64.toInt_ofInt, Int64.toInt_ofInt]
  unfold ja_W
  simp [Int64.size]
theorem jn_lsub (x y : Int) : Int64.ofInt (ja_W (x - y)) = Int64.ofInt x - Int64.ofInt y := by
  apply Int64.toInt_inj.mp
  rw [jn_l (jn_W _), Int64.toInt_sub, Int64.toInt_ofInt, Int64.toInt_ofInt]
  unfold ja_W
  simp [Int64.size]
theorem jn_lmul (x y : Int) : Int64.ofInt (ja_W (x * y)) = Int64.ofInt x * Int64.ofInt y := by
  apply Int64.toInt_inj.mp
  rw [jn_l (jn_W _), Int64.toInt_mul, Int64.toInt_ofInt, Int64.toInt_ofInt]
  unfold ja_W
  simp [Int64.size]
theorem jn_div {x y : Int} (hx : -2147483648 ≤ x ∧ x < 2147483648) (hy : -2147483648 ≤ y ∧ y < 2147483648) : Int32.ofInt (ja_w (x.tdiv y)) = Int32.ofInt x / Int32.ofInt y := by
  apply Int32.toInt_inj.mp
  rw [jn_i (jn_w _), Int32.toInt_div, jn_i hx, jn_i hy]
  unfold ja_w
  rfl
theorem jn_mod {x y : Int} (hx : -2147483648 ≤ x ∧ x < 2147483648) (hy : -2147483648 ≤ y ∧ y < 2147483648) : (Int32.ofInt x % Int32.ofInt y).toInt = x.tmod y := by
  rw [Int32.toInt_mod, jn_i hx, jn_i hy]
theorem jn_ldiv {x y : Int} (hx : -9223372036854775808 ≤ x ∧ x < 9223372036854775808) (hy : -9223372036854775808 ≤ y ∧ y < 9223372036854775808) : Int64.ofInt (ja_W (x.tdiv y)) = Int64.ofInt x / Int64.ofInt y := by
  apply Int64.toInt_inj.mp
  rw [jn_l (jn_W _), Int64.toInt_div, jn_l hx, jn_l hy]
  unfold ja_W
  rfl
theorem jn_lmod {x y : Int} (hx : -9223372036854775808 ≤ x ∧ x < 9223372036854775808) (hy : -9223372036854775808 ≤ y ∧ y < 9223372036854775808) : (Int64.ofInt x % Int64.ofInt y).toInt = x.tmod y := by
  rw [Int64.toInt_mod, jn_l hx, jn_l hy]
theorem jn_i2l {x : Int} (hx : -2147483648 ≤ x ∧ x < 2147483648) : (Int32.ofInt x).toInt64 = Int64.ofInt x := by
  apply Int64.toInt_inj.mp
  rw [Int32.toInt_toInt64, jn_i hx, jn_l (by omega)]
theorem jn_l2i {x : Int} (hx : -9223372036854775808 ≤ x ∧ x < 9223372036854775808) : (Int64.ofInt x).toInt32 = Int32.ofInt (ja_w x) := by
  apply Int32.toInt_inj.mp
  rw [Int64.toInt_toInt32, jn_l hx, jn_i (jn_w _)]
  rfl
theorem jn_eq {x y : Int} (hx : -2147483648 ≤ x ∧ x < 2147483648) (hy : -2147483648 ≤ y ∧ y < 2147483648) : Int32.ofInt x = Int32.ofInt y ↔ x = y := by
  constructor
  · intro h
    have := congrArg Int32.toInt h
    rwa [jn_i hx, jn_i hy] at this
  · intro h
    rw [h]
theorem jn_lt {x y : Int} (hx : -2147483648 ≤ x ∧ x < 2147483648) (hy : -2147483648 ≤ y ∧ y < 2147483648) : Int32.ofInt x < Int32.ofInt y ↔ x < y := by
  rw [Int32.lt_iff_toInt_lt, jn_i hx, jn_i hy]
theorem jn_le {x y : Int} (hx : -2147483648 ≤ x ∧ x < 2147483648) (hy : -2147483648 ≤ y ∧ y < 2147483648) : Int32.ofInt x ≤ Int32.ofInt y ↔ x ≤ y := by
  rw [Int32.le_iff_toInt_le, jn_i hx, jn_i hy]
theorem jn_nat (n : Nat) : Int32.ofInt (n : Int) = nI n := by
  unfold nI
  rfl
theorem jn_in {j : Int} {n : Nat} (h0 : 0 ≤ j) (h1 : j < (n : Int)) (h2 : n ≤ 5000) : vp_in (Int32.ofInt j) n ∧ (Int32.ofInt j).toNatClampNeg = j.toNat := by
  obtain ⟨k, rfl⟩ : ∃ k : Nat, j = (k : Int) := ⟨j.toNat, by omega⟩
  rw [jn_nat, Int.toNat_natCast]
  exact ⟨nI_in (by omega) (by omega), nI_clamp (by omega)⟩
