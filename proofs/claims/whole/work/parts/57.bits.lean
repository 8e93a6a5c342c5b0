/-! bits of small numbers -/
theorem jx_nat {x : Int32} {n : Nat} (h : x.toBitVec.toNat = n) (hn : n < 2147483648) : x.toInt = (n : Int) := by
  show x.toBitVec.toInt = (n : Int)
  rw [BitVec.toInt_eq_toNat_of_lt (by omega), h]
theorem jx_ofn {a : Nat} (h : a < 4294967296) : (Int32.ofInt (a : Int)).toBitVec.toNat = a := by
  show (BitVec.ofInt 32 (a : Int)).toNat = a
  rw [BitVec.toNat_ofInt]
  omega
theorem jx_and {a b : Nat} (ha : a < 2147483648) (hb : b < 2147483648) : ja_and (a : Int) (b : Int) = ((a &&& b : Nat) : Int) := by
  unfold ja_and
  apply jx_nat
  · rw [Int32.toBitVec_and, BitVec.toNat_and, jx_ofn (by omega), jx_ofn (by omega)]
  · exact Nat.lt_of_le_of_lt Nat.and_le_left ha
theorem jx_or {a b : Nat} (ha : a < 2147483648) (hb : b < 2147483648) : ja_or (a : Int) (b : Int) = ((a ||| b : Nat) : Int) := by
  unfold ja_or
  apply jx_nat
  · rw [Int32.toBitVec_or, BitVec.toNat_or, jx_ofn (by omega), jx_ofn (by omega)]
  · exact Nat.or_lt_two_pow (n := 31) ha hb
theorem jx_xor {a b : Nat} (ha : a < 2147483648) (hb : b < 2147483648) : ja_xor (a : Int) (b : Int) = ((a ^^^ b : Nat) : Int) := by
  unfold ja_xor
  apply jx_nat
  · rw [Int32.toBitVec_xor, BitVec.toNat_xor, jx_ofn (by omega), jx_ofn (by omega)]
  · exact Nat.xor_lt_two_pow (n := 31) ha hb
/-- a without what is in b -/
theorem jx_less {a b : Nat} (ha : a < 2147483648) (hb : b < 2147483648) : ja_and (a : Int) (ja_xor (b : Int) (-1)) = ((a &&& (b ^^^ 4294967295) : Nat) : Int) := by
  unfold ja_and ja_xor
  rw [jn_back]
  apply jx_nat
  · have e : (Int32.ofInt (-1)).toBitVec.toNat = 4294967295 := by decide
    rw [Int32.toBitVec_and, BitVec.toNat_and, Int32.toBitVec_xor, BitVec.toNat_xor, jx_ofn (by omega), jx_ofn (by omega), e]
  · exact Nat.lt_of_le_of_lt Nat.and_le_left ha
theorem jx_ones (i : Nat) : Nat.testBit 4294967295 i = decide (i < 32) := Nat.testBit_two_pow_sub_one 32 i
theorem jx_shl1a : ∀ k : Nat, k < 31 → ja_shl 1 (k : Int) = ((2 ^ k : Nat) : Int) := by decide +kernel
theorem jx_shl1 {k : Nat} (hk : k < 31) : ja_shl 1 (k : Int) = ((2 ^ k : Nat) : Int) := jx_shl1a k hk
theorem jx_shl1i {k : Int} (h0 : 0 ≤ k) (hk : k < 31) : ja_shl 1 k = ((2 ^ k.toNat : Nat) : Int) := by
  obtain ⟨n, rfl⟩ := Int.eq_ofNat_of_zero_le h0
  exact jx_shl1 (by omega)
theorem jx_p2 {k : Nat} (hk : k < 31) : 2 ^ k < 2147483648 := by
  have : 2 ^ k ≤ 2 ^ 30 := Nat.pow_le_pow_right (by decide) (by omega)
  omega
theorem jx_shra (A : Int32) : ∀ k : Nat, k < 32 → (A >>> (Int32.ofInt (k : Int) &&& 31)).toBitVec = A.toBitVec.sshiftRight k := by
  intro k hk
  rcases k with _ | _ | _ | _ | _ | _ | _ | _ | _ | _ | _ | _ | _ | _ | _ | _ | _ | _ | _ | _ | _ | _ | _ | _ | _ | _ | _ | _ | _ | _ | _ | _ | k <;> first | rfl | omega
theorem jx_shr {a k : Nat} (ha : a < 2147483648) (hk : k < 32) : ja_shr (a : Int) (k : Int) = ((a >>> k : Nat) : Int) := by
  unfold ja_shr
  apply jx_nat
  · rw [jx_shra _ k hk]
    have hm : (Int32.ofInt (a : Int)).toBitVec.msb = false := by
      rw [BitVec.msb_eq_false_iff_two_mul_lt, jx_ofn (by omega)]
      omega
    rw [BitVec.sshiftRight_eq_of_msb_false hm, BitVec.toNat_ushiftRight, jx_ofn (by omega)]
  · exact Nat.lt_of_le_of_lt (by rw [Nat.shiftRight_eq_div_pow]; exact Nat.div_le_self _ _) ha
theorem jx_bit {a k : Nat} (ha : a < 2147483648) (hk : k < 32) : ja_and (ja_shr (a : Int) (k : Int)) 1 = if a.testBit k = true then 1 else 0 := by
  rw [jx_shr ha hk, show (1 : Int) = ((1 : Nat) : Int) from rfl, jx_and (Nat.lt_of_le_of_lt (by rw [Nat.shiftRight_eq_div_pow]; exact Nat.div_le_self _ _) ha) (by decide), Nat.and_one_is_mod, Nat.shiftRight_eq_div_pow, Nat.testBit_eq_decide_div_mod_eq]
  by_cases h : a / 2 ^ k % 2 = 1
  · simp [h]
  · have : a / 2 ^ k % 2 = 0 := by omega
    simp [this]
theorem jx_bitI {a : Nat} {k : Int} (ha : a < 2147483648) (h0 : 0 ≤ k) (hk : k < 32) : ja_and (ja_shr (a : Int) k) 1 = if a.testBit k.toNat = true then 1 else 0 := by
  obtain ⟨n, rfl⟩ := Int.eq_ofNat_of_zero_le h0
  exact jx_bit ha (by omega)
theorem jx_all {k : Nat} (hk : k < 31) : ja_w (ja_shl 1 (k : Int) - 1) = ((2 ^ k - 1 : Nat) : Int) := by
  have := jx_p2 hk
  have h2 : 0 < 2 ^ k := Nat.two_pow_pos k
  rw [jx_shl1 hk, ja_w_id (by omega) (by omega)]
  omega
/-- sets by their members -/
theorem jv_set_lt (f : Nat → Bool) : ∀ n, jv_set f n < 2 ^ n
  | 0 => by
    show 0 < 1
    decide
  | n + 1 => by
    have := jv_set_lt f n
    show jv_set f n + (if f n = true then 2 ^ n else 0) < 2 ^ (n + 1)
    rw [Nat.pow_succ]
    split <;> omega
theorem jv_set_bit (f : Nat → Bool) : ∀ n i, (jv_set f n).testBit i = (decide (i < n) && f i)
  | 0, i => by simp [jv_set]
  | n + 1, i => by
    have hl := jv_set_lt f n
    show (jv_set f n + (if f n = true then 2 ^ n else 0)).testBit i = _
    by_cases hf : f n = true
    · rw [if_pos hf, Nat.add_comm]
      rcases Nat.lt_trichotomy i n with h | h | h
      · rw [Nat.testBit_two_pow_add_gt h, jv_set_bit f n i]
        simp [h, Nat.lt_succ_of_lt h]
      · subst h
        rw [Nat.testBit_two_pow_add_eq, Nat.testBit_lt_two_pow hl]
        simp [hf]
      · have h2 : 2 ^ n + jv_set f n < 2 ^ i := by
          have : 2 ^ (n + 1) ≤ 2 ^ i := Nat.pow_le_pow_right (by decide) h
          rw [Nat.pow_succ] at this
          omega
        rw [Nat.testBit_lt_two_pow h2]
        simp
        omega
    · rw [if_neg hf, Nat.add_zero, jv_set_bit f n i]
      by_cases h : i < n
      · simp [h, Nat.lt_succ_of_lt h]
      · by_cases h2 : i = n
        · subst h2
          simp [hf]
        · simp [h]
          omega
theorem jv_set_eq {f : Nat → Bool} {n a : Nat} (h : ∀ i, a.testBit i = (decide (i < n) && f i)) : a = jv_set f n := Nat.eq_of_testBit_eq (fun i => by rw [h, jv_set_bit])
theorem jv_set_true (n : Nat) : jv_set (fun _ => true) n = 2 ^ n - 1 := (jv_set_eq (fun i => by rw [Nat.testBit_two_pow_sub_one]; simp)).symm
/-- how many are in a set -/
def jv_pop (a : Nat) : Nat := (List.range 10).countP (fun i => a.testBit i)
def jx_bc (a : Int) : Int := ja_and (ja_w ((ja_w ((ja_and (ja_w ((ja_w ((ja_and (ja_w (a - (ja_and (ja_ush a 1) 1431655765))) 858993459) + (ja_and (ja_ush (ja_w (a - (ja_and (ja_ush a 1) 1431655765))) 2) 858993459))) + (ja_ush (ja_w ((ja_and (ja_w (a - (ja_and (ja_ush a 1) 1431655765))) 858993459) + (ja_and (ja_ush (ja_w (a - (ja_and (ja_ush a 1) 1431655765))) 2) 858993459))) 4))) 252645135) + (ja_ush (ja_and (ja_w ((ja_w ((ja_and (ja_w (a - (ja_and (ja_ush a 1) 1431655765))) 858993459) + (ja_and (ja_ush (ja_w (a - (ja_and (ja_ush a 1) 1431655765))) 2) 858993459))) + (ja_ush (ja_w ((ja_and (ja_w (a - (ja_and (ja_ush a 1) 1431655765))) 858993459) + (ja_and (ja_ush (ja_w (a - (ja_and (ja_ush a 1) 1431655765))) 2) 858993459))) 4))) 252645135) 8))) + (ja_ush (ja_w ((ja_and (ja_w ((ja_w ((ja_and (ja_w (a - (ja_and (ja_ush a 1) 1431655765))) 858993459) + (ja_and (ja_ush (ja_w (a - (ja_and (ja_ush a 1) 1431655765))) 2) 858993459))) + (ja_ush (ja_w ((ja_and (ja_w (a - (ja_and (ja_ush a 1) 1431655765))) 858993459) + (ja_and (ja_ush (ja_w (a - (ja_and (ja_ush a 1) 1431655765))) 2) 858993459))) 4))) 252645135) + (ja_ush (ja_and (ja_w ((ja_w ((ja_and (ja_w (a - (ja_and (ja_ush a 1) 1431655765))) 858993459) + (ja_and (ja_ush (ja_w (a - (ja_and (ja_ush a 1) 1431655765))) 2) 858993459))) + (ja_ush (ja_w ((ja_and (ja_w (a - (ja_and (ja_ush a 1) 1431655765))) 858993459) + (ja_and (ja_ush (ja_w (a - (ja_and (ja_ush a 1) 1431655765))) 2) 858993459))) 4))) 252645135) 8))) 16))) 63
set_option maxRecDepth 100000 in
theorem jx_bcs : ∀ a : Nat, a < 1024 → jx_bc (a : Int) = (jv_pop a : Int) := by decide +kernel
theorem js_bitCount (dd : Nat) {a : Nat} (h : a < 1024) (M : ja_M) : ja_x true (dd + 1) 96 [ji (a : Int)] M = some (some (ji (jv_pop a : Int)), M) := by
  rw [f_JInteger_bitCount]
  show some (some (ji (jx_bc (a : Int))), M) = _
  rw [jx_bcs a h]
