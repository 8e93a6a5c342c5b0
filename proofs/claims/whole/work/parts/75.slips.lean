/-! slips: a set of pairs in a long -/
theorem jx_lnat {x : Int64} {n : Nat} (h : x.toBitVec.toNat = n) (hn : n < 9223372036854775808) : x.toInt = (n : Int) := by
  show x.toBitVec.toInt = (n : Int)
  rw [BitVec.toInt_eq_toNat_of_lt (by omega), h]
theorem jx_lofn {a : Nat} (h : a < 18446744073709551616) : (Int64.ofInt (a : Int)).toBitVec.toNat = a := by
  show (BitVec.ofInt 64 (a : Int)).toNat = a
  rw [BitVec.toNat_ofInt]
  omega
theorem jx_land {a b : Nat} (ha : a < 9223372036854775808) (hb : b < 9223372036854775808) : ja_land (a : Int) (b : Int) = ((a &&& b : Nat) : Int) := by
  unfold ja_land
  apply jx_lnat
  · rw [Int64.toBitVec_and, BitVec.toNat_and, jx_lofn (by omega), jx_lofn (by omega)]
  · exact Nat.lt_of_le_of_lt Nat.and_le_left ha
theorem jx_lor {a b : Nat} (ha : a < 9223372036854775808) (hb : b < 9223372036854775808) : ja_lor (a : Int) (b : Int) = ((a ||| b : Nat) : Int) := by
  unfold ja_lor
  apply jx_lnat
  · rw [Int64.toBitVec_or, BitVec.toNat_or, jx_lofn (by omega), jx_lofn (by omega)]
  · exact Nat.or_lt_two_pow (n := 63) ha hb
theorem jx_lushg {a : Nat} {k : Int} {n : Nat} (ha : a < 9223372036854775808) (h : ((Int64.ofInt (a : Int)).toUInt64 >>> ((Int32.ofInt k).toInt64.toUInt64 &&& Int64.toUInt64 63)).toInt64.toBitVec = (Int64.ofInt (a : Int)).toBitVec >>> n) : ja_lush (a : Int) k = ((a / 2 ^ n : Nat) : Int) := by
  unfold ja_lush
  apply jx_lnat
  · rw [h, BitVec.toNat_ushiftRight, jx_lofn (by omega), Nat.shiftRight_eq_div_pow]
  · exact Nat.lt_of_le_of_lt (Nat.div_le_self _ _) ha
theorem jx_lshl1 : ∀ k : Nat, k < 36 → ja_lshl 1 (k : Int) = ((2 ^ k : Nat) : Int) := by decide +kernel
/-- a byte, k times -/
def lm (c : Nat) : Nat → Nat
  | 0 => 0
  | k + 1 => 256 * lm c k + c
theorem lm_and (q m : Nat) {r s : Nat} (hr : r < 256) (hs : s < 256) : (256 * q + r) &&& (256 * m + s) = 256 * (q &&& m) + (r &&& s) := by
  have hrs : r &&& s < 2 ^ 8 := Nat.lt_of_le_of_lt Nat.and_le_left hr
  apply Nat.eq_of_testBit_eq
  intro i
  have e1 := Nat.testBit_two_pow_mul_add q (i := 8) hr i
  have e2 := Nat.testBit_two_pow_mul_add m (i := 8) hs i
  have e3 := Nat.testBit_two_pow_mul_add (q &&& m) (i := 8) hrs i
  rw [show (2 : Nat) ^ 8 = 256 from rfl] at e1 e2 e3
  rw [Nat.testBit_and, e1, e2, e3]
  split
  · rw [Nat.testBit_and]
  · rw [Nat.testBit_and]
def s1 (k a : Nat) : Nat := a - ((a / 2) &&& lm 85 k)
def s2 (k a : Nat) : Nat := (a &&& lm 51 k) + ((a / 4) &&& lm 51 k)
def s3 (k a : Nat) : Nat := (a + a / 16) &&& lm 15 k
def b1 (r : Nat) : Nat := r - ((r / 2) &&& 85)
def b2 (r : Nat) : Nat := (r &&& 51) + ((r / 4) &&& 51)
def b3 (r : Nat) : Nat := (r + r / 16) &&& 15
def bp (r : Nat) : Nat := (List.range 8).countP (fun i => r.testBit i)
theorem b1_ok : ∀ r, r < 256 → ((r / 2) &&& 85 ≤ r ∧ b1 r < 256) ∧ ∀ e, e < 2 → (e * 128 + r / 2) &&& 85 = (r / 2) &&& 85 := by decide +kernel
theorem b2_ok : ∀ r, r < 256 → ∀ e, e < 4 → (e * 64 + r / 4) &&& 51 = (r / 4) &&& 51 := by decide +kernel
theorem b2_nib : ∀ r, r < 256 → b2 (b1 r) < 256 ∧ b2 (b1 r) % 16 ≤ 4 ∧ b2 (b1 r) / 16 ≤ 4 := by decide +kernel
theorem b3_ok : ∀ r, r < 256 → b3 (b2 (b1 r)) = bp r ∧ ∀ e, e < 5 → (b2 (b1 r) + b2 (b1 r) / 16 + 16 * e) &&& 15 = b3 (b2 (b1 r)) := by decide +kernel
theorem s1_s {k q r : Nat} (hr : r < 256) : s1 (k + 1) (256 * q + r) = 256 * s1 k q + b1 r := by
  obtain ⟨⟨h1, h2⟩, h3⟩ := b1_ok r hr
  unfold s1
  have e : (256 * q + r) / 2 = 256 * (q / 2) + (q % 2 * 128 + r / 2) := by omega
  have hu : (q / 2) &&& lm 85 k ≤ q := Nat.le_trans Nat.and_le_left (by omega)
  show 256 * q + r - ((256 * q + r) / 2 &&& (256 * lm 85 k + 85)) = _
  rw [e, lm_and _ _ (by omega) (by decide), h3 (q % 2) (by omega)]
  unfold b1
  omega
theorem s2_s {k q r : Nat} (hr : r < 256) : s2 (k + 1) (256 * q + r) = 256 * s2 k q + b2 r := by
  have h3 := b2_ok r hr
  unfold s2
  have e : (256 * q + r) / 4 = 256 * (q / 4) + (q % 4 * 64 + r / 4) := by omega
  show ((256 * q + r) &&& (256 * lm 51 k + 51)) + ((256 * q + r) / 4 &&& (256 * lm 51 k + 51)) = _
  rw [e, lm_and _ _ hr (by decide), lm_and _ _ (by omega) (by decide), h3 (q % 4) (by omega)]
  unfold b2
  omega
def sp (k a : Nat) : Nat := s3 k (s2 k (s1 k a))
theorem s21_nib : ∀ (k q : Nat), q < 256 ^ k → s2 k (s1 k q) % 16 ≤ 4
  | 0, q, h => by
    have : q = 0 := by
      rw [Nat.pow_zero] at h
      omega
    subst this
    decide
  | k + 1, q, h => by
    have hr : q % 256 < 256 := Nat.mod_lt _ (by decide)
    have e : q = 256 * (q / 256) + q % 256 := by omega
    rw [e, s1_s hr, s2_s (b1_ok _ hr).1.2]
    have := b2_nib _ hr
    omega
theorem sp_s {k q r : Nat} (hq : q < 256 ^ k) (hr : r < 256) : sp (k + 1) (256 * q + r) = 256 * sp k q + bp r := by
  have hn := s21_nib k q hq
  have hb := b2_nib r hr
  obtain ⟨g1, g2⟩ := b3_ok r hr
  unfold sp
  rw [s1_s hr, s2_s (b1_ok _ hr).1.2]
  generalize s2 k (s1 k q) = x at hn ⊢
  unfold s3
  have e : 256 * x + b2 (b1 r) + (256 * x + b2 (b1 r)) / 16 = 256 * (x + x / 16) + (b2 (b1 r) + b2 (b1 r) / 16 + 16 * (x % 16)) := by omega
  show (256 * x + b2 (b1 r) + (256 * x + b2 (b1 r)) / 16) &&& (256 * lm 15 k + 15) = _
  rw [e, lm_and _ _ (by omega) (by decide), g2 (x % 16) (by omega), g1]
theorem bp_cnt : ∀ r, r < 256 → ((bp r : Nat) : Int) = jv_cnt (fun i => r.testBit i) 8 ∧ bp r ≤ 8 := by
  intro r hr
  refine ⟨jc_cp _ 8, ?_⟩
  have := (jv_cnt_b (fun i => r.testBit i) 8).2
  rw [← jc_cp] at this
  unfold bp
  omega
theorem jv_cnt_split (f : Nat → Bool) (n : Nat) : ∀ m, jv_cnt f (n + m) = jv_cnt f n + jv_cnt (fun i => f (n + i)) m
  | 0 => (Int.add_zero _).symm
  | m + 1 => by
    show jv_cnt f (n + m) + (if f (n + m) = true then 1 else 0) = jv_cnt f n + (jv_cnt (fun i => f (n + i)) m + (if f (n + m) = true then 1 else 0))
    rw [jv_cnt_split f n m]
    omega
theorem bits_s {q r k : Nat} (hr : r < 256) : jv_cnt (fun i => (256 * q + r).testBit i) (8 + k) = (bp r : Int) + jv_cnt (fun i => q.testBit i) k := by
  have e := fun i => Nat.testBit_two_pow_mul_add q (i := 8) hr i
  rw [show (2 : Nat) ^ 8 = 256 from rfl] at e
  rw [jv_cnt_split, (bp_cnt r hr).1]
  congr 1
  · exact jv_cnt_congr 8 (fun i hi => by rw [e, if_pos hi])
  · exact jv_cnt_congr k (fun i _ => by rw [e, if_neg (by omega), show 8 + i - 8 = i by omega])
/-- the digits of base 256 of sp, their sum -/
theorem sp_last {x p0 p1 p2 p3 p4 p5 p6 p7 : Nat} (h : x = 256 * (256 * (256 * (256 * (256 * (256 * (256 * p7 + p6) + p5) + p4) + p3) + p2) + p1) + p0) (h0 : p0 ≤ 8) (h1 : p1 ≤ 8) (h2 : p2 ≤ 8) (h3 : p3 ≤ 8) (h4 : p4 ≤ 8) (h5 : p5 ≤ 8) (h6 : p6 ≤ 8) (h7 : p7 ≤ 8) : (x + x / 256 + (x + x / 256) / 65536 + (x + x / 256 + (x + x / 256) / 65536) / 4294967296) % 128 = p0 + p1 + p2 + p3 + p4 + p5 + p6 + p7 := by 
  have e1 : x / 256 = (256 * (256 * (256 * (256 * (256 * (256 * (p7) + (p6)) + (p5)) + (p4)) + (p3)) + (p2)) + (p1)) := by omega
  have e2 : x + x / 256 = (256 * (256 * (256 * (256 * (256 * (256 * (256 * (p7) + (p6 + p7)) + (p5 + p6)) + (p4 + p5)) + (p3 + p4)) + (p2 + p3)) + (p1 + p2)) + (p0 + p1)) := by omega
  generalize x + x / 256 = y at e2 ⊢
  clear h e1
  have e3 : y / 65536 = (256 * (256 * (256 * (256 * (256 * (p7) + (p6 + p7)) + (p5 + p6)) + (p4 + p5)) + (p3 + p4)) + (p2 + p3)) := by omega
  have e4 : y + y / 65536 = (256 * (256 * (256 * (256 * (256 * (256 * (256 * (p7) + (p6 + p7)) + (p5 + p6 + p7)) + (p4 + p5 + p6 + p7)) + (p3 + p4 + p5 + p6)) + (p2 + p3 + p4 + p5)) + (p1 + p2 + p3 + p4)) + (p0 + p1 + p2 + p3)) := by omega
  generalize y + y / 65536 = z at e4 ⊢
  clear e2 e3
  have e5 : z / 4294967296 = (256 * (256 * (256 * (p7) + (p6 + p7)) + (p5 + p6 + p7)) + (p4 + p5 + p6 + p7)) := by omega
  have e6 : z + z / 4294967296 = 128 * (2 * ((256 * (256 * (256 * (256 * (256 * (256 * (p7) + (p6 + p7)) + (p5 + p6 + p7)) + (p4 + p5 + p6 + p7)) + (p3 + p4 + p5 + p6 + p7)) + (p2 + p3 + p4 + p5 + p6 + p7)) + (p1 + p2 + p3 + p4 + p5 + p6 + p7)))) + (p0 + p1 + p2 + p3 + p4 + p5 + p6 + p7) := by omega
  rw [e6]
  clear e4 e5 e6
  generalize 2 * ((256 * (256 * (256 * (256 * (256 * (256 * (p7) + (p6 + p7)) + (p5 + p6 + p7)) + (p4 + p5 + p6 + p7)) + (p3 + p4 + p5 + p6 + p7)) + (p2 + p3 + p4 + p5 + p6 + p7)) + (p1 + p2 + p3 + p4 + p5 + p6 + p7))) = w
  omega
theorem js_lbitCount (dd : Nat) {a : Nat} (M : ja_M) (ha : a < 9223372036854775808) : ja_x true (dd + 1) 102 [jl (a : Int)] M = some (some (ji (jv_cnt (fun i => a.testBit i) 64)), M) := by
  obtain ⟨a1, r0, e0, h0⟩ : ∃ q r, a = 256 * q + r ∧ r < 256 := ⟨a / 256, a % 256, by omega, by omega⟩
  obtain ⟨a2, r1, e1, h1⟩ : ∃ q r, a1 = 256 * q + r ∧ r < 256 := ⟨a1 / 256, a1 % 256, by omega, by omega⟩
  obtain ⟨a3, r2, e2, h2⟩ : ∃ q r, a2 = 256 * q + r ∧ r < 256 := ⟨a2 / 256, a2 % 256, by omega, by omega⟩
  obtain ⟨a4, r3, e3, h3⟩ : ∃ q r, a3 = 256 * q + r ∧ r < 256 := ⟨a3 / 256, a3 % 256, by omega, by omega⟩
  obtain ⟨a5, r4, e4, h4⟩ : ∃ q r, a4 = 256 * q + r ∧ r < 256 := ⟨a4 / 256, a4 % 256, by omega, by omega⟩
  obtain ⟨a6, r5, e5, h5⟩ : ∃ q r, a5 = 256 * q + r ∧ r < 256 := ⟨a5 / 256, a5 % 256, by omega, by omega⟩
  obtain ⟨a7, r6, e6, h6⟩ : ∃ q r, a6 = 256 * q + r ∧ r < 256 := ⟨a6 / 256, a6 % 256, by omega, by omega⟩
  have h7 : a7 < 256 := by omega
  have hp0 := (bp_cnt r0 h0).2
  have hp1 := (bp_cnt r1 h1).2
  have hp2 := (bp_cnt r2 h2).2
  have hp3 := (bp_cnt r3 h3).2
  have hp4 := (bp_cnt r4 h4).2
  have hp5 := (bp_cnt r5 h5).2
  have hp6 := (bp_cnt r6 h6).2
  have hp7 := (bp_cnt a7 h7).2
  have z0 : sp 0 0 = 0 := by decide
  have z1 : sp 1 a7 = bp a7 := by
    have := sp_s (k := 0) (q := 0) (r := a7) (by decide) h7
    rw [z0, Nat.mul_zero, Nat.zero_add, Nat.zero_add] at this
    exact this.trans (Nat.zero_add _)
  have hsp : sp 8 a = 256 * (256 * (256 * (256 * (256 * (256 * (256 * bp a7 + bp r6) + bp r5) + bp r4) + bp r3) + bp r2) + bp r1) + bp r0 := by
    rw [e0, sp_s (k := 7) (by rw [show 256 ^ 7 = 72057594037927936 by decide]; omega) h0, e1, sp_s (k := 6) (by rw [show 256 ^ 6 = 281474976710656 by decide]; omega) h1, e2, sp_s (k := 5) (by rw [show 256 ^ 5 = 1099511627776 by decide]; omega) h2, e3, sp_s (k := 4) (by rw [show 256 ^ 4 = 4294967296 by decide]; omega) h3, e4, sp_s (k := 3) (by rw [show 256 ^ 3 = 16777216 by decide]; omega) h4, e5, sp_s (k := 2) (by rw [show 256 ^ 2 = 65536 by decide]; omega) h5, e6, sp_s (k := 1) (by rw [show 256 ^ 1 = 256 by decide]; omega) h6, z1]
  have hlast := sp_last hsp hp0 hp1 hp2 hp3 hp4 hp5 hp6 hp7
  have hcnt : jv_cnt (fun i => a.testBit i) 64 = ((bp r0 + bp r1 + bp r2 + bp r3 + bp r4 + bp r5 + bp r6 + bp a7 : Nat) : Int) := by
    have c0 := bits_s (q := a1) (k := 56) h0
    have c1 := bits_s (q := a2) (k := 48) h1
    have c2 := bits_s (q := a3) (k := 40) h2
    have c3 := bits_s (q := a4) (k := 32) h3
    have c4 := bits_s (q := a5) (k := 24) h4
    have c5 := bits_s (q := a6) (k := 16) h5
    have c6 := bits_s (q := a7) (k := 8) h6
    rw [← e0] at c0
    rw [← e1] at c1
    rw [← e2] at c2
    rw [← e3] at c3
    rw [← e4] at c4
    rw [← e5] at c5
    rw [← e6] at c6
    have c7 := (bp_cnt a7 h7).1
    rw [show 64 = 8 + 56 from rfl, c0, show 56 = 8 + 48 from rfl, c1, show 48 = 8 + 40 from rfl, c2, show 40 = 8 + 32 from rfl, c3, show 32 = 8 + 24 from rfl, c4, show 24 = 8 + 16 from rfl, c5, show 16 = 8 + 8 from rfl, c6, ← c7]
    omega
  -- the machine's steps
  have m5 : (6148914691236517205 : Int) = ((lm 85 8 : Nat) : Int) := by decide
  have m3 : (3689348814741910323 : Int) = ((lm 51 8 : Nat) : Int) := by decide
  have m0 : (1085102592571150095 : Int) = ((lm 15 8 : Nat) : Int) := by decide
  have k5 : lm 85 8 < 9223372036854775808 := by decide
  have k3 : lm 51 8 < 9223372036854775808 := by decide
  have k0 : lm 15 8 < 9223372036854775808 := by decide
  have l3 : lm 51 8 = 3689348814741910323 := by decide
  have l0 : lm 15 8 = 1085102592571150095 := by decide
  have hx1 : s1 8 a ≤ a := Nat.sub_le _ _
  have hx2 : s2 8 (s1 8 a) ≤ 7378697629483820646 := by
    have u1 : s1 8 a &&& lm 51 8 ≤ lm 51 8 := Nat.and_le_right
    have u2 : s1 8 a / 4 &&& lm 51 8 ≤ lm 51 8 := Nat.and_le_right
    unfold s2
    omega
  have hx3 : sp 8 a ≤ 1085102592571150095 := by
    have u1 : s2 8 (s1 8 a) + s2 8 (s1 8 a) / 16 &&& lm 15 8 ≤ lm 15 8 := Nat.and_le_right
    unfold sp s3
    omega
  have f1 : ja_W ((a : Int) - ja_land (ja_lush (a : Int) 1) 6148914691236517205) = ((s1 8 a : Nat) : Int) := by
    have u : (a / 2) &&& lm 85 8 ≤ a := Nat.le_trans Nat.and_le_left (by omega)
    rw [m5, jx_lushg (n := 1) ha rfl, show 2 ^ 1 = 2 from rfl, jx_land (by omega) k5, ja_W_id (by omega) (by omega)]
    unfold s1
    omega
  have f2 : ja_W (ja_land ((s1 8 a : Nat) : Int) 3689348814741910323 + ja_land (ja_lush ((s1 8 a : Nat) : Int) 2) 3689348814741910323) = ((s2 8 (s1 8 a) : Nat) : Int) := by
    rw [m3, jx_lushg (n := 2) (by omega) rfl, show 2 ^ 2 = 4 from rfl, jx_land (by omega) k3, jx_land (by omega) k3]
    unfold s2 at hx2 ⊢
    rw [ja_W_id (by omega) (by omega)]
    omega
  have f3 : ja_land (ja_W (((s2 8 (s1 8 a) : Nat) : Int) + ja_lush ((s2 8 (s1 8 a) : Nat) : Int) 4)) 1085102592571150095 = ((sp 8 a : Nat) : Int) := by
    rw [m0, jx_lushg (n := 4) (by omega) rfl, show 2 ^ 4 = 16 from rfl, ja_W_id (by omega) (by omega), show ((s2 8 (s1 8 a) : Nat) : Int) + ((s2 8 (s1 8 a) / 16 : Nat) : Int) = ((s2 8 (s1 8 a) + s2 8 (s1 8 a) / 16 : Nat) : Int) by omega, jx_land (by omega) k0]
    rfl
  generalize sp 8 a = x at hlast hx3 f3
  have f4 : ja_W ((x : Int) + ja_lush (x : Int) 8) = ((x + x / 256 : Nat) : Int) := by
    rw [jx_lushg (n := 8) (by omega) rfl, show 2 ^ 8 = 256 from rfl, ja_W_id (by omega) (by omega)]
    omega
  have f5 : ja_W (((x + x / 256 : Nat) : Int) + ja_lush ((x + x / 256 : Nat) : Int) 16) = ((x + x / 256 + (x + x / 256) / 65536 : Nat) : Int) := by
    rw [jx_lushg (n := 16) (by omega) rfl, show 2 ^ 16 = 65536 from rfl, ja_W_id (by omega) (by omega)]
    omega
  have f6 : ja_W (((x + x / 256 + (x + x / 256) / 65536 : Nat) : Int) + ja_lush ((x + x / 256 + (x + x / 256) / 65536 : Nat) : Int) 32) = ((x + x / 256 + (x + x / 256) / 65536 + (x + x / 256 + (x + x / 256) / 65536) / 4294967296 : Nat) : Int) := by
    rw [jx_lushg (n := 32) (by omega) rfl, show 2 ^ 32 = 4294967296 from rfl, ja_W_id (by omega) (by omega)]
    omega
  rw [f_JLong_bitCount, f1, f2, f3, f4, f5, f6, hcnt]
  generalize x + x / 256 + (x + x / 256) / 65536 + (x + x / 256 + (x + x / 256) / 65536) / 4294967296 = z at hlast ⊢
  have fin : ja_and (ja_w (z : Int)) 127 = ((z % 128 : Nat) : Int) := by
    unfold ja_and
    rw [show Int32.ofInt (ja_w (z : Int)) = Int32.ofInt (z : Int) from jn_ofw _]
    apply jx_nat
    · rw [Int32.toBitVec_and, BitVec.toNat_and, show (Int32.ofInt 127).toBitVec.toNat = 2 ^ 7 - 1 by decide, Nat.and_two_pow_sub_one_eq_mod]
      show (BitVec.ofInt 32 (z : Int)).toNat % 2 ^ 7 = z % 128
      rw [BitVec.toNat_ofInt]
      omega
    · omega
  rw [fin, hlast]
