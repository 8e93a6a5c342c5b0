/-! fits: by the first place, by the last one -/
def ft (A : Nat → Nat → Bool) (P : Nat) : Nat → Nat → (Nat → Bool) → Int
  | _, 0, _ => 1
  | k, m + 1, f => jv_sum (fun p => if (f p && A k p) = true then ft A P (k + 1) m (jv_rest f p) else 0) P
theorem jv_rest_c (f : Nat → Bool) (p q : Nat) : jv_rest (jv_rest f p) q = jv_rest (jv_rest f q) p := funext fun x => by
  show ((f x && !(x == p)) && !(x == q)) = ((f x && !(x == q)) && !(x == p))
  exact Bool.and_right_comm ..
theorem jv_ite_sum (c : Bool) (g : Nat → Int) (n : Nat) : (if c = true then jv_sum g n else 0) = jv_sum (fun q => if c = true then g q else 0) n := by
  cases c
  · rw [if_neg (by decide), jv_sum_congr n (g := fun _ => 0) (fun k _ => if_neg (by decide)), jv_sum_zero]
  · rw [if_pos rfl]
    exact jv_sum_congr n (fun k _ => (if_pos rfl).symm)
theorem ft_last (A : Nat → Nat → Bool) (P : Nat) : ∀ m k f, ft A P k (m + 1) f = jv_sum (fun p => if (f p && A (k + m) p) = true then ft A P k m (jv_rest f p) else 0) P
  | 0, k, f => rfl
  | m + 1, k, f => by
    have e1 : ft A P k (m + 1 + 1) f = jv_sum (fun p => jv_sum (fun q => if (f p && A k p) = true then (if (jv_rest f p q && A (k + 1 + m) q) = true then ft A P (k + 1) m (jv_rest (jv_rest f p) q) else 0) else 0) P) P := by
      show jv_sum (fun p => if (f p && A k p) = true then ft A P (k + 1) (m + 1) (jv_rest f p) else 0) P = _
      refine jv_sum_congr P (fun p _ => ?_)
      rw [ft_last A P m (k + 1) (jv_rest f p), jv_ite_sum]
    have e2 : jv_sum (fun q => if (f q && A (k + (m + 1)) q) = true then ft A P k (m + 1) (jv_rest f q) else 0) P = jv_sum (fun q => jv_sum (fun p => if (f q && A (k + (m + 1)) q) = true then (if (jv_rest f q p && A k p) = true then ft A P (k + 1) m (jv_rest (jv_rest f q) p) else 0) else 0) P) P := by
      refine jv_sum_congr P (fun q _ => ?_)
      rw [← jv_ite_sum]
      rfl
    rw [e1, e2, jv_sum_swap]
    refine jv_sum_congr P (fun q _ => jv_sum_congr P (fun p _ => ?_))
    rw [jv_rest_c f p q, show k + 1 + m = k + (m + 1) by omega]
    have hpq : (p == q) = (q == p) := by
      by_cases z : p = q
      · subst z
        rfl
      · rw [beq_false_of_ne z, beq_false_of_ne (fun y => z y.symm)]
    show (if (f p && A k p) = true then (if ((f q && !(q == p)) && A (k + (m + 1)) q) = true then _ else 0) else 0) = (if (f q && A (k + (m + 1)) q) = true then (if ((f p && !(p == q)) && A k p) = true then _ else 0) else 0)
    rw [hpq]
    cases f p <;> cases f q <;> cases A k p <;> cases A (k + (m + 1)) q <;> cases (q == p) <;> rfl
theorem ft_b {A : Nat → Nat → Bool} {P : Nat} (hP : P ≤ 6) : ∀ m k f, 0 ≤ ft A P k m f ∧ ft A P k m f ≤ 6 ^ m
  | 0, _, _ => ⟨by show (0 : Int) ≤ 1; decide, by show (1 : Int) ≤ 6 ^ 0; decide⟩
  | m + 1, k, f => by
    have hp : (0 : Int) ≤ 6 ^ m := Int.pow_nonneg (by decide)
    have := jv_sum_b (f := fun p => if (f p && A k p) = true then ft A P (k + 1) m (jv_rest f p) else 0) (c := 6 ^ m) P (fun p _ => by
      show 0 ≤ (if (f p && A k p) = true then ft A P (k + 1) m (jv_rest f p) else 0) ∧ (if (f p && A k p) = true then ft A P (k + 1) m (jv_rest f p) else 0) ≤ 6 ^ m
      split
      · exact ft_b hP m (k + 1) _
      · exact ⟨Int.le_refl _, hp⟩)
    refine ⟨this.1, Int.le_trans this.2 ?_⟩
    rw [Int.pow_succ, Int.mul_comm]
    exact Int.mul_le_mul_of_nonneg_left (by omega) hp
theorem ft_congr {A : Nat → Nat → Bool} {P : Nat} : ∀ m k (f g : Nat → Bool), (∀ p, p < P → f p = g p) → ft A P k m f = ft A P k m g
  | 0, _, _, _, _ => rfl
  | m + 1, k, f, g, h => jv_sum_congr P (fun p hp => by
    rw [h p hp, ft_congr m (k + 1) (jv_rest f p) (jv_rest g p) (fun q hq => by
      show (f q && !(q == p)) = (g q && !(q == p))
      rw [h q hq])])
def alw (A : Nat → Nat → Bool) : Nat → List Nat → Bool
  | _, [] => true
  | k, p :: o => A k p && alw A (k + 1) o
theorem alw_iff {A : Nat → Nat → Bool} : ∀ (o : List Nat) (k : Nat), alw A k o = true ↔ ∀ t, t < o.length → A (k + t) (jv_nth o t) = true
  | [], k => ⟨fun _ t ht => absurd ht (Nat.not_lt_zero t), fun _ => rfl⟩
  | p :: o, k => by
    show (A k p && alw A (k + 1) o) = true ↔ _
    rw [Bool.and_eq_true, alw_iff o (k + 1)]
    constructor
    · rintro ⟨h1, h2⟩ t ht
      cases t with
      | zero => exact h1
      | succ t =>
        have := h2 t (by rw [List.length_cons] at ht; omega)
        rw [show k + 1 + t = k + (t + 1) by omega] at this
        exact this
    · intro h
      refine ⟨h 0 (by rw [List.length_cons]; omega), fun t ht => ?_⟩
      have := h (t + 1) (by rw [List.length_cons]; omega)
      rw [show k + (t + 1) = k + 1 + t by omega] at this
      exact this
theorem ft_cnt {A : Nat → Nat → Bool} {P : Nat} : ∀ m k left, (((jv_ords P m left).countP (alw A k) : Nat) : Int) = ft A P k m left
  | 0, k, left => rfl
  | m + 1, k, left => by
    have part : ∀ n, ((((List.range n).flatMap (jv_g P m left)).countP (alw A k) : Nat) : Int) = jv_sum (fun p => if (left p && A k p) = true then ft A P (k + 1) m (jv_rest left p) else 0) n := by
      intro n
      induction n with
      | zero => rfl
      | succ n ih =>
        rw [List.range_succ, List.flatMap_append, List.countP_append, Int.natCast_add, ih]
        show _ = jv_sum _ n + (if (left n && A k n) = true then ft A P (k + 1) m (jv_rest left n) else 0)
        congr 1
        rw [List.flatMap_cons, List.flatMap_nil, List.append_nil]
        unfold jv_g
        by_cases z : left n = true
        · rw [if_pos z, List.countP_map, z, Bool.true_and]
          have e : (alw A k ∘ fun o => n :: o) = fun o => A k n && alw A (k + 1) o := rfl
          rw [e]
          by_cases y : A k n = true
          · rw [if_pos y, ← ft_cnt m (k + 1) (jv_rest left n), y]
            simp only [Bool.true_and]
          · rw [if_neg y, Bool.eq_false_iff.mpr y]
            simp
        · rw [if_neg z, Bool.eq_false_iff.mpr z]
          rfl
    have := part P
    rw [jv_ords_s]
    exact this
/-! fits: the class -/
theorem jk_ckS {M : ja_M} {n : Nat} {L : ja_L} {S : List ja_V} (h1 : (Nat.ble n S.length && Nat.ble (ja_sz (S.drop n)) 8) = true) (h2 : ja_refsL true M L = true) (h3 : ja_refsS true M S = true) : ja_ckS true M n L S = true := by
  obtain ⟨a, b⟩ := jb_and h1
  unfold ja_ckS
  rw [a, b, h2, h3]
  rfl
theorem jk_95k : ∀ b, b < 6 → ja_kd (95 + b) = (100, 6) := by decide
theorem jv_bits {S P : Nat} (h : S < 2 ^ P) : S = jv_set (fun i => S.testBit i) P := jv_set_eq (fun i => by
  by_cases q : i < P
  · simp [q]
  · rw [Nat.testBit_lt_two_pow (Nat.lt_of_lt_of_le h (Nat.pow_le_pow_right (by decide) (by omega)))]
    simp)
theorem jv_less_fun {S p : Nat} (hp : S.testBit p = true) : (fun i => (S ^^^ 2 ^ p).testBit i) = jv_rest (fun i => S.testBit i) p := funext fun i => by
  show (S ^^^ 2 ^ p).testBit i = (S.testBit i && !(i == p))
  rw [Nat.testBit_xor, Nat.testBit_two_pow]
  by_cases z : i = p
  · subst z
    rw [hp]
    simp
  · have z2 : ¬ p = i := fun e => z e.symm
    simp [z, z2]
theorem jv_set_rest {f : Nat → Bool} {p : Nat} (hp : f p = true) : ∀ n, jv_set (jv_rest f p) n + (if p < n then 2 ^ p else 0) = jv_set f n
  | 0 => rfl
  | n + 1 => by
    show jv_set (jv_rest f p) n + (if (f n && !(n == p)) = true then 2 ^ n else 0) + (if p < n + 1 then 2 ^ p else 0) = jv_set f n + (if f n = true then 2 ^ n else 0)
    rw [← jv_set_rest hp n]
    by_cases z : n = p
    · subst z
      have e1 : (f n && !(n == n)) = false := by simp
      rw [e1, if_neg (show ¬ n < n by omega), if_neg (show ¬ false = true by decide), if_pos hp, if_pos (show n < n + 1 by omega)]
    · have e : (f n && !(n == p)) = f n := by simp [z]
      rw [e]
      generalize (if f n = true then 2 ^ n else 0) = y
      by_cases q : p < n
      · rw [if_pos q, if_pos (show p < n + 1 by omega)]
        omega
      · rw [if_neg q, if_neg (show ¬ p < n + 1 by omega)]
        omega
theorem jv_less_lt {S p : Nat} (hp : S.testBit p = true) : S ^^^ 2 ^ p < S := by
  have h1 : S < 2 ^ S := Nat.lt_two_pow_self
  have hpS : p < S := by
    by_cases q : p < S
    · exact q
    · rw [Nat.testBit_lt_two_pow (Nat.lt_of_lt_of_le h1 (Nat.pow_le_pow_right (by decide) (by omega)))] at hp
      cases hp
  have h2 := jv_set_rest (f := fun i => S.testBit i) hp S
  rw [← jv_bits h1, if_pos hpS] at h2
  have h3 : S ^^^ 2 ^ p < 2 ^ S := Nat.xor_lt_two_pow h1 (Nat.pow_lt_pow_right (by decide) hpS)
  have h4 := jv_bits h3
  rw [jv_less_fun hp] at h4
  have h5 : 0 < 2 ^ p := Nat.pow_pos (by decide)
  omega
theorem jv_less_pop {S p : Nat} (hp : S.testBit p = true) (hp9 : p < 10) : jv_pop (S ^^^ 2 ^ p) + 1 = jv_pop S := by
  have e1 := jc_cp (fun i => (S ^^^ 2 ^ p).testBit i) 10
  have e2 := jc_cp (fun i => S.testBit i) 10
  rw [jv_less_fun hp, jv_cnt_less (f := fun i => S.testBit i) hp, if_pos hp9, ← e2] at e1
  have e3 : (List.range 10).countP (jv_rest (fun i => S.testBit i) p) = jv_pop (S ^^^ 2 ^ p) := by
    unfold jv_pop
    rw [jv_less_fun hp]
  have e4 : (List.range 10).countP (fun i => S.testBit i) = jv_pop S := rfl
  rw [e3, e4] at e1
  omega
abbrev s101 : Nat → Prop := fun c => c = 101
theorem jFr.k101 {A B : ja_M} (h : jFr s101 A B) : jK A B := h.K (fun c x => Or.inr (Or.inl ⟨by have : c = 101 := x; omega, by have : c = 101 := x; omega⟩))
theorem js_ways (dd : Nat) {b : Nat} {M : ja_M} (hH : jH M) (hF : jFi M) (hb : (b : Int) < M 11 4) : ∃ N, ja_x true (dd + 2) 153 [jr 93, jr (95 + b)] M = some (some (ji (ft (jv_left M b) (M 11 3).toNat 0 (M 11 3).toNat (fun _ => true))), N) ∧ jFr s101 M N := by
  have h0 := hH.b
  obtain ⟨P, hP⟩ : ∃ P : Nat, M 11 3 = (P : Int) := ⟨(M 11 3).toNat, by omega⟩
  have hleft : ∀ t : Nat, t < P → M (95 + b) t = ((jv_set (jv_left M b t) P : Nat) : Int) := fun t ht => by
    have := hF.2.2.2 b t hb (by omega)
    rw [hP] at this
    exact this
  rw [show (M 11 3).toNat = P by omega]
  generalize jv_left M b = A at hleft ⊢
  have hP6 : P ≤ 6 := by omega
  have p64 : 2 ^ P ≤ 64 := Nat.pow_le_pow_right (n := 2) (by decide) hP6
  have p0 : 0 < 2 ^ P := Nat.pow_pos (by decide)
  have s6 : ∀ m, m ≤ 6 → (6 : Int) ^ m ≤ 46656 := fun m hm => by
    have : m = 0 ∨ m = 1 ∨ m = 2 ∨ m = 3 ∨ m = 4 ∨ m = 5 ∨ m = 6 := by omega
    rcases this with rfl | rfl | rfl | rfl | rfl | rfl | rfl <;> decide
  have a3 : ∀ N : ja_M, jFr s101 M N → N 11 3 = (P : Int) := fun N hf => (hf.k101.of jk_H 11 3 rfl).trans hP
  -- one set
  have inner : ∀ (S m : Nat), S < 2 ^ P → jv_pop S = m + 1 → m < P → ∀ (k p : Nat) (N : ja_M), p + k = P → jFr s101 M N → (∀ T, T < S → N 101 T = ft A P 0 (jv_pop T) (fun i => T.testBit i)) → N 101 S = jv_sum (fun q => if (S.testBit q && A (0 + m) q) = true then ft A P 0 m (jv_rest (fun i => S.testBit i) q) else 0) p → ∃ N', ja_D true (ja_x true (dd + 1)) k_Finds_waysThrough 34 [some (jr 93), some (jr (95 + b)), some (ji ((2 ^ P - 1 : Nat) : Int)), some (ji (S : Int)), some (ji ((S &&& jv_set (A m) P : Nat) : Int)), some (ji (p : Int))] [] N = ja_D true (ja_x true (dd + 1)) k_Finds_waysThrough 15 [some (jr 93), some (jr (95 + b)), some (ji ((2 ^ P - 1 : Nat) : Int)), some (ji ((S : Int) + 1)), none, none] [] N' ∧ jFr s101 M N' ∧ (∀ T, T < S + 1 → N' 101 T = ft A P 0 (jv_pop T) (fun i => T.testBit i)) := by
    intro S m hS hpop hm k
    have hset := jv_set_64 (A m) hP6
    have hand : S &&& jv_set (A m) P ≤ S := Nat.and_le_left
    induction k with
    | zero =>
      intro p N e hf hT hN
      obtain rfl : p = P := by omega
      refine ⟨N, ?_, hf, fun T hTS => ?_⟩
      · rw [e_Finds_waysThrough_34, jk_ck rfl (by rw [jk_rLs rfl, jk_rLs (jk_rf (by omega))]; rfl) rfl, cond_true, js_places, jz_bI, a3 N hf, if_neg (by omega), ja_w_id (by omega) (by omega)]
      · by_cases z : T = S
        · subst z
          rw [hN, hpop]
          exact (ft_last A p m 0 _).symm
        · exact hT T (by omega)
    | succ k ih =>
      intro p N e hf hT hN
      have hst := e_Finds_waysThrough_34 (ja_x true (dd + 1)) (95 + b) ((2 ^ P - 1 : Nat) : Int) (S : Int) ((S &&& jv_set (A m) P : Nat) : Int) (p : Int) N
      have hbit : (S &&& jv_set (A m) P).testBit p = (S.testBit p && A (0 + m) p) := by
        rw [Nat.testBit_and, jv_set_bit, Nat.zero_add]
        simp [show p < P by omega]
      rw [jk_ck rfl (by rw [jk_rLs rfl, jk_rLs (jk_rf (by omega))]; rfl) rfl, cond_true, js_places, jz_bI, a3 N hf, if_pos (by omega), jx_bit (by omega) (by omega), hbit, ja_w_id (x := (p : Int) + 1) (by omega) (by omega), show (p : Int) + 1 = ((p + 1 : Nat) : Int) by omega] at hst
      by_cases z : (S.testBit p && A (0 + m) p) = true
      · have zb : S.testBit p = true := (Bool.and_eq_true _ _ ▸ z).1
        have hlt := jv_less_lt zb
        have hpp := jv_less_pop zb (by omega)
        have hval := hT (S ^^^ 2 ^ p) hlt
        rw [show jv_pop (S ^^^ 2 ^ p) = m by omega, jv_less_fun zb] at hval
        have fb := ft_b hP6 (A := A) m 0 (jv_rest (fun i => S.testBit i) p)
        have sm := s6 m (by omega)
        have sb := jv_sum_b (f := fun q => if (S.testBit q && A (0 + m) q) = true then ft A P 0 m (jv_rest (fun i => S.testBit i) q) else 0) (c := 46656) p (fun q _ => by
          have := ft_b hP6 (A := A) m 0 (jv_rest (fun i => S.testBit i) q)
          show 0 ≤ (if (S.testBit q && A (0 + m) q) = true then ft A P 0 m (jv_rest (fun i => S.testBit i) q) else 0) ∧ (if (S.testBit q && A (0 + m) q) = true then ft A P 0 m (jv_rest (fun i => S.testBit i) q) else 0) ≤ 46656
          split <;> omega)
        have sb2 : jv_sum (fun q => if (S.testBit q && A (0 + m) q) = true then ft A P 0 m (jv_rest (fun i => S.testBit i) q) else 0) p ≤ 6 * 46656 := Int.le_trans sb.2 (Int.mul_le_mul_of_nonneg_right (by omega) (by decide))
        rw [if_pos z, if_pos rfl, if_pos (by omega), jx_shl1 (by omega), jx_xor (by omega) (jx_p2 (by omega)), if_pos (by omega), if_pos (by omega), show ((S : Int)).toNat = S from rfl, show (((S ^^^ 2 ^ p : Nat) : Int)).toNat = S ^^^ 2 ^ p from rfl, hval, hN, ja_w_id (by omega) (by omega)] at hst
        obtain ⟨N', g1, g2⟩ := ih (p + 1) (ja_up N 101 S (jv_sum (fun q => if (S.testBit q && A (0 + m) q) = true then ft A P 0 m (jv_rest (fun i => S.testBit i) q) else 0) p + ft A P 0 m (jv_rest (fun i => S.testBit i) p))) (by omega) (hf.up rfl) (fun T hTS => (jb_up_nej (by omega)).trans (hT T hTS)) (by
          rw [jb_up_eq]
          show _ = jv_sum _ p + (if (S.testBit p && A (0 + m) p) = true then ft A P 0 m (jv_rest (fun i => S.testBit i) p) else 0)
          rw [if_pos z])
        exact ⟨N', hst.trans g1, g2⟩
      · rw [if_neg z, if_neg (by decide)] at hst
        obtain ⟨N', g1, g2⟩ := ih (p + 1) N (by omega) hf hT (by
          rw [hN]
          show _ = jv_sum _ p + (if (S.testBit p && A (0 + m) p) = true then ft A P 0 m (jv_rest (fun i => S.testBit i) p) else 0)
          rw [if_neg z, Int.add_zero])
        exact ⟨N', hst.trans g1, g2⟩
  have outer : ∀ (k S : Nat) (N : ja_M), S + k = 2 ^ P → 0 < S → jFr s101 M N → (∀ T, T < S → N 101 T = ft A P 0 (jv_pop T) (fun i => T.testBit i)) → ∃ N', ja_D true (ja_x true (dd + 1)) k_Finds_waysThrough 15 [some (jr 93), some (jr (95 + b)), some (ji ((2 ^ P - 1 : Nat) : Int)), some (ji (S : Int)), none, none] [] N = some (some (ji (N' 101 (2 ^ P - 1))), N') ∧ jFr s101 M N' ∧ (∀ T, T < 2 ^ P → N' 101 T = ft A P 0 (jv_pop T) (fun i => T.testBit i)) := by
    intro k
    induction k with
    | zero =>
      intro S N e hS hf hT
      refine ⟨N, ?_, hf, fun T h => hT T (by omega)⟩
      rw [e_Finds_waysThrough_15, if_pos (by omega), if_pos (by omega)]
      rfl
    | succ k ih =>
      intro S N e hS hf hT
      have hpc := jv_pop_set (fun i => S.testBit i) (n := P) (by omega)
      rw [← jv_bits (by omega)] at hpc
      have hcb := jv_cnt_b (fun i => S.testBit i) P
      have hpn : jv_pop S ≠ 0 := fun z => by
        have : jv_cnt (fun i => S.testBit i) P = 0 := by omega
        have := jv_set_0 this
        rw [← jv_bits (by omega)] at this
        omega
      obtain ⟨m, hm⟩ : ∃ m, jv_pop S = m + 1 := ⟨jv_pop S - 1, by omega⟩
      have hset := jv_set_64 (A m) hP6
      have hl : N (95 + b) m = ((jv_set (A m) P : Nat) : Int) := (hf (95 + b) m (fun z => by have : 95 + b = 101 := z; omega)).trans (hleft m (by omega))
      obtain ⟨N1, g1, g2, g3⟩ := inner S m (by omega) hm (by omega) P 0 (ja_up N 101 S 0) (by omega) (hf.up rfl) (fun T hTS => (jb_up_nej (by omega)).trans (hT T hTS)) jb_up_eq
      obtain ⟨N', k1, k2⟩ := ih (S + 1) N1 (by omega) (by omega) g2 g3
      refine ⟨N', ?_, k2⟩
      rw [e_Finds_waysThrough_15, if_neg (by omega), jk_ckS rfl (by rw [jk_rLs rfl, jk_rLs (jk_rf (by omega))]; rfl) (by rw [jk_rSs rfl, jk_rSs (jk_rf (by omega))]; rfl), cond_true, js_bitCount dd (by omega), jz_bI, hm, show ((m + 1 : Nat) : Int) - 1 = (m : Int) by omega, ja_w_id (x := (m : Int)) (by omega) (by omega), jz_ald (n := 6) (jk_95k b (by omega)) (by omega) (by omega) (by omega) (by omega), if_pos (by omega), show ((m : Int)).toNat = m from rfl, hl, show ((S : Int)).toNat = S from rfl, jx_and (by omega) (by omega)]
      refine Eq.trans g1 ?_
      rw [show ((S + 1 : Nat) : Int) = (S : Int) + 1 by omega] at k1
      exact k1
  obtain ⟨N, g1, g2, g3⟩ := outer (2 ^ P - 1) 1 (ja_up M 101 0 1) (by omega) (by decide) ((jFr.rf M).up (S := s101) rfl) (fun T hT => by
    obtain rfl : T = 0 := by omega
    rw [jb_up_eq]
    rfl)
  refine ⟨N, ?_, g2⟩
  have hfull : jv_pop (2 ^ P - 1) = P := by
    have := jv_pop_set (fun _ => true) (n := P) (by omega)
    rw [jv_set_true] at this
    have hcnt : ∀ n, jv_cnt (fun _ => true) n = (n : Int) := by
      intro n
      induction n with
      | zero => rfl
      | succ n ih =>
        show jv_cnt (fun _ => true) n + 1 = _
        rw [ih]
        omega
    rw [hcnt] at this
    omega
  have hv : N 101 (2 ^ P - 1) = ft A P 0 P (fun _ => true) := by
    rw [g3 _ (by omega), hfull]
    refine ft_congr P 0 _ _ (fun p hp => ?_)
    rw [Nat.testBit_two_pow_sub_one]
    simp [hp]
  rw [hv] at g1
  rw [f_Finds_waysThrough, jk_ck rfl (by rw [jk_rLs rfl, jk_rLs (jk_rf (by omega))]; rfl) rfl, cond_true, js_places, jz_bI, hP, jx_all (by omega)]
  exact g1
