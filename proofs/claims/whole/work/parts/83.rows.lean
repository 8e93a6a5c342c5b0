/-! starts: rows by number -/
def jv_it {α : Type} (f : α → Nat → α) (st : α) (a : Nat) : Nat → α
  | 0 => st
  | n + 1 => f (jv_it f st a n) (a + n)
theorem jv_it_add {α : Type} (f : α → Nat → α) (st : α) (a n : Nat) : ∀ m, jv_it f st a (n + m) = jv_it f (jv_it f st a n) (a + n) m
  | 0 => rfl
  | m + 1 => by
    show f (jv_it f st a (n + m)) (a + (n + m)) = f (jv_it f (jv_it f st a n) (a + n) m) (a + n + m)
    rw [jv_it_add f st a n m, Nat.add_assoc]
theorem jv_it_id {α : Type} {f : α → Nat → α} {st : α} {a : Nat} : ∀ n, (∀ r, a ≤ r → r < a + n → f st r = st) → jv_it f st a n = st
  | 0, _ => rfl
  | n + 1, h => by
    show f (jv_it f st a n) (a + n) = st
    rw [jv_it_id n (fun r h1 h2 => h r h1 (by omega))]
    exact h (a + n) (by omega) (by omega)
def rw_s (K : Nat) : Nat → Nat → Nat
  | 0, _ => 0
  | b + 1, q => rw_s K b (q / K) + q % K
def rw_c (K : Nat) : Nat → Nat → Nat
  | 0, _ => 0
  | b + 1, q => rw_c K b (q / K) * 10 + q % K
def rw_d (K : Nat) : Nat → Nat → Nat → Nat
  | 0, _, _ => 0
  | b + 1, q, a => if a = b then q % K else rw_d K b (q / K) a
theorem rw_div {K q d : Nat} (h : d < K) : (K * q + d) / K = q ∧ (K * q + d) % K = d := by
  constructor
  · rw [Nat.mul_add_div (by omega), Nat.div_eq_of_lt h, Nat.add_zero]
  · rw [Nat.mul_add_mod, Nat.mod_eq_of_lt h]
theorem rw_s_up {K b : Nat} : ∀ n r, rw_s K b (r / K ^ n) ≤ rw_s K (b + n) r
  | 0, r => by
    rw [Nat.pow_zero, Nat.div_one]
    exact Nat.le_refl _
  | n + 1, r => by
    show _ ≤ rw_s K (b + n) (r / K) + r % K
    have := rw_s_up (K := K) (b := b) n (r / K)
    rw [Nat.div_div_eq_div_mul, Nat.mul_comm, ← Nat.pow_succ] at this
    exact Nat.le_trans this (Nat.le_add_right _ _)
theorem rw_d_up {K b a : Nat} (ha : a < b) : ∀ n r, rw_d K (b + n) r a = rw_d K b (r / K ^ n) a
  | 0, r => by
    rw [Nat.pow_zero, Nat.div_one]
    rfl
  | n + 1, r => by
    show (if a = b + n then r % K else rw_d K (b + n) (r / K) a) = _
    rw [if_neg (by omega), rw_d_up ha n (r / K), Nat.div_div_eq_div_mul, Nat.mul_comm, ← Nat.pow_succ]
theorem rw_d_b {K : Nat} (hK : 0 < K) : ∀ b q a, rw_d K b q a < K
  | 0, _, _ => hK
  | b + 1, q, a => by
    show (if a = b then q % K else rw_d K b (q / K) a) < K
    split
    · exact Nat.mod_lt _ hK
    · exact rw_d_b hK b _ _
theorem rw_s_b {K : Nat} (hK : 0 < K) (hK2 : K ≤ 10) : ∀ b q, rw_s K b q ≤ 9 * b ∧ rw_c K b q + 1 ≤ 10 ^ b
  | 0, _ => ⟨Nat.le_refl _, Nat.le_refl _⟩
  | b + 1, q => by
    have h := rw_s_b hK hK2 b (q / K)
    have m := Nat.mod_lt q hK
    constructor
    · show rw_s K b (q / K) + q % K ≤ _
      omega
    · show rw_c K b (q / K) * 10 + q % K + 1 ≤ 10 ^ (b + 1)
      rw [Nat.pow_succ]
      omega
/-- the block of rows with a beginning -/
theorem rw_blk {K n q r : Nat} (hK : 0 < K) (h1 : q * K ^ n ≤ r) (h2 : r < q * K ^ n + K ^ n) : r / K ^ n = q := by
  have hp : 0 < K ^ n := Nat.pow_pos hK
  refine Nat.div_eq_of_lt_le h1 ?_
  rw [Nat.succ_mul]
  exact h2
/-- rows by which none clash; a better one -/
def rw_nc (cl : Nat → Nat → Nat → Nat → Prop) (K b q : Nat) : Prop := ∀ j i, i < j → j < b → ¬ cl j i (rw_d K b q j) (rw_d K b q i)
def rw_bet (st : Option (Nat × Nat)) (s : Nat) : Prop := ∀ x, st = some x → s < x.1
noncomputable def rw_st (cl : Nat → Nat → Nat → Nat → Prop) (K B : Nat) (st : Option (Nat × Nat)) (r : Nat) : Option (Nat × Nat) := @ite _ (rw_bet st (rw_s K B r) ∧ rw_nc cl K B r) (Classical.propDecidable _) (some (rw_s K B r, rw_c K B r)) st
theorem rw_st_p {cl : Nat → Nat → Nat → Nat → Prop} {K B r : Nat} {st : Option (Nat × Nat)} (h : rw_bet st (rw_s K B r) ∧ rw_nc cl K B r) : rw_st cl K B st r = some (rw_s K B r, rw_c K B r) := by
  unfold rw_st
  rw [if_pos h]
theorem rw_st_n {cl : Nat → Nat → Nat → Nat → Prop} {K B r : Nat} {st : Option (Nat × Nat)} (h : ¬ (rw_bet st (rw_s K B r) ∧ rw_nc cl K B r)) : rw_st cl K B st r = st := by
  unfold rw_st
  rw [if_neg h]
/-- no better one with such a beginning -/
theorem rw_cut1 {cl : Nat → Nat → Nat → Nat → Prop} {K b n q : Nat} {st : Option (Nat × Nat)} (hK : 0 < K) (h : ¬ rw_bet st (rw_s K b q)) : jv_it (rw_st cl K (b + n)) st (q * K ^ n) (K ^ n) = st := by
  refine jv_it_id _ (fun r h1 h2 => rw_st_n (fun z => h (fun x hx => ?_)))
  have := rw_s_up (K := K) (b := b) n r
  rw [rw_blk hK h1 h2] at this
  have := z.1 x hx
  omega
theorem rw_cut2 {cl : Nat → Nat → Nat → Nat → Prop} {K b n q : Nat} {st : Option (Nat × Nat)} (hK : 0 < K) (h : ¬ rw_nc cl K b q) : jv_it (rw_st cl K (b + n)) st (q * K ^ n) (K ^ n) = st := by
  refine jv_it_id _ (fun r h1 h2 => rw_st_n (fun z => h (fun j i hi hj => ?_)))
  have := z.2 j i hi (by omega)
  rw [rw_d_up hj, rw_d_up (show i < b by omega), rw_blk hK h1 h2] at this
  exact this
theorem rw_nc_s {cl : Nat → Nat → Nat → Nat → Prop} {K b q d : Nat} (hd : d < K) (h : rw_nc cl K b q) : rw_nc cl K (b + 1) (K * q + d) ↔ ∀ i, i < b → ¬ cl b i d (rw_d K b q i) := by
  have e : ∀ i, i < b → rw_d K (b + 1) (K * q + d) i = rw_d K b q i := fun i hi => by
    show (if i = b then (K * q + d) % K else rw_d K b ((K * q + d) / K) i) = _
    rw [if_neg (by omega), (rw_div hd).1]
  have e2 : rw_d K (b + 1) (K * q + d) b = d := by
    show (if b = b then (K * q + d) % K else rw_d K b ((K * q + d) / K) b) = _
    rw [if_pos rfl, (rw_div hd).2]
  constructor
  · intro z i hi
    have := z b i hi (by omega)
    rw [e2, e i hi] at this
    exact this
  · intro z j i hi hj
    by_cases hjb : j = b
    · subst hjb
      rw [e2, e i hi]
      exact z i hi
    · rw [e j (by omega), e i (by omega)]
      exact h j i hi (by omega)
/-! a clash, if both set out at 0 but for what is said -/
def pv_w (M : ja_M) (b : Nat) : Nat → Int := pv_arr (M 12) (M 13) 0 (M 14 b) (M 11 6) (oX M b)
theorem pv_lv_0 (X Y : Nat → Int) (s k y : Int) (o : Nat → Int) : ∀ t, pv_lv X Y s k y o t = s + pv_lv X Y 0 k y o t
  | 0 => (Int.add_zero s).symm
  | t + 1 => by
    show pv_lv X Y s k y o t + pv_st X Y (pv_prev o t) (o t) * k + y = s + (pv_lv X Y 0 k y o t + pv_st X Y (pv_prev o t) (o t) * k + y)
    rw [pv_lv_0 X Y s k y o t]
    omega
theorem pv_arr_0 (X Y : Nat → Int) (s k y : Int) (o : Nat → Int) (t : Nat) : pv_arr X Y s k y o t = s + pv_arr X Y 0 k y o t := by
  unfold pv_arr
  rw [pv_lv_0 X Y s]
  omega
def pv_meet (M : ja_M) (a b x z : Nat) : Prop := ∃ t u : Nat, (t < (M 11 3).toNat ∧ u < (M 11 3).toNat) ∧ oX M a t = oX M b u ∧ pv_ab (pv_w M a t + x - (pv_w M b u + z)) < M 11 6
theorem pv_w_b {M : ja_M} (hH : jH M) (hO : jO M) {b t : Nat} (hb : (b : Int) < M 11 4) (ht : (t : Int) < M 11 3) : 0 ≤ pv_w M b t ∧ pv_w M b t ≤ 1700 := pv_arr_b hH (hO.v hb) (by decide) (hH.2.2.2 b hb).2 ht
theorem pv_cl_none {C : Int → Prop} (hC : ∀ v, C v → 0 ≤ v) : pv_cl C = -1 ↔ ∀ v, ¬ C v := by
  constructor
  · intro h v hv
    have ex : ∀ n : Nat, (∃ v, C v ∧ v.toNat ≤ n) → ∃ r, pv_isMin C r := by
      intro n
      induction n with
      | zero =>
        rintro ⟨v, h1, h2⟩
        have := hC v h1
        exact ⟨v, Or.inr ⟨h1, fun w hw => by have := hC w hw; omega⟩⟩
      | succ n ih =>
        rintro ⟨v, h1, h2⟩
        by_cases q : ∃ v, C v ∧ v.toNat ≤ n
        · exact ih q
        · refine ⟨v, Or.inr ⟨h1, fun w hw => ?_⟩⟩
          have a := hC w hw
          have b : ¬ w.toNat ≤ n := fun z => q ⟨w, hw, z⟩
          omega
    obtain ⟨r, hr⟩ := ex v.toNat ⟨v, hv, Nat.le_refl _⟩
    rw [pv_cl_eq hC hr] at h
    subst h
    rcases hr with ⟨-, a⟩ | ⟨a, -⟩
    · exact a v hv
    · have := hC _ a
      omega
  · intro h
    exact pv_cl_eq hC (Or.inl ⟨rfl, h⟩)
