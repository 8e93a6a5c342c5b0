/-! tables: ways through what is open; shut places -/
theorem jk_op5 : ∀ b, b < 5 → ja_kd (103 + b) = (100, 5) := by decide
theorem js_ways2 (dd : Nat) {b P : Nat} {M : ja_M} {A : Nat → Nat → Bool} (hH : jH M) (hP : M 11 3 = (P : Int)) (hP5 : P ≤ 5) (hb5 : b < 5) (hleft : ∀ t : Nat, t < P → M (103 + b) t = ((jv_set (A t) P : Nat) : Int)) : ∃ N, ja_x true (dd + 2) 153 [jr 93, jr (103 + b)] M = some (some (ji (ft A P 0 P (fun _ => true))), N) ∧ jFr s101 M N := by
  have h0 := hH.b
  have hP6 : P ≤ 6 := by omega
  have p64 : 2 ^ P ≤ 64 := Nat.pow_le_pow_right (n := 2) (by decide) hP6
  have p0 : 0 < 2 ^ P := Nat.pow_pos (by decide)
  have s6 : ∀ m, m ≤ 6 → (6 : Int) ^ m ≤ 46656 := fun m hm => by
    have : m = 0 ∨ m = 1 ∨ m = 2 ∨ m = 3 ∨ m = 4 ∨ m = 5 ∨ m = 6 := by omega
    rcases this with rfl | rfl | rfl | rfl | rfl | rfl | rfl <;> decide
  have a3 : ∀ N : ja_M, jFr s101 M N → N 11 3 = (P : Int) := fun N hf => (hf.k101.of jk_H 11 3 rfl).trans hP
  -- one set
  have inner : ∀ (S m : Nat), S < 2 ^ P → jv_pop S = m + 1 → m < P → ∀ (k p : Nat) (N : ja_M), p + k = P → jFr s101 M N → (∀ T, T < S → N 101 T = ft A P 0 (jv_pop T) (fun i => T.testBit i)) → N 101 S = jv_sum (fun q => if (S.testBit q && A (0 + m) q) = true then ft A P 0 m (jv_rest (fun i => S.testBit i) q) else 0) p → ∃ N', ja_D true (ja_x true (dd + 1)) k_Finds_waysThrough 34 [some (jr 93), some (jr (103 + b)), some (ji ((2 ^ P - 1 : Nat) : Int)), some (ji (S : Int)), some (ji ((S &&& jv_set (A m) P : Nat) : Int)), some (ji (p : Int))] [] N = ja_D true (ja_x true (dd + 1)) k_Finds_waysThrough 15 [some (jr 93), some (jr (103 + b)), some (ji ((2 ^ P - 1 : Nat) : Int)), some (ji ((S : Int) + 1)), none, none] [] N' ∧ jFr s101 M N' ∧ (∀ T, T < S + 1 → N' 101 T = ft A P 0 (jv_pop T) (fun i => T.testBit i)) := by
    intro S m hS hpop hm k
    have hset := jv_set_64 (A m) hP6
    have hand : S &&& jv_set (A m) P ≤ S := Nat.and_le_left
    induction k with
    | zero =>
      intro p N e hf hT hN
      obtain rfl : p = P := by omega
      refine ⟨N, ?_, hf, fun T hTS => ?_⟩
      · rw [e_Finds_waysThrough_34, jk_ck rfl (by rw [jk_rLs rfl, jk_rLs (jk_rf (by omega))]; rfl) rfl, cond_true, js_places, jz_bI, a3 N hf, if_neg (by omega), ja_w_id (by omega) (by omega)]
      · by_cases z : T = S
        · subst z
          rw [hN, hpop]
          exact (ft_last A p m 0 _).symm
        · exact hT T (by omega)
    | succ k ih =>
      intro p N e hf hT hN
      have hst := e_Finds_waysThrough_34 (ja_x true (dd + 1)) (103 + b) ((2 ^ P - 1 : Nat) : Int) (S : Int) ((S &&& jv_set (A m) P : Nat) : Int) (p : Int) N
      have hbit : (S &&& jv_set (A m) P).testBit p = (S.testBit p && A (0 + m) p) := by
        rw [Nat.testBit_and, jv_set_bit, Nat.zero_add]
        simp [show p < P by omega]
      rw [jk_ck rfl (by rw [jk_rLs rfl, jk_rLs (jk_rf (by omega))]; rfl) rfl, cond_true, js_places, jz_bI, a3 N hf, if_pos (by omega), jx_bit (by omega) (by omega), hbit, ja_w_id (x := (p : Int) + 1) (by omega) (by omega), show (p : Int) + 1 = ((p + 1 : Nat) : Int) by omega] at hst
      by_cases z : (S.testBit p && A (0 + m) p) = true
      · have zb : S.testBit p = true := (Bool.and_eq_true _ _ ▸ z).1
        have hlt := jv_less_lt zb
        have hpp := jv_less_pop zb (by omega)
        have hval := hT (S ^^^ 2 ^ p) hlt
        rw [show jv_pop (S ^^^ 2 ^ p) = m by omega, jv_less_fun zb] at hval
        have fb := ft_b hP6 (A := A) m 0 (jv_rest (fun i => S.testBit i) p)
        have sm := s6 m (by omega)
        have sb := jv_sum_b (f := fun q => if (S.testBit q && A (0 + m) q) = true then ft A P 0 m (jv_rest (fun i => S.testBit i) q) else 0) (c := 46656) p (fun q _ => by
          have := ft_b hP6 (A := A) m 0 (jv_rest (fun i => S.testBit i) q)
          show 0 ≤ (if (S.testBit q && A (0 + m) q) = true then ft A P 0 m (jv_rest (fun i => S.testBit i) q) else 0) ∧ (if (S.testBit q && A (0 + m) q) = true then ft A P 0 m (jv_rest (fun i => S.testBit i) q) else 0) ≤ 46656
          split <;> omega)
        have sb2 : jv_sum (fun q => if (S.testBit q && A (0 + m) q) = true then ft A P 0 m (jv_rest (fun i => S.testBit i) q) else 0) p ≤ 6 * 46656 := Int.le_trans sb.2 (Int.mul_le_mul_of_nonneg_right (by omega) (by decide))
        rw [if_pos z, if_pos rfl, if_pos (by omega), jx_shl1 (by omega), jx_xor (by omega) (jx_p2 (by omega)), if_pos (by omega), if_pos (by omega), show ((S : Int)).toNat = S from rfl, show (((S ^^^ 2 ^ p : Nat) : Int)).toNat = S ^^^ 2 ^ p from rfl, hval, hN, ja_w_id (by omega) (by omega)] at hst
        obtain ⟨N', g1, g2⟩ := ih (p + 1) (ja_up N 101 S (jv_sum (fun q => if (S.testBit q && A (0 + m) q) = true then ft A P 0 m (jv_rest (fun i => S.testBit i) q) else 0) p + ft A P 0 m (jv_rest (fun i => S.testBit i) p))) (by omega) (hf.up rfl) (fun T hTS => (jb_up_nej (by omega)).trans (hT T hTS)) (by
          rw [jb_up_eq]
          show _ = jv_sum _ p + (if (S.testBit p && A (0 + m) p) = true then ft A P 0 m (jv_rest (fun i => S.testBit i) p) else 0)
          rw [if_pos z])
        exact ⟨N', hst.trans g1, g2⟩
      · rw [if_neg z, if_neg (by decide)] at hst
        obtain ⟨N', g1, g2⟩ := ih (p + 1) N (by omega) hf hT (by
          rw [hN]
          show _ = jv_sum _ p + (if (S.testBit p && A (0 + m) p) = true then ft A P 0 m (jv_rest (fun i => S.testBit i) p) else 0)
          rw [if_neg z, Int.add_zero])
        exact ⟨N', hst.trans g1, g2⟩
  have outer : ∀ (k S : Nat) (N : ja_M), S + k = 2 ^ P → 0 < S → jFr s101 M N → (∀ T, T < S → N 101 T = ft A P 0 (jv_pop T) (fun i => T.testBit i)) → ∃ N', ja_D true (ja_x true (dd + 1)) k_Finds_waysThrough 15 [some (jr 93), some (jr (103 + b)), some (ji ((2 ^ P - 1 : Nat) : Int)), some (ji (S : Int)), none, none] [] N = some (some (ji (N' 101 (2 ^ P - 1))), N') ∧ jFr s101 M N' ∧ (∀ T, T < 2 ^ P → N' 101 T = ft A P 0 (jv_pop T) (fun i => T.testBit i)) := by
    intro k
    induction k with
    | zero =>
      intro S N e hS hf hT
      refine ⟨N, ?_, hf, fun T h => hT T (by omega)⟩
      rw [e_Finds_waysThrough_15, if_pos (by omega), if_pos (by omega)]
      rfl
    | succ k ih =>
      intro S N e hS hf hT
      have hpc := jv_pop_set (fun i => S.testBit i) (n := P) (by omega)
      rw [← jv_bits (by omega)] at hpc
      have hcb := jv_cnt_b (fun i => S.testBit i) P
      have hpn : jv_pop S ≠ 0 := fun z => by
        have : jv_cnt (fun i => S.testBit i) P = 0 := by omega
        have := jv_set_0 this
        rw [← jv_bits (by omega)] at this
        omega
      obtain ⟨m, hm⟩ : ∃ m, jv_pop S = m + 1 := ⟨jv_pop S - 1, by omega⟩
      have hset := jv_set_64 (A m) hP6
      have hl : N (103 + b) m = ((jv_set (A m) P : Nat) : Int) := (hf (103 + b) m (fun z => by have : 103 + b = 101 := z; omega)).trans (hleft m (by omega))
      obtain ⟨N1, g1, g2, g3⟩ := inner S m (by omega) hm (by omega) P 0 (ja_up N 101 S 0) (by omega) (hf.up rfl) (fun T hTS => (jb_up_nej (by omega)).trans (hT T hTS)) jb_up_eq
      obtain ⟨N', k1, k2⟩ := ih (S + 1) N1 (by omega) (by omega) g2 g3
      refine ⟨N', ?_, k2⟩
      rw [e_Finds_waysThrough_15, if_neg (by omega), jk_ckS rfl (by rw [jk_rLs rfl, jk_rLs (jk_rf (by omega))]; rfl) (by rw [jk_rSs rfl, jk_rSs (jk_rf (by omega))]; rfl), cond_true, js_bitCount dd (by omega), jz_bI, hm, show ((m + 1 : Nat) : Int) - 1 = (m : Int) by omega, ja_w_id (x := (m : Int)) (by omega) (by omega), jz_ald (n := 5) (jk_op5 b (by omega)) (by omega) (by omega) (by omega) (by omega), if_pos (by omega), show ((m : Int)).toNat = m from rfl, hl, show ((S : Int)).toNat = S from rfl, jx_and (by omega) (by omega)]
      refine Eq.trans g1 ?_
      rw [show ((S + 1 : Nat) : Int) = (S : Int) + 1 by omega] at k1
      exact k1
  obtain ⟨N, g1, g2, g3⟩ := outer (2 ^ P - 1) 1 (ja_up M 101 0 1) (by omega) (by decide) ((jFr.rf M).up (S := s101) rfl) (fun T hT => by
    obtain rfl : T = 0 := by omega
    rw [jb_up_eq]
    rfl)
  refine ⟨N, ?_, g2⟩
  have hfull : jv_pop (2 ^ P - 1) = P := by
    have := jv_pop_set (fun _ => true) (n := P) (by omega)
    rw [jv_set_true] at this
    have hcnt : ∀ n, jv_cnt (fun _ => true) n = (n : Int) := by
      intro n
      induction n with
      | zero => rfl
      | succ n ih =>
        show jv_cnt (fun _ => true) n + 1 = _
        rw [ih]
        omega
    rw [hcnt] at this
    omega
  have hv : N 101 (2 ^ P - 1) = ft A P 0 P (fun _ => true) := by
    rw [g3 _ (by omega), hfull]
    refine ft_congr P 0 _ _ (fun p hp => ?_)
    rw [Nat.testBit_two_pow_sub_one]
    simp [hp]
  rw [hv] at g1
  rw [f_Finds_waysThrough, jk_ck rfl (by rw [jk_rLs rfl, jk_rLs (jk_rf (by omega))]; rfl) rfl, cond_true, js_places, jz_bI, hP, jx_all (by omega)]
  exact g1
theorem jv_set_diff {f g : Nat → Bool} {n : Nat} (h : n ≤ 32) : jv_set f n &&& (jv_set g n ^^^ 4294967295) = jv_set (fun q => f q && !(g q)) n := jv_set_eq (fun i => by
  rw [Nat.testBit_and, Nat.testBit_xor, jv_set_bit, jv_set_bit, jx_ones]
  by_cases q : i < n
  · simp [q, show i < 32 by omega]
  · simp [q])
abbrev s103 : Nat → Prop := fun c => 103 ≤ c ∧ c ≤ 107
def opRel (P B : Nat) (N : ja_M) (op : Nat → Nat → Nat → Bool) : Prop := ∀ b t, b < B → t < P → N (103 + b) t = ((jv_set (op b t) P : Nat) : Int)
theorem opRel.up {P B : Nat} {N : ja_M} {op : Nat → Nat → Nat → Bool} (h : opRel P B N op) (b t : Nat) (g : Nat → Bool) : opRel P B (ja_up N (103 + b) t ((jv_set g P : Nat) : Int)) (fun b' t' q => if b' = b ∧ t' = t then g q else op b' t' q) := fun b' t' hb ht => by
  by_cases z : b' = b ∧ t' = t
  · rw [z.1, z.2, jb_up_eq, jv_set_congr P (fun q _ => (if_pos ⟨rfl, rfl⟩ : (if b = b ∧ t = t then g q else op b t q) = g q))]
  · rw [jz_up, if_neg (fun e => z (by omega)), jv_set_congr P (fun q _ => (if_neg z : (if b' = b ∧ t' = t then g q else op b' t' q) = op b' t' q))]
    exact h b' t' hb ht
theorem opRel.cg {P B : Nat} {N : ja_M} {op op' : Nat → Nat → Nat → Bool} (h : opRel P B N op) (e : ∀ b t q, b < B → t < P → q < P → op' b t q = op b t q) : opRel P B N op' := fun b t hb ht => by
  rw [jv_set_congr P (fun q hq => e b t q hb ht hq)]
  exact h b t hb ht
theorem js_shutE (dd : Nat) {M N : ja_M} {P B b t : Nat} {op : Nat → Nat → Nat → Bool} (hP : M 11 3 = (P : Int)) (hB : M 11 4 = (B : Int)) (hP5 : P ≤ 5) (hB5 : B ≤ 5) (hf : jFr s103 M N) (hr : opRel P B N op) (hb : b < B) (ht : t < P) : ∃ (r : Int) (N' : ja_M), ja_x true (dd + 2) 162 [jr 93, ji (b : Int), ji (t : Int)] N = some (some (ji r), N') ∧ jFr s103 M N' ∧ opRel P B N' (opS op b t) := by
  have h64 := jv_set_64 (op b t) (n := P) (by omega)
  have a3 : ∀ N : ja_M, jFr s103 M N → N 11 3 = (P : Int) := fun N hf => (hf 11 3 (by decide)).trans hP
  have a4 : ∀ N : ja_M, jFr s103 M N → N 11 4 = (B : Int) := fun N hf => (hf 11 4 (by decide)).trans hB
  have turns : ∀ (m k : Nat) (N : ja_M) (l4 : Int) (op1 : Nat → Nat → Nat → Bool), k + m = P → jFr s103 M N → opRel P B N op1 → (∀ b' t' q, op1 b' t' q = (op b' t' q && !(((!(b' == b) && t' == t) || (b' == b && !(t' == t) && decide (t' < k))) && op b t q))) → ∃ (r : Int) (N' : ja_M), ja_D true (ja_x true (dd + 1)) k_Finds_shutElsewhere 46 [some (jr 93), some (ji (b : Int)), some (ji (t : Int)), some (ji ((jv_set (op b t) P : Nat) : Int)), some (ji l4), some (ji (k : Int))] [] N = some (some (ji r), N') ∧ jFr s103 M N' ∧ opRel P B N' (opS op b t) := by
    intro m
    induction m with
    | zero =>
      intro k N l4 op1 e hf hr h1
      have hr2 : opRel P B N (opS op b t) := hr.cg (fun b' t' q _ ht' _ => by
        rw [h1, decide_eq_true (show t' < k by omega)]
        unfold opS
        rw [Bool.and_true])
      have st := e_Finds_shutElsewhere_46 (ja_x true (dd + 1)) (b : Int) (t : Int) ((jv_set (op b t) P : Nat) : Int) l4 (k : Int) N
      rw [js_places, jz_bI, a3 N hf, if_neg (by omega)] at st
      by_cases z : l4 = 0
      · rw [if_pos z] at st
        exact ⟨0, N, st, hf, hr2⟩
      · rw [if_neg z] at st
        exact ⟨1, N, st, hf, hr2⟩
    | succ m ih =>
      intro k N l4 op1 e hf hr h1
      have st := e_Finds_shutElsewhere_46 (ja_x true (dd + 1)) (b : Int) (t : Int) ((jv_set (op b t) P : Nat) : Int) l4 (k : Int) N
      rw [js_places, jz_bI, a3 N hf, if_pos (by omega), ja_w_id (x := (k : Int) + 1) (by omega) (by omega), show (k : Int) + 1 = ((k + 1 : Nat) : Int) by omega] at st
      by_cases z : k = t
      · rw [if_pos (by omega)] at st
        obtain ⟨r, N', g1, g2⟩ := ih (k + 1) N l4 op1 (by omega) hf hr (fun b' t' q => by
          rw [h1]
          by_cases y : t' = t
          · simp [y]
          · have : decide (t' < k + 1) = decide (t' < k) := decide_eq_decide.mpr ⟨fun _ => by omega, fun _ => by omega⟩
            rw [this])
        exact ⟨r, N', st.trans g1, g2⟩
      · have hv := hr b k hb (by omega)
        have v64 := jv_set_64 (op1 b k) (n := P) (by omega)
        rw [if_neg (by omega), if_pos (by omega), show ((b : Int)).toNat = b from rfl, show 102 + 1 + b = 103 + b by omega, jz_ald (n := 5) (jk_op5 b (by omega)) (by omega) (by omega) (by omega) (by omega), if_pos (by omega), jz_ald (n := 5) (jk_op5 b (by omega)) (by omega) (by omega) (by omega) (by omega), jz_ast (n := 5) (jk_op5 b (by omega)) (by omega) (by omega) (by omega) (by omega), show ((k : Int)).toNat = k from rfl, hv, jx_less (by omega) (by omega), jv_set_diff (by omega)] at st
        obtain ⟨r, N', g1, g2⟩ := ih (k + 1) _ _ _ (by omega) (hf.up (show 103 ≤ 103 + b ∧ 103 + b ≤ 107 by omega)) (hr.up b k (fun q => op1 b k q && !(op b t q))) (fun b' t' q => by
          by_cases y : b' = b ∧ t' = k
          · rw [if_pos y, y.1, y.2, h1]
            have zt : (k == t) = false := beq_eq_false_iff_ne.mpr z
            simp [zt]
          · rw [if_neg y, h1]
            by_cases y2 : b' = b
            · have : decide (t' < k + 1) = decide (t' < k) := decide_eq_decide.mpr ⟨fun _ => by omega, fun _ => by omega⟩
              rw [this]
            · have y3 : (b' == b) = false := beq_eq_false_iff_ne.mpr y2
              simp [y3])
        exact ⟨r, N', st.trans g1, g2⟩
  have bands : ∀ (m k : Nat) (N : ja_M) (l4 : Int) (op1 : Nat → Nat → Nat → Bool), k + m = B → jFr s103 M N → opRel P B N op1 → (∀ b' t' q, op1 b' t' q = (op b' t' q && !(((!(b' == b) && t' == t) && decide (b' < k)) && op b t q))) → ∃ (r : Int) (N' : ja_M), ja_D true (ja_x true (dd + 1)) k_Finds_shutElsewhere 11 [some (jr 93), some (ji (b : Int)), some (ji (t : Int)), some (ji ((jv_set (op b t) P : Nat) : Int)), some (ji l4), some (ji (k : Int))] [] N = some (some (ji r), N') ∧ jFr s103 M N' ∧ opRel P B N' (opS op b t) := by
    intro m
    induction m with
    | zero =>
      intro k N l4 op1 e hf hr h1
      have st := e_Finds_shutElsewhere_11 (ja_x true (dd + 1)) (b : Int) (t : Int) ((jv_set (op b t) P : Nat) : Int) l4 (k : Int) N
      rw [js_bands, jz_bI, a4 N hf, if_neg (by omega)] at st
      obtain ⟨r, N', g1, g2⟩ := turns P 0 N l4 (fun b' t' q => op b' t' q && !(((!(b' == b) && t' == t) || (b' == b && !(t' == t) && decide (t' < 0))) && op b t q)) (by omega) hf (hr.cg (fun b' t' q hb' _ _ => by
        rw [h1, decide_eq_true (show b' < k by omega)]
        simp)) (fun _ _ _ => rfl)
      exact ⟨r, N', st.trans g1, g2⟩
    | succ m ih =>
      intro k N l4 op1 e hf hr h1
      have st := e_Finds_shutElsewhere_11 (ja_x true (dd + 1)) (b : Int) (t : Int) ((jv_set (op b t) P : Nat) : Int) l4 (k : Int) N
      rw [js_bands, jz_bI, a4 N hf, if_pos (by omega), ja_w_id (x := (k : Int) + 1) (by omega) (by omega), show (k : Int) + 1 = ((k + 1 : Nat) : Int) by omega] at st
      by_cases z : k = b
      · rw [if_pos (by omega)] at st
        obtain ⟨r, N', g1, g2⟩ := ih (k + 1) N l4 op1 (by omega) hf hr (fun b' t' q => by
          rw [h1]
          by_cases y : b' = b
          · simp [y]
          · have : decide (b' < k + 1) = decide (b' < k) := decide_eq_decide.mpr ⟨fun _ => by omega, fun _ => by omega⟩
            rw [this])
        exact ⟨r, N', st.trans g1, g2⟩
      · have hv := hr k t (by omega) ht
        have v64 := jv_set_64 (op1 k t) (n := P) (by omega)
        rw [if_neg (by omega), if_pos (by omega), show ((k : Int)).toNat = k from rfl, show 102 + 1 + k = 103 + k by omega, jz_ald (n := 5) (jk_op5 k (by omega)) (by omega) (by omega) (by omega) (by omega), if_pos (by omega), jz_ald (n := 5) (jk_op5 k (by omega)) (by omega) (by omega) (by omega) (by omega), jz_ast (n := 5) (jk_op5 k (by omega)) (by omega) (by omega) (by omega) (by omega), show ((t : Int)).toNat = t from rfl, hv, jx_less (by omega) (by omega), jv_set_diff (by omega)] at st
        obtain ⟨r, N', g1, g2⟩ := ih (k + 1) _ _ _ (by omega) (hf.up (show 103 ≤ 103 + k ∧ 103 + k ≤ 107 by omega)) (hr.up k t (fun q => op1 k t q && !(op b t q))) (fun b' t' q => by
          by_cases y : b' = k ∧ t' = t
          · rw [if_pos y, y.1, y.2, h1]
            have zt : (k == b) = false := beq_eq_false_iff_ne.mpr z
            simp [zt]
          · rw [if_neg y, h1]
            by_cases y2 : t' = t
            · have : decide (b' < k + 1) = decide (b' < k) := decide_eq_decide.mpr ⟨fun _ => by omega, fun _ => by omega⟩
              rw [this]
            · have y3 : (t' == t) = false := beq_eq_false_iff_ne.mpr y2
              simp [y3])
        exact ⟨r, N', st.trans g1, g2⟩
  have hv := hr b t hb ht
  obtain ⟨r, N', g1, g2⟩ := bands B 0 N 0 op (by omega) hf hr (fun b' t' q => by simp)
  refine ⟨r, N', ?_, g2⟩
  rw [f_Finds_shutElsewhere, if_pos (by omega), show ((b : Int)).toNat = b from rfl, show 102 + 1 + b = 103 + b by omega, jz_ald (n := 5) (jk_op5 b (by omega)) (by omega) (by omega) (by omega) (by omega), show ((t : Int)).toNat = t from rfl, hv]
  exact g1
