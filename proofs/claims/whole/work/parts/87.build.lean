/-! all orders: laid by the other side -/
def jv_f : Nat → Nat
  | 0 => 1
  | m + 1 => (m + 1) * jv_f m
theorem jv_f_pos : ∀ m, 0 < jv_f m
  | 0 => by decide
  | m + 1 => Nat.mul_pos (by omega) (jv_f_pos m)
theorem jv_cnt_less {f : Nat → Bool} {p : Nat} (hp : f p = true) : ∀ n, jv_cnt (fun q => f q && !(q == p)) n = jv_cnt f n - (if p < n then 1 else 0)
  | 0 => rfl
  | n + 1 => by
    show jv_cnt (fun q => f q && !(q == p)) n + (if (f n && !(n == p)) = true then 1 else 0) = jv_cnt f n + (if f n = true then 1 else 0) - _
    rw [jv_cnt_less hp n]
    by_cases z : n = p
    · subst z
      have e1 : (f n && !(n == n)) = false := by simp
      rw [e1, if_neg (show ¬ n < n by omega), if_neg (show ¬ false = true by decide), if_pos hp, if_pos (show n < n + 1 by omega)]
      omega
    · have e : (f n && !(n == p)) = f n := by simp [z]
      rw [e]
      generalize (if f n = true then (1 : Int) else 0) = y
      by_cases q : p < n
      · rw [if_pos q, if_pos (show p < n + 1 by omega)]
        omega
      · rw [if_neg q, if_neg (show ¬ p < n + 1 by omega)]
        omega
theorem jv_cnt_pos {f : Nat → Bool} {p : Nat} (hp : f p = true) {n : Nat} (hn : p < n) : 1 ≤ jv_cnt f n := by
  have h1 := jv_cnt_less hp n
  have h2 := (jv_cnt_b (fun q => f q && !(q == p)) n).1
  rw [if_pos hn] at h1
  omega
theorem jv_cnt_ex {f : Nat → Bool} : ∀ n, jv_cnt f n ≠ 0 → ∃ p, p < n ∧ f p = true
  | 0, h => absurd rfl h
  | n + 1, h => by
    by_cases z : f n = true
    · exact ⟨n, by omega, z⟩
    · have h : jv_cnt f n + (if f n = true then 1 else 0) ≠ 0 := h
      rw [if_neg z, Int.add_zero] at h
      obtain ⟨p, a, b⟩ := jv_cnt_ex n h
      exact ⟨p, by omega, b⟩
theorem jv_set_0 {f : Nat → Bool} {n : Nat} (h : jv_cnt f n = 0) : jv_set f n = 0 := by
  refine Nat.eq_of_testBit_eq (fun i => ?_)
  rw [jv_set_bit, Nat.zero_testBit]
  by_cases q : i < n
  · by_cases z : f i = true
    · have := jv_cnt_pos z q
      omega
    · simp [z]
  · simp [q]
theorem jv_set_n0 {f : Nat → Bool} {n : Nat} (h : jv_cnt f n ≠ 0) : jv_set f n ≠ 0 := fun z => by
  obtain ⟨p, h1, h2⟩ := jv_cnt_ex n h
  have := jv_set_bit f n p
  rw [z, Nat.zero_testBit, h2] at this
  simp [h1] at this
abbrev jv_rest (left : Nat → Bool) (p : Nat) : Nat → Bool := fun q => left q && !(q == p)
def jv_g (n m : Nat) (left : Nat → Bool) (p : Nat) : List (List Nat) := if left p = true then (jv_ords n m (jv_rest left p)).map (fun o => p :: o) else []
theorem jv_ords_s (n m : Nat) (left : Nat → Bool) : jv_ords n (m + 1) left = (List.range n).flatMap (jv_g n m left) := rfl
theorem jv_ords_len {n : Nat} : ∀ (m : Nat) (left : Nat → Bool), jv_cnt left n = (m : Int) → (jv_ords n m left).length = jv_f m
  | 0, _, _ => rfl
  | m + 1, left, h => by
    have part : ∀ k, k ≤ n → (((List.range k).flatMap (jv_g n m left)).length : Int) = jv_cnt left k * (jv_f m : Int) := by
      intro k
      induction k with
      | zero =>
        intro _
        rw [show jv_cnt left 0 = 0 from rfl, Int.zero_mul]
        rfl
      | succ k ih =>
        intro hk
        rw [List.range_succ, List.flatMap_append, List.length_append, Int.natCast_add, ih (by omega)]
        show _ = (jv_cnt left k + (if left k = true then 1 else 0)) * _
        have e : (([k].flatMap (jv_g n m left)).length : Int) = (if left k = true then 1 else 0) * (jv_f m : Int) := by
          rw [List.flatMap_cons, List.flatMap_nil, List.append_nil]
          unfold jv_g
          by_cases z : left k = true
          · rw [if_pos z, if_pos z, List.length_map, jv_ords_len m _ (by rw [jv_cnt_less z, h, if_pos (by omega)]; omega), Int.one_mul]
          · rw [if_neg z, if_neg z, Int.zero_mul]
            rfl
        rw [e, Int.add_mul]
    have := part n (Nat.le_refl _)
    rw [h] at this
    rw [jv_ords_s]
    show _ = (m + 1) * jv_f m
    have e2 : ((m + 1 : Nat) : Int) * (jv_f m : Int) = (((m + 1) * jv_f m : Nat) : Int) := (Int.natCast_mul ..).symm
    omega
theorem jv_num_app (a b : List Nat) : jv_num (a ++ b) = b.foldl (fun (x : Int) (p : Nat) => x * 10 + (p : Int)) (jv_num a) := by
  unfold jv_num
  rw [List.foldl_append]
theorem jv_num_s (a : List Nat) (p : Nat) : jv_num (a ++ [p]) = jv_num a * 10 + (p : Int) := by
  rw [jv_num_app]
  rfl
theorem jv_num_b {a : List Nat} : ∀ {x : Int} {k : Nat}, (∀ p ∈ a, p < 10) → 0 ≤ x → x < 10 ^ k → 0 ≤ a.foldl (fun (x : Int) (p : Nat) => x * 10 + (p : Int)) x ∧ a.foldl (fun (x : Int) (p : Nat) => x * 10 + (p : Int)) x < 10 ^ (k + a.length) := by
  induction a with
  | nil =>
    intro x k _ h1 h2
    exact ⟨h1, h2⟩
  | cons p a ih =>
    intro x k h h1 h2
    have hp := h p (List.mem_cons_self ..)
    have e : (10 : Int) ^ (k + 1) = 10 ^ k * 10 := Int.pow_succ ..
    have := ih (x := x * 10 + (p : Int)) (k := k + 1) (fun q hq => h q (List.mem_cons_of_mem _ hq)) (by omega) (by omega)
    rw [List.length_cons, show k + (a.length + 1) = k + 1 + a.length by omega]
    exact this
theorem jv_num_lt {a : List Nat} (h : ∀ p ∈ a, p < 10) (hl : a.length ≤ 6) : 0 ≤ jv_num a ∧ jv_num a < 1000000 := by
  have h1 := jv_num_b (a := a) (x := 0) (k := 0) h (by decide) (by decide)
  rw [Nat.zero_add] at h1
  have h2 : (10 : Int) ^ a.length ≤ 1000000 := by
    have : a.length = 0 ∨ a.length = 1 ∨ a.length = 2 ∨ a.length = 3 ∨ a.length = 4 ∨ a.length = 5 ∨ a.length = 6 := by omega
    rcases this with e | e | e | e | e | e | e <;> rw [e] <;> decide
  unfold jv_num
  exact ⟨h1.1, Int.lt_of_lt_of_le h1.2 h2⟩
/-- only the row of orders changes, and their number -/
def jF158 (M N : ja_M) : Prop := ∀ d i, d ≠ 158 → ¬ (d = 137 ∧ i = 38) → N d i = M d i
theorem jF158.rf (M : ja_M) : jF158 M M := fun _ _ _ _ => rfl
theorem jF158.tr {A B C : ja_M} (h : jF158 A B) (k : jF158 B C) : jF158 A C := fun d i x y => (k d i x y).trans (h d i x y)
theorem jF158.K {A B : ja_M} (h : jF158 A B) : jK A B := fun c i q => h c i (fun y => by subst y; cases q) (fun y => by rw [y.1, y.2] at q; cases q)
theorem js_build {M0 : ja_M} {P : Nat} (hP : P ≤ 6) (h27 : M0 137 27 = (P : Int)) (dd : Nat) : ∀ (m : Nat) (left : Nat → Bool) (pre : List Nat) (N : ja_M) (c : Nat), jv_cnt left P = (m : Int) → pre.length + m ≤ 6 → (∀ p ∈ pre, p < 10) → jF158 M0 N → N 137 38 = (c : Int) → c + jv_f m ≤ 720 → ∃ N', ja_x true (dd + 2 + m) 281 [jr 137, ji (jv_num pre), ji ((jv_set left P : Nat) : Int)] N = some (none, N') ∧ jF158 M0 N' ∧ N' 137 38 = ((c + jv_f m : Nat) : Int) ∧ (∀ i, i < c → N' 158 i = N 158 i) ∧ ∀ i o, (jv_ords P m left)[i]? = some o → N' 158 (c + i) = jv_num (pre ++ o)
  | 0, left, pre, N, c, hc, hl, hp, hf, h38, hb => by
    have hb : c + 1 ≤ 720 := hb
    refine ⟨ja_up (ja_up N 158 c (jv_num pre)) 137 38 ((c : Int) + 1), ?_, fun d i x y => ?_, rfl, fun i hi => ?_, fun i o ho => ?_⟩
    · rw [f_R_build, jv_set_0 hc, if_pos (show ((0 : Nat) : Int) = 0 from rfl), h38, if_pos (by omega), jb_up_ne (by decide), h38, ja_w_id (by omega) (by omega)]
      rfl
    · rw [jz_up, if_neg y, jb_up_ne x]
      exact hf d i x y
    · rw [jb_up_ne (by decide), jb_up_nej (by omega)]
    · have : i = 0 ∧ o = [] := by
        cases i with
        | zero => exact ⟨rfl, (Option.some.inj ho).symm⟩
        | succ i => cases ho
      obtain ⟨rfl, rfl⟩ := this
      rw [jb_up_ne (by decide), Nat.add_zero, jb_up_eq, List.append_nil]
  | m + 1, left, pre, N, c, hc, hl, hp, hf, h38, hb => by
    have hn0 : jv_set left P ≠ 0 := jv_set_n0 (by omega)
    have h64 := jv_set_64 left (n := P) hP
    have hnum := jv_num_lt hp (by omega)
    have hnum5 : jv_num pre < 100000 := by
      have h1 := jv_num_b (a := pre) (x := 0) (k := 0) hp (by decide) (by decide)
      rw [Nat.zero_add] at h1
      have h2 : (10 : Int) ^ pre.length ≤ 100000 := by
        have : pre.length = 0 ∨ pre.length = 1 ∨ pre.length = 2 ∨ pre.length = 3 ∨ pre.length = 4 ∨ pre.length = 5 := by omega
        rcases this with e | e | e | e | e | e <;> rw [e] <;> decide
      exact Int.lt_of_lt_of_le h1.2 h2
    have hpos : 0 < jv_f m := jv_f_pos m
    have hb : c + (m + 1) * jv_f m ≤ 720 := hb
    -- the places from p on
    have loop : ∀ (k p : Nat) (N : ja_M) (c : Nat), p + k = P → jF158 M0 N → N 137 38 = (c : Int) → (c : Int) + (jv_cnt left P - jv_cnt left p) * (jv_f m : Int) ≤ 720 → ∃ N', ja_D true (ja_x true (dd + 2 + m)) k_R_build 17 [some (jr 137), some (ji (jv_num pre)), some (ji ((jv_set left P : Nat) : Int)), some (ji (p : Int))] [] N = some (none, N') ∧ jF158 M0 N' ∧ N' 137 38 = ((c + ((List.range' p k).flatMap (jv_g P m left)).length : Nat) : Int) ∧ (∀ i, i < c → N' 158 i = N 158 i) ∧ ∀ i o, ((List.range' p k).flatMap (jv_g P m left))[i]? = some o → N' 158 (c + i) = jv_num (pre ++ o) := by
      intro k
      induction k with
      | zero =>
        intro p N c e hf h38 hb
        refine ⟨N, ?_, hf, h38, fun _ _ => rfl, fun i o ho => by cases ho⟩
        rw [e_R_build_17, hf 137 27 (by decide) (by decide), h27, if_neg (by omega)]
      | succ k ihk =>
        intro p N c e hf h38 hb
        rw [show List.range' p (k + 1) = p :: List.range' (p + 1) k from rfl, List.flatMap_cons]
        have hbit : (jv_set left P).testBit p = left p := by
          rw [jv_set_bit]
          simp [show p < P by omega]
        have hst := e_R_build_17 (ja_x true (dd + 2 + m)) (jv_num pre) ((jv_set left P : Nat) : Int) (p : Int) N
        have f210 := f_R_has (dd + 1 + m) ((jv_set left P : Nat) : Int) (p : Int) N
        rw [show dd + 1 + m + 1 = dd + 2 + m by omega, jx_bit (by omega) (by omega), hbit] at f210
        rw [hf 137 27 (by decide) (by decide), h27, if_pos (by omega), f210, ja_w_id (x := (p : Int) + 1) (by omega) (by omega), show (p : Int) + 1 = ((p + 1 : Nat) : Int) by omega] at hst
        have hcs : jv_cnt left (p + 1) = jv_cnt left p + (if left p = true then 1 else 0) := rfl
        by_cases z : left p = true
        · rw [if_pos z, if_pos rfl, jz_bI, if_neg (by decide), ja_w_id (x := 10 * jv_num pre) (by omega) (by omega), ja_w_id (x := 10 * jv_num pre + (p : Int)) (by omega) (by omega), show 10 * jv_num pre + (p : Int) = jv_num (pre ++ [p]) by rw [jv_num_s]; omega, jx_shl1 (by omega), jx_less (by omega) (jx_p2 (by omega)), jv_set_less (by omega)] at hst
          have hcl : jv_cnt (jv_rest left p) P = (m : Int) := by
            rw [jv_cnt_less z, hc, if_pos (by omega)]
            omega
          rw [if_pos z] at hcs
          have hrest : 0 ≤ jv_cnt left P - jv_cnt left (p + 1) := by
            have := jv_cnt_split left (p + 1) k
            rw [show p + 1 + k = P by omega] at this
            have := (jv_cnt_b (fun i => left (p + 1 + i)) k).1
            omega
          have hmul : (jv_cnt left P - jv_cnt left p) * (jv_f m : Int) = (jv_cnt left P - jv_cnt left (p + 1)) * (jv_f m : Int) + (jv_f m : Int) := by
            rw [show jv_cnt left P - jv_cnt left p = jv_cnt left P - jv_cnt left (p + 1) + 1 by omega, Int.add_mul, Int.one_mul]
          have hmp : 0 ≤ (jv_cnt left P - jv_cnt left (p + 1)) * (jv_f m : Int) := Int.mul_nonneg hrest (by omega)
          obtain ⟨N1, g1, g2, g3, g4, g5⟩ := js_build hP h27 dd m (jv_rest left p) (pre ++ [p]) N c hcl (by rw [List.length_append, List.length_cons, List.length_nil]; omega) (fun q hq => by
            rcases List.mem_append.mp hq with y | y
            · exact hp q y
            · rw [List.mem_singleton.mp y]
              omega) hf h38 (by omega)
          have hlen := jv_ords_len m (jv_rest left p) hcl
          obtain ⟨N', k1, k2, k3, k4, k5⟩ := ihk (p + 1) N1 (c + jv_f m) (by omega) g2 g3 (by omega)
          have eg : jv_g P m left p = (jv_ords P m (jv_rest left p)).map (fun o => p :: o) := by
            unfold jv_g
            rw [if_pos z]
          rw [eg]
          refine ⟨N', ?_, k2, ?_, fun i hi => (k4 i (by omega)).trans (g4 i hi), fun i o ho => ?_⟩
          · rw [hst, g1, jz_bV]
            exact k1
          · rw [k3, List.length_append, List.length_map, hlen]
            omega
          · by_cases y : i < jv_f m
            · rw [List.getElem?_append_left (by rw [List.length_map, hlen]; exact y), List.getElem?_map] at ho
              cases h : (jv_ords P m (jv_rest left p))[i]? with
              | none =>
                rw [h] at ho
                cases ho
              | some o' =>
                rw [h] at ho
                have ho : p :: o' = o := Option.some.inj ho
                subst ho
                rw [k4 (c + i) (by omega), g5 i o' h, List.append_assoc]
                rfl
            · rw [List.getElem?_append_right (by rw [List.length_map, hlen]; omega), List.length_map, hlen] at ho
              have := k5 _ o ho
              rw [show c + jv_f m + (i - jv_f m) = c + i by omega] at this
              exact this
        · rw [if_neg z, if_neg (by decide), jz_bI, if_pos rfl] at hst
          rw [if_neg z] at hcs
          obtain ⟨N', k1, k2, k3, k4, k5⟩ := ihk (p + 1) N c (by omega) hf h38 (by rw [hcs, Int.add_zero]; exact hb)
          have eg : jv_g P m left p = [] := by
            unfold jv_g
            rw [if_neg z]
          rw [eg, List.nil_append]
          exact ⟨N', hst.trans k1, k2, k3, k4, k5⟩
    obtain ⟨N', k1, k2, k3, k4, k5⟩ := loop P 0 N c (by omega) hf h38 (by
      rw [hc, show jv_cnt left 0 = 0 from rfl, Int.sub_zero, ← Int.natCast_mul]
      omega)
    have er : (List.range' 0 P).flatMap (jv_g P m left) = jv_ords P (m + 1) left := by
      rw [jv_ords_s, List.range_eq_range']
    rw [er] at k3 k5
    rw [jv_ords_len (m + 1) left hc] at k3
    refine ⟨N', ?_, k2, k3, k4, k5⟩
    rw [show dd + 2 + (m + 1) = dd + 2 + m + 1 by omega, f_R_build, if_neg (by omega)]
    exact k1
theorem js_layOrders (dd : Nat) {M : ja_M} (hH : jH M) : ∃ N, ja_x true (dd + 9) 280 [jr 137] M = some (none, N) ∧ jF158 M N ∧ N 137 38 = (((jv_all (M 11 3).toNat).length : Nat) : Int) ∧ (jv_all (M 11 3).toNat).length ≤ 720 ∧ ∀ i o, (jv_all (M 11 3).toNat)[i]? = some o → N 158 i = jv_num o := by
  have h0 := hH.b
  obtain ⟨P, hP⟩ : ∃ P : Nat, M 11 3 = (P : Int) := ⟨(M 11 3).toNat, by omega⟩
  rw [show (M 11 3).toNat = P by omega]
  have e27 : (ja_up M 137 38 0) 137 27 = (P : Int) := (jb_up_nej (by decide)).trans (hH.2.1.1.trans hP)
  have hcnt : ∀ n, jv_cnt (fun _ => true) n = (n : Int) := by
    intro n
    induction n with
    | zero => rfl
    | succ n ih =>
      show jv_cnt (fun _ => true) n + 1 = _
      rw [ih]
      omega
  have hlen := jv_ords_len (n := P) P (fun _ => true) (hcnt P)
  have hf720 : jv_f P ≤ 720 := by
    have : P = 0 ∨ P = 1 ∨ P = 2 ∨ P = 3 ∨ P = 4 ∨ P = 5 ∨ P = 6 := by omega
    rcases this with rfl | rfl | rfl | rfl | rfl | rfl | rfl <;> decide
  obtain ⟨N, g1, g2, g3, -, g5⟩ := js_build (M0 := ja_up M 137 38 0) (P := P) (by omega) e27 (dd + 6 - P) P (fun _ => true) [] (ja_up M 137 38 0) 0 (hcnt P) (by rw [List.length_nil]; omega) (fun p hp => by cases hp) (jF158.rf _) rfl (by omega)
  rw [show dd + 6 - P + 2 + P = dd + 8 by omega, jv_set_true] at g1
  refine ⟨N, ?_, fun d i x y => (g2 d i x y).trans (by rw [jz_up, if_neg y]), ?_, ?_, fun i o ho => ?_⟩
  · rw [f_R_layOrders, e27, jx_all (by omega)]
    rw [show ja_x true (dd + 8) 281 [jr 137, ji 0, ji ((2 ^ P - 1 : Nat) : Int)] (ja_up M 137 38 0) = some (none, N) from g1, jz_bV]
  · rw [g3, Nat.zero_add]
    show _ = (((jv_ords P P (fun _ => true)).length : Nat) : Int)
    rw [hlen]
  · show (jv_ords P P (fun _ => true)).length ≤ 720
    rw [hlen]
    exact hf720
  · have := g5 i o ho
    rw [Nat.zero_add, List.nil_append] at this
    exact this
