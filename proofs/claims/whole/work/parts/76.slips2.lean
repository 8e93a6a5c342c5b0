/-! slips: the loops -/
def pv_code (o : Nat → Nat → Int) (b t : Nat) : Nat := 6 * (o b t).toNat + (o b (t + 1)).toNat
def pv_tr (o : Nat → Nat → Int) (b T : Nat) : Nat → Nat
  | 0 => T
  | n + 1 => pv_tr o b T n ||| 2 ^ pv_code o b n
def pv_tb (o : Nat → Nat → Int) (m : Nat) : Nat → Nat
  | 0 => 0
  | b + 1 => pv_tr o b (pv_tb o m b) m
def pv_saw (o : Nat → Nat → Int) (b m i : Nat) : Bool := (List.range m).any (fun t => pv_code o b t == i)
theorem jv_any_s (f : Nat → Bool) (n : Nat) : (List.range (n + 1)).any f = ((List.range n).any f || f n) := by
  rw [List.range_succ, List.any_append, List.any_cons, List.any_nil, Bool.or_false]
theorem pv_tr_bit (o : Nat → Nat → Int) (b T i : Nat) : ∀ n, (pv_tr o b T n).testBit i = (T.testBit i || pv_saw o b n i)
  | 0 => by
    show T.testBit i = (T.testBit i || false)
    rw [Bool.or_false]
  | n + 1 => by
    show (pv_tr o b T n ||| 2 ^ pv_code o b n).testBit i = (T.testBit i || (List.range (n + 1)).any (fun t => pv_code o b t == i))
    rw [Nat.testBit_or, pv_tr_bit o b T i n, jv_any_s, Nat.testBit_two_pow, Bool.or_assoc]
    rfl
theorem pv_tb_bit (o : Nat → Nat → Int) (m i : Nat) : ∀ n, (pv_tb o m n).testBit i = (List.range n).any (fun b => pv_saw o b m i)
  | 0 => Nat.zero_testBit i
  | n + 1 => by
    show (pv_tr o n (pv_tb o m n) m).testBit i = _
    rw [pv_tr_bit, pv_tb_bit o m i n, jv_any_s]
theorem pv_tr_lt {o : Nat → Nat → Int} {b T : Nat} (hT : T < 2 ^ 36) : ∀ n, (∀ t, t < n → pv_code o b t < 36) → pv_tr o b T n < 2 ^ 36
  | 0, _ => hT
  | n + 1, h => Nat.or_lt_two_pow (pv_tr_lt hT n (fun t ht => h t (by omega))) (Nat.pow_lt_pow_right (by decide) (h n (by omega)))
theorem pv_tb_lt {o : Nat → Nat → Int} {m : Nat} : ∀ n, (∀ b t, b < n → t < m → pv_code o b t < 36) → pv_tb o m n < 2 ^ 36
  | 0, _ => show 0 < 2 ^ 36 by decide
  | n + 1, h => pv_tr_lt (pv_tb_lt n (fun b t hb ht => h b t (by omega) ht)) m (fun t ht => h n t (by omega) ht)
theorem js_pairsOfPlaces (dd : Nat) {M : ja_M} (hH : jH M) (hO : jO M) : ja_x true (dd + 3) 101 [jr 24] M = some (some (ji (jv_cnt (fun i => (pv_tb (oX M) ((M 11 3).toNat - 1) (M 11 4).toNat).testBit i) 64)), M) := by
  have hb := hH.b
  obtain ⟨B, hB⟩ : ∃ B : Nat, M 11 4 = (B : Int) := ⟨(M 11 4).toNat, by omega⟩
  obtain ⟨P, hP⟩ : ∃ P : Nat, M 11 3 = (P : Int) := ⟨(M 11 3).toNat, by omega⟩
  have eP : (M 11 3).toNat = P := by omega
  have eB : (M 11 4).toNat = B := by omega
  rw [eP, eB, f_Table_pairsOfPlaces]
  have hr : ∀ b t : Nat, b < B → t < P → 0 ≤ oX M b t ∧ oX M b t < M 11 3 := fun b t x y => (hO.1 b t (by omega) (by omega)).2
  have hcd : ∀ b t, b < B → t < P - 1 → pv_code (oX M) b t < 36 := fun b t x y => by
    have h1 := hr b t x (by omega)
    have h2 := hr b (t + 1) x (by omega)
    unfold pv_code
    omega
  have h36 : (2 : Nat) ^ 36 = 68719476736 := by decide
  have in11 : ∀ (b T : Nat), b < B → T < 2 ^ 36 → ja_D true (ja_x true (dd + 2)) k_Table_pairsOfPlaces 11 [some (jr 24), some (jl (T : Int)), none, some (ji (b : Int)), some (ji 1)] [] M = ja_D true (ja_x true (dd + 2)) k_Table_pairsOfPlaces 4 [some (jr 24), some (jl ((pv_tr (oX M) b T (P - 1) : Nat) : Int)), none, some (ji ((b : Int) + 1)), none] [] M := by
    intro b T hbB hT
    have w := jz_loop (F := fun v k => ja_D true (ja_x true (dd + 2)) k_Table_pairsOfPlaces 11 [some (jr 24), some (jl v), none, some (ji (b : Int)), some (ji (k + 1))] [] M) (N := fun n => ((pv_tr (oX M) b T n : Nat) : Int)) (n := P - 1) (P - 1) 0 (by omega) (fun k _ hk => by
      show ja_D true (ja_x true (dd + 2)) k_Table_pairsOfPlaces 11 _ [] M = _
      have e1 := js_pl dd hH (b := b) (t := k + 1) (by omega) (by omega)
      rw [show ((k + 1 : Nat) : Int) = (k : Int) + 1 by omega] at e1
      have h1 := hr b k hbB (by omega)
      have h2 := hr b (k + 1) hbB (by omega)
      have h3 := hcd b k hbB hk
      have h4 : pv_tr (oX M) b T k < 2 ^ 36 := pv_tr_lt hT k (fun t ht => hcd b t hbB (by omega))
      have h5 : 2 ^ pv_code (oX M) b k < 2 ^ 36 := Nat.pow_lt_pow_right (by decide) h3
      have ec : oX M b k * 6 + oX M b (k + 1) = ((pv_code (oX M) b k : Nat) : Int) := by
        unfold pv_code
        omega
      rw [e_Table_pairsOfPlaces_11, js_places, jz_bI, if_pos (by omega), ja_w_id (x := (k : Int) + 1 - 1) (by omega) (by omega), show (k : Int) + 1 - 1 = (k : Int) by omega, js_pl dd hH (by omega) (by omega), jz_bI, e1, jz_bI, ja_w_id (x := oX M b k * 6) (by omega) (by omega), ja_w_id (x := oX M b k * 6 + oX M b (k + 1)) (by omega) (by omega), ec, jx_lshl1 _ h3, jx_lor (by omega) (by omega), ja_w_id (by omega) (by omega)]
      rfl)
    have w : ja_D true (ja_x true (dd + 2)) k_Table_pairsOfPlaces 11 [some (jr 24), some (jl (T : Int)), none, some (ji (b : Int)), some (ji (0 + 1))] [] M = ja_D true (ja_x true (dd + 2)) k_Table_pairsOfPlaces 11 [some (jr 24), some (jl ((pv_tr (oX M) b T (P - 1) : Nat) : Int)), none, some (ji (b : Int)), some (ji (((P - 1 : Nat) : Int) + 1))] [] M := w
    rw [show (0 : Int) + 1 = 1 from rfl] at w
    rw [w, e_Table_pairsOfPlaces_11, js_places, jz_bI, if_neg (by omega), ja_w_id (by omega) (by omega)]
  have w := jz_loop (F := fun v k => ja_D true (ja_x true (dd + 2)) k_Table_pairsOfPlaces 4 [some (jr 24), some (jl v), none, some (ji k), none] [] M) (N := fun n => ((pv_tb (oX M) (P - 1) n : Nat) : Int)) (n := B) B 0 (by omega) (fun k _ hk => by
    show ja_D true (ja_x true (dd + 2)) k_Table_pairsOfPlaces 4 _ [] M = _
    rw [e_Table_pairsOfPlaces_4, js_bands, jz_bI, if_pos (by omega), in11 k _ hk (pv_tb_lt k (fun b t x y => hcd b t (by omega) y))]
    rfl)
  have w : ja_D true (ja_x true (dd + 2)) k_Table_pairsOfPlaces 4 [some (jr 24), some (jl 0), none, some (ji 0), none] [] M = ja_D true (ja_x true (dd + 2)) k_Table_pairsOfPlaces 4 [some (jr 24), some (jl ((pv_tb (oX M) (P - 1) B : Nat) : Int)), none, some (ji (B : Int)), none] [] M := w
  have hlt := pv_tb_lt (o := oX M) (m := P - 1) B (fun b t x y => hcd b t x y)
  rw [w, e_Table_pairsOfPlaces_4, js_bands, jz_bI, if_neg (by omega), js_lbitCount (dd + 1) M (by omega), jz_bI]
/-- does some band go from p to q? -/
def pv_goes (o : Nat → Nat → Int) (m : Nat) (p q : Int) (b : Nat) : Bool := (List.range m).any (fun t => decide (o b t = p) && decide (o b (t + 1) = q))
def pv_some (o : Nat → Nat → Int) (m B : Nat) (p q : Int) : Bool := (List.range B).any (pv_goes o m p q)
abbrev jv_01 (x : Bool) : Int := if x = true then 1 else 0
theorem js_R_slips (dd : Nat) {M : ja_M} (hH : jH M) (hO : jO M) (h0 : M 11 4 ≠ 0) : ja_x true (dd + 2) 261 [jr 137] M = some (some (ji (jv_sum (fun p => jv_cnt (fun q => pv_some (oX M) ((M 11 3).toNat - 1) (M 11 4).toNat (p : Int) (q : Int)) (M 11 3).toNat) (M 11 3).toNat)), M) := by
  have hb := hH.b
  obtain ⟨B, hB⟩ : ∃ B : Nat, M 11 4 = (B : Int) := ⟨(M 11 4).toNat, by omega⟩
  obtain ⟨P, hP⟩ : ∃ P : Nat, M 11 3 = (P : Int) := ⟨(M 11 3).toNat, by omega⟩
  have eP : (M 11 3).toNat = P := by omega
  have eB : (M 11 4).toNat = B := by omega
  rw [eP, eB, f_R_slips, hH.2.1.2.1, if_neg h0]
  have heq : ∀ b t : Nat, b < B → t < P → oR M b t = oX M b t := fun b t x y => hO.eq (by omega) (by omega)
  have hc : ∀ (p : Int) n, n ≤ 6 → 0 ≤ jv_cnt (fun q => pv_some (oX M) (P - 1) B p (q : Int)) n ∧ jv_cnt (fun q => pv_some (oX M) (P - 1) B p (q : Int)) n ≤ 6 := fun p n hn => by
    have := jv_cnt_b (fun q => pv_some (oX M) (P - 1) B p (q : Int)) n
    omega
  have hs : ∀ n, n ≤ 6 → 0 ≤ jv_sum (fun p => jv_cnt (fun q => pv_some (oX M) (P - 1) B (p : Int) (q : Int)) P) n ∧ jv_sum (fun p => jv_cnt (fun q => pv_some (oX M) (P - 1) B (p : Int) (q : Int)) P) n ≤ 36 := fun n hn => by
    have := jv_sum_b (f := fun p => jv_cnt (fun q => pv_some (oX M) (P - 1) B (p : Int) (q : Int)) P) (c := 6) n (fun t _ => hc t P (by omega))
    omega
  have in29 : ∀ (acc p q : Int) (b : Nat) (f : Bool), b < B → ja_D true (ja_x true (dd + 1)) k_R_slips 29 [some (jr 137), some (ji acc), some (ji p), some (ji q), some (ji (jv_01 f)), some (ji (b : Int)), some (ji 1)] [] M = ja_D true (ja_x true (dd + 1)) k_R_slips 23 [some (jr 137), some (ji acc), some (ji p), some (ji q), some (ji (jv_01 (f || pv_goes (oX M) (P - 1) p q b))), some (ji ((b : Int) + 1)), none] [] M := by
    intro acc p q b f hbB
    have w := jz_loop (F := fun v k => ja_D true (ja_x true (dd + 1)) k_R_slips 29 [some (jr 137), some (ji acc), some (ji p), some (ji q), some (ji v), some (ji (b : Int)), some (ji (k + 1))] [] M) (N := fun n => jv_01 (f || pv_goes (oX M) n p q b)) (n := P - 1) (P - 1) 0 (by omega) (fun k _ hk => by
      show ja_D true (ja_x true (dd + 1)) k_R_slips 29 _ [] M = ja_D true (ja_x true (dd + 1)) k_R_slips 29 [_, _, _, _, some (ji (jv_01 (f || (List.range (k + 1)).any (fun t => decide (oX M b t = p) && decide (oX M b (t + 1) = q))))), _, _] [] M
      have e1 := js_of dd hH (b := b) (t := k + 1) (by omega) (by omega)
      rw [show ((k + 1 : Nat) : Int) = (k : Int) + 1 by omega, heq b (k + 1) hbB (by omega)] at e1
      have e0 := js_of dd hH (b := b) (t := k) (by omega) (by omega)
      rw [heq b k hbB (by omega)] at e0
      rw [jv_any_s, ← Bool.or_assoc]
      show _ = ja_D true (ja_x true (dd + 1)) k_R_slips 29 [_, _, _, _, some (ji (jv_01 (f || pv_goes (oX M) k p q b || (decide (oX M b k = p) && decide (oX M b (k + 1) = q))))), _, _] [] M
      rw [e_R_slips_29, hH.2.1.1, if_pos (by omega), ja_w_id (x := (k : Int) + 1 - 1) (by omega) (by omega), show (k : Int) + 1 - 1 = (k : Int) by omega, ja_w_id (x := (k : Int) + 1 + 1) (by omega) (by omega), e0, jz_bI, e1, jz_bI]
      cases f || pv_goes (oX M) k p q b
      · rw [Bool.false_or, if_pos (show jv_01 false = 0 from rfl)]
        by_cases q1 : oX M b k = p
        · rw [if_pos q1]
          by_cases q2 : oX M b (k + 1) = q
          · rw [if_pos q2, decide_eq_true q1, decide_eq_true q2]
            rfl
          · rw [if_neg q2, decide_eq_false q2, Bool.and_false]
            rfl
        · rw [if_neg q1, decide_eq_false q1]
          rfl
      · rw [Bool.true_or, if_neg (show ¬ jv_01 true = 0 by decide)]
        rfl)
    have w : ja_D true (ja_x true (dd + 1)) k_R_slips 29 [some (jr 137), some (ji acc), some (ji p), some (ji q), some (ji (jv_01 (f || false))), some (ji (b : Int)), some (ji (0 + 1))] [] M = ja_D true (ja_x true (dd + 1)) k_R_slips 29 [some (jr 137), some (ji acc), some (ji p), some (ji q), some (ji (jv_01 (f || pv_goes (oX M) (P - 1) p q b))), some (ji (b : Int)), some (ji (((P - 1 : Nat) : Int) + 1))] [] M := w
    rw [show (0 : Int) + 1 = 1 from rfl, Bool.or_false] at w
    rw [w, e_R_slips_29, hH.2.1.1, if_neg (by omega), ja_w_id (by omega) (by omega)]
  have in23 : ∀ (acc : Int) (p q : Nat), q < P → 0 ≤ acc ∧ acc ≤ 100 → ja_D true (ja_x true (dd + 1)) k_R_slips 23 [some (jr 137), some (ji acc), some (ji (p : Int)), some (ji (q : Int)), some (ji 0), some (ji 0), none] [] M = ja_D true (ja_x true (dd + 1)) k_R_slips 15 [some (jr 137), some (ji (acc + jv_01 (pv_some (oX M) (P - 1) B (p : Int) (q : Int)))), some (ji (p : Int)), some (ji ((q : Int) + 1)), none, none, none] [] M := by
    intro acc p q hq hacc
    have w := jz_loop (F := fun v k => ja_D true (ja_x true (dd + 1)) k_R_slips 23 [some (jr 137), some (ji acc), some (ji (p : Int)), some (ji (q : Int)), some (ji v), some (ji k), none] [] M) (N := fun n => jv_01 (pv_some (oX M) (P - 1) n (p : Int) (q : Int))) (n := B) B 0 (by omega) (fun k _ hk => by
      show ja_D true (ja_x true (dd + 1)) k_R_slips 23 _ [] M = ja_D true (ja_x true (dd + 1)) k_R_slips 23 [_, _, _, _, some (ji (jv_01 ((List.range (k + 1)).any (pv_goes (oX M) (P - 1) (p : Int) (q : Int))))), _, _] [] M
      rw [jv_any_s, e_R_slips_23, hH.2.1.2.1, if_pos (by omega), in29 acc p q k _ hk]
      rfl)
    have w : ja_D true (ja_x true (dd + 1)) k_R_slips 23 [some (jr 137), some (ji acc), some (ji (p : Int)), some (ji (q : Int)), some (ji 0), some (ji 0), none] [] M = ja_D true (ja_x true (dd + 1)) k_R_slips 23 [some (jr 137), some (ji acc), some (ji (p : Int)), some (ji (q : Int)), some (ji (jv_01 (pv_some (oX M) (P - 1) B (p : Int) (q : Int)))), some (ji (B : Int)), none] [] M := w
    rw [w, e_R_slips_23, hH.2.1.2.1, if_neg (by omega), ja_w_id (x := (q : Int) + 1) (by omega) (by omega), ja_w_id (x := acc + 0) (by omega) (by omega), ja_w_id (x := acc + 1) (by omega) (by omega)]
    cases pv_some (oX M) (P - 1) B (p : Int) (q : Int)
    · exact if_pos rfl
    · exact if_neg (by decide)
  have in15 : ∀ (acc : Int) (p : Nat), p < P → 0 ≤ acc ∧ acc ≤ 50 → ja_D true (ja_x true (dd + 1)) k_R_slips 15 [some (jr 137), some (ji acc), some (ji (p : Int)), some (ji 0), none, none, none] [] M = ja_D true (ja_x true (dd + 1)) k_R_slips 9 [some (jr 137), some (ji (acc + jv_cnt (fun q => pv_some (oX M) (P - 1) B (p : Int) (q : Int)) P)), some (ji ((p : Int) + 1)), none, none, none, none] [] M := by
    intro acc p hp hacc
    have w := jz_loop (F := fun v k => ja_D true (ja_x true (dd + 1)) k_R_slips 15 [some (jr 137), some (ji v), some (ji (p : Int)), some (ji k), none, none, none] [] M) (N := fun n => acc + jv_cnt (fun q => pv_some (oX M) (P - 1) B (p : Int) (q : Int)) n) (n := P) P 0 (by omega) (fun k _ hk => by
      show ja_D true (ja_x true (dd + 1)) k_R_slips 15 _ [] M = _
      have := hc p k (by omega)
      rw [e_R_slips_15, hH.2.1.1, if_pos (by omega), in23 _ p k hk (by omega), Int.add_assoc]
      rfl)
    have w : ja_D true (ja_x true (dd + 1)) k_R_slips 15 [some (jr 137), some (ji (acc + 0)), some (ji (p : Int)), some (ji 0), none, none, none] [] M = ja_D true (ja_x true (dd + 1)) k_R_slips 15 [some (jr 137), some (ji (acc + jv_cnt (fun q => pv_some (oX M) (P - 1) B (p : Int) (q : Int)) P)), some (ji (p : Int)), some (ji (P : Int)), none, none, none] [] M := w
    rw [Int.add_zero] at w
    rw [w, e_R_slips_15, hH.2.1.1, if_neg (by omega), ja_w_id (by omega) (by omega)]
  have w := jz_loop (F := fun v k => ja_D true (ja_x true (dd + 1)) k_R_slips 9 [some (jr 137), some (ji v), some (ji k), none, none, none, none] [] M) (N := fun n => jv_sum (fun p => jv_cnt (fun q => pv_some (oX M) (P - 1) B (p : Int) (q : Int)) P) n) (n := P) P 0 (by omega) (fun k _ hk => by
    show ja_D true (ja_x true (dd + 1)) k_R_slips 9 _ [] M = _
    have := hs k (by omega)
    rw [e_R_slips_9, hH.2.1.1, if_pos (by omega), in15 _ k hk (by omega)]
    rfl)
  have w : ja_D true (ja_x true (dd + 1)) k_R_slips 9 [some (jr 137), some (ji 0), some (ji 0), none, none, none, none] [] M = ja_D true (ja_x true (dd + 1)) k_R_slips 9 [some (jr 137), some (ji (jv_sum (fun p => jv_cnt (fun q => pv_some (oX M) (P - 1) B (p : Int) (q : Int)) P) P)), some (ji (P : Int)), none, none, none, none] [] M := w
  rw [w, e_R_slips_9, hH.2.1.1, if_neg (by omega)]
theorem jv_cnt_none {f : Nat → Bool} : ∀ n, (∀ k, k < n → f k = false) → jv_cnt f n = 0
  | 0, _ => rfl
  | n + 1, h => by
    show jv_cnt f n + (if f n = true then 1 else 0) = 0
    rw [jv_cnt_none n (fun k hk => h k (by omega)), h n (by omega)]
    rfl
theorem jv_cnt_six (f : Nat → Bool) : ∀ n, jv_cnt f (6 * n) = jv_sum (fun p => jv_cnt (fun q => f (6 * p + q)) 6) n
  | 0 => rfl
  | n + 1 => by
    show jv_cnt f (6 * n + 6) = jv_sum _ n + jv_cnt (fun q => f (6 * n + q)) 6
    rw [jv_cnt_split, jv_cnt_six f n]
theorem jv_sum_none {f : Nat → Int} : ∀ n, (∀ k, k < n → f k = 0) → jv_sum f n = 0
  | 0, _ => rfl
  | n + 1, h => by
    show jv_sum f n + f n = 0
    rw [jv_sum_none n (fun k hk => h k (by omega)), h n (by omega)]
    rfl
theorem jv_sum_split (f : Nat → Int) (n : Nat) : ∀ m, jv_sum f (n + m) = jv_sum f n + jv_sum (fun i => f (n + i)) m
  | 0 => (Int.add_zero _).symm
  | m + 1 => by
    show jv_sum f (n + m) + f (n + m) = jv_sum f n + (jv_sum (fun i => f (n + i)) m + f (n + m))
    rw [jv_sum_split f n m]
    omega
theorem jv_any_congr {f g : Nat → Bool} {n : Nat} (h : ∀ k, k < n → f k = g k) : (List.range n).any f = (List.range n).any g := by
  induction n with
  | zero => rfl
  | succ n ih => rw [jv_any_s, jv_any_s, ih (fun k hk => h k (by omega)), h n (by omega)]
theorem jv_any_none {f : Nat → Bool} {n : Nat} (h : ∀ k, k < n → f k = false) : (List.range n).any f = false := by
  rw [jv_any_congr (g := fun _ => false) h]
  induction n with
  | zero => rfl
  | succ n ih => rw [jv_any_s, ih (fun k hk => h k (by omega))]; rfl
/-- codes and pairs are as many -/
theorem pv_slips_eq {o : Nat → Nat → Int} {P B : Nat} (hP : P ≤ 6) (h : ∀ b t, b < B → t < P → 0 ≤ o b t ∧ o b t < (P : Int)) : jv_cnt (fun i => (pv_tb o (P - 1) B).testBit i) 64 = jv_sum (fun p => jv_cnt (fun q => pv_some o (P - 1) B (p : Int) (q : Int)) P) P := by
  have hcode : ∀ b t, b < B → t < P - 1 → (o b t).toNat < P ∧ (o b (t + 1)).toNat < P := fun b t x y => by
    have h1 := h b t x (by omega)
    have h2 := h b (t + 1) x (by omega)
    omega
  have key : ∀ p q, q < 6 → (pv_tb o (P - 1) B).testBit (6 * p + q) = pv_some o (P - 1) B (p : Int) (q : Int) := fun p q hq => by
    rw [pv_tb_bit]
    refine jv_any_congr (fun b hb => jv_any_congr (fun t ht => ?_))
    have h1 := h b t hb (by omega)
    have h2 := h b (t + 1) hb (by omega)
    rw [Bool.eq_iff_iff, beq_iff_eq, Bool.and_eq_true, decide_eq_true_iff, decide_eq_true_iff]
    unfold pv_code
    omega
  have out : ∀ p q : Nat, P ≤ p ∨ P ≤ q → pv_some o (P - 1) B (p : Int) (q : Int) = false := fun p q hpq => by
    refine jv_any_none (fun b hb => jv_any_none (fun t ht => ?_))
    have h1 := h b t hb (by omega)
    have h2 := h b (t + 1) hb (by omega)
    rw [Bool.eq_false_iff, ne_eq, Bool.and_eq_true, decide_eq_true_iff, decide_eq_true_iff]
    omega
  rw [show 64 = 6 * 6 + 28 from rfl, jv_cnt_split, jv_cnt_none 28 (fun k _ => by
    rw [pv_tb_bit]
    refine jv_any_none (fun b hb => jv_any_none (fun t ht => ?_))
    have := hcode b t hb ht
    rw [Bool.eq_false_iff, ne_eq, beq_iff_eq]
    unfold pv_code
    omega), Int.add_zero, jv_cnt_six, show (6 : Nat) = P + (6 - P) by omega]
  rw [jv_sum_split, jv_sum_none (6 - P) (fun k _ => by
    rw [show P + (6 - P) = 6 by omega]
    exact jv_cnt_none 6 (fun q hq => by rw [key _ q hq]; exact out _ _ (Or.inl (by omega)))), Int.add_zero]
  refine jv_sum_congr P (fun p hp => ?_)
  rw [jv_cnt_split, jv_cnt_none (6 - P) (fun k _ => by
    rw [show P + (6 - P) = 6 by omega, key _ _ (by omega)]
    exact out _ _ (Or.inr (by omega))), Int.add_zero]
  refine jv_cnt_congr P (fun q hq => ?_)
  rw [show P + (6 - P) = 6 by omega]
  exact key p q (by omega)
theorem jy_p15 : jy_o15 := by
  refine jOp.pure (fun M hJ => ?_)
  obtain ⟨⟨hT, hH, hO⟩, -⟩ := hJ
  have hb := hH.b
  have hX := f_X_slips 1999 M
  rw [js_isTold 1998, jz_bI, jz_b0] at hX
  by_cases h0 : 0 < M 11 3
  · rw [if_pos h0, js_pairsOfPlaces 1996 hH hO, jz_bI] at hX
    have hR := js_R_slips 1998 hH hO (by omega)
    rw [pv_slips_eq (o := oX M) (P := (M 11 3).toNat) (by omega) (fun b t x y => by
      have : 0 ≤ oX M b t ∧ oX M b t < M 11 3 := (hO.1 b t (by omega) (by omega)).2
      omega)] at hX
    exact ⟨_, hX, hR⟩
  · rw [if_neg h0] at hX
    have hR := f_R_slips 1999 M
    rw [hH.2.1.2.1, if_pos (by omega)] at hR
    exact ⟨_, hX, hR⟩
