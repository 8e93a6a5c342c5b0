/-! orders written and remembered: order, undo, image, back, again -/
theorem jz_loop {α : Type} {F : α → Int → Option ja_R} {N : Nat → α} {n : Nat} : ∀ (m a : Nat), a + m = n → (∀ k, a ≤ k → k < n → F (N k) (k : Int) = F (N (k + 1)) ((k : Int) + 1)) → F (N a) (a : Int) = F (N n) (n : Int)
  | 0, a, e, _ => by
    have : a = n := by omega
    rw [this]
  | m + 1, a, e, h => by
    rw [h a (Nat.le_refl _) (by omega), show (a : Int) + 1 = ((a + 1 : Nat) : Int) by omega]
    exact jz_loop m (a + 1) (by omega) (fun k h1 h2 => h k (by omega) h2)
theorem jz_aln {M : ja_M} {c : Nat} {k : Int → Option ja_R} {n : Nat} (hc : ja_kd c = (100, n)) (h1 : 1 ≤ c) (h2 : c ≤ 171) : ja_aln true M c k = k (n : Int) := by
  have e : ja_okc true M c = true := by
    unfold ja_okc
    have a : Nat.ble 1 c = true := Nat.ble_eq_true_of_le h1
    have b : Nat.ble c ja_N0 = true := Nat.ble_eq_true_of_le h2
    rw [a, b]
    rfl
  unfold ja_aln
  rw [hc, e]
  rfl
theorem jk_ck {M : ja_M} {c y : Nat} {S' : List ja_V} {L : ja_L} {S : List ja_V} (h1 : (ja_okc true M c && (Nat.beq (ja_kd c).1 (ja_mcls y) && Nat.ble (ja_sz S') 8)) = true) (h2 : ja_refsL true M L = true) (h3 : ja_refsS true M S = true) : ja_ckV true M c y S' L S = true := by
  obtain ⟨a, b⟩ := jb_and h1
  obtain ⟨b, d⟩ := jb_and b
  unfold ja_ckV
  rw [a, b, d, h2, h3]
  rfl
theorem jk_rf {M : ja_M} {a : Nat} (h : a ≤ 171) : ja_refok true M (jr a) = true := by
  show (Nat.ble a 171 || Nat.ble 173 a) = true
  rw [Nat.ble_eq_true_of_le h]
  rfl
theorem jk_rfi {M : ja_M} {x : Int} : ja_refok true M (ji x) = true := rfl
theorem jk_rL0 {M : ja_M} : ja_refsL true M [] = true := rfl
theorem jk_rLn {M : ja_M} {L : ja_L} : ja_refsL true M (none :: L) = ja_refsL true M L := rfl
theorem jk_rLs {M : ja_M} {v : ja_V} {L : ja_L} (h : ja_refok true M v = true) : ja_refsL true M (some v :: L) = ja_refsL true M L := by
  show (ja_refok true M v && ja_refsL true M L) = _
  rw [h]
  rfl
theorem jk_rS0 {M : ja_M} : ja_refsS true M [] = true := rfl
theorem jk_rSs {M : ja_M} {v : ja_V} {S : List ja_V} (h : ja_refok true M v = true) : ja_refsS true M (v :: S) = ja_refsS true M S := by
  show (ja_refok true M v && ja_refsS true M S) = _
  rw [h]
  rfl
theorem jk_kd35 : ∀ q, q < 42 → q ≠ 41 → (q = 40 ∨ ja_kd (35 + q) = (100, 6)) := by decide
theorem jk_row35 {q : Nat} (h : q < 40) : ja_kd (35 + q) = (100, 6) := by
  rcases jk_kd35 q (by omega) (by omega) with e | e
  · omega
  · exact e
theorem jk_low {a i : Nat} (h : 33 ≤ a ∧ a ≤ 76) : kH a i = false ∧ kO a i = false := by
  constructor
  · unfold kH
    split <;> first | rfl | omega
  · unfold kO
    split <;> first | rfl | omega
theorem ja_row0e (M : ja_M) (c : Nat) (f : Nat → Int) : ja_row M c 0 f = M := by
  funext d j
  exact if_neg (fun q => by omega)
theorem ja_row_up (M : ja_M) (c n : Nat) (f : Nat → Int) : ja_up (ja_row M c n f) c n (f n) = ja_row M c (n + 1) f := by
  funext d j
  unfold ja_up ja_row
  by_cases h : d = c
  · subst h
    by_cases hj : j = n
    · subst hj
      simp
    · by_cases hl : j < n
      · simp [hj, hl, Nat.lt_succ_of_lt hl]
      · simp [hj, hl, show ¬ j < n + 1 by omega]
  · simp [h]
theorem jv_dig_kp {M M' : ja_M} (hH : jH M) {b : Int} (h1 : 0 ≤ b ∧ b < M 11 4) (k : jKs kO M M') : jv_dig M' b = jv_dig M b := by
  have hb := hH.b
  rw [jv_dig_eq, jv_dig_eq, k 11 3 rfl]
  exact jv_digs_congr _ (fun t _ => k (26 + b.toNat) t (jk_26 b.toNat (by omega) t))
theorem js_keepOrders (dd : Nat) {a : Nat} {M : ja_M} (hH : jH M) (hO : jO M) (ha : 35 ≤ a ∧ a ≤ 75) (hk : ja_kd a = (100, 6)) : ja_x true (dd + 4) 76 [jr 33, jr a] M = some (none, ja_row M a (M 11 4).toNat (fun b => jv_dig M b)) := by
  have hb := hH.b
  rw [f_Past_keepOrders]
  obtain ⟨B, hB⟩ : ∃ B : Nat, M 11 4 = (B : Int) := ⟨(M 11 4).toNat, by omega⟩
  have KH : ∀ n, jKs kH M (ja_row M a n (fun b => jv_dig M b)) := fun n => (jKs.rf M).row (fun i => (jk_low (by omega)).1)
  have KO : ∀ n, jKs kO M (ja_row M a n (fun b => jv_dig M b)) := fun n => (jKs.rf M).row (fun i => (jk_low (by omega)).2)
  have w := jz_loop (F := fun N k => ja_D true (ja_x true (dd + 3)) k_Past_keepOrders 2 [some (jr 33), some (jr a), some (ji k)] [] N) (N := fun n => ja_row M a n (fun b => jv_dig M b)) (n := B) B 0 (by omega) (fun k _ hk2 => by
    show ja_D true (ja_x true (dd + 3)) k_Past_keepOrders 2 _ [] _ = _
    rw [e_Past_keepOrders_2, jk_ck rfl (by rw [jk_rLs rfl, jk_rLs (jk_rf (by omega)), jk_rLs rfl]; rfl) rfl, cond_true, js_bands, jz_bI, (KO k) 11 4 rfl, hB, if_pos (by omega), jz_aln hk (by omega) (by omega), if_pos (by omega), jk_ck rfl (by rw [jk_rLs rfl, jk_rLs (jk_rf (by omega)), jk_rLs rfl]; rfl) (by rw [jk_rSs rfl, jk_rSs rfl, jk_rSs rfl, jk_rSs (jk_rf (by omega))]; rfl), cond_true, (js_digitsOf dd (hH.kp (KH k)) (hO.kp hH (KO k)) (by rw [(KO k) 11 4 rfl]; omega)).1, jz_bI, jz_ast (n := 6) hk (by omega) (by omega) (by omega) (by omega), jv_dig_kp hH (by omega) (KO k), ja_w_id (by omega) (by omega)]
    rw [show ((k : Int)).toNat = k from rfl, ja_row_up M a k (fun b => jv_dig M b)])
  have w : ja_D true (ja_x true (dd + 3)) k_Past_keepOrders 2 [some (jr 33), some (jr a), some (ji 0)] [] (ja_row M a 0 (fun b => jv_dig M b)) = ja_D true (ja_x true (dd + 3)) k_Past_keepOrders 2 [some (jr 33), some (jr a), some (ji (B : Int))] [] (ja_row M a B (fun b => jv_dig M b)) := w
  rw [ja_row0e] at w
  rw [w, e_Past_keepOrders_2, jk_ck rfl (by rw [jk_rLs rfl, jk_rLs (jk_rf (by omega)), jk_rLs rfl]; rfl) rfl, cond_true, js_bands, jz_bI, (KO B) 11 4 rfl, hB, if_neg (by omega)]
  rfl
/-- what remember makes -/
def jv_rem (M : ja_M) : ja_M := ja_up (ja_up (ja_row M (35 + (M 33 3).toNat) (M 11 4).toNat (fun b => jv_dig M b)) 33 3 ((M 33 3 + 1) % 40)) 33 4 (if M 33 4 = 40 then 40 else M 33 4 + 1)
theorem js_remember (dd : Nat) {M : ja_M} (hH : jH M) (hO : jO M) (hP : jPs M) : ja_x true (dd + 5) 75 [jr 33] M = some (none, jv_rem M) := by
  obtain ⟨p1, p2, -, -⟩ := hP
  rw [f_Past_remember, if_pos p1, show 34 + 1 + (M 33 3).toNat = 35 + (M 33 3).toNat by omega, jk_ck rfl rfl (by rw [jk_rSs (jk_rf (by omega))]; rfl), cond_true, js_keepOrders dd hH hO (by omega) (jk_row35 (by omega)), jz_bV]
  have e3 : ja_row M (35 + (M 33 3).toNat) (M 11 4).toNat (fun b => jv_dig M b) 33 3 = M 33 3 := ja_row_ne (by omega)
  have e4 : ja_row M (35 + (M 33 3).toNat) (M 11 4).toNat (fun b => jv_dig M b) 33 4 = M 33 4 := ja_row_ne (by omega)
  rw [e3, ja_w_id (x := M 33 3 + 1) (by omega) (by omega), jz_tmod (by omega), jb_up_nej (by decide), e4, ja_w_id (x := M 33 4 + 1) (by omega) (by omega)]
  unfold jv_rem
  have : ja_min (M 33 4 + 1) 40 = if M 33 4 = 40 then 40 else M 33 4 + 1 := by
    unfold ja_min
    split <;> split <;> omega
  rw [this]
/-- digits come to a row -/
theorem js_putOrder (dd : Nat) {b : Int} {M : ja_M} {f : Nat → Int} (hH : jH M) (h1 : 0 ≤ b ∧ b < M 11 4) (hf : ∀ t, t < (M 11 3).toNat → 0 ≤ f t ∧ f t ≤ 9) : ja_x true (dd + 2) 77 [jr 24, ji b, ji (jv_digs f (M 11 3).toNat)] M = some (none, ja_row M (26 + b.toNat) (M 11 3).toNat f) := by
  have hb := hH.b
  obtain ⟨P, hP⟩ : ∃ P : Nat, M 11 3 = (P : Int) := ⟨(M 11 3).toNat, by omega⟩
  rw [f_Table_putOrder, js_hasBand, jz_bI, if_pos h1, if_neg (by decide), js_places, jz_bI, hP, ja_w_id (by omega) (by omega)]
  rw [hP] at hf
  rw [show ((P : Int)).toNat = P from rfl] at hf ⊢
  have key : ∀ (k : Nat) (N : ja_M), k ≤ P → (∀ d j, ¬ (d = 26 + b.toNat ∧ j < P) → N d j = M d j) → (∀ j, k ≤ j → j < P → N (26 + b.toNat) j = f j) → ja_D true (ja_x true (dd + 1)) k_Table_putOrder 14 [some (jr 24), some (ji b), none, some (ji (jv_digs f k)), some (ji ((k : Int) - 1))] [] N = some (none, ja_row M (26 + b.toNat) P f) := by
    intro k
    induction k with
    | zero =>
      intro N _ hn hr
      rw [e_Table_putOrder_14, if_pos (by omega)]
      congr 2
      funext d j
      unfold ja_row
      by_cases h : d = 26 + b.toNat ∧ j < P
      · rw [if_pos h, h.1]
        exact hr j (Nat.zero_le _) h.2
      · rw [if_neg h]
        exact hn d j h
    | succ k ih =>
      intro N hk hn hr
      have g1 := jv_digs_b k (fun t ht => hf t (by omega))
      have g2 := hf k (by omega)
      have g3 := jv_10p (n := k) (by omega)
      have es : jv_digs f (k + 1) = jv_digs f k * 10 + f k := rfl
      have em : (jv_digs f (k + 1)).tmod 10 = f k := by rw [jz_tmod (by omega)]; omega
      have ed : (jv_digs f (k + 1)).tdiv 10 = jv_digs f k := by rw [Int.tdiv_eq_ediv_of_nonneg (by omega)]; omega
      rw [e_Table_putOrder_14, if_neg (by omega), if_pos (by omega), show 25 + 1 + b.toNat = 26 + b.toNat by omega, jz_ast (n := 6) (jk_row26 _ (by omega)) (by omega) (by omega) (by omega) (by omega), em, ed, ja_w_id (by omega) (by omega), ja_w_id (by omega) (by omega), show ((k + 1 : Nat) : Int) - 1 + -1 = (k : Int) - 1 by omega, show (((k + 1 : Nat) : Int) - 1).toNat = k by omega]
      refine ih _ (by omega) (fun d j h => ?_) (fun j h1 h2 => ?_)
      · rw [jz_up, if_neg (fun q => h ⟨q.1, by omega⟩)]
        exact hn d j h
      · by_cases q : j = k
        · subst q
          exact jb_up_eq
        · rw [jb_up_nej q]
          exact hr j (by omega) h2
  exact key P M (Nat.le_refl _) (fun _ _ _ => rfl) (fun j h1 h2 => by omega)
/-- rows of all bands -/
def ja_rows (M : ja_M) (B P : Nat) (f : Nat → Nat → Int) : ja_M := fun c j => if (26 ≤ c ∧ c < 26 + B) ∧ j < P then f (c - 26) j else M c j
theorem ja_rows_ne {M : ja_M} {B P c j : Nat} {f : Nat → Nat → Int} (h : ¬ (26 ≤ c ∧ c < 26 + B)) : ja_rows M B P f c j = M c j := if_neg (fun q => h q.1)
theorem ja_rows_in {M : ja_M} {B P b j : Nat} {f : Nat → Nat → Int} (h1 : b < B) (h2 : j < P) : ja_rows M B P f (26 + b) j = f b j := by
  unfold ja_rows
  rw [if_pos ⟨⟨by omega, by omega⟩, h2⟩, show 26 + b - 26 = b by omega]
theorem ja_rows_0 (M : ja_M) (P : Nat) (f : Nat → Nat → Int) : ja_rows M 0 P f = M := by
  funext c j
  exact if_neg (fun q => by omega)
theorem ja_rows_s (M : ja_M) (B P : Nat) (f : Nat → Nat → Int) : ja_row (ja_rows M B P f) (26 + B) P (f B) = ja_rows M (B + 1) P f := by
  funext c j
  unfold ja_row ja_rows
  by_cases h : c = 26 + B ∧ j < P
  · rw [if_pos h, if_pos ⟨⟨by omega, by omega⟩, h.2⟩, h.1, show 26 + B - 26 = B by omega]
  · rw [if_neg h]
    by_cases h2 : (26 ≤ c ∧ c < 26 + B) ∧ j < P
    · rw [if_pos h2, if_pos ⟨⟨by omega, by omega⟩, h2.2⟩]
    · rw [if_neg h2, if_neg (fun q => by
        rcases Nat.lt_or_ge c (26 + B) with x | x
        · exact h2 ⟨⟨q.1.1, x⟩, q.2⟩
        · exact h ⟨by omega, q.2⟩)]
theorem jKs.rows {κ : Nat → Nat → Bool} {A M : ja_M} (h : jKs κ A M) {B P : Nat} {f : Nat → Nat → Int} (hB : B ≤ 6) (q : ∀ b i, b < 6 → κ (26 + b) i = false) : jKs κ A (ja_rows M B P f) := fun c i r => by
  have : ¬ (26 ≤ c ∧ c < 26 + B) := fun x => by
    have := q (c - 26) i (by omega)
    rw [show 26 + (c - 26) = c by omega, r] at this
    cases this
  rw [ja_rows_ne this]
  exact h c i r
theorem jk_H26 : ∀ b i, b < 6 → kH (26 + b) i = false := by
  intro b i hb
  rcases b with _ | _ | _ | _ | _ | _ | b <;> first | rfl | omega
theorem js_bringOrders (dd : Nat) {a : Nat} {M : ja_M} {f : Nat → Nat → Int} (hH : jH M) (ha : 35 ≤ a ∧ a ≤ 75) (hk : ja_kd a = (100, 6)) (hf : ∀ b t : Nat, (b : Int) < M 11 4 → (t : Int) < M 11 3 → 0 ≤ f b t ∧ f b t ≤ 9) (hr : ∀ b : Nat, (b : Int) < M 11 4 → M a b = jv_digs (f b) (M 11 3).toNat) : ja_x true (dd + 3) 85 [jr 33, jr a] M = some (none, ja_rows M (M 11 4).toNat (M 11 3).toNat f) := by
  have hb := hH.b
  rw [f_Past_bringOrders]
  obtain ⟨B, hB⟩ : ∃ B : Nat, M 11 4 = (B : Int) := ⟨(M 11 4).toNat, by omega⟩
  have KH : ∀ n, n ≤ 6 → jKs kH M (ja_rows M n (M 11 3).toNat f) := fun n hn => (jKs.rf M).rows hn jk_H26
  have w := jz_loop (F := fun N k => ja_D true (ja_x true (dd + 2)) k_Past_bringOrders 2 [some (jr 33), some (jr a), some (ji k)] [] N) (N := fun n => ja_rows M n (M 11 3).toNat f) (n := B) B 0 (by omega) (fun k _ hk2 => by
    show ja_D true (ja_x true (dd + 2)) k_Past_bringOrders 2 _ [] _ = _
    have K := KH k (by omega)
    have e3 : ja_rows M k (M 11 3).toNat f 11 3 = M 11 3 := ja_rows_ne (by omega)
    have ea : ja_rows M k (M 11 3).toNat f a (k : Int).toNat = jv_digs (f k) (M 11 3).toNat := by
      rw [ja_rows_ne (by omega)]
      exact hr k (by omega)
    have hp := js_putOrder dd (M := ja_rows M k (M 11 3).toNat f) (b := (k : Int)) (f := f k) (hH.kp K) (by rw [K 11 4 rfl]; omega) (fun t ht => hf k t (by omega) (by rw [e3] at ht; omega))
    rw [e3, show ((k : Int)).toNat = k from rfl, ja_rows_s] at hp
    rw [e_Past_bringOrders_2, jk_ck rfl (by rw [jk_rLs rfl, jk_rLs (jk_rf (by omega)), jk_rLs rfl]; rfl) rfl, cond_true, js_bands, jz_bI, K 11 4 rfl, hB, if_pos (by omega), jz_aln hk (by omega) (by omega), if_pos (by omega), jz_ald (n := 6) hk (by omega) (by omega) (by omega) (by omega), ea, jk_ck rfl (by rw [jk_rLs rfl, jk_rLs (jk_rf (by omega)), jk_rLs rfl]; rfl) rfl, cond_true, hp, jz_bV, ja_w_id (by omega) (by omega)])
  have w : ja_D true (ja_x true (dd + 2)) k_Past_bringOrders 2 [some (jr 33), some (jr a), some (ji 0)] [] (ja_rows M 0 (M 11 3).toNat f) = ja_D true (ja_x true (dd + 2)) k_Past_bringOrders 2 [some (jr 33), some (jr a), some (ji (B : Int))] [] (ja_rows M B (M 11 3).toNat f) := w
  rw [ja_rows_0] at w
  rw [w, e_Past_bringOrders_2, jk_ck rfl (by rw [jk_rLs rfl, jk_rLs (jk_rf (by omega)), jk_rLs rfl]; rfl) rfl, cond_true, js_bands, jz_bI, (KH B (by omega)) 11 4 rfl, hB, if_neg (by omega)]
  rfl
/-! the reference's digits -/
theorem js_ten (dd : Nat) {n : Nat} (M : ja_M) (h : n ≤ 6) : ja_x true (dd + 1) 246 [ji (n : Int)] M = some (some (ji ((10 : Int) ^ n)), M) := by
  rw [f_R_ten]
  have w := jz_loop (F := fun v k => ja_D true (ja_x true dd) k_R_ten 4 [some (ji (n : Int)), some (ji v), some (ji k)] [] M) (N := fun k => (10 : Int) ^ k) (n := n) n 0 (by omega) (fun k _ hk => by
    show ja_D true (ja_x true dd) k_R_ten 4 _ [] M = _
    have g := jv_10p (n := k) (by omega)
    have g0 : 0 < (10 : Int) ^ k := Int.pow_pos (by decide)
    rw [e_R_ten_4, if_pos (by omega), ja_w_id (by omega) (by omega), ja_w_id (by omega) (by omega), Int.pow_succ])
  have w : ja_D true (ja_x true dd) k_R_ten 4 [some (ji (n : Int)), some (ji 1), some (ji 0)] [] M = ja_D true (ja_x true dd) k_R_ten 4 [some (ji (n : Int)), some (ji ((10 : Int) ^ n)), some (ji (n : Int))] [] M := w
  rw [w, e_R_ten_4, if_neg (by omega)]
/-- the digit in the turn t of n -/
def jv_nthd (n : Nat) (x : Int) (t : Nat) : Int := (x.tdiv ((10 : Int) ^ (n - 1 - t))).tmod 10
theorem js_nth (dd : Nat) {x : Int} {t : Nat} {M : ja_M} (hH : jH M) (ht : (t : Int) < M 11 3) (hx : -2147483648 ≤ x ∧ x < 2147483648) : ja_x true (dd + 2) 245 [jr 137, ji x, ji (t : Int)] M = some (some (ji (jv_nthd (M 11 3).toNat x t)), M) := by
  have hb := hH.b
  have e : M 11 3 - 1 - (t : Int) = (((M 11 3).toNat - 1 - t : Nat) : Int) := by omega
  rw [f_R_nth, hH.2.1.1, ja_w_id (x := M 11 3 - 1) (by omega) (by omega), ja_w_id (by omega) (by omega), e, js_ten dd M (by omega), jz_bI]
  have g0 : 0 < (10 : Int) ^ ((M 11 3).toNat - 1 - t) := Int.pow_pos (by decide)
  generalize hp : (10 : Int) ^ ((M 11 3).toNat - 1 - t) = p at g0
  have hd : -2147483648 ≤ x.tdiv p ∧ x.tdiv p < 2147483648 := by
    rcases Int.le_total 0 x with q | q
    · rw [Int.tdiv_eq_ediv_of_nonneg q]
      have h1 := Int.ediv_nonneg q (Int.le_of_lt g0)
      have h2 := Int.ediv_le_self p q
      omega
    · have e2 : x.tdiv p = -((-x) / p) := by
        rw [← Int.tdiv_eq_ediv_of_nonneg (by omega), Int.neg_tdiv]
        omega
      have h1 := Int.ediv_nonneg (show 0 ≤ -x by omega) (Int.le_of_lt g0)
      have h2 := Int.ediv_le_self p (show 0 ≤ -x by omega)
      omega
  rw [jz_is0 (by omega), cond_false, ja_w_id hd.1 hd.2]
  unfold jv_nthd
  rw [hp]
theorem jv_nthd_digs {f : Nat → Int} : ∀ (n t : Nat), t < n → (∀ t, t < n → 0 ≤ f t ∧ f t ≤ 9) → jv_nthd n (jv_digs f n) t = f t
  | 0, _, h, _ => by omega
  | n + 1, t, h, hf => by
    have g1 := jv_digs_b n (fun t ht => hf t (by omega))
    have g2 := hf n (by omega)
    have es : jv_digs f (n + 1) = jv_digs f n * 10 + f n := rfl
    by_cases q : t = n
    · subst q
      unfold jv_nthd
      rw [show t + 1 - 1 - t = 0 by omega, Int.pow_zero, Int.tdiv_one, es, jz_tmod (by omega)]
      omega
    · have ih := jv_nthd_digs n t (by omega) (fun t ht => hf t (by omega))
      unfold jv_nthd at ih ⊢
      have g0 : 0 < (10 : Int) ^ (n - 1 - t) := Int.pow_pos (by decide)
      rw [show n + 1 - 1 - t = (n - 1 - t) + 1 by omega, Int.pow_succ, Int.tdiv_eq_ediv_of_nonneg (by omega), es, Int.mul_comm ((10 : Int) ^ (n - 1 - t)) 10, ← Int.ediv_ediv_of_nonneg (by omega : (0 : Int) ≤ 10), show (jv_digs f n * 10 + f n) / 10 = jv_digs f n by omega, ← Int.tdiv_eq_ediv_of_nonneg g1.1]
      exact ih
/-- a piece of a row -/
def ja_seg (M : ja_M) (c a n : Nat) (f : Nat → Int) : ja_M := fun d j => if d = c ∧ (a ≤ j ∧ j < a + n) then f (j - a) else M d j
theorem ja_seg_ne {M : ja_M} {c a n d j : Nat} {f : Nat → Int} (h : d ≠ c) : ja_seg M c a n f d j = M d j := if_neg (fun q => h q.1)
theorem ja_seg_in {M : ja_M} {c a n j : Nat} {f : Nat → Int} (h : j < n) : ja_seg M c a n f c (a + j) = f j := by
  unfold ja_seg
  rw [if_pos ⟨rfl, by omega⟩, show a + j - a = j by omega]
theorem ja_seg_out {M : ja_M} {c a n j : Nat} {f : Nat → Int} (h : j < a ∨ a + n ≤ j) : ja_seg M c a n f c j = M c j := if_neg (fun q => by omega)
theorem ja_seg_0 (M : ja_M) (c a : Nat) (f : Nat → Int) : ja_seg M c a 0 f = M := by
  funext d j
  exact if_neg (fun q => by omega)
theorem ja_seg_s (M : ja_M) (c a n : Nat) (f : Nat → Int) : ja_up (ja_seg M c a n f) c (a + n) (f n) = ja_seg M c a (n + 1) f := by
  funext d j
  unfold ja_up ja_seg
  by_cases h : d = c ∧ j = a + n
  · rw [if_pos h, if_pos ⟨h.1, by omega⟩, h.2, show a + n - a = n by omega]
  · rw [if_neg h]
    by_cases h2 : d = c ∧ (a ≤ j ∧ j < a + n)
    · rw [if_pos h2, if_pos ⟨h2.1, by omega⟩]
    · rw [if_neg h2, if_neg (fun q => by
        rcases Nat.lt_or_ge j (a + n) with x | x
        · exact h2 ⟨q.1, q.2.1, x⟩
        · exact h ⟨q.1, by omega⟩)]
theorem jKs.seg {κ : Nat → Nat → Bool} {A B : ja_M} (h : jKs κ A B) {c a n : Nat} {f : Nat → Int} (q : ∀ i, κ c i = false) : jKs κ A (ja_seg B c a n f) := fun d j r => by
  rw [ja_seg_ne (fun e => by rw [e, q] at r; cases r)]
  exact h d j r
theorem js_write (dd : Nat) {b x : Int} {M : ja_M} (hH : jH M) (h1 : 0 ≤ b ∧ b < M 11 4) (hx : -2147483648 ≤ x ∧ x < 2147483648) : ja_x true (dd + 3) 248 [jr 137, ji b, ji x] M = some (none, ja_seg M 154 (6 * b.toNat) (M 11 3).toNat (fun t => jv_nthd (M 11 3).toNat x t)) := by
  have hb := hH.b
  obtain ⟨P, hP⟩ : ∃ P : Nat, M 11 3 = (P : Int) := ⟨(M 11 3).toNat, by omega⟩
  rw [f_R_write]
  have K : ∀ n, jKs kH M (ja_seg M 154 (6 * b.toNat) n (fun t => jv_nthd (M 11 3).toNat x t)) := fun n => (jKs.rf M).seg (fun _ => rfl)
  have w := jz_loop (F := fun N k => ja_D true (ja_x true (dd + 2)) k_R_write 2 [some (jr 137), some (ji b), some (ji x), some (ji k)] [] N) (N := fun n => ja_seg M 154 (6 * b.toNat) n (fun t => jv_nthd (M 11 3).toNat x t)) (n := P) P 0 (by omega) (fun k _ hk => by
    show ja_D true (ja_x true (dd + 2)) k_R_write 2 _ [] _ = _
    rw [e_R_write_2, (K k) 137 27 rfl, hH.2.1.1, if_pos (by omega), js_nth dd (hH.kp (K k)) (by rw [(K k) 11 3 rfl]; omega) hx, jz_bI, (K k) 11 3 rfl, ja_w_id (x := 6 * b) (by omega) (by omega), ja_w_id (by omega) (by omega), if_pos (by omega), ja_w_id (by omega) (by omega), show (6 * b + (k : Int)).toNat = 6 * b.toNat + k by omega, ja_seg_s M 154 (6 * b.toNat) k (fun t => jv_nthd (M 11 3).toNat x t)])
  have w : ja_D true (ja_x true (dd + 2)) k_R_write 2 [some (jr 137), some (ji b), some (ji x), some (ji 0)] [] (ja_seg M 154 (6 * b.toNat) 0 (fun t => jv_nthd (M 11 3).toNat x t)) = ja_D true (ja_x true (dd + 2)) k_R_write 2 [some (jr 137), some (ji b), some (ji x), some (ji (P : Int))] [] (ja_seg M 154 (6 * b.toNat) P (fun t => jv_nthd (M 11 3).toNat x t)) := w
  rw [ja_seg_0] at w
  rw [w, e_R_write_2, (K P) 137 27 rfl, hH.2.1.1, hP, if_neg (by omega)]
  rfl
