/-! who meets, who follows: lawful, crowd, well -/
theorem jz_any {F : Int → Option ja_R} {r : Option ja_R} {p : Nat → Prop} {n : Nat} : ∀ (m a : Nat), a + m = n → (∀ k, a ≤ k → k < n → (p k → F (k : Int) = r) ∧ (¬ p k → F (k : Int) = F ((k : Int) + 1))) → ((∃ k, a ≤ k ∧ k < n ∧ p k) → F (a : Int) = r) ∧ ((∀ k, a ≤ k → k < n → ¬ p k) → F (a : Int) = F (n : Int))
  | 0, a, e, _ => by
    have : a = n := by omega
    subst this
    exact ⟨fun ⟨k, h1, h2, _⟩ => by omega, fun _ => rfl⟩
  | m + 1, a, e, h => by
    obtain ⟨h1, h2⟩ := jz_any m (a + 1) (by omega) (fun k x y => h k (by omega) y)
    rw [show ((a + 1 : Nat) : Int) = (a : Int) + 1 by omega] at h1 h2
    obtain ⟨g1, g2⟩ := h a (Nat.le_refl _) (by omega)
    refine ⟨fun ⟨k, x, y, z⟩ => ?_, fun q => ?_⟩
    · by_cases c : p a
      · exact g1 c
      · rw [g2 c]
        refine h1 ⟨k, ?_, y, z⟩
        rcases Nat.lt_or_ge a k with w | w
        · omega
        · have e : k = a := by omega
          rw [e] at z
          exact absurd z c
    · rw [g2 (q a (Nat.le_refl _) (by omega))]
      exact h2 (fun k x y => q k (by omega) y)
/-- the first, or none -/
theorem jz_find {F : Int → Option ja_R} {res : Nat → Option ja_R} {p : Nat → Bool} {n : Nat} : ∀ (m a : Nat), a + m = n → (∀ k, a ≤ k → k < n → F (k : Int) = if p k = true then res k else F ((k : Int) + 1)) → F (a : Int) = match (List.range' a m).find? p with
    | some k => res k
    | none => F (n : Int)
  | 0, a, e, _ => by
    have : a = n := by omega
    subst this
    rfl
  | m + 1, a, e, h => by
    rw [h a (Nat.le_refl _) (by omega), List.range'_succ, List.find?_cons]
    by_cases q : p a = true
    · rw [if_pos q, q]
    · rw [if_neg q, show p a = false by simpa using q, show (a : Int) + 1 = ((a + 1 : Nat) : Int) by omega]
      exact jz_find m (a + 1) (by omega) (fun k x y => h k (by omega) y)
def jv_fst (p : Nat → Bool) (n : Nat) : Option Nat := (List.range' 0 n).find? p
def jv_fi (o : Option Nat) : Int := match o with
  | some k => (k : Int)
  | none => -1
theorem jv_fst_some {p : Nat → Bool} {n k : Nat} (h : jv_fst p n = some k) : k < n ∧ p k = true := by
  have h1 := List.mem_of_find?_eq_some h
  have h2 := List.find?_some h
  rw [List.mem_range'_1] at h1
  exact ⟨by omega, h2⟩
theorem jv_fst_none {p : Nat → Bool} {n : Nat} (h : jv_fst p n = none) {k : Nat} (hk : k < n) : p k = false := by
  have h1 := List.find?_eq_none.mp h k (by rw [List.mem_range'_1]; omega)
  simpa using h1
theorem jv_fi_ne {p : Nat → Bool} {n : Nat} : jv_fi (jv_fst p n) = -1 ↔ jv_fst p n = none := by
  cases h : jv_fst p n with
  | none => simp [jv_fi]
  | some k => simp [jv_fi]
theorem jv_fst_congr {p q : Nat → Bool} {n : Nat} (h : ∀ k, k < n → p k = q k) : jv_fst p n = jv_fst q n := by
  unfold jv_fst
  have : ∀ (m a : Nat), a + m ≤ n → (List.range' a m).find? p = (List.range' a m).find? q := by
    intro m
    induction m with
    | zero => intro a _; rfl
    | succ m ih =>
      intro a e
      rw [List.range'_succ, List.find?_cons, List.find?_cons, h a (by omega), ih (a + 1) (by omega)]
  exact this n 0 (by omega)
theorem jv_cnt_congr {p q : Nat → Bool} : ∀ n, (∀ k, k < n → p k = q k) → jv_cnt p n = jv_cnt q n
  | 0, _ => rfl
  | n + 1, h => by
    show jv_cnt p n + (if p n = true then 1 else 0) = jv_cnt q n + (if q n = true then 1 else 0)
    rw [jv_cnt_congr n (fun k hk => h k (by omega)), h n (by omega)]
theorem jv_cnt_0 {p : Nat → Bool} : ∀ n, jv_cnt p n = 0 ↔ ∀ k, k < n → p k = false
  | 0 => ⟨fun _ k hk => by omega, fun _ => rfl⟩
  | n + 1 => by
    have ih := jv_cnt_0 (p := p) n
    have hb := jv_cnt_b p n
    show jv_cnt p n + (if p n = true then 1 else 0) = 0 ↔ _
    constructor
    · intro h k hk
      by_cases q : p n = true
      · rw [if_pos q] at h
        omega
      · rw [if_neg q] at h
        by_cases e : k = n
        · subst e
          simpa using q
        · exact ih.mp (by omega) k (by omega)
    · intro h
      rw [h n (by omega), ih.mpr (fun k hk => h k (by omega))]
      rfl
theorem jv_cnt_1 {p : Nat → Bool} : ∀ n, jv_cnt p n ≤ 1 ↔ ∀ a b, a < n → b < n → p a = true → p b = true → a = b
  | 0 => ⟨fun _ a b ha => by omega, fun _ => by show (0 : Int) ≤ 1; omega⟩
  | n + 1 => by
    have ih := jv_cnt_1 (p := p) n
    have hb := jv_cnt_b p n
    have h0 := jv_cnt_0 (p := p) n
    show jv_cnt p n + (if p n = true then 1 else 0) ≤ 1 ↔ _
    by_cases q : p n = true
    · rw [if_pos q]
      constructor
      · intro h a b ha hb2 pa pb
        have z := h0.mp (by omega)
        have fa : ∀ k, k < n + 1 → p k = true → k = n := fun k hk pk => by
          rcases Nat.lt_or_ge k n with x | x
          · rw [z k x] at pk
            cases pk
          · omega
        rw [fa a ha pa, fa b hb2 pb]
      · intro h
        have := h0.mpr (fun k hk => by
          by_cases r : p k = true
          · have := h k n (by omega) (by omega) r q
            omega
          · simpa using r)
        omega
    · rw [if_neg q]
      constructor
      · intro h a b ha hb2 pa pb
        have na : a ≠ n := fun e => q (e ▸ pa)
        have nb : b ≠ n := fun e => q (e ▸ pb)
        exact ih.mp (by omega) a b (by omega) (by omega) pa pb
      · intro h
        have := ih.mpr (fun a b ha hb2 => h a b (by omega) (by omega))
        omega
theorem jv_set_or {f : Nat → Bool} {k : Nat} (h : f k = true) : jv_set f k ||| 2 ^ k = jv_set f (k + 1) := jv_set_eq (fun i => by
  rw [Nat.testBit_or, jv_set_bit, Nat.testBit_two_pow]
  by_cases q : i = k
  · subst q
    simp [h]
  · by_cases r : i < k
    · simp [r, Nat.lt_succ_of_lt r]
      omega
    · simp [r, show ¬ k = i by omega, show ¬ i < k + 1 by omega])
theorem jv_set_no {f : Nat → Bool} {k : Nat} (h : f k = false) : jv_set f (k + 1) = jv_set f k := by
  show jv_set f k + (if f k = true then 2 ^ k else 0) = _
  rw [h]
  rfl
theorem jv_set_64 (f : Nat → Bool) {n : Nat} (h : n ≤ 6) : jv_set f n < 64 := Nat.lt_of_lt_of_le (jv_set_lt f n) (Nat.pow_le_pow_right (by decide) h)
theorem jv_set_congr {f g : Nat → Bool} : ∀ n, (∀ k, k < n → f k = g k) → jv_set f n = jv_set g n
  | 0, _ => rfl
  | n + 1, h => by
    show jv_set f n + (if f n = true then 2 ^ n else 0) = jv_set g n + (if g n = true then 2 ^ n else 0)
    rw [jv_set_congr n (fun k hk => h k (by omega)), h n (by omega)]
theorem jc_cp (f : Nat → Bool) : ∀ n, ((List.range n).countP f : Int) = jv_cnt f n
  | 0 => rfl
  | n + 1 => by
    rw [List.range_succ, List.countP_append, List.countP_singleton]
    show (((List.range n).countP f + (if f n = true then 1 else 0) : Nat) : Int) = jv_cnt f n + (if f n = true then 1 else 0)
    have := jc_cp f n
    split <;> omega
theorem jv_cnt_le (f : Nat → Bool) {n : Nat} : ∀ m, jv_cnt (fun i => decide (i < n) && f i) (n + m) = jv_cnt f n
  | 0 => jv_cnt_congr n (fun k hk => by simp [hk])
  | m + 1 => by
    show jv_cnt (fun i => decide (i < n) && f i) (n + m) + (if (decide (n + m < n) && f (n + m)) = true then 1 else 0) = _
    rw [jv_cnt_le f m, show decide (n + m < n) = false by simp]
    simp
theorem jv_pop_set (f : Nat → Bool) {n : Nat} (h : n ≤ 10) : (jv_pop (jv_set f n) : Int) = jv_cnt f n := by
  unfold jv_pop
  rw [jc_cp, jv_cnt_congr (q := fun i => decide (i < n) && f i) 10 (fun k _ => jv_set_bit f n k), show 10 = n + (10 - n) by omega, jv_cnt_le]
/-! bands at a place -/
def pv_at (B : Nat) (o : Nat → Nat → Int) (t : Nat) (p : Int) : Nat := jv_set (fun b => decide (o b t = p)) B
abbrev oX (M : ja_M) : Nat → Nat → Int := fun b t => M (26 + b) t
abbrev oR (M : ja_M) : Nat → Nat → Int := fun b t => M 154 (6 * b + t)
theorem js_pl (dd : Nat) {b t : Nat} {M : ja_M} (hH : jH M) (hb : (b : Int) < M 11 4) (ht : (t : Int) < M 11 3) : ja_x true (dd + 2) 70 [jr 24, ji (b : Int), ji (t : Int)] M = some (some (ji (oX M b t)), M) := js_placeOf' dd hH (by omega) (by omega)
theorem js_of (dd : Nat) {b t : Nat} {M : ja_M} (hH : jH M) (hb : (b : Int) < M 11 4) (ht : (t : Int) < M 11 3) : ja_x true (dd + 1) 242 [jr 137, ji (b : Int), ji (t : Int)] M = some (some (ji (oR M b t)), M) := by
  have hb0 := hH.b
  rw [f_R_of, ja_w_id (x := 6 * (b : Int)) (by omega) (by omega), ja_w_id (x := 6 * (b : Int) + (t : Int)) (by omega) (by omega), if_pos (by omega), show (6 * (b : Int) + (t : Int)).toNat = 6 * b + t by omega]
theorem js_bandsAt (dd : Nat) {t : Nat} {p : Int} {M : ja_M} (hH : jH M) (ht : (t : Int) < M 11 3) : ja_x true (dd + 3) 95 [jr 24, ji (t : Int), ji p] M = some (some (ji (pv_at (M 11 4).toNat (oX M) t p : Int)), M) := by
  have hb := hH.b
  obtain ⟨B, hB⟩ : ∃ B : Nat, M 11 4 = (B : Int) := ⟨(M 11 4).toNat, by omega⟩
  rw [f_Table_bandsAt]
  have w := jz_loop (F := fun v k => ja_D true (ja_x true (dd + 2)) k_Table_bandsAt 4 [some (jr 24), some (ji (t : Int)), some (ji p), some (ji v), some (ji k)] [] M) (N := fun n => (jv_set (fun b => decide (oX M b t = p)) n : Int)) (n := B) B 0 (by omega) (fun k _ hk => by
    show ja_D true (ja_x true (dd + 2)) k_Table_bandsAt 4 _ [] M = _
    have h64 := jv_set_64 (fun b => decide (oX M b t = p)) (n := k) (by omega)
    rw [e_Table_bandsAt_4, js_bands, jz_bI, if_pos (by omega), js_pl dd hH (by omega) ht, jz_bI, ja_w_id (by omega) (by omega)]
    by_cases q : oX M k t = p
    · rw [if_pos q, jx_shl1 (by omega), jx_or (by omega) (jx_p2 (by omega)), jv_set_or (f := fun b => decide (oX M b t = p)) (decide_eq_true q)]
    · rw [if_neg q, jv_set_no (f := fun b => decide (oX M b t = p)) (decide_eq_false q)])
  have w : ja_D true (ja_x true (dd + 2)) k_Table_bandsAt 4 [some (jr 24), some (ji (t : Int)), some (ji p), some (ji 0), some (ji 0)] [] M = ja_D true (ja_x true (dd + 2)) k_Table_bandsAt 4 [some (jr 24), some (ji (t : Int)), some (ji p), some (ji (jv_set (fun b => decide (oX M b t = p)) B : Int)), some (ji (B : Int))] [] M := w
  rw [w, e_Table_bandsAt_4, js_bands, jz_bI, hB, if_neg (by omega)]
  rfl
theorem js_R_bandsAt (dd : Nat) {t : Nat} {p : Int} {M : ja_M} (hH : jH M) (ht : (t : Int) < M 11 3) : ja_x true (dd + 2) 259 [jr 137, ji (t : Int), ji p] M = some (some (ji (pv_at (M 11 4).toNat (oR M) t p : Int)), M) := by
  have hb := hH.b
  obtain ⟨B, hB⟩ : ∃ B : Nat, M 11 4 = (B : Int) := ⟨(M 11 4).toNat, by omega⟩
  rw [f_R_bandsAt]
  have w := jz_loop (F := fun v k => ja_D true (ja_x true (dd + 1)) k_R_bandsAt 4 [some (jr 137), some (ji (t : Int)), some (ji p), some (ji v), some (ji k)] [] M) (N := fun n => (jv_set (fun b => decide (oR M b t = p)) n : Int)) (n := B) B 0 (by omega) (fun k _ hk => by
    show ja_D true (ja_x true (dd + 1)) k_R_bandsAt 4 _ [] M = _
    have h64 := jv_set_64 (fun b => decide (oR M b t = p)) (n := k) (by omega)
    rw [e_R_bandsAt_4, hH.2.1.2.1, if_pos (by omega), js_of dd hH (by omega) ht, jz_bI, ja_w_id (by omega) (by omega)]
    by_cases q : oR M k t = p
    · rw [if_pos q, jx_shl1 (by omega), jx_or (by omega) (jx_p2 (by omega)), jv_set_or (f := fun b => decide (oR M b t = p)) (decide_eq_true q)]
    · rw [if_neg q, show (0 : Int) = ((0 : Nat) : Int) from rfl, jx_or (by omega) (by decide), Nat.or_zero, jv_set_no (f := fun b => decide (oR M b t = p)) (decide_eq_false q)])
  have w : ja_D true (ja_x true (dd + 1)) k_R_bandsAt 4 [some (jr 137), some (ji (t : Int)), some (ji p), some (ji 0), some (ji 0)] [] M = ja_D true (ja_x true (dd + 1)) k_R_bandsAt 4 [some (jr 137), some (ji (t : Int)), some (ji p), some (ji (jv_set (fun b => decide (oR M b t = p)) B : Int)), some (ji (B : Int))] [] M := w
  rw [w, e_R_bandsAt_4, hH.2.1.2.1, hB, if_neg (by omega)]
  rfl
/-- more than one is there -/
def pv_more (B : Nat) (o : Nat → Nat → Int) (t p : Nat) : Bool := decide (1 < jv_cnt (fun b => decide (o b t = (p : Int))) B)
theorem pv_at_pop {B : Nat} {o : Nat → Nat → Int} {t : Nat} {p : Int} (h : B ≤ 6) : (jv_pop (pv_at B o t p) : Int) = jv_cnt (fun b => decide (o b t = p)) B := jv_pop_set _ (by omega)
theorem js_fmp (dd : Nat) {t : Nat} {M : ja_M} (hH : jH M) (ht : (t : Int) < M 11 3) : ja_x true (dd + 4) 94 [jr 24, ji (t : Int)] M = some (some (ji (jv_fi (jv_fst (pv_more (M 11 4).toNat (oX M) t) (M 11 3).toNat))), M) := by
  have hb := hH.b
  obtain ⟨P, hP⟩ : ∃ P : Nat, M 11 3 = (P : Int) := ⟨(M 11 3).toNat, by omega⟩
  rw [f_Table_firstMeetingPlace]
  have w := jz_find (F := fun k => ja_D true (ja_x true (dd + 3)) k_Table_firstMeetingPlace 2 [some (jr 24), some (ji (t : Int)), some (ji k)] [] M) (res := fun k => some (some (ji (k : Int)), M)) (p := pv_more (M 11 4).toNat (oX M) t) (n := P) P 0 (by omega) (fun k _ hk => by
    show ja_D true (ja_x true (dd + 3)) k_Table_firstMeetingPlace 2 _ [] M = _
    have h64 := jv_set_64 (fun b => decide (oX M b t = (k : Int))) (n := (M 11 4).toNat) (by omega)
    rw [e_Table_firstMeetingPlace_2, js_places, jz_bI, if_pos (by omega), js_bandsAt dd hH ht, jz_bI, js_bitCount (dd + 2) (show pv_at (M 11 4).toNat (oX M) t (k : Int) < 1024 by unfold pv_at; omega), jz_bI, ja_w_id (by omega) (by omega), pv_at_pop (by omega)]
    unfold pv_more
    by_cases q : 1 < jv_cnt (fun b => decide (oX M b t = (k : Int))) (M 11 4).toNat
    · rw [if_pos q, if_pos (decide_eq_true q)]
    · rw [if_neg q, if_neg (by simp [q])])
  have w : ja_D true (ja_x true (dd + 3)) k_Table_firstMeetingPlace 2 [some (jr 24), some (ji (t : Int)), some (ji 0)] [] M = match jv_fst (pv_more (M 11 4).toNat (oX M) t) P with
    | some k => some (some (ji (k : Int)), M)
    | none => ja_D true (ja_x true (dd + 3)) k_Table_firstMeetingPlace 2 [some (jr 24), some (ji (t : Int)), some (ji (P : Int))] [] M := w
  rw [w, hP, show ((P : Int)).toNat = P from rfl]
  cases jv_fst (pv_more (M 11 4).toNat (oX M) t) P with
  | some k => rfl
  | none =>
    show ja_D true (ja_x true (dd + 3)) k_Table_firstMeetingPlace 2 [some (jr 24), some (ji (t : Int)), some (ji (P : Int))] [] M = some (some (ji (-1)), M)
    rw [e_Table_firstMeetingPlace_2, js_places, jz_bI, hP, if_neg (by omega)]
def pv_crowded (P B : Nat) (o : Nat → Nat → Int) (t : Nat) : Bool := (jv_fst (pv_more B o t) P).isSome
theorem js_fmt (dd : Nat) {M : ja_M} (hH : jH M) : ja_x true (dd + 5) 93 [jr 24] M = some (some (ji (jv_fi (jv_fst (pv_crowded (M 11 3).toNat (M 11 4).toNat (oX M)) (M 11 3).toNat))), M) := by
  have hb := hH.b
  obtain ⟨P, hP⟩ : ∃ P : Nat, M 11 3 = (P : Int) := ⟨(M 11 3).toNat, by omega⟩
  rw [f_Table_firstMeetingTurn]
  have w := jz_find (F := fun k => ja_D true (ja_x true (dd + 4)) k_Table_firstMeetingTurn 2 [some (jr 24), some (ji k)] [] M) (res := fun k => some (some (ji (k : Int)), M)) (p := pv_crowded (M 11 3).toNat (M 11 4).toNat (oX M)) (n := P) P 0 (by omega) (fun k _ hk => by
    show ja_D true (ja_x true (dd + 4)) k_Table_firstMeetingTurn 2 _ [] M = _
    rw [e_Table_firstMeetingTurn_2, js_places, jz_bI, if_pos (by omega), js_fmp dd hH (by omega), jz_bI, ja_w_id (by omega) (by omega)]
    unfold pv_crowded
    cases h : jv_fst (pv_more (M 11 4).toNat (oX M) k) (M 11 3).toNat with
    | none =>
      show (if (-1 : Int) = -1 then _ else _) = _
      rw [if_pos rfl]
      rfl
    | some j =>
      show (if (j : Int) = -1 then _ else _) = _
      rw [if_neg (by omega)]
      rfl)
  have w : ja_D true (ja_x true (dd + 4)) k_Table_firstMeetingTurn 2 [some (jr 24), some (ji 0)] [] M = match jv_fst (pv_crowded (M 11 3).toNat (M 11 4).toNat (oX M)) P with
    | some k => some (some (ji (k : Int)), M)
    | none => ja_D true (ja_x true (dd + 4)) k_Table_firstMeetingTurn 2 [some (jr 24), some (ji (P : Int))] [] M := w
  have e : (M 11 3).toNat = P := by omega
  rw [w, e]
  cases jv_fst (pv_crowded P (M 11 4).toNat (oX M)) P with
  | some k => rfl
  | none =>
    show ja_D true (ja_x true (dd + 4)) k_Table_firstMeetingTurn 2 [some (jr 24), some (ji (P : Int))] [] M = some (some (ji (-1)), M)
    rw [e_Table_firstMeetingTurn_2, js_places, jz_bI, hP, if_neg (by omega)]
/-! lawful -/
def pv_fol (P : Nat) (o : Nat → Nat → Int) (a b : Nat) : Int := jv_cnt (fun u => decide (o a (u + 1) = o b u)) (P - 1)
theorem js_tf (dd : Nat) {a b : Nat} {M : ja_M} (hH : jH M) (ha : (a : Int) < M 11 4) (hb : (b : Int) < M 11 4) : ja_x true (dd + 3) 88 [jr 24, ji (a : Int), ji (b : Int)] M = some (some (ji (pv_fol (M 11 3).toNat (oX M) a b)), M) := by
  have hb0 := hH.b
  obtain ⟨P, hP⟩ : ∃ P : Nat, M 11 3 = ((P + 1 : Nat) : Int) := ⟨(M 11 3).toNat - 1, by omega⟩
  rw [f_Table_timesFollowed]
  have w := jz_loop (F := fun v k => ja_D true (ja_x true (dd + 2)) k_Table_timesFollowed 4 [some (jr 24), some (ji (a : Int)), some (ji (b : Int)), some (ji v), some (ji (k + 1))] [] M) (N := fun n => jv_cnt (fun u => decide (oX M a (u + 1) = oX M b u)) n) (n := P) P 0 (by omega) (fun k _ hk => by
    show ja_D true (ja_x true (dd + 2)) k_Table_timesFollowed 4 _ [] M = _
    have hc := jv_cnt_b (fun u => decide (oX M a (u + 1) = oX M b u)) k
    have e1 := js_pl dd hH ha (t := k + 1) (by omega)
    have e2 := js_pl dd hH hb (t := k) (by omega)
    rw [show ((k + 1 : Nat) : Int) = (k : Int) + 1 by omega] at e1
    rw [e_Table_timesFollowed_4, js_places, jz_bI, if_pos (by omega), e1, jz_bI, ja_w_id (x := (k : Int) + 1 - 1) (by omega) (by omega), show (k : Int) + 1 - 1 = (k : Int) by omega, e2, jz_bI, ja_w_id (x := (k : Int) + 1 + 1) (by omega) (by omega), ja_w_id (by omega) (by omega)]
    show _ = ja_D true (ja_x true (dd + 2)) k_Table_timesFollowed 4 [_, _, _, some (ji (jv_cnt (fun u => decide (oX M a (u + 1) = oX M b u)) k + (if decide (oX M a (k + 1) = oX M b k) = true then 1 else 0))), _] [] M
    by_cases q : oX M a (k + 1) = oX M b k
    · rw [if_pos q, if_pos (decide_eq_true q)]
    · rw [if_neg q, if_neg (by simp [q]), Int.add_zero])
  have w : ja_D true (ja_x true (dd + 2)) k_Table_timesFollowed 4 [some (jr 24), some (ji (a : Int)), some (ji (b : Int)), some (ji 0), some (ji 1)] [] M = ja_D true (ja_x true (dd + 2)) k_Table_timesFollowed 4 [some (jr 24), some (ji (a : Int)), some (ji (b : Int)), some (ji (jv_cnt (fun u => decide (oX M a (u + 1) = oX M b u)) P)), some (ji ((P : Int) + 1))] [] M := w
  rw [w, e_Table_timesFollowed_4, js_places, jz_bI, if_neg (by omega)]
  unfold pv_fol
  rw [show (M 11 3).toNat - 1 = P by omega]
theorem js_R_fol (dd : Nat) {a b : Nat} {M : ja_M} (hH : jH M) (ha : (a : Int) < M 11 4) (hb : (b : Int) < M 11 4) : ja_x true (dd + 2) 254 [jr 137, ji (a : Int), ji (b : Int)] M = some (some (ji (pv_fol (M 11 3).toNat (oR M) a b)), M) := by
  have hb0 := hH.b
  obtain ⟨P, hP⟩ : ∃ P : Nat, M 11 3 = ((P + 1 : Nat) : Int) := ⟨(M 11 3).toNat - 1, by omega⟩
  rw [f_R_followsOf]
  have w := jz_loop (F := fun v k => ja_D true (ja_x true (dd + 1)) k_R_followsOf 4 [some (jr 137), some (ji (a : Int)), some (ji (b : Int)), some (ji v), some (ji (k + 1))] [] M) (N := fun n => jv_cnt (fun u => decide (oR M a (u + 1) = oR M b u)) n) (n := P) P 0 (by omega) (fun k _ hk => by
    show ja_D true (ja_x true (dd + 1)) k_R_followsOf 4 _ [] M = _
    have hc := jv_cnt_b (fun u => decide (oR M a (u + 1) = oR M b u)) k
    have e1 := js_of dd hH ha (t := k + 1) (by omega)
    have e2 := js_of dd hH hb (t := k) (by omega)
    rw [show ((k + 1 : Nat) : Int) = (k : Int) + 1 by omega] at e1
    rw [e_R_followsOf_4, hH.2.1.1, if_pos (by omega), e1, jz_bI, ja_w_id (x := (k : Int) + 1 - 1) (by omega) (by omega), show (k : Int) + 1 - 1 = (k : Int) by omega, e2, jz_bI, ja_w_id (x := (k : Int) + 1 + 1) (by omega) (by omega), ja_w_id (by omega) (by omega), ja_w_id (by omega) (by omega), Int.add_zero]
    show _ = ja_D true (ja_x true (dd + 1)) k_R_followsOf 4 [_, _, _, some (ji (jv_cnt (fun u => decide (oR M a (u + 1) = oR M b u)) k + (if decide (oR M a (k + 1) = oR M b k) = true then 1 else 0))), _] [] M
    by_cases q : oR M a (k + 1) = oR M b k
    · rw [if_pos q, if_pos (decide_eq_true q)]
    · rw [if_neg q, if_neg (by simp [q]), Int.add_zero])
  have w : ja_D true (ja_x true (dd + 1)) k_R_followsOf 4 [some (jr 137), some (ji (a : Int)), some (ji (b : Int)), some (ji 0), some (ji 1)] [] M = ja_D true (ja_x true (dd + 1)) k_R_followsOf 4 [some (jr 137), some (ji (a : Int)), some (ji (b : Int)), some (ji (jv_cnt (fun u => decide (oR M a (u + 1) = oR M b u)) P)), some (ji ((P : Int) + 1))] [] M := w
  rw [w, e_R_followsOf_4, hH.2.1.1, if_neg (by omega)]
  unfold pv_fol
  rw [show (M 11 3).toNat - 1 = P by omega]
def pv_met (P : Nat) (o : Nat → Nat → Int) (a b : Nat) : Prop := ∃ t, t < P ∧ o a t = o b t
theorem js_R_doMeet (dd : Nat) {a b : Nat} {M : ja_M} (hH : jH M) (ha : (a : Int) < M 11 4) (hb : (b : Int) < M 11 4) : ja_x true (dd + 2) 257 [jr 137, ji (a : Int), ji (b : Int)] M = some (some (ji (jv_b (pv_met (M 11 3).toNat (oR M) a b))), M) := by
  have hb0 := hH.b
  obtain ⟨P, hP⟩ : ∃ P : Nat, M 11 3 = (P : Int) := ⟨(M 11 3).toNat, by omega⟩
  rw [f_R_doMeet]
  obtain ⟨h1, h2⟩ := jz_any (F := fun k => ja_D true (ja_x true (dd + 1)) k_R_doMeet 2 [some (jr 137), some (ji (a : Int)), some (ji (b : Int)), some (ji k)] [] M) (r := some (some (ji 1), M)) (p := fun t => oR M a t = oR M b t) (n := P) P 0 (by omega) (fun k _ hk => by
    have e : ja_D true (ja_x true (dd + 1)) k_R_doMeet 2 [some (jr 137), some (ji (a : Int)), some (ji (b : Int)), some (ji (k : Int))] [] M = if oR M a k = oR M b k then some (some (ji 1), M) else ja_D true (ja_x true (dd + 1)) k_R_doMeet 2 [some (jr 137), some (ji (a : Int)), some (ji (b : Int)), some (ji ((k : Int) + 1))] [] M := by
      rw [e_R_doMeet_2, hH.2.1.1, if_pos (by omega), js_of dd hH ha (by omega), jz_bI, js_of dd hH hb (by omega), jz_bI, ja_w_id (by omega) (by omega)]
    exact ⟨fun q => e.trans (if_pos q), fun q => e.trans (if_neg q)⟩)
  have e : (M 11 3).toNat = P := by omega
  rw [e]
  by_cases q : pv_met P (oR M) a b
  · obtain ⟨t, x, y⟩ := id q
    rw [jv_b1 q]
    exact h1 ⟨t, Nat.zero_le _, x, y⟩
  · rw [jv_b0 q]
    have h3 := h2 (fun k _ y z => q ⟨k, y, z⟩)
    have h3 : ja_D true (ja_x true (dd + 1)) k_R_doMeet 2 [some (jr 137), some (ji (a : Int)), some (ji (b : Int)), some (ji 0)] [] M = ja_D true (ja_x true (dd + 1)) k_R_doMeet 2 [some (jr 137), some (ji (a : Int)), some (ji (b : Int)), some (ji (P : Int))] [] M := h3
    rw [h3, e_R_doMeet_2, hH.2.1.1, hP, if_neg (by omega)]
def pv_law (P B : Nat) (f : Int) (o : Nat → Nat → Int) : Prop := ∀ a b, a < B → b < B → a ≠ b → ¬ pv_met P o a b ∧ pv_fol P o a b ≤ f
/-- where nobody meets, no place has two -/
theorem pv_meet_iff {P B : Nat} {o : Nat → Nat → Int} (hp : ∀ b t, b < B → t < P → 0 ≤ o b t ∧ o b t < (P : Int)) : jv_fst (pv_crowded P B o) P = none ↔ ∀ a b, a < B → b < B → a ≠ b → ¬ pv_met P o a b := by
  constructor
  · rintro h a b ha hb ne ⟨t, ht, e⟩
    have h1 := jv_fst_none h ht
    unfold pv_crowded at h1
    have h2 : jv_fst (pv_more B o t) P = none := by
      cases x : jv_fst (pv_more B o t) P with
      | none => rfl
      | some k =>
        rw [x] at h1
        cases h1
    have g := hp a t ha ht
    have h3 := jv_fst_none h2 (k := (o a t).toNat) (by omega)
    unfold pv_more at h3
    have h4 : jv_cnt (fun b => decide (o b t = ((o a t).toNat : Int))) B ≤ 1 := by
      have := of_decide_eq_false h3
      omega
    exact ne ((jv_cnt_1 B).mp h4 a b ha hb (decide_eq_true (by omega)) (decide_eq_true (by omega)))
  · intro h
    cases x : jv_fst (pv_crowded P B o) P with
    | none => rfl
    | some t =>
      exfalso
      obtain ⟨ht, h1⟩ := jv_fst_some x
      unfold pv_crowded at h1
      cases y : jv_fst (pv_more B o t) P with
      | none =>
        rw [y] at h1
        cases h1
      | some p =>
        obtain ⟨hpp, h2⟩ := jv_fst_some y
        have h3 := of_decide_eq_true h2
        have h4 : jv_cnt (fun b => decide (o b t = (p : Int))) B ≤ 1 := (jv_cnt_1 B).mpr (fun a b ha hb pa pb => by
          refine Classical.byContradiction (fun ne => h a b ha hb ne ⟨t, ht, ?_⟩)
          have := of_decide_eq_true pa
          have := of_decide_eq_true pb
          omega)
        omega
theorem js_keepsTheLaw (dd : Nat) {M : ja_M} (hH : jH M) (hO : jO M) : ja_x true (dd + 6) 91 [jr 24] M = some (some (ji (jv_b (pv_law (M 11 3).toNat (M 11 4).toNat (M 11 5) (oX M)))), M) := by
  have hb := hH.b
  obtain ⟨B, hB⟩ : ∃ B : Nat, M 11 4 = (B : Int) := ⟨(M 11 4).toNat, by omega⟩
  obtain ⟨P, hP⟩ : ∃ P : Nat, M 11 3 = (P : Int) := ⟨(M 11 3).toNat, by omega⟩
  have eP : (M 11 3).toNat = P := by omega
  have eB : (M 11 4).toNat = B := by omega
  rw [f_Table_keepsTheLaw]
  have inner : ∀ a, a < B → ((∃ b, b < B ∧ a ≠ b ∧ M 11 5 < pv_fol P (oX M) a b) → ja_D true (ja_x true (dd + 5)) k_Table_keepsTheLaw 9 [some (jr 24), some (ji (a : Int)), some (ji 0)] [] M = some (some (ji 0), M)) ∧ ((¬ ∃ b, b < B ∧ a ≠ b ∧ M 11 5 < pv_fol P (oX M) a b) → ja_D true (ja_x true (dd + 5)) k_Table_keepsTheLaw 9 [some (jr 24), some (ji (a : Int)), some (ji 0)] [] M = ja_D true (ja_x true (dd + 5)) k_Table_keepsTheLaw 2 [some (jr 24), some (ji ((a : Int) + 1)), none] [] M) := by
    intro a ha
    obtain ⟨h1, h2⟩ := jz_any (F := fun k => ja_D true (ja_x true (dd + 5)) k_Table_keepsTheLaw 9 [some (jr 24), some (ji (a : Int)), some (ji k)] [] M) (r := some (some (ji 0), M)) (p := fun b => a ≠ b ∧ M 11 5 < pv_fol P (oX M) a b) (n := B) B 0 (by omega) (fun k _ hk => by
      have e : ja_D true (ja_x true (dd + 5)) k_Table_keepsTheLaw 9 [some (jr 24), some (ji (a : Int)), some (ji (k : Int))] [] M = if (a : Int) = (k : Int) then ja_D true (ja_x true (dd + 5)) k_Table_keepsTheLaw 9 [some (jr 24), some (ji (a : Int)), some (ji ((k : Int) + 1))] [] M else if M 11 5 < pv_fol P (oX M) a k then some (some (ji 0), M) else ja_D true (ja_x true (dd + 5)) k_Table_keepsTheLaw 9 [some (jr 24), some (ji (a : Int)), some (ji ((k : Int) + 1))] [] M := by
        rw [e_Table_keepsTheLaw_9, js_bands, jz_bI, if_pos (by omega), js_tf (dd + 2) hH (by omega) (by omega), jz_bI, f_Hunt_follow_11, jz_bI, ja_w_id (by omega) (by omega), eP]
      refine ⟨fun q => ?_, fun q => ?_⟩
      · show ja_D true (ja_x true (dd + 5)) k_Table_keepsTheLaw 9 _ [] M = _
        rw [e, if_neg (fun z => q.1 (by omega)), if_pos q.2]
      · show ja_D true (ja_x true (dd + 5)) k_Table_keepsTheLaw 9 _ [] M = _
        rw [e]
        by_cases z : (a : Int) = (k : Int)
        · rw [if_pos z]
        · rw [if_neg z, if_neg (fun y => q ⟨fun w => z (by omega), y⟩)])
    refine ⟨fun ⟨b, x, y⟩ => h1 ⟨b, Nat.zero_le _, x, y⟩, fun q => ?_⟩
    have h3 : ja_D true (ja_x true (dd + 5)) k_Table_keepsTheLaw 9 [some (jr 24), some (ji (a : Int)), some (ji 0)] [] M = ja_D true (ja_x true (dd + 5)) k_Table_keepsTheLaw 9 [some (jr 24), some (ji (a : Int)), some (ji (B : Int))] [] M := h2 (fun k _ y z => q ⟨k, y, z⟩)
    rw [h3, e_Table_keepsTheLaw_9, js_bands, jz_bI, hB, if_neg (by omega), ja_w_id (by omega) (by omega)]
  obtain ⟨h1, h2⟩ := jz_any (F := fun k => ja_D true (ja_x true (dd + 5)) k_Table_keepsTheLaw 2 [some (jr 24), some (ji k), none] [] M) (r := some (some (ji 0), M)) (p := fun a => ∃ b, b < B ∧ a ≠ b ∧ M 11 5 < pv_fol P (oX M) a b) (n := B) B 0 (by omega) (fun k _ hk => by
    have e : ja_D true (ja_x true (dd + 5)) k_Table_keepsTheLaw 2 [some (jr 24), some (ji (k : Int)), none] [] M = ja_D true (ja_x true (dd + 5)) k_Table_keepsTheLaw 9 [some (jr 24), some (ji (k : Int)), some (ji 0)] [] M := by
      rw [e_Table_keepsTheLaw_2, js_bands, jz_bI, if_pos (by omega)]
    exact ⟨fun q => e.trans ((inner k hk).1 q), fun q => e.trans ((inner k hk).2 q)⟩)
  have hmeet := pv_meet_iff (P := P) (B := B) (o := oX M) (fun b t hb hT => by
    have := (hO.1 b t (by omega) (by omega)).2
    show 0 ≤ M (26 + b) t ∧ M (26 + b) t < (P : Int)
    omega)
  rw [eP, eB]
  by_cases q : ∃ a, a < B ∧ ∃ b, b < B ∧ a ≠ b ∧ M 11 5 < pv_fol P (oX M) a b
  · obtain ⟨a, x, b, y, z, w⟩ := q
    rw [jv_b0 (fun h => by
      have := (h a b x y z).2
      omega)]
    exact h1 ⟨a, Nat.zero_le _, x, b, y, z, w⟩
  · have h3 : ja_D true (ja_x true (dd + 5)) k_Table_keepsTheLaw 2 [some (jr 24), some (ji 0), none] [] M = ja_D true (ja_x true (dd + 5)) k_Table_keepsTheLaw 2 [some (jr 24), some (ji (B : Int)), none] [] M := h2 (fun k _ y z => q ⟨k, y, z⟩)
    rw [h3, e_Table_keepsTheLaw_2, js_bands, jz_bI, hB, if_neg (by omega), js_fmt dd hH, jz_bI, eP, eB]
    by_cases m : jv_fst (pv_crowded P B (oX M)) P = none
    · rw [m]
      show (if (-1 : Int) = -1 then _ else _) = _
      rw [if_pos rfl, jv_b1 (p := pv_law P B (M 11 5) (oX M)) (fun a b ha hb2 ne => ⟨hmeet.mp m a b ha hb2 ne, by
        rcases Int.lt_or_le (M 11 5) (pv_fol P (oX M) a b) with w | w
        · exact absurd ⟨a, ha, b, hb2, ne, w⟩ q
        · exact w⟩)]
    · rw [if_neg (fun e => m (jv_fi_ne.mp e)), jv_b0 (fun h => m (hmeet.mpr (fun a b ha hb2 ne => (h a b ha hb2 ne).1)))]
theorem js_R_isLawful (dd : Nat) {M : ja_M} (hH : jH M) : ja_x true (dd + 3) 256 [jr 137, ji (M 11 4)] M = some (some (ji (jv_b (pv_law (M 11 3).toNat (M 11 4).toNat (M 11 5) (oR M)))), M) := by
  have hb := hH.b
  obtain ⟨B, hB⟩ : ∃ B : Nat, M 11 4 = (B : Int) := ⟨(M 11 4).toNat, by omega⟩
  obtain ⟨P, hP⟩ : ∃ P : Nat, M 11 3 = (P : Int) := ⟨(M 11 3).toNat, by omega⟩
  have eP : (M 11 3).toNat = P := by omega
  have eB : (M 11 4).toNat = B := by omega
  rw [f_R_isLawful, hB]
  have inner : ∀ a, a < B → ((∃ b, b < B ∧ a ≠ b ∧ ¬ (¬ pv_met P (oR M) a b ∧ pv_fol P (oR M) a b ≤ M 11 5)) → ja_D true (ja_x true (dd + 2)) k_R_isLawful 7 [some (jr 137), some (ji (B : Int)), some (ji (a : Int)), some (ji 0)] [] M = some (some (ji 0), M)) ∧ ((¬ ∃ b, b < B ∧ a ≠ b ∧ ¬ (¬ pv_met P (oR M) a b ∧ pv_fol P (oR M) a b ≤ M 11 5)) → ja_D true (ja_x true (dd + 2)) k_R_isLawful 7 [some (jr 137), some (ji (B : Int)), some (ji (a : Int)), some (ji 0)] [] M = ja_D true (ja_x true (dd + 2)) k_R_isLawful 2 [some (jr 137), some (ji (B : Int)), some (ji ((a : Int) + 1)), none] [] M) := by
    intro a ha
    obtain ⟨h1, h2⟩ := jz_any (F := fun k => ja_D true (ja_x true (dd + 2)) k_R_isLawful 7 [some (jr 137), some (ji (B : Int)), some (ji (a : Int)), some (ji k)] [] M) (r := some (some (ji 0), M)) (p := fun b => a ≠ b ∧ ¬ (¬ pv_met P (oR M) a b ∧ pv_fol P (oR M) a b ≤ M 11 5)) (n := B) B 0 (by omega) (fun k _ hk => by
      have e : ja_D true (ja_x true (dd + 2)) k_R_isLawful 7 [some (jr 137), some (ji (B : Int)), some (ji (a : Int)), some (ji (k : Int))] [] M = if (a : Int) = (k : Int) then ja_D true (ja_x true (dd + 2)) k_R_isLawful 7 [some (jr 137), some (ji (B : Int)), some (ji (a : Int)), some (ji ((k : Int) + 1))] [] M else if jv_b (pv_met P (oR M) a k) = 0 then (if M 11 5 < pv_fol P (oR M) a k then some (some (ji 0), M) else ja_D true (ja_x true (dd + 2)) k_R_isLawful 7 [some (jr 137), some (ji (B : Int)), some (ji (a : Int)), some (ji ((k : Int) + 1))] [] M) else some (some (ji 0), M) := by
        rw [e_R_isLawful_7, if_pos (by omega), js_R_doMeet dd hH (by omega) (by omega), jz_bI, js_R_fol dd hH (by omega) (by omega), jz_bI, hH.2.1.2.2.1, ja_w_id (by omega) (by omega), eP]
      refine ⟨fun q => ?_, fun q => ?_⟩
      · show ja_D true (ja_x true (dd + 2)) k_R_isLawful 7 _ [] M = _
        rw [e, if_neg (fun z => q.1 (by omega))]
        by_cases m : pv_met P (oR M) a k
        · rw [jv_b1 m, if_neg (by decide)]
        · rw [jv_b0 m, if_pos rfl, if_pos (by
            rcases Int.lt_or_le (M 11 5) (pv_fol P (oR M) a k) with w | w
            · exact w
            · exact absurd ⟨m, w⟩ q.2)]
      · show ja_D true (ja_x true (dd + 2)) k_R_isLawful 7 _ [] M = _
        rw [e]
        by_cases z : (a : Int) = (k : Int)
        · rw [if_pos z]
        · have q2 : ¬ pv_met P (oR M) a k ∧ pv_fol P (oR M) a k ≤ M 11 5 := Classical.byContradiction (fun w => q ⟨fun x => z (by omega), w⟩)
          rw [if_neg z, jv_b0 q2.1, if_pos rfl, if_neg (by omega)])
    refine ⟨fun ⟨b, x, y⟩ => h1 ⟨b, Nat.zero_le _, x, y⟩, fun q => ?_⟩
    have h3 : ja_D true (ja_x true (dd + 2)) k_R_isLawful 7 [some (jr 137), some (ji (B : Int)), some (ji (a : Int)), some (ji 0)] [] M = ja_D true (ja_x true (dd + 2)) k_R_isLawful 7 [some (jr 137), some (ji (B : Int)), some (ji (a : Int)), some (ji (B : Int))] [] M := h2 (fun k _ y z => q ⟨k, y, z⟩)
    rw [h3, e_R_isLawful_7, if_neg (by omega), ja_w_id (by omega) (by omega)]
  obtain ⟨h1, h2⟩ := jz_any (F := fun k => ja_D true (ja_x true (dd + 2)) k_R_isLawful 2 [some (jr 137), some (ji (B : Int)), some (ji k), none] [] M) (r := some (some (ji 0), M)) (p := fun a => ∃ b, b < B ∧ a ≠ b ∧ ¬ (¬ pv_met P (oR M) a b ∧ pv_fol P (oR M) a b ≤ M 11 5)) (n := B) B 0 (by omega) (fun k _ hk => by
    have e : ja_D true (ja_x true (dd + 2)) k_R_isLawful 2 [some (jr 137), some (ji (B : Int)), some (ji (k : Int)), none] [] M = ja_D true (ja_x true (dd + 2)) k_R_isLawful 7 [some (jr 137), some (ji (B : Int)), some (ji (k : Int)), some (ji 0)] [] M := by
      rw [e_R_isLawful_2, if_pos (by omega)]
    exact ⟨fun q => e.trans ((inner k hk).1 q), fun q => e.trans ((inner k hk).2 q)⟩)
  rw [eP, show ((B : Int)).toNat = B from rfl]
  by_cases q : ∃ a, a < B ∧ ∃ b, b < B ∧ a ≠ b ∧ ¬ (¬ pv_met P (oR M) a b ∧ pv_fol P (oR M) a b ≤ M 11 5)
  · obtain ⟨a, x, b, y, z, w⟩ := q
    rw [jv_b0 (fun h => w (h a b x y z))]
    exact h1 ⟨a, Nat.zero_le _, x, b, y, z, w⟩
  · have h3 : ja_D true (ja_x true (dd + 2)) k_R_isLawful 2 [some (jr 137), some (ji (B : Int)), some (ji 0), none] [] M = ja_D true (ja_x true (dd + 2)) k_R_isLawful 2 [some (jr 137), some (ji (B : Int)), some (ji (B : Int)), none] [] M := h2 (fun k _ y z => q ⟨k, y, z⟩)
    rw [h3, e_R_isLawful_2, if_neg (by omega), jv_b1 (p := pv_law P B (M 11 5) (oR M)) (fun a b ha hb2 ne => Classical.byContradiction (fun w => q ⟨a, ha, b, hb2, ne, w⟩))]
/-- the two sides' orders are the same -/
theorem jO.eq {M : ja_M} (h : jO M) {b t : Nat} (hb : b < (M 11 4).toNat) (ht : t < (M 11 3).toNat) : oR M b t = oX M b t := (h.1 b t (by omega) (by omega)).1
theorem pv_fol_congr {P B : Nat} {o o' : Nat → Nat → Int} (h : ∀ b t, b < B → t < P → o b t = o' b t) {a b : Nat} (ha : a < B) (hb : b < B) : pv_fol P o a b = pv_fol P o' a b := jv_cnt_congr _ (fun k hk => by rw [h a (k + 1) ha (by omega), h b k hb (by omega)])
theorem pv_met_congr {P B : Nat} {o o' : Nat → Nat → Int} (h : ∀ b t, b < B → t < P → o b t = o' b t) {a b : Nat} (ha : a < B) (hb : b < B) : pv_met P o a b ↔ pv_met P o' a b := ⟨fun ⟨t, x, y⟩ => ⟨t, x, by rw [← h a t ha x, ← h b t hb x]; exact y⟩, fun ⟨t, x, y⟩ => ⟨t, x, by rw [h a t ha x, h b t hb x]; exact y⟩⟩
theorem jy_p12 : jy_o12 := by
  refine jOp.pure (fun M hJ => ?_)
  obtain ⟨⟨hT, hH, hO⟩, -⟩ := hJ
  have hb := hH.b
  have hX := f_X_lawful 1999 M
  have hR := f_R_lawful 1999 M
  rw [js_isTold 1998, jz_bI, jz_b0] at hX
  rw [hH.2.1.2.1] at hR
  by_cases h0 : 0 < M 11 3
  · rw [if_pos h0, js_keepsTheLaw 1993 hH hO, jz_bI] at hX
    rw [if_neg (by omega), js_R_isLawful 1996 hH, jz_bI] at hR
    have e : pv_law (M 11 3).toNat (M 11 4).toNat (M 11 5) (oR M) ↔ pv_law (M 11 3).toNat (M 11 4).toNat (M 11 5) (oX M) := by
      constructor
      · intro h a b ha hb2 ne
        rw [← pv_met_congr (fun b t x y => hO.eq x y) ha hb2, ← pv_fol_congr (fun b t x y => hO.eq x y) ha hb2]
        exact h a b ha hb2 ne
      · intro h a b ha hb2 ne
        rw [pv_met_congr (fun b t x y => hO.eq x y) ha hb2, pv_fol_congr (fun b t x y => hO.eq x y) ha hb2]
        exact h a b ha hb2 ne
    rw [jv_bc e] at hR
    refine ⟨jv_b (pv_law (M 11 3).toNat (M 11 4).toNat (M 11 5) (oX M)), hX.trans ?_, hR.trans ?_⟩ <;> rcases jv_b01 (pv_law (M 11 3).toNat (M 11 4).toNat (M 11 5) (oX M)) with q | q <;> rw [q] <;> rfl
  · rw [if_neg h0] at hX
    rw [if_pos (by omega)] at hR
    exact ⟨_, hX, hR⟩
