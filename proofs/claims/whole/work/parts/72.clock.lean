/-! minutes: comes, home -/
def pv_c (X : Nat → Int) (p : Int) : Int := if p = -1 then 0 else X p.toNat
def pv_ab (z : Int) : Int := if 0 ≤ z then z else -z
def pv_st (X Y : Nat → Int) (p q : Int) : Int := pv_ab (pv_c X p - pv_c X q) + pv_ab (pv_c Y p - pv_c Y q)
theorem pv_ab_sy (a b : Int) : pv_ab (a - b) = pv_ab (b - a) := by
  unfold pv_ab
  split <;> split <;> omega
theorem pv_st_sy (X Y : Nat → Int) (p q : Int) : pv_st X Y p q = pv_st X Y q p := by
  unfold pv_st
  rw [pv_ab_sy, pv_ab_sy (pv_c Y p)]
def pv_pl (P p : Int) : Prop := p = -1 ∨ (0 ≤ p ∧ p < P)
theorem pv_c_b {M : ja_M} (hH : jH M) {p : Int} (h : pv_pl (M 11 3) p) : (0 ≤ pv_c (M 12) p ∧ pv_c (M 12) p ≤ 20) ∧ (0 ≤ pv_c (M 13) p ∧ pv_c (M 13) p ≤ 20) := by
  unfold pv_c
  rcases h with h | h
  · rw [if_pos h, if_pos h]
    omega
  · rw [if_neg (by omega), if_neg (by omega)]
    exact (hH.2.2.1 p.toNat (by omega)).2
theorem pv_ab_b {z : Int} (h : -20 ≤ z ∧ z ≤ 20) : 0 ≤ pv_ab z ∧ pv_ab z ≤ 20 := by
  unfold pv_ab
  split <;> omega
theorem pv_st_b {M : ja_M} (hH : jH M) {p q : Int} (hp : pv_pl (M 11 3) p) (hq : pv_pl (M 11 3) q) : 0 ≤ pv_st (M 12) (M 13) p q ∧ pv_st (M 12) (M 13) p q ≤ 40 := by
  have a := pv_c_b hH hp
  have b := pv_c_b hH hq
  have c := pv_ab_b (z := pv_c (M 12) p - pv_c (M 12) q) (by omega)
  have d := pv_ab_b (z := pv_c (M 13) p - pv_c (M 13) q) (by omega)
  unfold pv_st
  omega
theorem jx_abs {z : Int} (h : -100000 ≤ z ∧ z ≤ 100000) : ja_abs z = pv_ab z := by
  unfold ja_abs pv_ab
  split
  · rfl
  · rw [ja_w_id (by omega) (by omega)]
    omega
theorem js_xg (dd : Nat) {p : Int} {M : ja_M} (hH : jH M) (h : pv_pl (M 11 3) p) : ja_x true (dd + 2) 108 [jr 11, ji p] M = some (some (ji (pv_c (M 12) p)), M) := by
  have hb := hH.b
  unfold pv_c
  rcases h with h | h
  · rw [f_Hunt_x_11, js_hasPlace, jz_bI, jz_b0, if_neg (by omega), if_pos h]
  · rw [if_neg (by omega)]
    exact js_x dd hH h
theorem js_yg (dd : Nat) {p : Int} {M : ja_M} (hH : jH M) (h : pv_pl (M 11 3) p) : ja_x true (dd + 2) 109 [jr 11, ji p] M = some (some (ji (pv_c (M 13) p)), M) := by
  have hb := hH.b
  unfold pv_c
  rcases h with h | h
  · rw [f_Hunt_y_11, js_hasPlace, jz_bI, jz_b0, if_neg (by omega), if_pos h]
  · rw [if_neg (by omega)]
    exact js_y dd hH h
theorem js_steps (dd : Nat) {p q : Int} {M : ja_M} (hH : jH M) (hp : pv_pl (M 11 3) p) (hq : pv_pl (M 11 3) q) : ja_x true (dd + 3) 113 [jr 11, ji p, ji q] M = some (some (ji (pv_st (M 12) (M 13) p q)), M) := by
  have a := pv_c_b hH hp
  have b := pv_c_b hH hq
  have c := pv_st_b hH hp hq
  unfold pv_st at c ⊢
  rw [f_Hunt_steps_11, js_xg dd hH hp, jz_bI, js_xg dd hH hq, jz_bI, js_yg dd hH hp, jz_bI, js_yg dd hH hq, jz_bI, ja_w_id (x := pv_c (M 12) p - pv_c (M 12) q) (by omega) (by omega), ja_w_id (x := pv_c (M 13) p - pv_c (M 13) q) (by omega) (by omega), jx_abs (by omega), jx_abs (by omega), ja_w_id (by omega) (by omega)]
theorem js_R_steps (dd : Nat) {p q : Int} {M : ja_M} (hH : jH M) (hp : pv_pl (M 11 3) p) (hq : 0 ≤ q ∧ q < M 11 3) : ja_x true (dd + 1) 267 [jr 137, ji p, ji q] M = some (some (ji (pv_st (M 12) (M 13) p q)), M) := by
  have hb := hH.b
  have a := pv_c_b hH hp
  have b := pv_c_b hH (p := q) (Or.inr hq)
  have c := pv_st_b hH (q := q) hp (Or.inr hq)
  have eq := (hH.2.2.1 q.toNat (by omega)).1
  have cq : pv_c (M 12) q = M 12 q.toNat ∧ pv_c (M 13) q = M 13 q.toNat := by
    unfold pv_c
    rw [if_neg (by omega), if_neg (by omega)]
    exact ⟨rfl, rfl⟩
  rw [f_R_steps, eq.1, eq.2, ← cq.1, ← cq.2, if_pos (show 0 ≤ q ∧ q < 6 by omega), if_pos (show 0 ≤ q ∧ q < 6 by omega)]
  unfold pv_st at c ⊢
  rcases hp with h | h
  · have cp : pv_c (M 12) p = 0 ∧ pv_c (M 13) p = 0 := by
      unfold pv_c
      rw [if_pos h, if_pos h]
      exact ⟨rfl, rfl⟩
    rw [cp.1, cp.2] at c a ⊢
    rw [if_pos h, if_pos h, ja_w_id (x := 0 - pv_c (M 12) q) (by omega) (by omega), ja_w_id (x := 0 - pv_c (M 13) q) (by omega) (by omega), jx_abs (by omega), jx_abs (by omega), ja_w_id (by omega) (by omega)]
  · have ep := (hH.2.2.1 p.toNat (by omega)).1
    have cp : pv_c (M 12) p = M 12 p.toNat ∧ pv_c (M 13) p = M 13 p.toNat := by
      unfold pv_c
      rw [if_neg (by omega), if_neg (by omega)]
      exact ⟨rfl, rfl⟩
    have n1 : ¬ p = -1 := by omega
    have n6 : 0 ≤ p ∧ p < 6 := by omega
    simp only [if_neg n1, if_pos n6]
    rw [if_pos (show 0 ≤ q ∧ q < 6 by omega), if_pos (show 0 ≤ q ∧ q < 6 by omega), ep.1, ep.2, ← cp.1, ← cp.2, ja_w_id (x := pv_c (M 12) p - pv_c (M 12) q) (by omega) (by omega), ja_w_id (x := pv_c (M 13) p - pv_c (M 13) q) (by omega) (by omega), jx_abs (by omega), jx_abs (by omega), ja_w_id (by omega) (by omega)]
/-- the way of a band -/
theorem pv_way_b {s k : Int} (hs : 0 ≤ s ∧ s ≤ 40) (hk : 1 ≤ k ∧ k ≤ 5) : 0 ≤ s * k ∧ s * k ≤ 200 := by
  have h1 : s * k ≤ 40 * 5 := Int.mul_le_mul hs.2 hk.2 (by omega) (by omega)
  have h2 : 0 ≤ s * k := Int.mul_nonneg hs.1 (by omega)
  omega
theorem js_wayOf (dd : Nat) {b : Nat} {p q : Int} {M : ja_M} (hH : jH M) (hb : (b : Int) < M 11 4) (hp : pv_pl (M 11 3) p) (hq : pv_pl (M 11 3) q) : ja_x true (dd + 4) 112 [jr 77, ji (b : Int), ji p, ji q] M = some (some (ji (pv_st (M 12) (M 13) p q * M 14 b)), M) := by
  have w := pv_way_b (pv_st_b hH hp hq) (hH.2.2.2 b hb).2
  rw [f_Clock_wayOf, js_steps dd hH hp hq, jz_bI, js_slow (dd + 1) hH (by omega), jz_bI, show ((b : Int)).toNat = b from rfl, ja_w_id (by omega) (by omega)]
/-- where a band was ahead of a turn; when it left; when it comes -/
def pv_prev (o : Nat → Int) : Nat → Int
  | 0 => -1
  | t + 1 => o t
def pv_lv (X Y : Nat → Int) (s k y : Int) (o : Nat → Int) : Nat → Int
  | 0 => s
  | t + 1 => pv_lv X Y s k y o t + pv_st X Y (pv_prev o t) (o t) * k + y
def pv_arr (X Y : Nat → Int) (s k y : Int) (o : Nat → Int) (t : Nat) : Int := pv_lv X Y s k y o t + pv_st X Y (pv_prev o t) (o t) * k
theorem pv_prev_pl {P : Int} {o : Nat → Int} {t : Nat} (hv : ∀ u : Nat, (u : Int) < P → 0 ≤ o u ∧ o u < P) (ht : (t : Int) ≤ P) : pv_pl P (pv_prev o t) := by
  cases t with
  | zero => exact Or.inl rfl
  | succ t => exact Or.inr (hv t (by omega))
theorem pv_lv_b {M : ja_M} (hH : jH M) {s k : Int} {o : Nat → Int} (hv : ∀ u : Nat, (u : Int) < M 11 3 → 0 ≤ o u ∧ o u < M 11 3) (hs : 0 ≤ s ∧ s ≤ 99) (hk : 1 ≤ k ∧ k ≤ 5) : ∀ t : Nat, (t : Int) ≤ M 11 3 → 0 ≤ pv_lv (M 12) (M 13) s k (M 11 6) o t ∧ pv_lv (M 12) (M 13) s k (M 11 6) o t ≤ 99 + 230 * t
  | 0, _ => by
    show 0 ≤ s ∧ s ≤ 99 + 230 * ((0 : Nat) : Int)
    omega
  | t + 1, ht => by
    have hb := hH.b
    have ih := pv_lv_b hH hv hs hk t (by omega)
    have w := pv_way_b (pv_st_b hH (pv_prev_pl hv (t := t) (by omega)) (Or.inr (hv t (by omega)))) hk
    show 0 ≤ pv_lv (M 12) (M 13) s k (M 11 6) o t + pv_st (M 12) (M 13) (pv_prev o t) (o t) * k + M 11 6 ∧ pv_lv (M 12) (M 13) s k (M 11 6) o t + pv_st (M 12) (M 13) (pv_prev o t) (o t) * k + M 11 6 ≤ 99 + 230 * ((t + 1 : Nat) : Int)
    omega
theorem pv_arr_b {M : ja_M} (hH : jH M) {s k : Int} {o : Nat → Int} (hv : ∀ u : Nat, (u : Int) < M 11 3 → 0 ≤ o u ∧ o u < M 11 3) (hs : 0 ≤ s ∧ s ≤ 99) (hk : 1 ≤ k ∧ k ≤ 5) {t : Nat} (ht : (t : Int) < M 11 3) : 0 ≤ pv_arr (M 12) (M 13) s k (M 11 6) o t ∧ pv_arr (M 12) (M 13) s k (M 11 6) o t ≤ 1700 := by
  have hb := hH.b
  have ih := pv_lv_b hH hv hs hk t (by omega)
  have w := pv_way_b (pv_st_b hH (pv_prev_pl hv (t := t) (by omega)) (Or.inr (hv t (by omega)))) hk
  unfold pv_arr
  omega
abbrev aX (M : ja_M) (b : Nat) : Nat → Int := pv_arr (M 12) (M 13) (M 32 b) (M 14 b) (M 11 6) (oX M b)
abbrev aR (M : ja_M) (b : Nat) : Nat → Int := pv_arr (M 12) (M 13) (M 155 b) (M 14 b) (M 11 6) (oR M b)
theorem jO.v {M : ja_M} (h : jO M) {b : Nat} (hb : (b : Int) < M 11 4) : ∀ u : Nat, (u : Int) < M 11 3 → 0 ≤ oX M b u ∧ oX M b u < M 11 3 := fun u hu => (h.1 b u hb hu).2
theorem js_minuteOf (dd : Nat) {b t : Nat} {M : ja_M} (hH : jH M) (hO : jO M) (hb : (b : Int) < M 11 4) (ht : (t : Int) < M 11 3) : ja_x true (dd + 5) 122 [jr 77, ji (b : Int), ji (t : Int)] M = some (some (ji (aX M b t)), M) := by
  have hb0 := hH.b
  have hv := hO.v hb
  have hs := (hO.2.2 b hb).2
  have hk := (hH.2.2.2 b hb).2
  rw [f_Clock_minuteOf, js_startOf (dd + 2) hH (by omega), jz_bI, show ((b : Int)).toNat = b from rfl]
  have w := jz_loop (F := fun (N : Int × Int) k => ja_D true (ja_x true (dd + 4)) k_Clock_minuteOf 9 [some (jr 77), some (ji (b : Int)), some (ji (t : Int)), some (ji N.1), some (ji N.2), some (ji k), none] [] M) (N := fun n => (match n with
    | 0 => M 32 b
    | u + 1 => aX M b u, pv_prev (oX M b) n)) (n := t + 1) (t + 1) 0 (by omega) (fun k _ hk2 => by
    have wy := pv_way_b (pv_st_b hH (pv_prev_pl hv (t := k) (by omega)) (Or.inr (hv k (by omega)))) hk
    have hway := js_wayOf dd hH hb (pv_prev_pl hv (t := k) (by omega)) (Or.inr (hv k (by omega)))
    cases k with
    | zero =>
      show ja_D true (ja_x true (dd + 4)) k_Clock_minuteOf 9 [some (jr 77), some (ji (b : Int)), some (ji (t : Int)), some (ji (M 32 b)), some (ji (-1)), some (ji ((0 : Nat) : Int)), none] [] M = ja_D true (ja_x true (dd + 4)) k_Clock_minuteOf 9 [some (jr 77), some (ji (b : Int)), some (ji (t : Int)), some (ji (M 32 b + pv_st (M 12) (M 13) (-1) (oX M b 0) * M 14 b)), some (ji (oX M b 0)), some (ji (((0 : Nat) : Int) + 1)), none] [] M
      have hway : ja_x true (dd + 4) 112 [jr 77, ji (b : Int), ji (-1), ji (oX M b 0)] M = some (some (ji (pv_st (M 12) (M 13) (-1) (oX M b 0) * M 14 b)), M) := hway
      have wy : 0 ≤ pv_st (M 12) (M 13) (-1) (oX M b 0) * M 14 b ∧ pv_st (M 12) (M 13) (-1) (oX M b 0) * M 14 b ≤ 200 := wy
      rw [e_Clock_minuteOf_9, if_neg (by omega), js_places, jz_bI, if_pos (by omega), js_pl (dd + 2) hH hb (by omega), jz_bI, hway, jz_bI, if_pos (by omega), Int.add_zero, ja_w_id (x := pv_st (M 12) (M 13) (-1) (oX M b 0) * M 14 b) (by omega) (by omega), ja_w_id (x := M 32 b + _) (by omega) (by omega), ja_w_id (by omega) (by omega)]
    | succ k =>
      show ja_D true (ja_x true (dd + 4)) k_Clock_minuteOf 9 [some (jr 77), some (ji (b : Int)), some (ji (t : Int)), some (ji (aX M b k)), some (ji (oX M b k)), some (ji ((k + 1 : Nat) : Int)), none] [] M = ja_D true (ja_x true (dd + 4)) k_Clock_minuteOf 9 [some (jr 77), some (ji (b : Int)), some (ji (t : Int)), some (ji (aX M b (k + 1))), some (ji (oX M b (k + 1))), some (ji (((k + 1 : Nat) : Int) + 1)), none] [] M
      have hway : ja_x true (dd + 4) 112 [jr 77, ji (b : Int), ji (oX M b k), ji (oX M b (k + 1))] M = some (some (ji (pv_st (M 12) (M 13) (oX M b k) (oX M b (k + 1)) * M 14 b)), M) := hway
      have wy : 0 ≤ pv_st (M 12) (M 13) (oX M b k) (oX M b (k + 1)) * M 14 b ∧ pv_st (M 12) (M 13) (oX M b k) (oX M b (k + 1)) * M 14 b ≤ 200 := wy
      have ab : 0 ≤ aX M b k ∧ aX M b k ≤ 1700 := pv_arr_b hH hv hs hk (t := k) (by omega)
      have es : aX M b (k + 1) = aX M b k + (pv_st (M 12) (M 13) (oX M b k) (oX M b (k + 1)) * M 14 b + M 11 6) := by
        show pv_lv (M 12) (M 13) (M 32 b) (M 14 b) (M 11 6) (oX M b) k + pv_st (M 12) (M 13) (pv_prev (oX M b) k) (oX M b k) * M 14 b + M 11 6 + pv_st (M 12) (M 13) (oX M b k) (oX M b (k + 1)) * M 14 b = pv_lv (M 12) (M 13) (M 32 b) (M 14 b) (M 11 6) (oX M b) k + pv_st (M 12) (M 13) (pv_prev (oX M b) k) (oX M b k) * M 14 b + _
        omega
      rw [e_Clock_minuteOf_9, if_neg (by omega), js_places, jz_bI, if_pos (by omega), js_pl (dd + 2) hH hb (by omega), jz_bI, hway, jz_bI, if_neg (by omega), f_Hunt_stay_11, jz_bI, ja_w_id (x := _ + M 11 6) (by omega) (by omega), es, ja_w_id (x := aX M b k + _) (by omega) (by omega), ja_w_id (by omega) (by omega)])
  have w : ja_D true (ja_x true (dd + 4)) k_Clock_minuteOf 9 [some (jr 77), some (ji (b : Int)), some (ji (t : Int)), some (ji (M 32 b)), some (ji (-1)), some (ji 0), none] [] M = ja_D true (ja_x true (dd + 4)) k_Clock_minuteOf 9 [some (jr 77), some (ji (b : Int)), some (ji (t : Int)), some (ji (aX M b t)), some (ji (oX M b t)), some (ji ((t + 1 : Nat) : Int)), none] [] M := w
  rw [w, e_Clock_minuteOf_9, if_pos (by omega)]
theorem js_ahead (dd : Nat) {b t : Nat} {M : ja_M} (hH : jH M) (hb : (b : Int) < M 11 4) (ht : (t : Int) < M 11 3) : ja_x true (dd + 2) 266 [jr 137, ji (b : Int), ji (t : Int)] M = some (some (ji (pv_prev (oR M b) t)), M) := by
  have hb0 := hH.b
  cases t with
  | zero =>
    rw [f_R_ahead, if_pos (by omega)]
    rfl
  | succ t =>
    rw [f_R_ahead, if_neg (by omega), ja_w_id (by omega) (by omega), show ((t + 1 : Nat) : Int) - 1 = (t : Int) by omega, js_of dd hH hb (by omega), jz_bI]
    rfl
theorem js_comesAt (dd : Nat) {b t : Nat} {M : ja_M} (hH : jH M) (hb : (b : Int) < M 11 4) (ht : (t : Int) < M 11 3) (hv : ∀ u : Nat, (u : Int) < M 11 3 → 0 ≤ oR M b u ∧ oR M b u < M 11 3) (hs : 0 ≤ M 155 b ∧ M 155 b ≤ 99) : ja_x true (dd + 3) 265 [jr 137, ji (b : Int), ji (t : Int)] M = some (some (ji (aR M b t)), M) := by
  have hb0 := hH.b
  have hk := (hH.2.2.2 b hb).2
  have hk3 := (hH.2.2.2 b hb).1
  rw [f_R_comesAt, if_pos (by omega), show ((b : Int)).toNat = b from rfl]
  have step : ∀ k : Nat, k ≤ t → ja_D true (ja_x true (dd + 2)) k_R_comesAt 7 [some (jr 137), some (ji (b : Int)), some (ji (t : Int)), some (ji (pv_lv (M 12) (M 13) (M 155 b) (M 14 b) (M 11 6) (oR M b) k)), some (ji (k : Int))] [] M = ja_D true (ja_x true (dd + 2)) k_R_comesAt 7 [some (jr 137), some (ji (b : Int)), some (ji (t : Int)), some (ji (if k < t then pv_lv (M 12) (M 13) (M 155 b) (M 14 b) (M 11 6) (oR M b) (k + 1) else aR M b k)), some (ji ((k : Int) + 1))] [] M := by
    intro k hk2
    have wy := pv_way_b (pv_st_b hH (pv_prev_pl hv (t := k) (by omega)) (Or.inr (hv k (by omega)))) hk
    have lb := pv_lv_b hH hv hs hk k (by omega)
    rw [e_R_comesAt_7, if_neg (by omega), if_pos (by omega), js_ahead dd hH hb (by omega), jz_bI, js_of (dd + 1) hH hb (by omega), jz_bI, js_R_steps (dd + 1) hH (pv_prev_pl hv (t := k) (by omega)) (hv k (by omega)), jz_bI, show ((b : Int)).toNat = b from rfl, hk3, hH.2.1.2.2.2, Int.mul_comm (M 14 b), Int.add_zero]
    rw [ja_w_id (x := pv_st (M 12) (M 13) (pv_prev (oR M b) k) (oR M b k) * M 14 b) (by omega) (by omega), ja_w_id (x := pv_st (M 12) (M 13) (pv_prev (oR M b) k) (oR M b k) * M 14 b) (by omega) (by omega), ja_w_id (x := _ + M 11 6) (by omega) (by omega), ja_w_id (x := pv_lv (M 12) (M 13) (M 155 b) (M 14 b) (M 11 6) (oR M b) k + (_ + M 11 6)) (by omega) (by omega), ja_w_id (x := pv_lv (M 12) (M 13) (M 155 b) (M 14 b) (M 11 6) (oR M b) k + _) (by omega) (by omega), ja_w_id (x := (k : Int) + 1) (by omega) (by omega)]
    by_cases q : k < t
    · rw [if_pos (by omega), if_pos q, ← Int.add_assoc]
      rfl
    · rw [if_neg (by omega), if_neg q]
      rfl
  have w := jz_loop (F := fun v k => ja_D true (ja_x true (dd + 2)) k_R_comesAt 7 [some (jr 137), some (ji (b : Int)), some (ji (t : Int)), some (ji v), some (ji k)] [] M) (N := fun k => pv_lv (M 12) (M 13) (M 155 b) (M 14 b) (M 11 6) (oR M b) k) (n := t) t 0 (by omega) (fun k _ hk2 => by
    show ja_D true (ja_x true (dd + 2)) k_R_comesAt 7 _ [] M = _
    rw [step k (by omega), if_pos hk2])
  have w : ja_D true (ja_x true (dd + 2)) k_R_comesAt 7 [some (jr 137), some (ji (b : Int)), some (ji (t : Int)), some (ji (M 155 b)), some (ji 0)] [] M = ja_D true (ja_x true (dd + 2)) k_R_comesAt 7 [some (jr 137), some (ji (b : Int)), some (ji (t : Int)), some (ji (pv_lv (M 12) (M 13) (M 155 b) (M 14 b) (M 11 6) (oR M b) t)), some (ji (t : Int))] [] M := w
  rw [w, step t (Nat.le_refl _), if_neg (by omega), e_R_comesAt_7, if_pos (by omega)]
theorem pv_arr_congr {X Y : Nat → Int} {s k y : Int} {o o' : Nat → Int} : ∀ {t : Nat}, (∀ u, u ≤ t → o u = o' u) → pv_arr X Y s k y o t = pv_arr X Y s k y o' t := by
  have hl : ∀ t, (∀ u, u < t → o u = o' u) → pv_lv X Y s k y o t = pv_lv X Y s k y o' t ∧ pv_prev o t = pv_prev o' t := by
    intro t
    induction t with
    | zero => exact fun _ => ⟨rfl, rfl⟩
    | succ t ih =>
      intro h
      obtain ⟨a, b⟩ := ih (fun u hu => h u (by omega))
      refine ⟨?_, h t (by omega)⟩
      show pv_lv X Y s k y o t + pv_st X Y (pv_prev o t) (o t) * k + y = pv_lv X Y s k y o' t + pv_st X Y (pv_prev o' t) (o' t) * k + y
      rw [a, b, h t (by omega)]
  intro t h
  obtain ⟨a, b⟩ := hl t (fun u hu => h u (by omega))
  unfold pv_arr
  rw [a, b, h t (Nat.le_refl _)]
theorem jO.arr {M : ja_M} (hH : jH M) (h : jO M) {b t : Nat} (hb : (b : Int) < M 11 4) (ht : (t : Int) < M 11 3) : aR M b t = aX M b t := by
  show pv_arr _ _ (M 155 b) _ _ (oR M b) t = pv_arr _ _ (M 32 b) _ _ (oX M b) t
  rw [(h.2.2 b hb).1]
  exact pv_arr_congr (fun u hu => h.eq (by omega) (by omega))
theorem jO.vR {M : ja_M} (h : jO M) {b : Nat} (hb : (b : Int) < M 11 4) : ∀ u : Nat, (u : Int) < M 11 3 → 0 ≤ oR M b u ∧ oR M b u < M 11 3 := fun u hu => by
  rw [h.eq (by omega) (by omega)]
  exact h.v hb u hu
theorem jO.sR {M : ja_M} (h : jO M) {b : Nat} (hb : (b : Int) < M 11 4) : 0 ≤ M 155 b ∧ M 155 b ≤ 99 := by
  rw [(h.2.2 b hb).1]
  exact (h.2.2 b hb).2
theorem jy_p19 : jy_o19 := by
  intro a b _ _
  refine jOp.pure (fun M hJ => ?_)
  obtain ⟨⟨hT, hH, hO⟩, -⟩ := hJ
  have hb := hH.b
  have hX := f_X_comes 1999 a b M
  have hR := f_R_comes 1999 a b M
  rw [js_hasBand 1998, jz_bI, jz_b0] at hX
  rw [js_isBand 1997 a hH, jz_bI, jz_b0] at hR
  by_cases h1 : 0 ≤ a ∧ a < M 11 4
  · rw [if_pos h1, js_hasPlace 1998, jz_bI, jz_b0] at hX
    rw [if_pos h1, hH.2.1.1, ja_w_id (x := M 11 3 - 1) (by omega) (by omega), js_in 1998, jz_bI, jz_b0] at hR
    by_cases h2 : 0 ≤ b ∧ b < M 11 3
    · obtain ⟨x, rfl⟩ := Int.eq_ofNat_of_zero_le h1.1
      obtain ⟨t, rfl⟩ := Int.eq_ofNat_of_zero_le h2.1
      rw [if_pos h2, js_minuteOf 1994 hH hO h1.2 h2.2, jz_bI] at hX
      rw [if_pos (show 0 ≤ (t : Int) ∧ (t : Int) ≤ M 11 3 - 1 by omega), js_comesAt 1996 hH h1.2 h2.2 (hO.vR h1.2) (hO.sR h1.2), jz_bI, hO.arr hH h1.2 h2.2] at hR
      exact ⟨_, hX, hR⟩
    · rw [if_neg h2] at hX
      rw [if_neg (show ¬ (0 ≤ b ∧ b ≤ M 11 3 - 1) by omega)] at hR
      exact ⟨_, hX, hR⟩
  · rw [if_neg h1] at hX hR
    exact ⟨_, hX, hR⟩
/-- when a band is home -/
def pv_home (X Y : Nat → Int) (s k y : Int) (o : Nat → Int) (P : Nat) : Int := pv_arr X Y s k y o (P - 1) + y + pv_st X Y (-1) (o (P - 1)) * k
theorem js_homeOf (dd : Nat) {b : Nat} {M : ja_M} (hH : jH M) (hb : (b : Int) < M 11 4) (hv : ∀ u : Nat, (u : Int) < M 11 3 → 0 ≤ oR M b u ∧ oR M b u < M 11 3) (hs : 0 ≤ M 155 b ∧ M 155 b ≤ 99) : ja_x true (dd + 4) 269 [jr 137, ji (b : Int)] M = some (some (ji (pv_home (M 12) (M 13) (M 155 b) (M 14 b) (M 11 6) (oR M b) (M 11 3).toNat)), M) := by
  have hb0 := hH.b
  have hk := (hH.2.2.2 b hb).2
  obtain ⟨P, hP⟩ : ∃ P : Nat, M 11 3 = ((P + 1 : Nat) : Int) := ⟨(M 11 3).toNat - 1, by omega⟩
  have ab : 0 ≤ aR M b P ∧ aR M b P ≤ 1700 := pv_arr_b hH hv hs hk (t := P) (by omega)
  have wy := pv_way_b (pv_st_b hH (p := -1) (Or.inl rfl) (Or.inr (hv P (by omega)))) hk
  rw [f_R_homeOf, hH.2.1.1, ja_w_id (x := M 11 3 - 1) (by omega) (by omega), show M 11 3 - 1 = (P : Int) by omega, js_of (dd + 2) hH hb (by omega), jz_bI, hH.2.1.1, ja_w_id (x := M 11 3 - 1) (by omega) (by omega), show M 11 3 - 1 = (P : Int) by omega, js_comesAt dd hH hb (by omega) hv hs, jz_bI, if_pos (by omega), js_R_steps (dd + 2) hH (Or.inl rfl) (hv P (by omega)), jz_bI, hH.2.1.2.2.2, show ((b : Int)).toNat = b from rfl, (hH.2.2.2 b hb).1, Int.mul_comm (M 14 b), ja_w_id (x := aR M b P + M 11 6) (by omega) (by omega), ja_w_id (x := _ * M 14 b) (by omega) (by omega), ja_w_id (by omega) (by omega)]
  unfold pv_home
  rw [show (M 11 3).toNat - 1 = P by omega]
theorem js_minuteHome (dd : Nat) {b : Nat} {M : ja_M} (hH : jH M) (hO : jO M) (hb : (b : Int) < M 11 4) : ja_x true (dd + 6) 124 [jr 77, ji (b : Int)] M = some (some (ji (pv_home (M 12) (M 13) (M 32 b) (M 14 b) (M 11 6) (oX M b) (M 11 3).toNat)), M) := by
  have hb0 := hH.b
  have hv := hO.v hb
  have hs := (hO.2.2 b hb).2
  have hk := (hH.2.2.2 b hb).2
  obtain ⟨P, hP⟩ : ∃ P : Nat, M 11 3 = ((P + 1 : Nat) : Int) := ⟨(M 11 3).toNat - 1, by omega⟩
  have ab : 0 ≤ aX M b P ∧ aX M b P ≤ 1700 := pv_arr_b hH hv hs hk (t := P) (by omega)
  have wy := pv_way_b (pv_st_b hH (p := -1) (Or.inl rfl) (Or.inr (hv P (by omega)))) hk
  rw [f_Clock_minuteHome, js_places, jz_bI, ja_w_id (x := M 11 3 - 1) (by omega) (by omega), show M 11 3 - 1 = (P : Int) by omega, js_minuteOf dd hH hO hb (by omega), jz_bI, f_Hunt_stay_11, jz_bI, js_pl (dd + 3) hH hb (by omega), jz_bI, js_wayOf (dd + 1) hH hb (Or.inr (hv P (by omega))) (Or.inl rfl), jz_bI, pv_st_sy, ja_w_id (x := aX M b P + M 11 6) (by omega) (by omega), ja_w_id (by omega) (by omega)]
  unfold pv_home
  rw [show (M 11 3).toNat - 1 = P by omega]
theorem jy_p20 : jy_o20 := by
  intro a _
  refine jOp.pure (fun M hJ => ?_)
  obtain ⟨⟨hT, hH, hO⟩, -⟩ := hJ
  have hb := hH.b
  have hX := f_X_home 1999 a M
  have hR := f_R_home 1999 a M
  rw [js_hasBand 1998, jz_bI, jz_b0] at hX
  rw [js_isBand 1997 a hH, jz_bI, jz_b0] at hR
  by_cases h1 : 0 ≤ a ∧ a < M 11 4
  · obtain ⟨x, rfl⟩ := Int.eq_ofNat_of_zero_le h1.1
    rw [if_pos h1, js_minuteHome 1993 hH hO h1.2, jz_bI] at hX
    rw [if_pos h1, js_homeOf 1995 hH h1.2 (hO.vR h1.2) (hO.sR h1.2), jz_bI] at hR
    refine ⟨_, hX, hR.trans ?_⟩
    congr 4
    unfold pv_home
    have e : pv_arr (M 12) (M 13) (M 155 x) (M 14 x) (M 11 6) (oR M x) ((M 11 3).toNat - 1) = pv_arr (M 12) (M 13) (M 32 x) (M 14 x) (M 11 6) (oX M x) ((M 11 3).toNat - 1) := hO.arr hH h1.2 (t := (M 11 3).toNat - 1) (by omega)
    have e2 : oR M x ((M 11 3).toNat - 1) = oX M x ((M 11 3).toNat - 1) := hO.eq (b := x) (t := (M 11 3).toNat - 1) (by omega) (by omega)
    rw [e, e2]
  · rw [if_neg h1] at hX hR
    exact ⟨_, hX, hR⟩
