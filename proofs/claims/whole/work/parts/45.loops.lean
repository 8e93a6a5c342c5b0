/-! loops by counters; orders as digits, who follows whom -/
def jz_fold {α : Type} (st : Int → α → α) : Nat → Int → α → α
  | 0, _, a => a
  | m + 1, t, a => jz_fold st m (t + 1) (st t a)
theorem jz_run {α : Type} {F : α → Int → Option ja_R} {st : Int → α → α} {n : Int} {P : Int → α → Prop} (h : ∀ t a, t < n → P t a → F a t = F (st t a) (t + 1) ∧ P (t + 1) (st t a)) : ∀ (m : Nat) (t : Int) (a : α), t + m = n → P t a → F a t = F (jz_fold st m t a) n ∧ P n (jz_fold st m t a)
  | 0, t, a, e, p => by
    have e2 : t = n := by omega
    subst e2
    exact ⟨rfl, p⟩
  | m + 1, t, a, e, p => by
    obtain ⟨h1, h2⟩ := h t a (by omega) p
    obtain ⟨h3, h4⟩ := jz_run h m (t + 1) (st t a) (by omega) h2
    exact ⟨h1.trans h3, h4⟩
theorem jz_fold_congr {α : Type} {s1 s2 : Int → α → α} {n : Int} : ∀ (m : Nat) (t : Int) (a : α), t + m = n → (∀ u a, t ≤ u → u < n → s1 u a = s2 u a) → jz_fold s1 m t a = jz_fold s2 m t a
  | 0, _, _, _, _ => rfl
  | m + 1, t, a, e, h => by
    show jz_fold s1 m (t + 1) (s1 t a) = jz_fold s2 m (t + 1) (s2 t a)
    rw [h t a (Int.le_refl _) (by omega)]
    exact jz_fold_congr m (t + 1) _ (by omega) (fun u a h1 h2 => h u a (by omega) h2)
theorem js_places (dd : Nat) (M : ja_M) : ja_x true (dd + 1) 58 [jr 11] M = some (some (ji (M 11 3)), M) := f_Hunt_places_11 dd M
theorem js_bands (dd : Nat) (M : ja_M) : ja_x true (dd + 1) 59 [jr 11] M = some (some (ji (M 11 4)), M) := f_Hunt_bands_11 dd M
theorem jO.b {M : ja_M} (ho : jO M) {b t : Int} (h1 : 0 ≤ b ∧ b < M 11 4) (h2 : 0 ≤ t ∧ t < M 11 3) : 0 ≤ jv_of M b t ∧ jv_of M b t < M 11 3 := (ho.1 b.toNat t.toNat (by omega) (by omega)).2
theorem js_placeOf' (dd : Nat) {b t : Int} {M : ja_M} (h : jH M) (h1 : 0 ≤ b ∧ b < M 11 4) (h2 : 0 ≤ t ∧ t < M 11 3) : ja_x true (dd + 2) 70 [jr 24, ji b, ji t] M = some (some (ji (jv_of M b t)), M) := by
  rw [js_placeOf dd b t h, if_pos ⟨h1, h2⟩]
/-- the digits of a band's order, its first turns -/
def jv_dig (M : ja_M) (b : Int) : Int := jz_fold (fun t a => a * 10 + jv_of M b t) (M 11 3).toNat 0 0
theorem jz_pow_le {t n : Int} : True := trivial
def jv_10 : Int → Int := fun t => (10 : Int) ^ t.toNat
theorem jv_10s {t : Int} (h : 0 ≤ t) : jv_10 (t + 1) = 10 * jv_10 t := by
  unfold jv_10
  rw [show (t + 1).toNat = t.toNat + 1 by omega, Int.pow_succ, Int.mul_comm]
theorem jv_10b {t : Int} (h : 0 ≤ t ∧ t ≤ 6) : 1 ≤ jv_10 t ∧ jv_10 t ≤ 1000000 := by
  have : t = 0 ∨ t = 1 ∨ t = 2 ∨ t = 3 ∨ t = 4 ∨ t = 5 ∨ t = 6 := by omega
  rcases this with rfl | rfl | rfl | rfl | rfl | rfl | rfl <;> decide
theorem js_digitsOf (dd : Nat) {b : Int} {M : ja_M} (h : jH M) (ho : jO M) (h1 : 0 ≤ b ∧ b < M 11 4) : ja_x true (dd + 3) 69 [jr 24, ji b] M = some (some (ji (jv_dig M b)), M) ∧ (0 ≤ jv_dig M b ∧ jv_dig M b < jv_10 (M 11 3)) := by
  have hb := h.b
  rw [f_Table_digitsOf]
  obtain ⟨r1, r2⟩ := jz_run (F := fun a t => ja_D true (ja_x true (dd + 2)) k_Table_digitsOf 4 [some (jr 24), some (ji b), some (ji a), some (ji t)] [] M) (st := fun t a => a * 10 + jv_of M b t) (n := M 11 3) (P := fun t a => 0 ≤ t ∧ 0 ≤ a ∧ a < jv_10 t) (by
    intro t a ht ⟨p1, p2, p3⟩
    have hv := ho.b h1 ⟨p1, ht⟩
    have h10 := jv_10b (t := t) (by omega)
    have h10s := jv_10s p1
    refine ⟨?_, by omega, by omega, by omega⟩
    show ja_D true (ja_x true (dd + 2)) k_Table_digitsOf 4 _ [] M = _
    rw [e_Table_digitsOf_4, js_places, jz_bI, if_pos ht, js_placeOf dd b t h, jz_bI, if_pos ⟨h1, p1, ht⟩, ja_w_id (x := a * 10) (by omega) (by omega), ja_w_id (x := a * 10 + _) (by omega) (by omega), ja_w_id (x := t + 1) (by omega) (by omega)]) (M 11 3).toNat 0 0 (by omega) ⟨Int.le_refl _, Int.le_refl _, by decide⟩
  refine ⟨?_, r2.2⟩
  rw [r1, e_Table_digitsOf_4, js_places, jz_bI, if_neg (by omega)]
  rfl
theorem js_orderOf (dd : Nat) {b : Int} {M : ja_M} (h : jH M) (ho : jO M) (h1 : 0 ≤ b ∧ b < M 11 4) : ja_x true (dd + 3) 241 [jr 137, ji b] M = some (some (ji (jv_dig M b)), M) := by
  have hb := h.b
  rw [f_R_orderOf]
  obtain ⟨r1, r2⟩ := jz_run (F := fun a t => ja_D true (ja_x true (dd + 2)) k_R_orderOf 4 [some (jr 137), some (ji b), some (ji a), some (ji t)] [] M) (st := fun t a => a * 10 + jv_of M b t) (n := M 11 3) (P := fun t a => 0 ≤ t ∧ 0 ≤ a ∧ a < jv_10 t) (by
    intro t a ht ⟨p1, p2, p3⟩
    have hv := ho.b h1 ⟨p1, ht⟩
    have h10 := jv_10b (t := t) (by omega)
    have h10s := jv_10s p1
    refine ⟨?_, by omega, by omega, by omega⟩
    show ja_D true (ja_x true (dd + 2)) k_R_orderOf 4 _ [] M = _
    rw [e_R_orderOf_4, h.2.1.1, if_pos ht, js_R_of (dd + 1) h ho h1 ⟨p1, ht⟩, jz_bI, ja_w_id (x := 10 * a) (by omega) (by omega), ja_w_id (x := 10 * a + _) (by omega) (by omega), ja_w_id (x := t + 1) (by omega) (by omega), Int.mul_comm 10 a]) (M 11 3).toNat 0 0 (by omega) ⟨Int.le_refl _, Int.le_refl _, by decide⟩
  rw [r1, e_R_orderOf_4, h.2.1.1, if_neg (by omega)]
  rfl
/-- how often one follows the other -/
def jv_fol (M : ja_M) (a b : Int) : Int := jz_fold (fun t n => if jv_of M a t = jv_of M b (t - 1) then n + 1 else n) (M 11 3 - 1).toNat 1 0
theorem js_timesFollowed (dd : Nat) {a b : Int} {M : ja_M} (h : jH M) (h0 : M 11 3 ≠ 0) (h1 : 0 ≤ a ∧ a < M 11 4) (h2 : 0 ≤ b ∧ b < M 11 4) : ja_x true (dd + 3) 88 [jr 24, ji a, ji b] M = some (some (ji (jv_fol M a b)), M) ∧ (0 ≤ jv_fol M a b ∧ jv_fol M a b ≤ 6) := by
  have hb := h.b
  rw [f_Table_timesFollowed]
  obtain ⟨r1, r2⟩ := jz_run (F := fun n t => ja_D true (ja_x true (dd + 2)) k_Table_timesFollowed 4 [some (jr 24), some (ji a), some (ji b), some (ji n), some (ji t)] [] M) (st := fun t n => if jv_of M a t = jv_of M b (t - 1) then n + 1 else n) (n := M 11 3) (P := fun t n => 1 ≤ t ∧ 0 ≤ n ∧ n ≤ t) (by
    intro t n ht ⟨p1, p2, p3⟩
    refine ⟨?_, by omega, by split <;> omega, by split <;> omega⟩
    show ja_D true (ja_x true (dd + 2)) k_Table_timesFollowed 4 _ [] M = _
    rw [e_Table_timesFollowed_4, js_places, jz_bI, if_pos ht, js_placeOf' dd h h1 ⟨by omega, ht⟩, jz_bI, ja_w_id (x := t - 1) (by omega) (by omega), js_placeOf' dd h h2 ⟨by omega, by omega⟩, jz_bI, ja_w_id (x := t + 1) (by omega) (by omega), ja_w_id (x := n + 1) (by omega) (by omega)]
    by_cases q : jv_of M a t = jv_of M b (t - 1)
    · rw [if_pos q, if_pos q]
    · rw [if_neg q, if_neg q]) (M 11 3 - 1).toNat 1 0 (by omega) ⟨by omega, by omega, by omega⟩
  refine ⟨?_, r2.2.1, Int.le_trans r2.2.2 hb.1.2⟩
  rw [r1, e_Table_timesFollowed_4, js_places, jz_bI, if_neg (by omega)]
  rfl
theorem js_followsOf (dd : Nat) {a b : Int} {M : ja_M} (h : jH M) (ho : jO M) (h0 : M 11 3 ≠ 0) (h1 : 0 ≤ a ∧ a < M 11 4) (h2 : 0 ≤ b ∧ b < M 11 4) : ja_x true (dd + 2) 254 [jr 137, ji a, ji b] M = some (some (ji (jv_fol M a b)), M) := by
  have hb := h.b
  rw [f_R_followsOf]
  obtain ⟨r1, r2⟩ := jz_run (F := fun n t => ja_D true (ja_x true (dd + 1)) k_R_followsOf 4 [some (jr 137), some (ji a), some (ji b), some (ji n), some (ji t)] [] M) (st := fun t n => if jv_of M a t = jv_of M b (t - 1) then n + 1 else n) (n := M 11 3) (P := fun t n => 1 ≤ t ∧ 0 ≤ n ∧ n ≤ t) (by
    intro t n ht ⟨p1, p2, p3⟩
    refine ⟨?_, by omega, by split <;> omega, by split <;> omega⟩
    show ja_D true (ja_x true (dd + 1)) k_R_followsOf 4 _ [] M = _
    rw [e_R_followsOf_4, h.2.1.1, if_pos ht, js_R_of dd h ho h1 ⟨by omega, ht⟩, jz_bI, ja_w_id (x := t - 1) (by omega) (by omega), js_R_of dd h ho h2 ⟨by omega, by omega⟩, jz_bI, ja_w_id (x := t + 1) (by omega) (by omega), ja_w_id (x := n + 1) (by omega) (by omega), ja_w_id (x := n + 0) (by omega) (by omega), Int.add_zero]
    by_cases q : jv_of M a t = jv_of M b (t - 1)
    · rw [if_pos q, if_pos q]
    · rw [if_neg q, if_neg q]) (M 11 3 - 1).toNat 1 0 (by omega) ⟨by omega, by omega, by omega⟩
  rw [r1, e_R_followsOf_4, h.2.1.1, if_neg (by omega)]
  rfl
/-- follows (promise 13) -/
def jv_follows (M : ja_M) (a b : Int) : Int := if a ≠ b ∧ (0 ≤ a ∧ a < M 11 4) ∧ (0 ≤ b ∧ b < M 11 4) then jv_fol M a b else -1
theorem js_X_follows (dd : Nat) (a b : Int) {M : ja_M} (h : jH M) : ja_x true (dd + 4) 87 [jr 1, ji a, ji b] M = some (some (ji (jv_follows M a b)), M) := by
  have hb := h.b
  rw [f_X_follows]
  unfold jv_follows
  by_cases e : a = b
  · rw [if_pos e, if_neg (fun q => q.1 e)]
  rw [if_neg e, js_hasBand, jz_bI, jz_b0]
  by_cases h1 : 0 ≤ a ∧ a < M 11 4
  · rw [if_pos h1, js_hasBand, jz_bI, jz_b0]
    by_cases h2 : 0 ≤ b ∧ b < M 11 4
    · rw [if_pos h2, (js_timesFollowed dd h (by omega) h1 h2).1, jz_bI, if_pos ⟨e, h1, h2⟩]
    · rw [if_neg h2, if_neg (fun q => h2 q.2.2)]
  · rw [if_neg h1, if_neg (fun q => h1 q.2.1)]
theorem js_R_follows (dd : Nat) (a b : Int) {M : ja_M} (h : jH M) (ho : jO M) : ja_x true (dd + 4) 253 [jr 137, ji a, ji b] M = some (some (ji (jv_follows M a b)), M) := by
  have hb := h.b
  rw [f_R_follows, js_isBand (dd + 1) a h, jz_bI, jz_b0]
  unfold jv_follows
  by_cases h1 : 0 ≤ a ∧ a < M 11 4
  · rw [if_pos h1, js_isBand (dd + 1) b h, jz_bI, jz_b0]
    by_cases h2 : 0 ≤ b ∧ b < M 11 4
    · rw [if_pos h2]
      by_cases e : a = b
      · rw [if_pos e, if_neg (fun q => q.1 e)]
      · rw [if_neg e, js_followsOf (dd + 1) h ho (by omega) h1 h2, jz_bI, if_pos ⟨e, h1, h2⟩]
    · rw [if_neg h2, if_neg (fun q => h2 q.2.2)]
  · rw [if_neg h1, if_neg (fun q => h1 q.2.1)]
