/-! even (promise 16) -/
theorem jz_tmod2 {x : Int} (h : 0 ≤ x) : x.tmod 2 = x % 2 := Int.tmod_eq_emod_of_nonneg h
theorem jz_tdiv2 {x : Int} (h : 0 ≤ x) : x.tdiv 2 = x / 2 := Int.tdiv_eq_ediv_of_nonneg h
theorem jz_tmod {x y : Int} (h : 0 ≤ x) : x.tmod y = x % y := Int.tmod_eq_emod_of_nonneg h
def jv_evt (n t : Int) : Int := if t % 2 = 1 then (t + 1) / 2 else if t = 0 then 0 else n - t / 2
def jv_even (n b t : Int) : Int := if (2 ≤ n ∧ n ≤ 400 ∧ n % 2 = 0) ∧ (0 ≤ b ∧ b < n) ∧ (0 ≤ t ∧ t < n) then (b + jv_evt n t) % n else -1
theorem js_evenTurn (dd : Nat) {n t : Int} (M : ja_M) (hn : 2 ≤ n ∧ n ≤ 400) (ht : 0 ≤ t ∧ t < n) : ja_x true (dd + 1) 99 [ji n, ji t] M = some (some (ji (jv_evt n t)), M) := by
  rw [f_X_evenTurn, jz_tmod2 ht.1, ja_w_id (x := t + 1) (by omega) (by omega), jz_tdiv2 (x := t + 1) (by omega), jz_tdiv2 ht.1, ja_w_id (x := (t + 1) / 2) (by omega) (by omega), ja_w_id (x := t / 2) (by omega) (by omega), ja_w_id (x := n - t / 2) (by omega) (by omega)]
  unfold jv_evt
  split
  · rfl
  · split <;> rfl
theorem jv_evt_b {n t : Int} (hn : 2 ≤ n ∧ n ≤ 400) (ht : 0 ≤ t ∧ t < n) : 0 ≤ jv_evt n t ∧ jv_evt n t ≤ n := by
  unfold jv_evt
  split
  · omega
  · split <;> omega
theorem js_X_even (dd : Nat) (n b t : Int) (M : ja_M) : ja_x true (dd + 2) 98 [jr 1, ji n, ji b, ji t] M = some (some (ji (jv_even n b t)), M) := by
  rw [f_X_even]
  unfold jv_even
  by_cases h1 : n < 2
  · rw [if_pos h1, if_neg (by omega)]
  by_cases h2 : 400 < n
  · rw [if_neg h1, if_pos h2, if_neg (by omega)]
  rw [if_neg h1, if_neg h2, jz_tmod2 (by omega)]
  by_cases h3 : n % 2 = 0
  · rw [if_pos h3]
    by_cases h4 : b < 0
    · rw [if_pos h4, if_neg (by omega)]
    by_cases h5 : b < n
    · rw [if_neg h4, if_pos h5]
      by_cases h6 : t < 0
      · rw [if_pos h6, if_neg (by omega)]
      by_cases h7 : t < n
      · have hb := jv_evt_b (n := n) (t := t) (by omega) (by omega)
        rw [if_neg h6, if_pos h7, js_evenTurn dd M (by omega) (by omega), jz_bI, jz_is0 (by omega), if_pos (by omega), ja_w_id (by omega) (by omega), jz_tmod (by omega)]
        rfl
      · rw [if_neg h6, if_neg h7, if_neg (by omega)]
    · rw [if_neg h4, if_neg h5, if_neg (by omega)]
  · rw [if_neg h3, if_neg (by omega)]
theorem js_in (dd : Nat) (a b c : Int) (M : ja_M) : ja_x true (dd + 1) 214 [ji a, ji b, ji c] M = some (some (ji (if b ≤ a ∧ a ≤ c then 1 else 0)), M) := by
  rw [f_R_in]
  by_cases h1 : a < b
  · rw [if_pos h1, if_neg (by omega)]
  by_cases h2 : c < a
  · rw [if_neg h1, if_pos h2, if_neg (by omega)]
  · rw [if_neg h1, if_neg h2, if_pos (by omega)]
theorem js_R_even (dd : Nat) {n b t : Int} (M : ja_M) (hn : -2147483648 ≤ n ∧ n < 2147483648) : ja_x true (dd + 2) 260 [jr 137, ji n, ji b, ji t] M = some (some (ji (jv_even n b t)), M) := by
  rw [f_R_even, js_in, jz_bI]
  unfold jv_even
  by_cases h1 : 2 ≤ n ∧ n ≤ 400
  · rw [if_pos h1, if_neg (by decide), jz_tmod2 (by omega)]
    by_cases h3 : n % 2 = 1
    · rw [if_pos h3, if_neg (by omega)]
    · rw [if_neg h3, ja_w_id (x := n - 1) (by omega) (by omega), js_in, jz_bI]
      by_cases h4 : 0 ≤ b ∧ b ≤ n - 1
      · rw [if_pos h4, if_neg (by decide), js_in, jz_bI]
        by_cases h5 : 0 ≤ t ∧ t ≤ n - 1
        · have hb := jv_evt_b (n := n) (t := t) (by omega) (by omega)
          have hR : (2 ≤ n ∧ n ≤ 400 ∧ n % 2 = 0) ∧ (0 ≤ b ∧ b < n) ∧ (0 ≤ t ∧ t < n) := by omega
          rw [if_pos h5, if_neg (by decide), jz_tmod2 (x := t) (by omega), jz_is0 (by omega), if_pos hR]
          unfold jv_evt at hb ⊢
          by_cases h6 : t % 2 = 1
          · rw [if_pos h6] at hb
            rw [if_pos h6, if_pos h6, ja_w_id (x := t + 1) (by omega) (by omega), jz_tdiv2 (x := t + 1) (by omega), ja_w_id (x := (t + 1) / 2) (by omega) (by omega), ja_w_id (by omega) (by omega), jz_tmod (by omega)]
            rfl
          · rw [if_neg h6] at hb
            rw [if_neg h6, if_neg h6, jz_tdiv2 (x := t) (by omega), ja_w_id (x := t / 2) (by omega) (by omega), ja_w_id (x := n - t / 2) (by omega) (by omega), jz_tmod (x := n - t / 2) (by omega)]
            have hm : (n - t / 2) % n = if t = 0 then 0 else n - t / 2 := by
              by_cases h7 : t = 0
              · subst h7
                rw [if_pos rfl]
                show (n - 0) % n = 0
                rw [Int.sub_zero, Int.emod_self]
              · rw [if_neg h7]
                exact Int.emod_eq_of_lt (by omega) (by omega)
            rw [hm]
            rw [ja_w_id (x := b + _) (by omega) (by omega), jz_tmod (by omega)]
            rfl
        · rw [if_neg h5, if_pos rfl, if_neg (by omega)]
      · rw [if_neg h4, if_pos rfl, if_neg (by omega)]
  · rw [if_neg h1, if_pos rfl, if_neg (by omega)]
