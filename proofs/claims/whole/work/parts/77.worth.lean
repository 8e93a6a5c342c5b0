/-! points: what a code is worth -/
def pw_bd (z : Int) : Int := if 1000000 < z then 1000000 else if z < -1000000 then -1000000 else z
def pw_op (o : Nat) (b c : Int) : Int := match o with
  | 2 => pw_bd (b + c)
  | 3 => pw_bd (b - c)
  | 4 => pw_bd (b * c)
  | 5 => if c = 0 then 0 else pw_bd (b.tdiv c)
  | 6 => if b = c then 1 else 0
  | 7 => if b < c then 1 else 0
  | 8 => if c < b then 1 else 0
  | 10 => if b = 0 then 0 else if c = 0 then 0 else 1
  | _ => if b = 0 then (if c = 0 then 0 else 1) else 1
def pw_ok : Bool → Int → Prop
  | true, v => v = 0 ∨ v = 1
  | false, v => -1000000 ≤ v ∧ v ≤ 1000000
theorem pw_bd_b (z : Int) : -1000000 ≤ pw_bd z ∧ pw_bd z ≤ 1000000 := by
  unfold pw_bd
  split
  · omega
  · split <;> omega
theorem js_bounded (dd : Nat) {z : Int} {M : ja_M} : ja_x true (dd + 1) 119 [jl z] M = some (some (ji (pw_bd z)), M) := by
  rw [f_Worths_bounded]
  unfold pw_bd
  by_cases h1 : 1000000 < z
  · rw [if_pos h1, if_neg (show ¬ z < 1000000 by omega), if_neg (show ¬ z = 1000000 by omega), if_pos (by decide)]
  · rw [if_neg h1]
    have e : ¬ 0 < (if z < 1000000 then -1 else if z = 1000000 then (0 : Int) else 1) := by
      split
      · decide
      · rw [if_pos (by omega)]
        decide
    rw [if_neg e]
    by_cases h2 : z < -1000000
    · rw [if_pos h2, if_pos h2, if_pos (by decide)]
    · rw [if_neg h2, if_neg h2]
      have e : ¬ (if z = -1000000 then (0 : Int) else 1) < 0 := by split <;> decide
      rw [if_neg e, ja_w_id (by omega) (by omega)]
theorem js_R_bounded (dd : Nat) {z : Int} {M : ja_M} : ja_x true (dd + 1) 275 [jl z] M = some (some (ji (pw_bd z)), M) := by
  rw [f_R_bounded]
  have : ja_max (-1000000) (ja_min 1000000 z) = pw_bd z := by
    unfold ja_max ja_min pw_bd
    split <;> split <;> (try split) <;> (try split) <;> omega
  have h := pw_bd_b z
  rw [this, ja_w_id (by omega) (by omega)]
theorem pw_mul_b {b c : Int} (hb : pw_ok false b) (hc : pw_ok false c) : -1000000000000 ≤ b * c ∧ b * c ≤ 1000000000000 := by
  have hb : -1000000 ≤ b ∧ b ≤ 1000000 := hb
  have hc : -1000000 ≤ c ∧ c ≤ 1000000 := hc
  have h : (b * c).natAbs ≤ 1000000 * 1000000 := by
    rw [Int.natAbs_mul]
    exact Nat.mul_le_mul (by omega) (by omega)
  omega
theorem pw_div_b {b c : Int} (hb : pw_ok false b) : -1000000 ≤ b.tdiv c ∧ b.tdiv c ≤ 1000000 := by
  have hb : -1000000 ≤ b ∧ b ≤ 1000000 := hb
  have h : (b.tdiv c).natAbs ≤ b.natAbs := by
    rw [Int.natAbs_tdiv]
    exact Nat.div_le_self _ _
  omega
theorem ja_is0_f {c : Int} (h : c ≠ 0) : ja_is0 c = false := by
  unfold ja_is0
  split
  · exact absurd rfl h
  · rfl
/-- two values of the kind that a sign wants -/
def pw_two (o : Nat) (b c : Int) : Prop := (2 ≤ o ∧ o ≤ 8 ∧ pw_ok false b ∧ pw_ok false c) ∨ ((o = 10 ∨ o = 11) ∧ pw_ok true b ∧ pw_ok true c)
theorem js_joined (dd : Nat) {o : Nat} {b c : Int} {M : ja_M} (h : pw_two o b c) : ja_x true (dd + 2) 118 [ji (jw_chr o), ji b, ji c] M = some (some (ji (pw_op o b c)), M) := by
  rcases h with ⟨h1, h2, hb, hc⟩ | ⟨h1, hb, hc⟩
  · have hm := pw_mul_b hb hc
    have hd := pw_div_b (c := c) hb
    have hb' : -1000000 ≤ b ∧ b ≤ 1000000 := hb
    have hc' : -1000000 ≤ c ∧ c ≤ 1000000 := hc
    have : o = 2 ∨ o = 3 ∨ o = 4 ∨ o = 5 ∨ o = 6 ∨ o = 7 ∨ o = 8 := by omega
    rcases this with rfl | rfl | rfl | rfl | rfl | rfl | rfl
    · rw [f_Worths_joined, show jw_chr 2 = 43 from rfl, if_neg (by decide), if_neg (by decide), if_pos rfl, js_bounded, jz_bI, ja_W_id (by omega) (by omega)]
      rfl
    · rw [f_Worths_joined, show jw_chr 3 = 45 from rfl, if_neg (by decide), if_neg (by decide), if_neg (by decide), if_pos rfl, js_bounded, jz_bI, ja_W_id (by omega) (by omega)]
      rfl
    · rw [f_Worths_joined, show jw_chr 4 = 42 from rfl, if_neg (by decide), if_pos rfl, js_bounded, jz_bI, ja_W_id (by omega) (by omega)]
      rfl
    · rw [f_Worths_joined, show jw_chr 5 = 47 from rfl, if_neg (by decide), if_neg (by decide), if_neg (by decide), if_neg (by decide), if_neg (by decide), if_neg (by decide), if_neg (by decide), if_neg (by decide)]
      show _ = some (some (ji (if c = 0 then 0 else pw_bd (b.tdiv c))), M)
      by_cases q : c = 0
      · rw [if_pos q, if_pos q]
      · rw [if_neg q, if_neg q, ja_is0_f q, cond_false, js_bounded, jz_bI, ja_W_id (by omega) (by omega)]
    · rw [f_Worths_joined, show jw_chr 6 = 61 from rfl, if_neg (by decide), if_neg (by decide), if_neg (by decide), if_neg (by decide), if_neg (by decide), if_pos rfl]
      show _ = some (some (ji (if b = c then 1 else 0)), M)
      split <;> rfl
    · rw [f_Worths_joined, show jw_chr 7 = 60 from rfl, if_neg (by decide), if_neg (by decide), if_neg (by decide), if_neg (by decide), if_pos rfl]
      show _ = some (some (ji (if b < c then 1 else 0)), M)
      split <;> rfl
    · rw [f_Worths_joined, show jw_chr 8 = 62 from rfl, if_neg (by decide), if_neg (by decide), if_neg (by decide), if_neg (by decide), if_neg (by decide), if_neg (by decide), if_pos rfl]
      show _ = some (some (ji (if c < b then 1 else 0)), M)
      split <;> rfl
  · rcases h1 with rfl | rfl
    · rw [f_Worths_joined, show jw_chr 10 = 38 from rfl, if_pos rfl]
      rcases hb with rfl | rfl <;> rcases hc with rfl | rfl <;> rfl
    · rw [f_Worths_joined, show jw_chr 11 = 124 from rfl, if_neg (by decide), if_neg (by decide), if_neg (by decide), if_neg (by decide), if_neg (by decide), if_neg (by decide), if_neg (by decide), if_pos rfl]
      rcases hb with rfl | rfl <;> rcases hc with rfl | rfl <;> rfl
theorem jx_c0 (x y : Int) : ((if x < y then (-1 : Int) else if x = y then 0 else 1) = 0) ↔ x = y := by
  split
  · constructor
    · intro h
      exact absurd h (by decide)
    · intro h
      omega
  · split
    · simp [*]
    · constructor
      · intro h
        exact absurd h (by decide)
      · intro h
        contradiction
theorem jx_c1 (x y : Int) : ((if x < y then (-1 : Int) else if x = y then 0 else 1) < 0) ↔ x < y := by
  split
  · simp [*]
  · split
    · constructor
      · intro h
        exact absurd h (by decide)
      · intro h
        omega
    · constructor
      · intro h
        exact absurd h (by decide)
      · intro h
        omega
theorem jx_c2 (x y : Int) : (0 < (if x < y then (-1 : Int) else if x = y then 0 else 1)) ↔ y < x := by
  split
  · constructor
    · intro h
      exact absurd h (by decide)
    · intro h
      omega
  · split
    · constructor
      · intro h
        exact absurd h (by decide)
      · intro h
        omega
    · constructor
      · intro h
        omega
      · intro h
        decide
theorem js_R_worked (dd : Nat) {o : Nat} {b c : Int} {M : ja_M} (h : pw_two o b c) : ja_x true (dd + 2) 274 [ji (o : Int), jl b, jl c] M = some (some (ji (pw_op o b c)), M) := by
  rcases h with ⟨h1, h2, hb, hc⟩ | ⟨h1, hb, hc⟩
  · have hm := pw_mul_b hb hc
    have hd := pw_div_b (c := c) hb
    have hb' : -1000000 ≤ b ∧ b ≤ 1000000 := hb
    have hc' : -1000000 ≤ c ∧ c ≤ 1000000 := hc
    have : o = 2 ∨ o = 3 ∨ o = 4 ∨ o = 5 ∨ o = 6 ∨ o = 7 ∨ o = 8 := by omega
    rcases this with rfl | rfl | rfl | rfl | rfl | rfl | rfl
    · rw [f_R_worked, if_pos (by decide), js_R_bounded, jz_bI, ja_W_id (by omega) (by omega)]
      rfl
    · rw [f_R_worked, if_neg (by decide), if_pos (by decide), js_R_bounded, jz_bI, ja_W_id (by omega) (by omega)]
      rfl
    · rw [f_R_worked, if_neg (by decide), if_neg (by decide), if_pos (by decide), js_R_bounded, jz_bI, ja_W_id (by omega) (by omega)]
      rfl
    · rw [f_R_worked, if_neg (by decide), if_neg (by decide), if_neg (by decide), if_pos (by decide)]
      show _ = some (some (ji (if c = 0 then 0 else pw_bd (b.tdiv c))), M)
      by_cases q : c = 0
      · rw [if_pos ((jx_c0 c 0).mpr q), if_pos q]
      · rw [if_neg (fun z => q ((jx_c0 c 0).mp z)), if_neg q, ja_is0_f q, cond_false, js_R_bounded, jz_bI, ja_W_id (by omega) (by omega)]
    · rw [f_R_worked, if_neg (by decide), if_neg (by decide), if_neg (by decide), if_neg (by decide), if_pos (by decide)]
      show _ = some (some (ji (if b = c then 1 else 0)), M)
      by_cases q : b = c
      · rw [if_pos ((jx_c0 b c).mpr q), if_pos q]
      · rw [if_neg (fun z => q ((jx_c0 b c).mp z)), if_neg q]
    · rw [f_R_worked, if_neg (by decide), if_neg (by decide), if_neg (by decide), if_neg (by decide), if_neg (by decide), if_pos (by decide)]
      show _ = some (some (ji (if b < c then 1 else 0)), M)
      by_cases q : b < c
      · rw [if_pos ((jx_c1 b c).mpr q), if_pos q]
      · rw [if_neg (fun z => q ((jx_c1 b c).mp z)), if_neg q]
    · rw [f_R_worked, if_neg (by decide), if_neg (by decide), if_neg (by decide), if_neg (by decide), if_neg (by decide), if_neg (by decide), if_pos (by decide)]
      show _ = some (some (ji (if c < b then 1 else 0)), M)
      by_cases q : c < b
      · rw [if_pos ((jx_c2 b c).mpr q), if_pos q]
      · rw [if_neg (fun z => q ((jx_c2 b c).mp z)), if_neg q]
  · rcases h1 with rfl | rfl
    · rw [f_R_worked]
      rcases hb with rfl | rfl <;> rcases hc with rfl | rfl <;> rfl
    · rw [f_R_worked]
      rcases hb with rfl | rfl <;> rcases hc with rfl | rfl <;> rfl
theorem pw_op_ok {o : Nat} {b c : Int} (h : pw_two o b c) : pw_ok (decide (6 ≤ o)) (pw_op o b c) := by
  have t : ∀ p : Prop, [Decidable p] → pw_ok true (if p then 1 else 0) := fun p _ => by
    split
    · exact Or.inr rfl
    · exact Or.inl rfl
  rcases h with ⟨h1, h2, hb, hc⟩ | ⟨h1, hb, hc⟩
  · have : o = 2 ∨ o = 3 ∨ o = 4 ∨ o = 5 ∨ o = 6 ∨ o = 7 ∨ o = 8 := by omega
    rcases this with rfl | rfl | rfl | rfl | rfl | rfl | rfl
    · exact pw_bd_b _
    · exact pw_bd_b _
    · exact pw_bd_b _
    · show pw_ok false (if c = 0 then 0 else pw_bd (b.tdiv c))
      split
      · exact ⟨by decide, by decide⟩
      · exact pw_bd_b _
    · exact t _
    · exact t _
    · exact t _
  · rcases h1 with rfl | rfl <;> rcases hb with rfl | rfl <;> rcases hc with rfl | rfl <;> first | exact Or.inl rfl | exact Or.inr rfl
