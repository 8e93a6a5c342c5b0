/-! tables: the search's cells -/
def gup (g : Nat → Nat → Option Nat) (b t : Nat) (v : Option Nat) : Nat → Nat → Option Nat := fun b' t' => if b' = b ∧ t' = t then v else g b' t'
def gcnt (P : Nat) (g : Nat → Nat → Option Nat) (x y : Nat) : Int := jv_cnt (fun u => (g y u).isSome && (g x (u + 1) == g y u)) (P - 1)
def fI (P B : Nat) (N : ja_M) (ρ : Nat → Int) (g : Nat → Nat → Option Nat) : Prop := (∀ b, b < 5 → N 108 b = ρ b) ∧ (∀ b, b < B → N 109 b = ((jv_set (fun p => (List.range P).any (fun t => g b t == some p)) P : Nat) : Int)) ∧ (∀ t, t < P → N 110 t = ((jv_set (fun p => (List.range B).any (fun b => g b t == some p)) P : Nat) : Int)) ∧ (∀ t p, t < P → p < P → (∀ b, b < B → g b t = some p → N (112 + t) p = (b : Int)) ∧ ((∀ b, b < B → g b t ≠ some p) → N (112 + t) p = -1)) ∧ ∀ x y, x < B → y < B → N (118 + x) y = gcnt P g x y
theorem jk_112 : ∀ b, b < 5 → ja_kd (112 + b) = (100, 5) := by decide
theorem jk_118 : ∀ b, b < 5 → ja_kd (118 + b) = (100, 5) := by decide
theorem jv_sum_one (k : Nat) (c : Prop) [Decidable c] : ∀ n, jv_sum (fun u => if u = k ∧ c then 1 else 0) n = if k < n ∧ c then 1 else 0
  | 0 => by
    rw [if_neg (fun q => Nat.not_lt_zero _ q.1)]
    rfl
  | n + 1 => by
    show jv_sum _ n + (if n = k ∧ c then (1 : Int) else 0) = _
    rw [jv_sum_one k c n]
    by_cases h : c
    · by_cases z : n = k
      · rw [if_neg (c := k < n ∧ c) (fun q => by omega), if_pos (c := n = k ∧ c) ⟨z, h⟩, if_pos ⟨by omega, h⟩]
        rfl
      · rw [if_neg (c := n = k ∧ c) (fun q => z q.1)]
        by_cases y : k < n
        · rw [if_pos ⟨y, h⟩, if_pos ⟨by omega, h⟩]
          rfl
        · rw [if_neg (fun q => y q.1), if_neg (fun q => by omega)]
          rfl
    · rw [if_neg (fun q => h q.2), if_neg (fun q => h q.2), if_neg (fun q => h q.2)]
      rfl
theorem gcnt_up {P b t p : Nat} {g : Nat → Nat → Option Nat} (ht : t < P) (hn : g b t = none) (hp : ∀ t', g b t' ≠ some p) (x y : Nat) : gcnt P (gup g b t (some p)) x y = gcnt P g x y + (if x = b ∧ (1 ≤ t ∧ g y (t - 1) = some p) then 1 else 0) + (if y = b ∧ (t + 1 < P ∧ g x (t + 1) = some p) then 1 else 0) := by
  unfold gcnt
  rw [jv_cnt_sum, jv_cnt_sum]
  have pt : ∀ u, u < P - 1 → (if ((gup g b t (some p) y u).isSome && (gup g b t (some p) x (u + 1) == gup g b t (some p) y u)) = true then (1 : Int) else 0) = (if ((g y u).isSome && (g x (u + 1) == g y u)) = true then 1 else 0) + (if u = t - 1 ∧ (x = b ∧ (1 ≤ t ∧ g y (t - 1) = some p)) then 1 else 0) + (if u = t ∧ (y = b ∧ (t + 1 < P ∧ g x (t + 1) = some p)) then 1 else 0) := by
    intro u hu
    by_cases h1 : x = b ∧ u + 1 = t
    · have e1 : gup g b t (some p) x (u + 1) = some p := if_pos h1
      have e2 : gup g b t (some p) y u = g y u := if_neg (fun q => by omega)
      have e3 : g x (u + 1) = none := by rw [h1.1, h1.2]; exact hn
      have et : t - 1 = u := by omega
      rw [e1, e2, e3, et, if_neg (c := u = t ∧ _) (fun q => by omega)]
      cases e : g y u with
      | none =>
        rw [if_neg (by simp), if_neg (by simp), if_neg (fun q => by have := q.2.2.2; cases this)]
        rfl
      | some r =>
        rw [if_neg (c := ((some r).isSome && (none == some r)) = true) (by simp)]
        by_cases z : r = p
        · subst z
          rw [if_pos (by simp), if_pos ⟨rfl, h1.1, by omega, rfl⟩]
          rfl
        · have z2 : ¬ p = r := fun e => z e.symm
          rw [if_neg (by simp [z2]), if_neg (fun q => by
            have := q.2.2.2
            cases this
            exact z rfl)]
          rfl
    · have e1 : gup g b t (some p) x (u + 1) = g x (u + 1) := if_neg h1
      rw [e1, if_neg (c := u = t - 1 ∧ _) (fun q => h1 ⟨q.2.1, by omega⟩)]
      by_cases h2 : y = b ∧ u = t
      · have e2 : gup g b t (some p) y u = some p := if_pos h2
        have e3 : g y u = none := by rw [h2.1, h2.2]; exact hn
        rw [e2, e3, if_neg (c := ((none : Option Nat).isSome && _) = true) (by simp), h2.2]
        by_cases z : g x (t + 1) = some p
        · rw [if_pos (by simp [z]), if_pos ⟨rfl, h2.1, by omega, z⟩]
          rfl
        · rw [if_neg (by simp [z]), if_neg (fun q => z q.2.2.2)]
          rfl
      · have e2 : gup g b t (some p) y u = g y u := if_neg h2
        rw [e2, if_neg (c := u = t ∧ _) (fun q => h2 ⟨q.2.1, q.1⟩), Int.add_zero, Int.add_zero]
  rw [jv_sum_congr _ pt, jv_sum_add (fun u => (if ((g y u).isSome && (g x (u + 1) == g y u)) = true then (1 : Int) else 0) + (if u = t - 1 ∧ (x = b ∧ (1 ≤ t ∧ g y (t - 1) = some p)) then 1 else 0)), jv_sum_add, jv_sum_one, jv_sum_one]
  congr 1
  · congr 1
    by_cases q : x = b ∧ (1 ≤ t ∧ g y (t - 1) = some p)
    · rw [if_pos ⟨by omega, q⟩, if_pos q]
    · rw [if_neg (fun w => q w.2), if_neg q]
  · by_cases q : y = b ∧ (t + 1 < P ∧ g x (t + 1) = some p)
    · rw [if_pos ⟨by omega, q⟩, if_pos q]
    · rw [if_neg (fun w => q w.2), if_neg q]
/-- who was at p a turn ahead, who is a turn behind -/
def gAh (N : ja_M) (t p : Nat) : Int := if 0 < t then N (112 + (t - 1)) p else -1
def gBh (P : Nat) (N : ja_M) (t p : Nat) : Int := if t + 1 < P then N (112 + (t + 1)) p else -1
theorem gAh_i {P B t p : Nat} {N : ja_M} {ρ : Nat → Int} {g : Nat → Nat → Option Nat} (h : fI P B N ρ g) (ht : t < P) (hp : p < P) : (∃ y, y < B ∧ gAh N t p = (y : Int) ∧ 1 ≤ t ∧ g y (t - 1) = some p) ∨ (gAh N t p = -1 ∧ ∀ y, y < B → ¬ (1 ≤ t ∧ g y (t - 1) = some p)) := by
  unfold gAh
  by_cases q : 0 < t
  · rw [if_pos q]
    obtain ⟨h1, h2⟩ := h.2.2.2.1 (t - 1) p (by omega) hp
    by_cases w : ∃ y, y < B ∧ g y (t - 1) = some p
    · obtain ⟨y, y1, y2⟩ := w
      exact Or.inl ⟨y, y1, h1 y y1 y2, q, y2⟩
    · exact Or.inr ⟨h2 (fun y hy e => w ⟨y, hy, e⟩), fun y hy e => w ⟨y, hy, e.2⟩⟩
  · rw [if_neg q]
    exact Or.inr ⟨rfl, fun y hy e => by omega⟩
theorem gBh_i {P B t p : Nat} {N : ja_M} {ρ : Nat → Int} {g : Nat → Nat → Option Nat} (h : fI P B N ρ g) (hp : p < P) : (∃ x, x < B ∧ gBh P N t p = (x : Int) ∧ t + 1 < P ∧ g x (t + 1) = some p) ∨ (gBh P N t p = -1 ∧ ∀ x, x < B → ¬ (t + 1 < P ∧ g x (t + 1) = some p)) := by
  unfold gBh
  by_cases q : t + 1 < P
  · rw [if_pos q]
    obtain ⟨h1, h2⟩ := h.2.2.2.1 (t + 1) p q hp
    by_cases w : ∃ y, y < B ∧ g y (t + 1) = some p
    · obtain ⟨y, y1, y2⟩ := w
      exact Or.inl ⟨y, y1, h1 y y1 y2, q, y2⟩
    · exact Or.inr ⟨h2 (fun y hy e => w ⟨y, hy, e⟩), fun y hy e => w ⟨y, hy, e.2⟩⟩
  · rw [if_neg q]
    exact Or.inr ⟨rfl, fun y hy e => by omega⟩
/-- one band at most is at a place in a turn -/
def gU (B : Nat) (g : Nat → Nat → Option Nat) : Prop := ∀ x y t p, x < B → y < B → g x t = some p → g y t = some p → x = y
abbrev s108 : Nat → Prop := fun c => 108 ≤ c ∧ c ≤ 122
theorem js_follow (dd : Nat) {N : ja_M} {x y : Nat} {c : Int} (hx : x < 5) (hy : y < 5) : ja_x true (dd + 1) 167 [jr 93, ji (x : Int), ji (y : Int), ji c] N = some (none, ja_up N (118 + x) y (ja_w (N (118 + x) y + c))) := by
  rw [f_Finds_follow, if_neg (by omega), if_neg (by omega), if_pos (by omega), show ((x : Int)).toNat = x from rfl, show 117 + 1 + x = 118 + x by omega, jz_ald (n := 5) (jk_118 x hx) (by omega) (by omega) (by omega) (by omega), jz_ast (n := 5) (jk_118 x hx) (by omega) (by omega) (by omega) (by omega), show ((y : Int)).toNat = y from rfl]
theorem js_follow_n (dd : Nat) {N : ja_M} {a b c : Int} (h : a = -1 ∨ b = -1) : ja_x true (dd + 1) 167 [jr 93, ji a, ji b, ji c] N = some (none, N) := by
  rw [f_Finds_follow]
  by_cases q : a = -1
  · rw [if_pos q]
  · rw [if_neg q, if_pos (by omega)]
/-- two follows counted, or taken back -/
theorem js_follow2 (dd : Nat) {N : ja_M} {P B b t p : Nat} {g : Nat → Nat → Option Nat} {ah bh c : Int} (hB5 : B ≤ 5) (hb : b < B) (hc : c = 1 ∨ c = -1) (hU : gU B g) (hbd : ∀ x y, x < B → y < B → -100 ≤ N (118 + x) y ∧ N (118 + x) y ≤ 100) (ha : (∃ y, y < B ∧ ah = (y : Int) ∧ 1 ≤ t ∧ g y (t - 1) = some p) ∨ (ah = -1 ∧ ∀ y, y < B → ¬ (1 ≤ t ∧ g y (t - 1) = some p))) (hh : (∃ x, x < B ∧ bh = (x : Int) ∧ t + 1 < P ∧ g x (t + 1) = some p) ∨ (bh = -1 ∧ ∀ x, x < B → ¬ (t + 1 < P ∧ g x (t + 1) = some p))) (hp : ∀ t', g b t' ≠ some p) : ∃ N1 N', ja_x true (dd + 1) 167 [jr 93, ji (b : Int), ji ah, ji c] N = some (none, N1) ∧ ja_x true (dd + 1) 167 [jr 93, ji bh, ji (b : Int), ji c] N1 = some (none, N') ∧ (∀ x y, x < B → y < B → N' (118 + x) y = N (118 + x) y + (if x = b ∧ (1 ≤ t ∧ g y (t - 1) = some p) then c else 0) + (if y = b ∧ (t + 1 < P ∧ g x (t + 1) = some p) then c else 0)) ∧ ∀ d i, ¬ (118 ≤ d ∧ d ≤ 122) → N' d i = N d i := by
  have first : ∃ N1, ja_x true (dd + 1) 167 [jr 93, ji (b : Int), ji ah, ji c] N = some (none, N1) ∧ (∀ x y, x < B → y < B → N1 (118 + x) y = N (118 + x) y + (if x = b ∧ (1 ≤ t ∧ g y (t - 1) = some p) then c else 0)) ∧ ∀ d i, ¬ (118 ≤ d ∧ d ≤ 122) → N1 d i = N d i := by
    rcases ha with ⟨y0, y1, rfl, y3, y4⟩ | ⟨rfl, y2⟩
    · have bd := hbd b y0 hb y1
      refine ⟨_, js_follow dd (by omega) (by omega), fun x y hx hy => ?_, fun d i h => jb_up_ne (fun e => h (by omega))⟩
      rw [ja_w_id (by omega) (by omega)]
      by_cases z : x = b ∧ y = y0
      · rw [z.1, z.2, jb_up_eq, if_pos ⟨rfl, y3, y4⟩]
      · rw [jz_up, if_neg (fun e => z ⟨by omega, e.2⟩), if_neg (fun q => z ⟨q.1, hU y y0 (t - 1) p hy y1 q.2.2 y4⟩), Int.add_zero]
    · refine ⟨N, js_follow_n dd (Or.inr rfl), fun x y hx hy => ?_, fun _ _ _ => rfl⟩
      rw [if_neg (fun q => y2 y hy q.2), Int.add_zero]
  obtain ⟨N1, f1, f2, f3⟩ := first
  clear ha
  rcases hh with ⟨x0, x1, rfl, x3, x4⟩ | ⟨rfl, x2⟩
  · have bd := hbd x0 b x1 hb
    have e1 := f2 x0 b x1 hb
    have xb : x0 ≠ b := fun e => hp (t + 1) (e ▸ x4)
    rw [if_neg (fun q => xb q.1), Int.add_zero] at e1
    refine ⟨N1, _, f1, js_follow dd (by omega) (by omega), fun x y hx hy => ?_, fun d i h => (jb_up_ne (fun e => h (by omega))).trans (f3 d i h)⟩
    rw [e1, ja_w_id (by omega) (by omega)]
    by_cases z : x = x0 ∧ y = b
    · rw [z.1, z.2, jb_up_eq, if_neg (fun q => xb q.1), if_pos ⟨rfl, x3, x4⟩, Int.add_zero]
    · rw [jz_up, if_neg (fun e => z ⟨by omega, e.2⟩), f2 x y hx hy, if_neg (c := y = b ∧ _) (fun q => z ⟨hU x x0 (t + 1) p hx x1 q.2.2 x4, q.1⟩), Int.add_zero]
  · refine ⟨N1, N1, f1, js_follow_n dd (Or.inl rfl), fun x y hx hy => ?_, f3⟩
    rw [f2 x y hx hy, if_neg (c := y = b ∧ _) (fun q => x2 x hx q.2), Int.add_zero]
