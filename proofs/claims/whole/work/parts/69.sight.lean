/-! sight, wrong -/
theorem jv_sum_congr {f g : Nat → Int} : ∀ n, (∀ k, k < n → f k = g k) → jv_sum f n = jv_sum g n
  | 0, _ => rfl
  | n + 1, h => by
    show jv_sum f n + f n = jv_sum g n + g n
    rw [jv_sum_congr n (fun k hk => h k (by omega)), h n (by omega)]
theorem jv_sum_add (f g : Nat → Int) : ∀ n, jv_sum (fun k => f k + g k) n = jv_sum f n + jv_sum g n
  | 0 => rfl
  | n + 1 => by
    show jv_sum (fun k => f k + g k) n + (f n + g n) = jv_sum f n + f n + (jv_sum g n + g n)
    rw [jv_sum_add f g n]
    omega
theorem jv_sum_zero : ∀ n, jv_sum (fun _ => 0) n = 0
  | 0 => rfl
  | n + 1 => by
    show jv_sum (fun _ => 0) n + 0 = 0
    rw [jv_sum_zero n]
    rfl
theorem jv_sum_swap (f : Nat → Nat → Int) (m : Nat) : ∀ n, jv_sum (fun a => jv_sum (fun b => f a b) m) n = jv_sum (fun b => jv_sum (fun a => f a b) n) m
  | 0 => (jv_sum_zero m).symm
  | n + 1 => by
    show jv_sum (fun a => jv_sum (fun b => f a b) m) n + jv_sum (fun b => f n b) m = jv_sum (fun b => jv_sum (fun a => f a b) n + f n b) m
    rw [jv_sum_swap f m n, jv_sum_add]
theorem jv_cnt_sum (p : Nat → Bool) : ∀ n, jv_cnt p n = jv_sum (fun k => if p k = true then 1 else 0) n
  | 0 => rfl
  | n + 1 => by
    show jv_cnt p n + _ = jv_sum _ n + _
    rw [jv_cnt_sum p n]
/-- pairs by their lower, by their higher -/
theorem jv_sum_tri (h : Nat → Nat → Int) : ∀ B, jv_sum (fun a => jv_sum (fun k => h a (a + 1 + k)) (B - 1 - a)) B = jv_sum (fun a => jv_sum (fun b => h b a) a) B
  | 0 => rfl
  | B + 1 => by
    show jv_sum (fun a => jv_sum (fun k => h a (a + 1 + k)) (B + 1 - 1 - a)) B + jv_sum (fun k => h B (B + 1 + k)) (B + 1 - 1 - B) = jv_sum (fun a => jv_sum (fun b => h b a) a) B + jv_sum (fun b => h b B) B
    rw [← jv_sum_tri h B, show B + 1 - 1 - B = 0 by omega, ← jv_sum_add]
    show jv_sum _ B + 0 = _
    rw [Int.add_zero]
    refine jv_sum_congr B (fun a ha => ?_)
    rw [show B + 1 - 1 - a = (B - 1 - a) + 1 by omega]
    show jv_sum (fun k => h a (a + 1 + k)) (B - 1 - a) + h a (a + 1 + (B - 1 - a)) = _
    rw [show a + 1 + (B - 1 - a) = B by omega]
/-- two different places in one line -/
def pv_line (X Y : Nat → Int) (p q : Int) : Bool := !(decide (p = q)) && (decide (X p.toNat = X q.toNat) || decide (Y p.toNat = Y q.toNat))
theorem pv_line_sy (X Y : Nat → Int) (p q : Int) : pv_line X Y p q = pv_line X Y q p := by
  unfold pv_line
  rw [show decide (p = q) = decide (q = p) from decide_eq_decide.mpr ⟨Eq.symm, Eq.symm⟩, show decide (X p.toNat = X q.toNat) = decide (X q.toNat = X p.toNat) from decide_eq_decide.mpr ⟨Eq.symm, Eq.symm⟩, show decide (Y p.toNat = Y q.toNat) = decide (Y q.toNat = Y p.toNat) from decide_eq_decide.mpr ⟨Eq.symm, Eq.symm⟩]
theorem js_x (dd : Nat) {p : Int} {M : ja_M} (hH : jH M) (h : 0 ≤ p ∧ p < M 11 3) : ja_x true (dd + 2) 108 [jr 11, ji p] M = some (some (ji (M 12 p.toNat)), M) := by
  have hb := hH.b
  rw [f_Hunt_x_11, js_hasPlace, jz_bI, jz_b0, if_pos h, if_pos (by omega)]
theorem js_y (dd : Nat) {p : Int} {M : ja_M} (hH : jH M) (h : 0 ≤ p ∧ p < M 11 3) : ja_x true (dd + 2) 109 [jr 11, ji p] M = some (some (ji (M 13 p.toNat)), M) := by
  have hb := hH.b
  rw [f_Hunt_y_11, js_hasPlace, jz_bI, jz_b0, if_pos h, if_pos (by omega)]
theorem js_inOneLine (dd : Nat) {p q : Int} {M : ja_M} (hH : jH M) (hp : 0 ≤ p ∧ p < M 11 3) (hq : 0 ≤ q ∧ q < M 11 3) : ja_x true (dd + 3) 107 [jr 24, ji p, ji q] M = some (some (ji (if pv_line (M 12) (M 13) p q = true then 1 else 0)), M) := by
  rw [f_Table_inOneLine, js_x dd hH hp, jz_bI, js_x dd hH hq, jz_bI, js_y dd hH hp, jz_bI, js_y dd hH hq, jz_bI]
  unfold pv_line
  by_cases a : p = q
  · rw [if_pos a]
    simp [a]
  · rw [if_neg a]
    by_cases b : M 12 p.toNat = M 12 q.toNat
    · rw [if_pos b]
      simp [a, b]
    · rw [if_neg b]
      by_cases c : M 13 p.toNat = M 13 q.toNat
      · rw [if_pos c]
        simp [a, c]
      · rw [if_neg c]
        simp [a, b, c]
/-- how often two see each other -/
def pv_see (P : Nat) (X Y : Nat → Int) (o : Nat → Nat → Int) (a b : Nat) : Int := jv_cnt (fun t => pv_line X Y (o a t) (o b t)) P
theorem js_timesSeen (dd : Nat) {M : ja_M} (hH : jH M) (hO : jO M) : ja_x true (dd + 4) 106 [jr 24] M = some (some (ji (jv_sum (fun a => jv_sum (fun k => pv_see (M 11 3).toNat (M 12) (M 13) (oX M) a (a + 1 + k)) ((M 11 4).toNat - 1 - a)) (M 11 4).toNat)), M) := by
  have hb := hH.b
  obtain ⟨B, hB⟩ : ∃ B : Nat, M 11 4 = (B : Int) := ⟨(M 11 4).toNat, by omega⟩
  obtain ⟨P, hP⟩ : ∃ P : Nat, M 11 3 = (P : Int) := ⟨(M 11 3).toNat, by omega⟩
  have eP : (M 11 3).toNat = P := by omega
  have eB : (M 11 4).toNat = B := by omega
  rw [eP, eB, f_Table_timesSeen]
  have hr : ∀ b t : Nat, b < B → t < P → 0 ≤ oX M b t ∧ oX M b t < M 11 3 := fun b t x y => (hO.1 b t (by omega) (by omega)).2
  have hc : ∀ a b n, n ≤ 6 → 0 ≤ jv_cnt (fun t => pv_line (M 12) (M 13) (oX M a t) (oX M b t)) n ∧ jv_cnt (fun t => pv_line (M 12) (M 13) (oX M a t) (oX M b t)) n ≤ 6 := fun a b n hn => by
    have := jv_cnt_b (fun t => pv_line (M 12) (M 13) (oX M a t) (oX M b t)) n
    omega
  have hs : ∀ a n, n ≤ 6 → 0 ≤ jv_sum (fun k => pv_see P (M 12) (M 13) (oX M) a (a + 1 + k)) n ∧ jv_sum (fun k => pv_see P (M 12) (M 13) (oX M) a (a + 1 + k)) n ≤ 36 := fun a n hn => by
    have := jv_sum_b (f := fun k => pv_see P (M 12) (M 13) (oX M) a (a + 1 + k)) (c := 6) n (fun t _ => hc a (a + 1 + t) P (by omega))
    omega
  have hs2 : ∀ n, n ≤ 6 → 0 ≤ jv_sum (fun a => jv_sum (fun k => pv_see P (M 12) (M 13) (oX M) a (a + 1 + k)) (B - 1 - a)) n ∧ jv_sum (fun a => jv_sum (fun k => pv_see P (M 12) (M 13) (oX M) a (a + 1 + k)) (B - 1 - a)) n ≤ 216 := fun n hn => by
    have := jv_sum_b (f := fun a => jv_sum (fun k => pv_see P (M 12) (M 13) (oX M) a (a + 1 + k)) (B - 1 - a)) (c := 36) n (fun t _ => hs t _ (by omega))
    omega
  have in20 : ∀ (a b : Nat) (acc : Int), a < B → b < B → 0 ≤ acc ∧ acc ≤ 1000 → ja_D true (ja_x true (dd + 3)) k_Table_timesSeen 20 [some (jr 24), some (ji acc), some (ji (a : Int)), some (ji (b : Int)), some (ji 0)] [] M = ja_D true (ja_x true (dd + 3)) k_Table_timesSeen 13 [some (jr 24), some (ji (acc + pv_see P (M 12) (M 13) (oX M) a b)), some (ji (a : Int)), some (ji ((b : Int) + 1)), none] [] M := by
    intro a b acc ha hb2 hacc
    have w := jz_loop (F := fun v k => ja_D true (ja_x true (dd + 3)) k_Table_timesSeen 20 [some (jr 24), some (ji v), some (ji (a : Int)), some (ji (b : Int)), some (ji k)] [] M) (N := fun n => acc + jv_cnt (fun t => pv_line (M 12) (M 13) (oX M a t) (oX M b t)) n) (n := P) P 0 (by omega) (fun k _ hk => by
      show ja_D true (ja_x true (dd + 3)) k_Table_timesSeen 20 _ [] M = _
      have := hc a b k (by omega)
      rw [e_Table_timesSeen_20, js_places, jz_bI, if_pos (by omega), js_pl (dd + 1) hH (by omega) (by omega), jz_bI, js_pl (dd + 1) hH (by omega) (by omega), jz_bI, js_inOneLine dd hH (hr a k ha hk) (hr b k hb2 hk), jz_bI, jz_b0, ja_w_id (by omega) (by omega), ja_w_id (by omega) (by omega)]
      show _ = ja_D true (ja_x true (dd + 3)) k_Table_timesSeen 20 [_, some (ji (acc + (jv_cnt (fun t => pv_line (M 12) (M 13) (oX M a t) (oX M b t)) k + (if pv_line (M 12) (M 13) (oX M a k) (oX M b k) = true then 1 else 0)))), _, _, _] [] M
      by_cases q : pv_line (M 12) (M 13) (oX M a k) (oX M b k) = true
      · rw [if_pos q, if_pos q, Int.add_assoc]
      · rw [if_neg q, if_neg q, Int.add_zero])
    have w : ja_D true (ja_x true (dd + 3)) k_Table_timesSeen 20 [some (jr 24), some (ji (acc + 0)), some (ji (a : Int)), some (ji (b : Int)), some (ji 0)] [] M = ja_D true (ja_x true (dd + 3)) k_Table_timesSeen 20 [some (jr 24), some (ji (acc + pv_see P (M 12) (M 13) (oX M) a b)), some (ji (a : Int)), some (ji (b : Int)), some (ji (P : Int))] [] M := w
    rw [Int.add_zero] at w
    rw [w, e_Table_timesSeen_20, js_places, jz_bI, hP, if_neg (by omega), ja_w_id (by omega) (by omega)]
  have in13 : ∀ (a : Nat) (acc : Int), a < B → 0 ≤ acc ∧ acc ≤ 500 → ja_D true (ja_x true (dd + 3)) k_Table_timesSeen 13 [some (jr 24), some (ji acc), some (ji (a : Int)), some (ji ((a : Int) + 1)), none] [] M = ja_D true (ja_x true (dd + 3)) k_Table_timesSeen 4 [some (jr 24), some (ji (acc + jv_sum (fun k => pv_see P (M 12) (M 13) (oX M) a (a + 1 + k)) (B - 1 - a))), some (ji ((a : Int) + 1)), none, none] [] M := by
    intro a acc ha hacc
    have w := jz_loop (F := fun v k => ja_D true (ja_x true (dd + 3)) k_Table_timesSeen 13 [some (jr 24), some (ji v), some (ji (a : Int)), some (ji ((a : Int) + 1 + k)), none] [] M) (N := fun n => acc + jv_sum (fun k => pv_see P (M 12) (M 13) (oX M) a (a + 1 + k)) n) (n := B - 1 - a) (B - 1 - a) 0 (by omega) (fun k _ hk => by
      show ja_D true (ja_x true (dd + 3)) k_Table_timesSeen 13 _ [] M = _
      have := hs a k (by omega)
      have h2 := in20 a (a + 1 + k) (acc + jv_sum (fun k => pv_see P (M 12) (M 13) (oX M) a (a + 1 + k)) k) ha (by omega) (by omega)
      rw [show ((a + 1 + k : Nat) : Int) = (a : Int) + 1 + (k : Int) by omega] at h2
      rw [e_Table_timesSeen_13, js_bands, jz_bI, if_pos (by omega), h2]
      show _ = ja_D true (ja_x true (dd + 3)) k_Table_timesSeen 13 [_, some (ji (acc + (jv_sum (fun k => pv_see P (M 12) (M 13) (oX M) a (a + 1 + k)) k + pv_see P (M 12) (M 13) (oX M) a (a + 1 + k)))), _, some (ji ((a : Int) + 1 + ((k : Int) + 1))), _] [] M
      rw [Int.add_assoc acc, Int.add_assoc ((a : Int) + 1)])
    have w : ja_D true (ja_x true (dd + 3)) k_Table_timesSeen 13 [some (jr 24), some (ji (acc + 0)), some (ji (a : Int)), some (ji ((a : Int) + 1 + 0)), none] [] M = ja_D true (ja_x true (dd + 3)) k_Table_timesSeen 13 [some (jr 24), some (ji (acc + jv_sum (fun k => pv_see P (M 12) (M 13) (oX M) a (a + 1 + k)) (B - 1 - a))), some (ji (a : Int)), some (ji ((a : Int) + 1 + ((B - 1 - a : Nat) : Int))), none] [] M := w
    rw [Int.add_zero, Int.add_zero] at w
    rw [w, e_Table_timesSeen_13, js_bands, jz_bI, if_neg (by omega), ja_w_id (by omega) (by omega)]
  have w := jz_loop (F := fun v k => ja_D true (ja_x true (dd + 3)) k_Table_timesSeen 4 [some (jr 24), some (ji v), some (ji k), none, none] [] M) (N := fun n => jv_sum (fun a => jv_sum (fun k => pv_see P (M 12) (M 13) (oX M) a (a + 1 + k)) (B - 1 - a)) n) (n := B) B 0 (by omega) (fun k _ hk => by
    show ja_D true (ja_x true (dd + 3)) k_Table_timesSeen 4 _ [] M = _
    have := hs2 k (by omega)
    rw [e_Table_timesSeen_4, js_bands, jz_bI, if_pos (by omega), ja_w_id (by omega) (by omega), in13 k _ hk (by omega)]
    rfl)
  have w : ja_D true (ja_x true (dd + 3)) k_Table_timesSeen 4 [some (jr 24), some (ji 0), some (ji 0), none, none] [] M = ja_D true (ja_x true (dd + 3)) k_Table_timesSeen 4 [some (jr 24), some (ji (jv_sum (fun a => jv_sum (fun k => pv_see P (M 12) (M 13) (oX M) a (a + 1 + k)) (B - 1 - a)) B)), some (ji (B : Int)), none, none] [] M := w
  rw [w, e_Table_timesSeen_4, js_bands, jz_bI, hB, if_neg (by omega)]
theorem js_R_sight (dd : Nat) {M : ja_M} (hH : jH M) (hO : jO M) (h0 : M 11 4 ≠ 0) : ja_x true (dd + 2) 263 [jr 137] M = some (some (ji (jv_sum (fun t => jv_sum (fun a => jv_cnt (fun b => pv_line (M 12) (M 13) (oX M a t) (oX M b t)) a) (M 11 4).toNat) (M 11 3).toNat)), M) := by
  have hb := hH.b
  obtain ⟨B, hB⟩ : ∃ B : Nat, M 11 4 = (B : Int) := ⟨(M 11 4).toNat, by omega⟩
  obtain ⟨P, hP⟩ : ∃ P : Nat, M 11 3 = (P : Int) := ⟨(M 11 3).toNat, by omega⟩
  have eP : (M 11 3).toNat = P := by omega
  have eB : (M 11 4).toNat = B := by omega
  rw [eP, eB, f_R_sight, hH.2.1.2.1, if_neg h0]
  have hr : ∀ b t : Nat, b < B → t < P → 0 ≤ oX M b t ∧ oX M b t < M 11 3 := fun b t x y => (hO.1 b t (by omega) (by omega)).2
  have heq : ∀ b t : Nat, b < B → t < P → oR M b t = oX M b t := fun b t x y => hO.eq (by omega) (by omega)
  have hxy : ∀ p : Int, 0 ≤ p ∧ p < M 11 3 → M 151 p.toNat = M 12 p.toNat ∧ M 152 p.toNat = M 13 p.toNat := fun p q => (hH.2.2.1 p.toNat (by omega)).1
  have hc : ∀ t a n, n ≤ 6 → 0 ≤ jv_cnt (fun b => pv_line (M 12) (M 13) (oX M a t) (oX M b t)) n ∧ jv_cnt (fun b => pv_line (M 12) (M 13) (oX M a t) (oX M b t)) n ≤ 6 := fun t a n hn => by
    have := jv_cnt_b (fun b => pv_line (M 12) (M 13) (oX M a t) (oX M b t)) n
    omega
  have hs : ∀ t n, n ≤ 6 → 0 ≤ jv_sum (fun a => jv_cnt (fun b => pv_line (M 12) (M 13) (oX M a t) (oX M b t)) a) n ∧ jv_sum (fun a => jv_cnt (fun b => pv_line (M 12) (M 13) (oX M a t) (oX M b t)) a) n ≤ 36 := fun t n hn => by
    have := jv_sum_b (f := fun a => jv_cnt (fun b => pv_line (M 12) (M 13) (oX M a t) (oX M b t)) a) (c := 6) n (fun a ha => hc t a a (by omega))
    omega
  have hs2 : ∀ n, n ≤ 6 → 0 ≤ jv_sum (fun t => jv_sum (fun a => jv_cnt (fun b => pv_line (M 12) (M 13) (oX M a t) (oX M b t)) a) B) n ∧ jv_sum (fun t => jv_sum (fun a => jv_cnt (fun b => pv_line (M 12) (M 13) (oX M a t) (oX M b t)) a) B) n ≤ 216 := fun n hn => by
    have := jv_sum_b (f := fun t => jv_sum (fun a => jv_cnt (fun b => pv_line (M 12) (M 13) (oX M a t) (oX M b t)) a) B) (c := 36) n (fun t _ => hs t B (by omega))
    omega
  have in21 : ∀ (t a : Nat) (acc : Int), t < P → a < B → 0 ≤ acc ∧ acc ≤ 1000 → ja_D true (ja_x true (dd + 1)) k_R_sight 21 [some (jr 137), some (ji acc), some (ji (t : Int)), some (ji (a : Int)), some (ji 0), none, none] [] M = ja_D true (ja_x true (dd + 1)) k_R_sight 15 [some (jr 137), some (ji (acc + jv_cnt (fun b => pv_line (M 12) (M 13) (oX M a t) (oX M b t)) a)), some (ji (t : Int)), some (ji ((a : Int) + 1)), none, none, none] [] M := by
    intro t a acc ht ha hacc
    have w := jz_loop (F := fun v k => ja_D true (ja_x true (dd + 1)) k_R_sight 21 [some (jr 137), some (ji v), some (ji (t : Int)), some (ji (a : Int)), some (ji k), none, none] [] M) (N := fun n => acc + jv_cnt (fun b => pv_line (M 12) (M 13) (oX M a t) (oX M b t)) n) (n := a) a 0 (by omega) (fun k _ hk => by
      show ja_D true (ja_x true (dd + 1)) k_R_sight 21 _ [] M = _
      have := hc t a k (by omega)
      have r1 := hr a t ha ht
      have r2 := hr k t (by omega) ht
      rw [e_R_sight_21, if_pos (by omega), js_of dd hH (by omega) (by omega), jz_bI, js_of dd hH (by omega) (by omega), jz_bI, heq a t ha ht, heq k t (by omega) ht, (hxy _ r1).1, (hxy _ r2).1, (hxy _ r1).2, (hxy _ r2).2, if_pos (show 0 ≤ oX M a t ∧ oX M a t < 6 by omega), if_pos (show 0 ≤ oX M k t ∧ oX M k t < 6 by omega), if_pos (show 0 ≤ oX M a t ∧ oX M a t < 6 by omega), if_pos (show 0 ≤ oX M k t ∧ oX M k t < 6 by omega), ja_w_id (x := (k : Int) + 1) (by omega) (by omega), ja_w_id (by omega) (by omega), ja_w_id (by omega) (by omega), Int.add_zero]
      show _ = ja_D true (ja_x true (dd + 1)) k_R_sight 21 [_, some (ji (acc + (jv_cnt (fun b => pv_line (M 12) (M 13) (oX M a t) (oX M b t)) k + (if pv_line (M 12) (M 13) (oX M a t) (oX M k t) = true then 1 else 0)))), _, _, _, _, _] [] M
      have el : ∀ x : Bool, pv_line (M 12) (M 13) (oX M a t) (oX M k t) = x ↔ (!(decide (oX M a t = oX M k t)) && (decide (M 12 (oX M a t).toNat = M 12 (oX M k t).toNat) || decide (M 13 (oX M a t).toNat = M 13 (oX M k t).toNat))) = x := fun x => Iff.rfl
      by_cases q1 : oX M a t = oX M k t
      · rw [if_pos q1, (el false).mpr (by simp [q1]), if_neg (by decide), Int.add_zero]
      · rw [if_neg q1]
        by_cases q2 : M 12 (oX M a t).toNat = M 12 (oX M k t).toNat
        · rw [if_pos q2, (el true).mpr (by simp [q1, q2]), if_pos rfl, ← Int.add_assoc]
        · rw [if_neg q2]
          by_cases q3 : M 13 (oX M a t).toNat = M 13 (oX M k t).toNat
          · rw [if_pos q3, (el true).mpr (by simp [q1, q3]), if_pos rfl, ← Int.add_assoc]
          · rw [if_neg q3, (el false).mpr (by simp [q1, q2, q3]), if_neg (by decide), Int.add_zero])
    have w : ja_D true (ja_x true (dd + 1)) k_R_sight 21 [some (jr 137), some (ji (acc + 0)), some (ji (t : Int)), some (ji (a : Int)), some (ji 0), none, none] [] M = ja_D true (ja_x true (dd + 1)) k_R_sight 21 [some (jr 137), some (ji (acc + jv_cnt (fun b => pv_line (M 12) (M 13) (oX M a t) (oX M b t)) a)), some (ji (t : Int)), some (ji (a : Int)), some (ji (a : Int)), none, none] [] M := w
    rw [Int.add_zero] at w
    rw [w, e_R_sight_21, if_neg (by omega), ja_w_id (by omega) (by omega)]
  have in15 : ∀ (t : Nat) (acc : Int), t < P → 0 ≤ acc ∧ acc ≤ 500 → ja_D true (ja_x true (dd + 1)) k_R_sight 15 [some (jr 137), some (ji acc), some (ji (t : Int)), some (ji 0), none, none, none] [] M = ja_D true (ja_x true (dd + 1)) k_R_sight 9 [some (jr 137), some (ji (acc + jv_sum (fun a => jv_cnt (fun b => pv_line (M 12) (M 13) (oX M a t) (oX M b t)) a) B)), some (ji ((t : Int) + 1)), none, none, none, none] [] M := by
    intro t acc ht hacc
    have w := jz_loop (F := fun v k => ja_D true (ja_x true (dd + 1)) k_R_sight 15 [some (jr 137), some (ji v), some (ji (t : Int)), some (ji k), none, none, none] [] M) (N := fun n => acc + jv_sum (fun a => jv_cnt (fun b => pv_line (M 12) (M 13) (oX M a t) (oX M b t)) a) n) (n := B) B 0 (by omega) (fun k _ hk => by
      show ja_D true (ja_x true (dd + 1)) k_R_sight 15 _ [] M = _
      have := hs t k (by omega)
      rw [e_R_sight_15, hH.2.1.2.1, if_pos (by omega), in21 t k _ ht hk (by omega), Int.add_assoc]
      rfl)
    have w : ja_D true (ja_x true (dd + 1)) k_R_sight 15 [some (jr 137), some (ji (acc + 0)), some (ji (t : Int)), some (ji 0), none, none, none] [] M = ja_D true (ja_x true (dd + 1)) k_R_sight 15 [some (jr 137), some (ji (acc + jv_sum (fun a => jv_cnt (fun b => pv_line (M 12) (M 13) (oX M a t) (oX M b t)) a) B)), some (ji (t : Int)), some (ji (B : Int)), none, none, none] [] M := w
    rw [Int.add_zero] at w
    rw [w, e_R_sight_15, hH.2.1.2.1, hB, if_neg (by omega), ja_w_id (by omega) (by omega)]
  have w := jz_loop (F := fun v k => ja_D true (ja_x true (dd + 1)) k_R_sight 9 [some (jr 137), some (ji v), some (ji k), none, none, none, none] [] M) (N := fun n => jv_sum (fun t => jv_sum (fun a => jv_cnt (fun b => pv_line (M 12) (M 13) (oX M a t) (oX M b t)) a) B) n) (n := P) P 0 (by omega) (fun k _ hk => by
    show ja_D true (ja_x true (dd + 1)) k_R_sight 9 _ [] M = _
    have := hs2 k (by omega)
    rw [e_R_sight_9, hH.2.1.1, if_pos (by omega), in15 k _ hk (by omega)]
    rfl)
  have w : ja_D true (ja_x true (dd + 1)) k_R_sight 9 [some (jr 137), some (ji 0), some (ji 0), none, none, none, none] [] M = ja_D true (ja_x true (dd + 1)) k_R_sight 9 [some (jr 137), some (ji (jv_sum (fun t => jv_sum (fun a => jv_cnt (fun b => pv_line (M 12) (M 13) (oX M a t) (oX M b t)) a) B) P)), some (ji (P : Int)), none, none, none, none] [] M := w
  rw [w, e_R_sight_9, hH.2.1.1, hP, if_neg (by omega)]
theorem jy_p17 : jy_o17 := by
  refine jOp.pure (fun M hJ => ?_)
  obtain ⟨⟨hT, hH, hO⟩, -⟩ := hJ
  have hb := hH.b
  have hX := f_X_sight 1999 M
  rw [js_isTold 1998, jz_bI, jz_b0] at hX
  by_cases h0 : 0 < M 11 3
  · rw [if_pos h0, js_timesSeen 1995 hH hO, jz_bI, jv_sum_tri] at hX
    have hR := js_R_sight 1998 hH hO (by omega)
    rw [jv_sum_swap] at hR
    refine ⟨_, hX, hR.trans ?_⟩
    congr 4
    refine jv_sum_congr _ (fun a _ => ?_)
    have e : ∀ t, jv_cnt (fun b => pv_line (M 12) (M 13) (oX M a t) (oX M b t)) a = jv_sum (fun b => if pv_line (M 12) (M 13) (oX M b t) (oX M a t) = true then 1 else 0) a := fun t => by
      rw [jv_cnt_sum]
      exact jv_sum_congr a (fun b _ => by rw [pv_line_sy])
    rw [jv_sum_congr _ (fun t _ => e t), jv_sum_swap]
    exact jv_sum_congr a (fun b _ => (jv_cnt_sum _ _).symm)
  · rw [if_neg h0] at hX
    have hR := f_R_sight 1999 M
    rw [hH.2.1.2.1, if_pos (by omega)] at hR
    exact ⟨_, hX, hR⟩
/-! wrong -/
theorem jv_set_less {f : Nat → Bool} {n a : Nat} (h : n ≤ 32) : jv_set f n &&& (2 ^ a ^^^ 4294967295) = jv_set (fun b => f b && !(b == a)) n := jv_set_eq (fun i => by
  rw [Nat.testBit_and, jv_set_bit, Nat.testBit_xor, Nat.testBit_two_pow, jx_ones]
  by_cases q : i < n
  · by_cases r : i = a
    · subst r
      simp [q, show i < 32 by omega]
    · have r2 : ¬ a = i := fun e => r e.symm
      simp [q, r, r2, show i < 32 by omega]
  · simp [q])
/-- the orders, if the band a goes to c in the turn t -/
def pv_gone (o : Nat → Nat → Int) (a t : Nat) (c : Int) : Nat → Nat → Int := fun b u => if b = a ∧ u = t then c else o b u
theorem js_followsGoneWrong (dd : Nat) {a t : Nat} {c : Int} {M : ja_M} (hH : jH M) (ha : (a : Int) < M 11 4) (ht : (t : Int) < M 11 3) : ja_x true (dd + 4) 172 [jr 24, ji (a : Int), ji (t : Int), ji c] M = some (some (ji (jv_sum (fun u => jv_cnt (fun b => decide (oX M b u = pv_gone (oX M) a t c a (u + 1)) && !(b == a)) (M 11 4).toNat) ((M 11 3).toNat - 1))), M) := by
  have hb := hH.b
  obtain ⟨P, hP⟩ : ∃ P : Nat, M 11 3 = ((P + 1 : Nat) : Int) := ⟨(M 11 3).toNat - 1, by omega⟩
  have eP : (M 11 3).toNat - 1 = P := by omega
  rw [eP, f_Table_followsGoneWrong]
  have hc : ∀ u, 0 ≤ jv_cnt (fun b => decide (oX M b u = pv_gone (oX M) a t c a (u + 1)) && !(b == a)) (M 11 4).toNat ∧ jv_cnt (fun b => decide (oX M b u = pv_gone (oX M) a t c a (u + 1)) && !(b == a)) (M 11 4).toNat ≤ 6 := fun u => by
    have := jv_cnt_b (fun b => decide (oX M b u = pv_gone (oX M) a t c a (u + 1)) && !(b == a)) (M 11 4).toNat
    omega
  have w := jz_loop (F := fun v k => ja_D true (ja_x true (dd + 3)) k_Table_followsGoneWrong 4 [some (jr 24), some (ji (a : Int)), some (ji (t : Int)), some (ji c), some (ji v), some (ji (k + 1)), none, none] [] M) (N := fun n => jv_sum (fun u => jv_cnt (fun b => decide (oX M b u = pv_gone (oX M) a t c a (u + 1)) && !(b == a)) (M 11 4).toNat) n) (n := P) P 0 (by omega) (fun k _ hk => by
    show ja_D true (ja_x true (dd + 3)) k_Table_followsGoneWrong 4 _ [] M = _
    have h1 := jv_sum_b (c := 6) k (fun u _ => hc u)
    have h2 := hc k
    have e1 := js_pl (dd + 1) hH ha (t := k + 1) (by omega)
    rw [show ((k + 1 : Nat) : Int) = (k : Int) + 1 by omega] at e1
    have key : ∀ p : Int, p = pv_gone (oX M) a t c a (k + 1) → ja_bI (ja_x true (dd + 3) 95 [jr 24, ji (k : Int), ji p] M) (fun x4 M3 => ja_bI (ja_x true (dd + 3) 96 [ji (ja_and x4 (ja_xor (ja_shl 1 (a : Int)) (-1)))] M3) (fun x6 M5 => ja_D true (ja_x true (dd + 3)) k_Table_followsGoneWrong 4 [some (jr 24), some (ji (a : Int)), some (ji (t : Int)), some (ji c), some (ji (ja_w (jv_sum (fun u => jv_cnt (fun b => decide (oX M b u = pv_gone (oX M) a t c a (u + 1)) && !(b == a)) (M 11 4).toNat) k + x6))), some (ji ((k : Int) + 1 + 1)), none, none] [] M5)) = ja_D true (ja_x true (dd + 3)) k_Table_followsGoneWrong 4 [some (jr 24), some (ji (a : Int)), some (ji (t : Int)), some (ji c), some (ji (jv_sum (fun u => jv_cnt (fun b => decide (oX M b u = pv_gone (oX M) a t c a (u + 1)) && !(b == a)) (M 11 4).toNat) (k + 1))), some (ji ((k : Int) + 1 + 1)), none, none] [] M := by
      intro p hp
      have h64 := jv_set_64 (fun b => decide (oX M b k = p)) (n := (M 11 4).toNat) (by omega)
      have h64' := jv_set_64 (fun b => decide (oX M b k = p) && !(b == a)) (n := (M 11 4).toNat) (by omega)
      rw [js_bandsAt dd hH (by omega), jz_bI, jx_shl1 (by omega)]
      unfold pv_at
      rw [jx_less (by omega) (jx_p2 (by omega)), jv_set_less (by omega), js_bitCount (dd + 2) (by omega), jz_bI, jv_pop_set _ (by omega)]
      subst hp
      rw [ja_w_id (by omega) (by omega)]
      rfl
    rw [e_Table_followsGoneWrong_4, js_places, jz_bI, if_pos (by omega), ja_w_id (x := (k : Int) + 1 - 1) (by omega) (by omega), show (k : Int) + 1 - 1 = (k : Int) by omega, ja_w_id (x := (k : Int) + 1 + 1) (by omega) (by omega), e1, jz_bI]
    by_cases q : (k : Int) + 1 = (t : Int)
    · rw [if_pos q]
      exact key c (by unfold pv_gone; rw [if_pos ⟨rfl, by omega⟩])
    · rw [if_neg q]
      exact key _ (by unfold pv_gone; rw [if_neg (fun z => q (by omega))]))
  have w : ja_D true (ja_x true (dd + 3)) k_Table_followsGoneWrong 4 [some (jr 24), some (ji (a : Int)), some (ji (t : Int)), some (ji c), some (ji 0), some (ji 1), none, none] [] M = ja_D true (ja_x true (dd + 3)) k_Table_followsGoneWrong 4 [some (jr 24), some (ji (a : Int)), some (ji (t : Int)), some (ji c), some (ji (jv_sum (fun u => jv_cnt (fun b => decide (oX M b u = pv_gone (oX M) a t c a (u + 1)) && !(b == a)) (M 11 4).toNat) P)), some (ji ((P : Int) + 1)), none, none] [] M := w
  rw [w, e_Table_followsGoneWrong_4, js_places, jz_bI, if_neg (by omega)]
theorem jy_p28 : jy_o28 := by
  intro a b c d ra rb rc rd
  refine jOp.pure (fun M hJ => ?_)
  obtain ⟨⟨hT, hH, hO⟩, -⟩ := hJ
  have hb := hH.b
  have hX := f_X_wrong 1999 a b c d M
  have hR := f_R_wrong 1999 a b c d M
  rw [js_hasBand 1998, jz_bI, jz_b0] at hX
  rw [js_isBand 1997 a hH, jz_bI, jz_b0] at hR
  by_cases h1 : 0 ≤ a ∧ a < M 11 4
  · rw [if_pos h1, js_hasPlace 1998, jz_bI, jz_b0] at hX
    rw [if_pos h1, hH.2.1.1, ja_w_id (x := M 11 3 - 1) (by omega) (by omega), js_in 1998, jz_bI, jz_b0] at hR
    by_cases h2 : 0 ≤ b ∧ b < M 11 3
    · rw [if_pos h2, js_hasPlace 1998, jz_bI, jz_b0] at hX
      rw [if_pos (show 0 ≤ b ∧ b ≤ M 11 3 - 1 by omega), js_isPlace 1997 c hH, jz_bI, jz_b0] at hR
      by_cases h3 : 0 ≤ c ∧ c < M 11 3
      · rw [if_pos h3] at hX hR
        rw [js_in 1998, jz_bI, jz_b0] at hR
        by_cases h4 : 0 ≤ d ∧ d ≤ 1
        · obtain ⟨x, rfl⟩ := Int.eq_ofNat_of_zero_le h1.1
          obtain ⟨t, rfl⟩ := Int.eq_ofNat_of_zero_le h2.1
          have e1 := hO.eq (b := x) (t := t) (by omega) (by omega)
          rw [if_neg (by omega), if_neg (by omega), js_pl 1997 hH h1.2 h2.2, jz_bI] at hX
          rw [if_pos h4, js_of 1998 hH h1.2 h2.2, jz_bI, js_of 1998 hH h1.2 h2.2, jz_bI, e1] at hR
          by_cases h5 : oX M x t = c
          · rw [if_pos h5] at hX hR
            exact ⟨_, hX, hR⟩
          · rw [if_neg h5] at hX hR
            rw [js_bandsAt 1996 hH h2.2, jz_bI, js_followsGoneWrong 1995 hH h1.2 h2.2, jz_bI] at hX
            rw [ja_w_id (x := 6 * (x : Int)) (by omega) (by omega), ja_w_id (x := 6 * (x : Int) + (t : Int)) (by omega) (by omega), if_pos (by omega), show (6 * (x : Int) + (t : Int)).toNat = 6 * x + t by omega] at hR
            have K : jKs kH M (ja_up M 154 (6 * x + t) c) := (jKs.rf M).up rfl
            have hHN : jH (ja_up M 154 (6 * x + t) c) := hH.kp K
            have oN : ∀ b u : Nat, b < (M 11 4).toNat → u < (M 11 3).toNat → oR (ja_up M 154 (6 * x + t) c) b u = pv_gone (oX M) x t c b u := fun b u hb4 hu => by
              show ja_up M 154 (6 * x + t) c 154 (6 * b + u) = _
              unfold pv_gone
              by_cases q : b = x ∧ u = t
              · rw [if_pos q, q.1, q.2, jb_up_eq]
              · rw [if_neg q, jb_up_nej (fun e => q (by omega))]
                exact hO.eq hb4 hu
            have back : ja_up (ja_up M 154 (6 * x + t) c) 154 (6 * x + t) (oX M x t) = M := by
              funext e i
              rw [jz_up]
              by_cases q : e = 154 ∧ i = 6 * x + t
              · rw [if_pos q, q.1, q.2]
                exact e1.symm
              · rw [if_neg q, jz_up, if_neg q]
            obtain ⟨B, hB⟩ : ∃ B : Nat, M 11 4 = (B : Int) := ⟨(M 11 4).toNat, by omega⟩
            have eB : (M 11 4).toNat = B := by omega
            have h64 := jv_set_64 (fun b => decide (oR (ja_up M 154 (6 * x + t) c) b t = c)) (n := (M 11 4).toNat) (by omega)
            rw [js_R_bandsAt 1997 hHN (by rw [K 11 3 rfl]; exact h2.2), jz_bI, K 11 4 rfl, jx_shl1 (by omega)] at hR
            unfold pv_at at hR hX
            rw [jx_less (by omega) (jx_p2 (by omega)), jv_set_less (by omega)] at hR
            have meets : jv_set (fun b => decide (oR (ja_up M 154 (6 * x + t) c) b t = c) && !(b == x)) (M 11 4).toNat = jv_set (fun b => decide (oX M b t = c)) (M 11 4).toNat := jv_set_congr _ (fun b hb4 => by
              rw [oN b t hb4 (by omega)]
              unfold pv_gone
              by_cases q : b = x
              · subst q
                simp [h5]
              · simp [q])
            rw [meets] at hR
            have hc : ∀ b, 0 ≤ pv_fol (M 11 3).toNat (oR (ja_up M 154 (6 * x + t) c)) x b ∧ pv_fol (M 11 3).toNat (oR (ja_up M 154 (6 * x + t) c)) x b ≤ 6 := fun b => by
              have := jv_cnt_b (fun u => decide (oR (ja_up M 154 (6 * x + t) c) x (u + 1) = oR (ja_up M 154 (6 * x + t) c) b u)) ((M 11 3).toNat - 1)
              unfold pv_fol
              omega
            have w := jz_loop (F := fun v k => ja_D true (ja_x true 1999) k_R_wrong 58 [some (jr 137), some (ji (x : Int)), some (ji (t : Int)), none, some (ji d), some (ji (oX M x t)), some (ji ((jv_set (fun b => decide (oX M b t = c)) (M 11 4).toNat : Nat) : Int)), some (ji v), some (ji k)] [] (ja_up M 154 (6 * x + t) c)) (N := fun n => jv_sum (fun b => if b = x then 0 else pv_fol (M 11 3).toNat (oR (ja_up M 154 (6 * x + t) c)) x b) n) (n := B) B 0 (by omega) (fun k _ hk => by
              show ja_D true (ja_x true 1999) k_R_wrong 58 _ [] _ = _
              have h1' := jv_sum_b (f := fun b => if b = x then 0 else pv_fol (M 11 3).toNat (oR (ja_up M 154 (6 * x + t) c)) x b) (c := 6) k (fun u _ => by
                have := hc u
                split <;> omega)
              have h2' := hc k
              have hf := js_R_fol 1997 (a := x) (b := k) hHN (by rw [K 11 4 rfl]; omega) (by rw [K 11 4 rfl]; omega)
              rw [K 11 3 rfl] at hf
              rw [e_R_wrong_58, K 137 28 rfl, hH.2.1.2.1, if_pos (by omega), hf, jz_bI, ja_w_id (x := (k : Int) + 1) (by omega) (by omega), ja_w_id (by omega) (by omega), ja_w_id (by omega) (by omega), Int.add_zero]
              show _ = ja_D true (ja_x true 1999) k_R_wrong 58 [_, _, _, _, _, _, _, some (ji (jv_sum (fun b => if b = x then 0 else pv_fol (M 11 3).toNat (oR (ja_up M 154 (6 * x + t) c)) x b) k + (if k = x then 0 else pv_fol (M 11 3).toNat (oR (ja_up M 154 (6 * x + t) c)) x k))), _] [] _
              by_cases q : (k : Int) = (x : Int)
              · rw [if_pos q, if_pos (by omega), Int.add_zero]
              · rw [if_neg q, if_neg (by omega)])
            have w : ja_D true (ja_x true 1999) k_R_wrong 58 [some (jr 137), some (ji (x : Int)), some (ji (t : Int)), none, some (ji d), some (ji (oX M x t)), some (ji ((jv_set (fun b => decide (oX M b t = c)) (M 11 4).toNat : Nat) : Int)), some (ji 0), some (ji 0)] [] (ja_up M 154 (6 * x + t) c) = ja_D true (ja_x true 1999) k_R_wrong 58 [some (jr 137), some (ji (x : Int)), some (ji (t : Int)), none, some (ji d), some (ji (oX M x t)), some (ji ((jv_set (fun b => decide (oX M b t = c)) (M 11 4).toNat : Nat) : Int)), some (ji (jv_sum (fun b => if b = x then 0 else pv_fol (M 11 3).toNat (oR (ja_up M 154 (6 * x + t) c)) x b) B)), some (ji (B : Int))] [] (ja_up M 154 (6 * x + t) c) := w
            rw [w, e_R_wrong_58, K 137 28 rfl, hH.2.1.2.1, hB, if_neg (by omega), ja_w_id (x := 6 * (x : Int)) (by omega) (by omega), ja_w_id (x := 6 * (x : Int) + (t : Int)) (by omega) (by omega), if_pos (by omega), show (6 * (x : Int) + (t : Int)).toNat = 6 * x + t by omega, back] at hR
            have sums : jv_sum (fun b => if b = x then 0 else pv_fol (M 11 3).toNat (oR (ja_up M 154 (6 * x + t) c)) x b) B = jv_sum (fun u => jv_cnt (fun b => decide (oX M b u = pv_gone (oX M) x t c x (u + 1)) && !(b == x)) (M 11 4).toNat) ((M 11 3).toNat - 1) := by
              rw [eB]
              have r1 : jv_sum (fun b => if b = x then 0 else pv_fol (M 11 3).toNat (oR (ja_up M 154 (6 * x + t) c)) x b) B = jv_sum (fun b => jv_sum (fun u => if (decide (oX M b u = pv_gone (oX M) x t c x (u + 1)) && !(b == x)) = true then 1 else 0) ((M 11 3).toNat - 1)) B := jv_sum_congr B (fun b hb4 => by
                by_cases q : b = x
                · rw [if_pos q]
                  symm
                  exact (jv_sum_congr (g := fun _ => 0) _ (fun u _ => by simp [q])).trans (jv_sum_zero _)
                · rw [if_neg q]
                  unfold pv_fol
                  rw [jv_cnt_sum]
                  refine jv_sum_congr _ (fun u hu => ?_)
                  rw [oN x (u + 1) (by omega) (by omega), oN b u (by omega) (by omega)]
                  have e2 : pv_gone (oX M) x t c b u = oX M b u := by
                    unfold pv_gone
                    rw [if_neg (fun z => q z.1)]
                  rw [e2]
                  by_cases z : oX M b u = pv_gone (oX M) x t c x (u + 1)
                  · simp [z, q]
                  · have z2 : ¬ pv_gone (oX M) x t c x (u + 1) = oX M b u := fun e => z e.symm
                    simp [z, z2])
              rw [r1, jv_sum_swap]
              exact jv_sum_congr _ (fun u _ => (jv_cnt_sum _ _).symm)
            rw [sums] at hR
            by_cases d0 : d = 0
            · rw [if_pos d0] at hX hR
              exact ⟨_, hX, by rw [← hB] at hR; exact hR⟩
            · rw [if_neg d0] at hX hR
              exact ⟨_, hX, hR⟩
        · rw [if_neg h4] at hR
          refine ⟨-1, hX.trans ?_, hR⟩
          by_cases q : d < 0
          · rw [if_pos q]
          · rw [if_neg q, if_pos (by omega)]
      · rw [if_neg h3] at hX hR
        exact ⟨_, hX, hR⟩
    · rw [if_neg h2] at hX
      rw [if_neg (show ¬ (0 ≤ b ∧ b ≤ M 11 3 - 1) by omega)] at hR
      exact ⟨_, hX, hR⟩
  · rw [if_neg h1] at hX hR
    exact ⟨_, hX, hR⟩
