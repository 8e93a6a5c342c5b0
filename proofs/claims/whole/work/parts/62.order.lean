/-! order, undo -/
/-- x is the digits of k different places below P, none of them in s -/
def jv_Q (P : Int) (k : Nat) (x : Int) (s : Nat) : Prop := ∃ f : Nat → Int, (∀ t, t < k → (0 ≤ f t ∧ f t < P) ∧ s.testBit (f t).toNat = false) ∧ (∀ t u, t < k → u < k → f t = f u → t = u) ∧ x = jv_digs f k
theorem jv_Q0 {P x : Int} {s : Nat} : jv_Q P 0 x s ↔ x = 0 := ⟨fun ⟨_, _, _, h⟩ => h, fun h => ⟨fun _ => 0, fun t ht => by omega, fun t u ht => by omega, h⟩⟩
theorem jv_Qs {P x : Int} {k s : Nat} (hP : P ≤ 10) : jv_Q P (k + 1) x s ↔ ((0 ≤ x.tmod 10 ∧ x.tmod 10 < P) ∧ s.testBit (x.tmod 10).toNat = false) ∧ jv_Q P k (x.tdiv 10) (s ||| 2 ^ (x.tmod 10).toNat) := by
  constructor
  · rintro ⟨f, h1, h2, h3⟩
    have g1 := jv_digs_b (f := f) k (fun t ht => by have := (h1 t (by omega)).1; omega)
    have g2 := (h1 k (by omega)).1
    have es : jv_digs f (k + 1) = jv_digs f k * 10 + f k := rfl
    have em : x.tmod 10 = f k := by rw [h3, jz_tmod (by omega)]; omega
    have ed : x.tdiv 10 = jv_digs f k := by rw [h3, Int.tdiv_eq_ediv_of_nonneg (by omega)]; omega
    rw [em, ed]
    refine ⟨h1 k (by omega), f, fun t ht => ⟨(h1 t (by omega)).1, ?_⟩, fun t u ht hu e => h2 t u (by omega) (by omega) e, rfl⟩
    rw [Nat.testBit_or, (h1 t (by omega)).2, Nat.testBit_two_pow, Bool.false_or, decide_eq_false_iff_not]
    intro e
    have a := (h1 t (by omega)).1
    have := h2 t k (by omega) (by omega) (by omega)
    omega
  · rintro ⟨⟨h0, hs⟩, f, h1, h2, h3⟩
    refine ⟨fun t => if t = k then x.tmod 10 else f t, fun t ht => ?_, fun t u ht hu e => ?_, ?_⟩
    · dsimp only
      by_cases q : t = k
      · rw [if_pos q]
        exact ⟨h0, hs⟩
      · rw [if_neg q]
        have := h1 t (by omega)
        rw [Nat.testBit_or, Bool.or_eq_false_iff] at this
        exact ⟨this.1, this.2.1⟩
    · dsimp only at e
      have key : ∀ t, t < k → f t ≠ x.tmod 10 := fun t ht e => by
        have := (h1 t ht).2
        rw [e, Nat.testBit_or, Nat.testBit_two_pow, Bool.or_eq_false_iff] at this
        simp at this
      by_cases q : t = k
      · by_cases r : u = k
        · omega
        · rw [if_pos q, if_neg r] at e
          exact absurd e.symm (key u (by omega))
      · by_cases r : u = k
        · rw [if_neg q, if_pos r] at e
          exact absurd e (key t (by omega))
        · rw [if_neg q, if_neg r] at e
          exact h2 t u (by omega) (by omega) e
    · show x = jv_digs (fun t => if t = k then x.tmod 10 else f t) k * 10 + (if k = k then x.tmod 10 else f k)
      rw [if_pos rfl, jv_digs_congr k (g := f) (fun t ht => if_neg (by omega)), ← h3]
      have := Int.mul_tdiv_add_tmod x 10
      omega
noncomputable def jv_b (p : Prop) : Int := @ite Int p (Classical.propDecidable p) 1 0
theorem jv_b1 {p : Prop} (h : p) : jv_b p = 1 := if_pos h
theorem jv_b0 {p : Prop} (h : ¬ p) : jv_b p = 0 := if_neg h
theorem jv_bc {p q : Prop} (h : p ↔ q) : jv_b p = jv_b q := by
  by_cases x : p
  · rw [jv_b1 x, jv_b1 (h.mp x)]
  · rw [jv_b0 x, jv_b0 (fun y => x (h.mpr y))]
theorem jv_b01 (p : Prop) : jv_b p = 0 ∨ jv_b p = 1 := by
  by_cases x : p
  · exact Or.inr (jv_b1 x)
  · exact Or.inl (jv_b0 x)
theorem jx_td {x : Int} (h : -2147483648 ≤ x ∧ x < 2147483648) : -2147483648 ≤ x.tdiv 10 ∧ x.tdiv 10 < 2147483648 := by
  rcases Int.le_total 0 x with q | q
  · rw [Int.tdiv_eq_ediv_of_nonneg q]
    omega
  · have e2 : x.tdiv 10 = -((-x) / 10) := by
      rw [← Int.tdiv_eq_ediv_of_nonneg (by omega), Int.neg_tdiv]
      omega
    omega
theorem js_isOrder (dd : Nat) {x : Int} {M : ja_M} (hH : jH M) (hx : -2147483648 ≤ x ∧ x < 2147483648) : ja_x true (dd + 2) 74 [jr 24, ji x] M = some (some (ji (jv_b (jv_Q (M 11 3) (M 11 3).toNat x 0))), M) := by
  have hb := hH.b
  obtain ⟨P, hP⟩ : ∃ P : Nat, M 11 3 = (P : Int) := ⟨(M 11 3).toNat, by omega⟩
  rw [f_Table_isOrder]
  have key : ∀ (k : Nat) (r : Int) (s : Nat), k ≤ P → (-2147483648 ≤ r ∧ r < 2147483648) → s < 64 → ja_D true (ja_x true (dd + 1)) k_Table_isOrder 6 [some (jr 24), none, some (ji r), some (ji (s : Int)), some (ji ((P : Int) - k)), none] [] M = some (some (ji (jv_b (jv_Q (M 11 3) k r s))), M) := by
    intro k
    induction k with
    | zero =>
      intro r s _ _ _
      rw [e_Table_isOrder_6, js_places, jz_bI, hP, if_neg (by omega)]
      by_cases q : r = 0
      · rw [if_pos q, jv_b1 (jv_Q0.mpr q)]
      · rw [if_neg q, jv_b0 (fun h => q (jv_Q0.mp h))]
    | succ k ih =>
      intro r s hk hr hs
      rw [e_Table_isOrder_6, js_places, jz_bI, hP, if_pos (by omega), js_hasPlace, jz_bI, jz_b0]
      rw [← hP, jv_bc (jv_Qs (by omega))]
      by_cases q : 0 ≤ r.tmod 10 ∧ r.tmod 10 < M 11 3
      · rw [if_pos q, jx_bitI (by omega) q.1 (by omega)]
        by_cases q2 : s.testBit (r.tmod 10).toNat = true
        · rw [if_pos q2, if_pos rfl, jv_b0 (fun h => by rw [q2] at h; cases h.1.2)]
        · have q3 : s.testBit (r.tmod 10).toNat = false := by simpa using q2
          have hs2 : s ||| 2 ^ (r.tmod 10).toNat < 64 := Nat.or_lt_two_pow (n := 6) hs (Nat.pow_lt_pow_right (by decide) (by omega))
          have hp2 : 2 ^ (r.tmod 10).toNat < 2147483648 := jx_p2 (by omega)
          rw [if_neg q2, if_neg (by decide), jx_shl1i q.1 (by omega), jx_or (by omega) hp2, ja_w_id (x := r.tdiv 10) (jx_td hr).1 (jx_td hr).2, ja_w_id (by omega) (by omega), show M 11 3 - ((k + 1 : Nat) : Int) + 1 = (P : Int) - k by omega, ih _ _ (by omega) (jx_td hr) hs2]
          congr 4
          exact jv_bc ⟨fun h => ⟨⟨q, q3⟩, h⟩, fun h => h.2⟩
      · rw [if_neg q, jv_b0 (fun h => q h.1.1)]
  have := key P x 0 (Nat.le_refl _) hx (by decide)
  rw [show (P : Int) - P = 0 by omega] at this
  rw [hP, show ((P : Int)).toNat = P from rfl, ← hP]
  exact this
theorem jv_digs_nthd : ∀ (n : Nat) (x : Int), 0 ≤ x → x < 10 ^ n → jv_digs (fun t => jv_nthd n x t) n = x
  | 0, x, h0, h1 => by
    rw [Int.pow_zero] at h1
    show 0 = x
    omega
  | n + 1, x, h0, h1 => by
    rw [Int.pow_succ] at h1
    have ih := jv_digs_nthd n (x / 10) (by omega) (by omega)
    show jv_digs (fun t => jv_nthd (n + 1) x t) n * 10 + jv_nthd (n + 1) x n = x
    have e1 : jv_nthd (n + 1) x n = x % 10 := by
      unfold jv_nthd
      rw [show n + 1 - 1 - n = 0 by omega, Int.pow_zero, Int.tdiv_one, jz_tmod h0]
    have e2 : ∀ t, t < n → jv_nthd (n + 1) x t = jv_nthd n (x / 10) t := fun t ht => by
      unfold jv_nthd
      have g0 : 0 < (10 : Int) ^ (n - 1 - t) := Int.pow_pos (by decide)
      rw [show n + 1 - 1 - t = (n - 1 - t) + 1 by omega, Int.pow_succ, Int.tdiv_eq_ediv_of_nonneg h0, Int.mul_comm, ← Int.ediv_ediv_of_nonneg (by omega : (0 : Int) ≤ 10), ← Int.tdiv_eq_ediv_of_nonneg (by omega : 0 ≤ x / 10)]
    rw [e1, jv_digs_congr n e2, ih]
    omega
theorem jv_nthd_b {n t : Nat} {x : Int} (h : 0 ≤ x) : 0 ≤ jv_nthd n x t ∧ jv_nthd n x t ≤ 9 := by
  unfold jv_nthd
  have g0 : 0 < (10 : Int) ^ (n - 1 - t) := Int.pow_pos (by decide)
  rw [Int.tdiv_eq_ediv_of_nonneg h, jz_tmod (Int.ediv_nonneg h (Int.le_of_lt g0))]
  omega
/-- the set of digits -/
def jv_ds (n : Nat) (x : Int) : Nat → Nat
  | 0 => 0
  | t + 1 => jv_ds n x t ||| 2 ^ (jv_nthd n x t).toNat
theorem jv_ds_lt {n : Nat} {x : Int} (h : 0 ≤ x) : ∀ t, jv_ds n x t < 1024
  | 0 => by
    show 0 < 1024
    decide
  | t + 1 => by
    have := jv_nthd_b (n := n) (t := t) h
    exact Nat.or_lt_two_pow (n := 10) (jv_ds_lt h t) (Nat.pow_lt_pow_right (by decide) (by omega))
theorem jv_ds_bit {n : Nat} {x : Int} (p : Nat) : ∀ t, (jv_ds n x t).testBit p = true ↔ ∃ u, u < t ∧ (jv_nthd n x u).toNat = p
  | 0 => by
    show Nat.testBit 0 p = true ↔ _
    simp
  | t + 1 => by
    show (jv_ds n x t ||| 2 ^ (jv_nthd n x t).toNat).testBit p = true ↔ _
    rw [Nat.testBit_or, Bool.or_eq_true, jv_ds_bit p t, Nat.testBit_two_pow, decide_eq_true_eq]
    constructor
    · rintro (⟨u, h1, h2⟩ | h)
      · exact ⟨u, by omega, h2⟩
      · exact ⟨t, by omega, h⟩
    · rintro ⟨u, h1, h2⟩
      by_cases q : u = t
      · subst q
        exact Or.inr h2
      · exact Or.inl ⟨u, by omega, h2⟩
/-- all digits: an order -/
theorem jv_Q_ds {n : Nat} {x : Int} (hn : n ≤ 6) : jv_Q (n : Int) n x 0 ↔ (0 ≤ x ∧ x < 10 ^ n) ∧ jv_ds n x n = 2 ^ n - 1 := by
  constructor
  · rintro ⟨f, h1, h2, rfl⟩
    have hf : ∀ t, t < n → 0 ≤ f t ∧ f t ≤ 9 := fun t ht => by have := (h1 t ht).1; omega
    refine ⟨jv_digs_b n hf, Nat.eq_of_testBit_eq (fun p => ?_)⟩
    have hb := jv_ds_bit (n := n) (x := jv_digs f n) p n
    rw [Nat.testBit_two_pow_sub_one]
    by_cases q : p < n
    · obtain ⟨t, ht, e⟩ := jv_perm_surj (n := (n : Int)) (f := f) ⟨fun t ht => (h1 t (by omega)).1, fun t u ht hu e => h2 t u (by omega) (by omega) e⟩ (by omega) (p := (p : Int)) (by omega)
      rw [hb.mpr ⟨t, by omega, by rw [jv_nthd_digs n t (by omega) hf, e]; rfl⟩]
      simp [q]
    · have : ¬ (jv_ds n (jv_digs f n) n).testBit p = true := fun h => by
        obtain ⟨u, h3, h4⟩ := hb.mp h
        rw [jv_nthd_digs n u h3 hf] at h4
        have := (h1 u h3).1
        omega
      simp [q, this]
  · rintro ⟨⟨h0, h1⟩, hs⟩
    have hc : ∀ p, p < n → p ∈ (List.range n).map (fun t => (jv_nthd n x t).toNat) := fun p hp => by
      have hb := (jv_ds_bit (n := n) (x := x) p n).mp (by rw [hs, Nat.testBit_two_pow_sub_one]; simp [hp])
      obtain ⟨u, h3, h4⟩ := hb
      exact List.mem_map.mpr ⟨u, List.mem_range.mpr h3, h4⟩
    obtain ⟨c1, c2⟩ := jc_cover n _ hc (by simp)
    have inj := jc_inj_map c1
    refine ⟨fun t => jv_nthd n x t, fun t ht => ⟨?_, by simp⟩, fun t u ht hu e => inj t u ht hu (by
      have e : jv_nthd n x t = jv_nthd n x u := e
      rw [e]), (jv_digs_nthd n x h0 h1).symm⟩
    have g := jv_nthd_b (n := n) (t := t) h0
    have := c2 _ (List.mem_map.mpr ⟨t, List.mem_range.mpr ht, rfl⟩)
    show 0 ≤ jv_nthd n x t ∧ jv_nthd n x t < (n : Int)
    omega
theorem js_R_isOrder (dd : Nat) {x : Int} {M : ja_M} (hH : jH M) (h0 : M 11 3 ≠ 0) (hx : -2147483648 ≤ x ∧ x < 2147483648) : ja_x true (dd + 3) 244 [jr 137, ji x] M = some (some (ji (jv_b (jv_Q (M 11 3) (M 11 3).toNat x 0))), M) := by
  have hb := hH.b
  obtain ⟨P, hP⟩ : ∃ P : Nat, M 11 3 = (P : Int) := ⟨(M 11 3).toNat, by omega⟩
  rw [f_R_isOrder]
  -- any number of turns: the loop comes to its end
  have gen : ∃ s : Int, (0 ≤ x → s = (jv_ds P x P : Int)) ∧ ja_D true (ja_x true (dd + 2)) k_R_isOrder 4 [some (jr 137), some (ji x), some (ji 0), some (ji 0)] [] M = ja_D true (ja_x true (dd + 2)) k_R_isOrder 4 [some (jr 137), some (ji x), some (ji s), some (ji (P : Int))] [] M := by
    have key : ∀ (m k : Nat) (s : Int), k + m = P → (0 ≤ x → s = (jv_ds P x k : Int)) → ∃ s' : Int, (0 ≤ x → s' = (jv_ds P x P : Int)) ∧ ja_D true (ja_x true (dd + 2)) k_R_isOrder 4 [some (jr 137), some (ji x), some (ji s), some (ji (k : Int))] [] M = ja_D true (ja_x true (dd + 2)) k_R_isOrder 4 [some (jr 137), some (ji x), some (ji s'), some (ji (P : Int))] [] M := by
      intro m
      induction m with
      | zero =>
        intro k s e hs
        have : k = P := by omega
        subst this
        exact ⟨s, hs, rfl⟩
      | succ m ih =>
        intro k s e hs
        obtain ⟨s', h1, h2⟩ := ih (k + 1) (ja_or s (ja_shl 1 (jv_nthd P x k))) (by omega) (fun q => by
          have g := jv_nthd_b (n := P) (t := k) q
          have g2 := jv_ds_lt (n := P) q k
          have g3 : 2 ^ (jv_nthd P x k).toNat < 2147483648 := jx_p2 (by omega)
          rw [hs q, jx_shl1i g.1 (by omega), jx_or (by omega) g3]
          rfl)
        refine ⟨s', h1, ?_⟩
        rw [e_R_isOrder_4, hH.2.1.1, if_pos (by omega), js_nth dd hH (by omega) hx, jz_bI, ja_w_id (by omega) (by omega), hP]
        exact h2
    exact key P 0 0 (by omega) (fun _ => rfl)
  obtain ⟨s, hs, e⟩ := gen
  rw [e, e_R_isOrder_4, hH.2.1.1, hP, if_neg (by omega), if_pos (by omega), js_ten (dd + 1) M (by omega), jz_bI]
  have g := jv_10p (n := P) (by omega)
  have g0 : 0 < (10 : Int) ^ P := Int.pow_pos (by decide)
  rw [ja_w_id (by omega) (by omega), js_in, jz_bI, jz_b0, show ((P : Int)).toNat = P from rfl, jv_bc (jv_Q_ds (by omega))]
  by_cases q : 0 ≤ x ∧ x ≤ 10 ^ P - 1
  · have g2 := jv_ds_lt (n := P) q.1 P
    rw [if_pos q, hH.2.1.1, hP, hs q.1, jx_all (by omega)]
    by_cases r : jv_ds P x P = 2 ^ P - 1
    · rw [if_pos (by rw [r]), jv_b1 ⟨by omega, r⟩]
    · rw [if_neg (fun e => r (by omega)), jv_b0 (fun h => r h.2)]
  · rw [if_neg q, jv_b0 (fun h => q (by omega))]
/-! the reference's acts -/
def jv_kp40 (M : ja_M) : ja_M := ja_up (ja_seg (ja_up (ja_seg M 156 0 1404 (fun j => M 156 (j + 36))) 137 35 39) 156 1404 36 (fun j => M 154 j)) 137 35 40
def jv_kpn (M : ja_M) (n : Nat) : ja_M := ja_up (ja_seg M 156 (36 * n) 36 (fun j => M 154 j)) 137 35 ((n : Int) + 1)
theorem js_keep2 (E : ja_E) {n : Nat} {M : ja_M} (hn : n < 40) (h : M 137 35 = (n : Int)) : ja_D true E k_R_keep 29 [some (jr 137), some (ji 0)] [] M = some (none, jv_kpn M n) := by
  have e35 : ∀ k, ja_seg M 156 (36 * n) k (fun j => M 154 j) 137 35 = (n : Int) := fun k => (ja_seg_ne (by decide)).trans h
  have w := jz_loop (F := fun N k => ja_D true E k_R_keep 29 [some (jr 137), some (ji k)] [] N) (N := fun k => ja_seg M 156 (36 * n) k (fun j => M 154 j)) (n := 36) 36 0 (by omega) (fun k _ hk => by
    show ja_D true E k_R_keep 29 _ [] _ = _
    rw [e_R_keep_29, if_pos (by omega), if_pos (by omega), e35, ja_w_id (x := 36 * (n : Int)) (by omega) (by omega), ja_w_id (by omega) (by omega), if_pos (by omega), ja_w_id (by omega) (by omega), ja_seg_ne (by decide), show (36 * (n : Int) + (k : Int)).toNat = 36 * n + k by omega, show ((k : Int)).toNat = k from rfl, ja_seg_s M 156 (36 * n) k (fun j => M 154 j)])
  have w : ja_D true E k_R_keep 29 [some (jr 137), some (ji 0)] [] (ja_seg M 156 (36 * n) 0 (fun j => M 154 j)) = ja_D true E k_R_keep 29 [some (jr 137), some (ji 36)] [] (ja_seg M 156 (36 * n) 36 (fun j => M 154 j)) := w
  rw [ja_seg_0] at w
  rw [w, e_R_keep_29, if_neg (by decide), e35, ja_w_id (by omega) (by omega)]
  rfl
theorem js_R_keep (dd : Nat) {n : Nat} {M : ja_M} (hn : n ≤ 40) (h : M 137 35 = (n : Int)) : ja_x true (dd + 1) 247 [jr 137] M = some (none, if n = 40 then jv_kp40 M else jv_kpn M n) := by
  rw [f_R_keep, h]
  by_cases q : n = 40
  · rw [if_pos (by omega), if_pos q]
    have e35 : ∀ k, ja_seg M 156 0 k (fun j => M 156 (j + 36)) 137 35 = 40 := fun k => (ja_seg_ne (by decide)).trans (h.trans (by omega))
    have w := jz_loop (F := fun N k => ja_D true (ja_x true dd) k_R_keep 6 [some (jr 137), some (ji (k + 36))] [] N) (N := fun k => ja_seg M 156 0 k (fun j => M 156 (j + 36))) (n := 1404) 1404 0 (by omega) (fun k _ hk => by
      show ja_D true (ja_x true dd) k_R_keep 6 _ [] _ = _
      rw [e_R_keep_6, if_pos (by omega), if_pos (by omega), ja_w_id (x := (k : Int) + 36 - 36) (by omega) (by omega), if_pos (by omega), ja_w_id (by omega) (by omega), ja_seg_out (Or.inr (by omega)), show ((k : Int) + 36 - 36).toNat = 0 + k by omega, show ((k : Int) + 36).toNat = k + 36 by omega, ja_seg_s M 156 0 k (fun j => M 156 (j + 36)), show (k : Int) + 36 + 1 = (k : Int) + 1 + 36 by omega])
    have w : ja_D true (ja_x true dd) k_R_keep 6 [some (jr 137), some (ji 36)] [] (ja_seg M 156 0 0 (fun j => M 156 (j + 36))) = ja_D true (ja_x true dd) k_R_keep 6 [some (jr 137), some (ji 1440)] [] (ja_seg M 156 0 1404 (fun j => M 156 (j + 36))) := w
    rw [ja_seg_0] at w
    rw [w, e_R_keep_6, if_neg (by decide), e35, show ja_w (40 - 1) = 39 by decide, js_keep2 (ja_x true dd) (n := 39) (M := ja_up (ja_seg M 156 0 1404 (fun j => M 156 (j + 36))) 137 35 39) (by decide) jb_up_eq]
    unfold jv_kpn jv_kp40
    have e154 : (fun j => (ja_up (ja_seg M 156 0 1404 (fun j => M 156 (j + 36))) 137 35 39) 154 j) = (fun j => M 154 j) := by
      funext j
      rw [jb_up_ne (by decide), ja_seg_ne (by decide)]
    rw [e154]
    rfl
  · rw [if_neg (by omega), if_neg q]
    exact js_keep2 _ (by omega) h
/-- one act more -/
theorem jPs_push {M M' : ja_M} (hH : jH M) (hO : jO M) (hP : jPs M) (e3 : M' 11 3 = M 11 3) (e4 : M' 11 4 = M 11 4) (r3 : M' 33 3 = (M 33 3 + 1) % 40) (r4 : M' 33 4 = if M 33 4 = 40 then 40 else M 33 4 + 1) (ra : M' 137 35 = M' 33 4)
    (rowr : ∀ b : Nat, (b : Int) < M 11 4 → M' (35 + (M 33 3).toNat) b = jv_dig M b) (rowo : ∀ q b : Nat, q < 40 → q ≠ (M 33 3).toNat → M' (35 + q) b = M (35 + q) b)
    (k1 : M 33 4 = 40 → ∀ j, j < 1404 → M' 156 j = M 156 (j + 36)) (k2 : M 33 4 = 40 → ∀ j, j < 36 → M' 156 (1404 + j) = M 154 j)
    (k3 : M 33 4 ≠ 40 → ∀ j, j < 36 * (M 33 4).toNat → M' 156 j = M 156 j) (k4 : M 33 4 ≠ 40 → ∀ j, j < 36 → M' 156 (36 * (M 33 4).toNat + j) = M 154 j) : jPs M' := by
  have hb := hH.b
  obtain ⟨p1, p2, p3, p4⟩ := hP
  have hnew : ∀ b : Nat, (b : Int) < M 11 4 → jv_dig M b = jv_digs (fun t => M 154 (6 * b + t)) (M 11 3).toNat ∧ jv_perm (M 11 3) (fun t => M 154 (6 * b + t)) := fun b hb4 => by
    constructor
    · rw [jv_dig_eq, show ((b : Int)).toNat = b from rfl]
      exact jv_digs_congr _ (fun t ht => ((hO.1 b t hb4 (by omega)).1).symm)
    · refine ⟨fun t ht => ?_, fun t u ht hu e => ?_⟩
      · show 0 ≤ M 154 (6 * b + t) ∧ M 154 (6 * b + t) < M 11 3
        rw [(hO.1 b t hb4 ht).1]
        exact (hO.1 b t hb4 ht).2
      · have e : M 154 (6 * b + t) = M 154 (6 * b + u) := e
        rw [(hO.1 b t hb4 ht).1, (hO.1 b u hb4 hu).1] at e
        exact hO.2.1 b t u hb4 ht hu e
  unfold jPs
  rw [ra, r3, r4, e3, e4]
  by_cases q : M 33 4 = 40
  · rw [if_pos q]
    refine ⟨by omega, by omega, rfl, fun k b hk hb4 => ?_⟩
    have er : jv_ring ((M 33 3 + 1) % 40) 40 k = ((M 33 3 + 1 + k) % 40).toNat := by
      unfold jv_ring
      omega
    rw [er]
    by_cases h39 : k = 39
    · subst h39
      rw [show ((M 33 3 + 1 + ((39 : Nat) : Int)) % 40).toNat = (M 33 3).toNat by omega, rowr b hb4]
      have ef : ∀ t, t < (M 11 3).toNat → M' 156 (36 * 39 + 6 * b + t) = M 154 (6 * b + t) := fun t ht => by
        rw [show 36 * 39 + 6 * b + t = 1404 + (6 * b + t) by omega]
        exact k2 q (6 * b + t) (by omega)
      obtain ⟨n1, n2⟩ := hnew b hb4
      refine ⟨by rw [n1]; exact jv_digs_congr _ (fun t ht => (ef t ht).symm), fun t ht => ?_, fun t u ht hu e => ?_⟩
      · show 0 ≤ M' 156 (36 * 39 + 6 * b + t) ∧ M' 156 (36 * 39 + 6 * b + t) < M 11 3
        rw [ef t (by omega)]
        exact n2.1 t ht
      · have e : M' 156 (36 * 39 + 6 * b + t) = M' 156 (36 * 39 + 6 * b + u) := e
        rw [ef t (by omega), ef u (by omega)] at e
        exact n2.2 t u ht hu e
    · have old := p4 (k + 1) b (by omega) hb4
      have ei : jv_ring (M 33 3) (M 33 4) (k + 1) = ((M 33 3 + 1 + k) % 40).toNat := by
        unfold jv_ring
        omega
      rw [ei] at old
      rw [rowo _ b (by omega) (by omega), old.1]
      have ef : ∀ t, t < 6 → M' 156 (36 * k + 6 * b + t) = M 156 (36 * (k + 1) + 6 * b + t) := fun t ht => by
        rw [k1 q _ (by omega)]
        congr 1
        omega
      refine ⟨jv_digs_congr _ (fun t ht => (ef t (by omega)).symm), fun t ht => ?_, fun t u ht hu e => ?_⟩
      · show 0 ≤ M' 156 (36 * k + 6 * b + t) ∧ M' 156 (36 * k + 6 * b + t) < M 11 3
        rw [ef t (by omega)]
        exact old.2.1 t ht
      · have e : M' 156 (36 * k + 6 * b + t) = M' 156 (36 * k + 6 * b + u) := e
        rw [ef t (by omega), ef u (by omega)] at e
        exact old.2.2 t u ht hu e
  · rw [if_neg q]
    refine ⟨by omega, by omega, rfl, fun k b hk hb4 => ?_⟩
    have er : jv_ring ((M 33 3 + 1) % 40) (M 33 4 + 1) k = ((M 33 3 + 40 - M 33 4 + k) % 40).toNat := by
      unfold jv_ring
      omega
    rw [er]
    by_cases hn : k = (M 33 4).toNat
    · subst hn
      rw [show ((M 33 3 + 40 - M 33 4 + ((M 33 4).toNat : Int)) % 40).toNat = (M 33 3).toNat by omega, rowr b hb4]
      have ef : ∀ t, t < (M 11 3).toNat → M' 156 (36 * (M 33 4).toNat + 6 * b + t) = M 154 (6 * b + t) := fun t ht => by
        rw [show 36 * (M 33 4).toNat + 6 * b + t = 36 * (M 33 4).toNat + (6 * b + t) by omega]
        exact k4 q (6 * b + t) (by omega)
      obtain ⟨n1, n2⟩ := hnew b hb4
      refine ⟨by rw [n1]; exact jv_digs_congr _ (fun t ht => (ef t ht).symm), fun t ht => ?_, fun t u ht hu e => ?_⟩
      · show 0 ≤ M' 156 (36 * (M 33 4).toNat + 6 * b + t) ∧ M' 156 (36 * (M 33 4).toNat + 6 * b + t) < M 11 3
        rw [ef t (by omega)]
        exact n2.1 t ht
      · have e : M' 156 (36 * (M 33 4).toNat + 6 * b + t) = M' 156 (36 * (M 33 4).toNat + 6 * b + u) := e
        rw [ef t (by omega), ef u (by omega)] at e
        exact n2.2 t u ht hu e
    · have old := p4 k b (by omega) hb4
      have ei : jv_ring (M 33 3) (M 33 4) k = ((M 33 3 + 40 - M 33 4 + k) % 40).toNat := rfl
      rw [ei] at old
      rw [rowo _ b (by omega) (by omega), old.1]
      have ef : ∀ t, t < 6 → M' 156 (36 * k + 6 * b + t) = M 156 (36 * k + 6 * b + t) := fun t ht => k3 q _ (by omega)
      refine ⟨jv_digs_congr _ (fun t ht => (ef t (by omega)).symm), fun t ht => ?_, fun t u ht hu e => ?_⟩
      · show 0 ≤ M' 156 (36 * k + 6 * b + t) ∧ M' 156 (36 * k + 6 * b + t) < M 11 3
        rw [ef t (by omega)]
        exact old.2.1 t ht
      · have e : M' 156 (36 * k + 6 * b + t) = M' 156 (36 * k + 6 * b + u) := e
        rw [ef t (by omega), ef u (by omega)] at e
        exact old.2.2 t u ht hu e
