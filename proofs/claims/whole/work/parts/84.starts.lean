/-! starts: the class -/
abbrev sE : Nat → Prop := fun c => 77 ≤ c ∧ c ≤ 90
theorem jFr.kE {A B : ja_M} (h : jFr sE A B) : jK A B := h.K (fun c x => Or.inl ⟨x.1, by have := x.2; omega⟩)
theorem js_byStarts (dd : Nat) {a b : Nat} {M N : ja_M} (hH : jH M) (hO : jO M) (hf : jFr sE M N) (hc : ∀ b t : Nat, (b : Int) < M 11 4 → (t : Int) < M 11 3 → N (79 + b) (oX M b t).toNat = aX M b t) (ha : (a : Int) < M 11 4) (hb : (b : Int) < M 11 4) : ∃ v : Nat, v < 2 ^ 19 ∧ ja_x true (dd + 3) 132 [jr 77, ji (a : Int), ji (b : Int)] N = some (some (ji (v : Int)), N) ∧ ∀ i, i < 19 → (v.testBit i = true ↔ ∃ t u : Nat, (t < (M 11 3).toNat ∧ u < (M 11 3).toNat) ∧ oX M a t = oX M b u ∧ pv_ab (pv_w M a t + ((i : Int) - 9) - pv_w M b u) < M 11 6) := by
  have h0 := hH.b
  obtain ⟨P, hP⟩ : ∃ P : Nat, M 11 3 = (P : Int) := ⟨(M 11 3).toNat, by omega⟩
  have eP : (M 11 3).toNat = P := by omega
  have kk := hf.kE
  have hHN := hH.kp (kk.of jk_H)
  have e3 : N 11 3 = (P : Int) := (kk.of jk_H 11 3 rfl).trans hP
  have e4 : N 11 4 = M 11 4 := kk.of jk_H 11 4 rfl
  have e6 : N 11 6 = M 11 6 := kk.of jk_H 11 6 rfl
  have hcb : ∀ b : Nat, (b : Int) < M 11 4 → ∀ p : Nat, p < P → ∃ t, t < P ∧ oX M b t = (p : Int) ∧ N (79 + b) p = M 32 b + pv_w M b t ∧ (0 ≤ pv_w M b t ∧ pv_w M b t ≤ 1700) := fun b hb p hp => by
    obtain ⟨t, ht, e⟩ := jv_perm_surj (hO.perm hb) (by omega) (p := (p : Int)) (by omega)
    have := hc b t hb ht
    have e : oX M b t = (p : Int) := e
    rw [e, show ((p : Int)).toNat = p from rfl] at this
    exact ⟨t, by omega, e, this.trans (pv_arr_0 ..), pv_w_b hH hO hb ht⟩
  have h19 : (2 : Nat) ^ 19 = 524288 := by decide
  have inner : ∀ (m j v p : Nat) (x z : Int), j + m = 19 → v < 2 ^ 19 → p < P → (0 ≤ x ∧ x ≤ 1700) → (0 ≤ z ∧ z ≤ 1700) → ∃ v' : Nat, v' < 2 ^ 19 ∧ ja_D true (ja_x true (dd + 2)) k_Clock_clashesByStarts 35 [some (jr 77), some (ji (a : Int)), some (ji (b : Int)), some (ji (v : Int)), some (ji (p : Int)), some (ji x), some (ji z), some (ji ((j : Int) - 9))] [] N = ja_D true (ja_x true (dd + 2)) k_Clock_clashesByStarts 4 [some (jr 77), some (ji (a : Int)), some (ji (b : Int)), some (ji (v' : Int)), some (ji ((p : Int) + 1)), none, none, none] [] N ∧ ∀ i, i < 19 → (v'.testBit i = true ↔ (v.testBit i = true ∨ (j ≤ i ∧ pv_ab (x + ((i : Int) - 9) - z) < M 11 6))) := by
    intro m
    induction m with
    | zero =>
      intro j v p x z e hv hp hx hz
      refine ⟨v, hv, ?_, fun i hi => ⟨Or.inl, fun q => q.elim id (fun y => by omega)⟩⟩
      rw [e_Clock_clashesByStarts_35, if_pos (by omega), ja_w_id (by omega) (by omega)]
    | succ m ih =>
      intro j v p x z e hv hp hx hz
      have hst := e_Clock_clashesByStarts_35 (ja_x true (dd + 2)) (a : Int) (b : Int) (v : Int) (p : Int) x z ((j : Int) - 9) N
      rw [if_neg (by omega), f_Hunt_stay_11, jz_bI, ja_w_id (x := x + ((j : Int) - 9)) (by omega) (by omega), ja_w_id (x := x + ((j : Int) - 9) - z) (by omega) (by omega), jx_abs (by omega), e6, ja_w_id (x := 9 + ((j : Int) - 9)) (by omega) (by omega), show 9 + ((j : Int) - 9) = (j : Int) by omega, jx_shl1 (by omega), jx_or (by omega) (jx_p2 (by omega)), ja_w_id (x := (j : Int) - 9 + 1) (by omega) (by omega), show (j : Int) - 9 + 1 = ((j + 1 : Nat) : Int) - 9 by omega] at hst
      by_cases q : pv_ab (x + ((j : Int) - 9) - z) < M 11 6
      · rw [if_pos q] at hst
        obtain ⟨v', g1, g2, g3⟩ := ih (j + 1) (v ||| 2 ^ j) p x z (by omega) (Nat.or_lt_two_pow hv (Nat.pow_lt_pow_right (by decide) (by omega))) hp hx hz
        refine ⟨v', g1, hst.trans g2, fun i hi => (g3 i hi).trans ?_⟩
        rw [Nat.testBit_or, Bool.or_eq_true, Nat.testBit_two_pow, decide_eq_true_iff]
        constructor
        · rintro ((y | y) | y)
          · exact Or.inl y
          · subst y
            exact Or.inr ⟨Nat.le_refl _, q⟩
          · exact Or.inr ⟨by omega, y.2⟩
        · rintro (y | y)
          · exact Or.inl (Or.inl y)
          · by_cases w : j = i
            · exact Or.inl (Or.inr w)
            · exact Or.inr ⟨by omega, y.2⟩
      · rw [if_neg q] at hst
        obtain ⟨v', g1, g2, g3⟩ := ih (j + 1) v p x z (by omega) hv hp hx hz
        refine ⟨v', g1, hst.trans g2, fun i hi => (g3 i hi).trans ?_⟩
        constructor
        · rintro (y | y)
          · exact Or.inl y
          · exact Or.inr ⟨by omega, y.2⟩
        · rintro (y | y)
          · exact Or.inl y
          · by_cases w : j = i
            · subst w
              exact absurd y.2 q
            · exact Or.inr ⟨by omega, y.2⟩
  have outer : ∀ (m p v : Nat), p + m = P → v < 2 ^ 19 → ∃ v' : Nat, v' < 2 ^ 19 ∧ ja_D true (ja_x true (dd + 2)) k_Clock_clashesByStarts 4 [some (jr 77), some (ji (a : Int)), some (ji (b : Int)), some (ji (v : Int)), some (ji (p : Int)), none, none, none] [] N = some (some (ji (v' : Int)), N) ∧ ∀ i, i < 19 → (v'.testBit i = true ↔ (v.testBit i = true ∨ ∃ p' : Nat, p ≤ p' ∧ p' < P ∧ pv_ab (N (79 + a) p' - M 32 a + ((i : Int) - 9) - (N (79 + b) p' - M 32 b)) < M 11 6)) := by
    intro m
    induction m with
    | zero =>
      intro p v e hv
      refine ⟨v, hv, ?_, fun i hi => ⟨Or.inl, fun q => q.elim id (fun ⟨p', y1, y2, _⟩ => by omega)⟩⟩
      rw [e_Clock_clashesByStarts_4, js_places, jz_bI, if_neg (by omega)]
    | succ m ih =>
      intro p v e hv
      obtain ⟨t, ht, -, et, bt⟩ := hcb a ha p (by omega)
      obtain ⟨u, hu, -, eu, bu⟩ := hcb b hb p (by omega)
      have sa := (hO.2.2 a ha).2
      have sb := (hO.2.2 b hb).2
      obtain ⟨v1, g1, g2, g3⟩ := inner 19 0 v p (N (79 + a) p - M 32 a) (N (79 + b) p - M 32 b) rfl hv (by omega) (by omega) (by omega)
      obtain ⟨v', k1, k2, k3⟩ := ih (p + 1) v1 (by omega) g1
      have ea := js_startOf dd (b := (a : Int)) hHN (by omega)
      have eb := js_startOf dd (b := (b : Int)) hHN (by omega)
      rw [show ((a : Int)).toNat = a from rfl, kk.of jk_O 32 a rfl] at ea
      rw [show ((b : Int)).toNat = b from rfl, kk.of jk_O 32 b rfl] at eb
      refine ⟨v', k1, ?_, fun i hi => (k3 i hi).trans ?_⟩
      · rw [e_Clock_clashesByStarts_4, js_places, jz_bI, if_pos (by omega), if_pos (by omega), show ((a : Int)).toNat = a from rfl, show 78 + 1 + a = 79 + a by omega, jz_ald (n := 6) (jk_79 a (by omega)) (by omega) (by omega) (by omega) (by omega), ea, jz_bI, if_pos (by omega), show ((b : Int)).toNat = b from rfl, show 78 + 1 + b = 79 + b by omega, jz_ald (n := 6) (jk_79 b (by omega)) (by omega) (by omega) (by omega) (by omega), eb, jz_bI, show ((p : Int)).toNat = p from rfl, ja_w_id (x := N (79 + a) p - M 32 a) (by omega) (by omega), ja_w_id (x := N (79 + b) p - M 32 b) (by omega) (by omega)]
        refine Eq.trans g2 ?_
        rw [show ((p + 1 : Nat) : Int) = (p : Int) + 1 by omega] at k2
        exact k2
      · rw [g3 i hi]
        constructor
        · rintro ((y | y) | ⟨p', y1, y2, y3⟩)
          · exact Or.inl y
          · exact Or.inr ⟨p, Nat.le_refl _, by omega, y.2⟩
          · exact Or.inr ⟨p', by omega, y2, y3⟩
        · rintro (y | ⟨p', y1, y2, y3⟩)
          · exact Or.inl (Or.inl y)
          · by_cases w : p' = p
            · subst w
              exact Or.inl (Or.inr ⟨Nat.zero_le _, y3⟩)
            · exact Or.inr ⟨p', by omega, y2, y3⟩
  obtain ⟨v, g1, g2, g3⟩ := outer P 0 0 (by omega) (by decide)
  refine ⟨v, g1, (f_Clock_clashesByStarts _ _ _ _).trans g2, fun i hi => (g3 i hi).trans ?_⟩
  rw [eP]
  constructor
  · rintro (y | ⟨p, -, y2, y3⟩)
    · rw [Nat.zero_testBit] at y
      cases y
    · obtain ⟨t, ht, ot, et, bt⟩ := hcb a ha p y2
      obtain ⟨u, hu, ou, eu, bu⟩ := hcb b hb p y2
      refine ⟨t, u, ⟨ht, hu⟩, ot.trans ou.symm, ?_⟩
      rw [show N (79 + a) p - M 32 a = pv_w M a t by omega, show N (79 + b) p - M 32 b = pv_w M b u by omega] at y3
      exact y3
  · rintro ⟨t, u, ⟨ht, hu⟩, ou, y3⟩
    have r1 := hO.v ha t (by omega)
    have r2 : N (79 + a) (oX M a t).toNat = M 32 a + pv_w M a t := (hc a t ha (by omega)).trans (pv_arr_0 ..)
    have r3 : N (79 + b) (oX M b u).toNat = M 32 b + pv_w M b u := (hc b u hb (by omega)).trans (pv_arr_0 ..)
    rw [← ou] at r3
    refine Or.inr ⟨(oX M a t).toNat, Nat.zero_le _, by omega, ?_⟩
    rw [show N (79 + a) (oX M a t).toNat - M 32 a = pv_w M a t by omega, show N (79 + b) (oX M a t).toNat - M 32 b = pv_w M b u by omega]
    exact y3
/-- the masks that tell who clashes by which starts -/
def pv_mask (M N : ja_M) (b a : Nat) : Prop := ∃ v : Nat, N (86 + b) a = (v : Int) ∧ v < 2 ^ 19 ∧ ∀ x z : Nat, x < 10 → z < 10 → (v.testBit (9 + x - z) = true ↔ pv_meet M b a x z)
theorem js_apart (dd : Nat) {b d : Nat} {x : Nat → Nat} {M N : ja_M} (hb : b < 4) (hd : d < 10) (hx : ∀ i, i < b → x i < 10 ∧ N 90 i = (x i : Int)) (hm : ∀ i, i < b → pv_mask M N b i) : ∃ v : Int, ja_x true (dd + 1) 134 [jr 77, ji (b : Int), ji (d : Int)] N = some (some (ji v), N) ∧ ((v = 1 ∧ ∀ i, i < b → ¬ pv_meet M b i d (x i)) ∨ (v = 0 ∧ ¬ ∀ i, i < b → ¬ pv_meet M b i d (x i))) := by
  have k86 : ∀ b, b < 4 → ja_kd (86 + b) = (100, 4) := by decide
  have h19 : (2 : Nat) ^ 19 = 524288 := by decide
  have loop : ∀ (m j : Nat), j + m = b → (∀ i, i < j → ¬ pv_meet M b i d (x i)) → ∃ v : Int, ja_D true (ja_x true dd) k_Clock_startsApart 2 [some (jr 77), some (ji (b : Int)), some (ji (d : Int)), some (ji (j : Int)), none] [] N = some (some (ji v), N) ∧ ((v = 1 ∧ ∀ i, i < b → ¬ pv_meet M b i d (x i)) ∨ (v = 0 ∧ ¬ ∀ i, i < b → ¬ pv_meet M b i d (x i))) := by
    intro m
    induction m with
    | zero =>
      intro j e h
      obtain rfl : j = b := by omega
      refine ⟨1, ?_, Or.inl ⟨rfl, h⟩⟩
      rw [e_Clock_startsApart_2, if_neg (by omega)]
    | succ m ih =>
      intro j e h
      obtain ⟨v, v1, v2, v3⟩ := hm j (by omega)
      obtain ⟨x1, x2⟩ := hx j (by omega)
      have hst := e_Clock_startsApart_2 (ja_x true dd) (b : Int) (d : Int) (j : Int) N
      rw [if_pos (by omega), if_pos (by omega), if_pos (by omega), show ((b : Int)).toNat = b from rfl, show 85 + 1 + b = 86 + b by omega, jz_ald (n := 4) (k86 b hb) (by omega) (by omega) (by omega) (by omega), show ((j : Int)).toNat = j from rfl, v1, x2, ja_w_id (x := (d : Int) - (x j : Int)) (by omega) (by omega), ja_w_id (x := 9 + ((d : Int) - (x j : Int))) (by omega) (by omega), show 9 + ((d : Int) - (x j : Int)) = ((9 + d - x j : Nat) : Int) by omega, jx_bit (by omega) (by omega), ja_w_id (x := (j : Int) + 1) (by omega) (by omega), show (j : Int) + 1 = ((j + 1 : Nat) : Int) by omega] at hst
      by_cases q : v.testBit (9 + d - x j) = true
      · rw [if_pos q, if_pos rfl] at hst
        exact ⟨0, hst, Or.inr ⟨rfl, fun z => z j (by omega) ((v3 d (x j) hd x1).mp q)⟩⟩
      · rw [if_neg q, if_neg (by decide)] at hst
        obtain ⟨w, g1, g2⟩ := ih (j + 1) (by omega) (fun i hi => by
          by_cases z : i = j
          · subst z
            exact fun y => q ((v3 d (x i) hd x1).mpr y)
          · exact h i (by omega))
        exact ⟨w, hst.trans g1, g2⟩
  obtain ⟨v, g1, g2⟩ := loop b 0 (by omega) (fun i hi => by omega)
  exact ⟨v, (f_Clock_startsApart _ _ _ _).trans g1, g2⟩
/-- what the class keeps of the best row -/
def pv_enc (N : ja_M) (st : Option (Nat × Nat)) : Prop := match st with
  | none => N 77 6 = -1 ∧ N 77 7 = -1
  | some x => N 77 6 = (x.1 : Int) ∧ N 77 7 = (x.2 : Int)
abbrev s7790 : Nat → Prop := fun c => c = 77 ∨ c = 90
theorem js_seekStartOf {M N0 : ja_M} {K B : Nat} (hH : jH M) (hf : jFr sE M N0) (hB : M 11 4 = (B : Int)) (hB4 : B ≤ 4) (hK : 0 < K) (hK2 : K ≤ 10) (hm : ∀ b a, a < b → b < B → pv_mask M N0 b a) (dd : Nat) : ∀ (n b q : Nat) (N : ja_M) (st : Option (Nat × Nat)), b + n = B → jFr s7790 N0 N → N 77 5 = (K : Int) - 1 → pv_enc N st → (∀ a, a < b → N 90 a = (rw_d K b q a : Int)) → rw_nc (pv_meet M) K b q → ∃ N', ja_x true (dd + 2 + n) 133 [jr 77, ji (b : Int), ji (rw_s K b q : Int), ji (rw_c K b q : Int)] N = some (none, N') ∧ jFr s7790 N0 N' ∧ N' 77 5 = (K : Int) - 1 ∧ pv_enc N' (jv_it (rw_st (pv_meet M) K B) st (q * K ^ n) (K ^ n)) ∧ ∀ a, a < b → N' 90 a = (rw_d K b q a : Int) := by
  intro n
  have up : ∀ N : ja_M, jFr s7790 N0 N → jFr sE M N := fun N h => hf.tr (h.wk (fun c z => by
    have : c = 77 ∨ c = 90 := z
    exact ⟨by omega, by omega⟩))
  have e4 : ∀ N : ja_M, jFr s7790 N0 N → N 11 4 = (B : Int) := fun N h => ((up N h).kE.of jk_H 11 4 rfl).trans hB
  induction n with
  | zero =>
    intro b q N st e hN h5 hst hd hnc
    obtain rfl : b = B := by omega
    have eit : jv_it (rw_st (pv_meet M) K b) st (q * K ^ 0) (K ^ 0) = rw_st (pv_meet M) K b st q := by
      rw [Nat.pow_zero, Nat.mul_one]
      rfl
    rw [eit]
    have fin : rw_bet st (rw_s K b q) → ∃ N', some (none, ja_up (ja_up N 77 6 (rw_s K b q : Int)) 77 7 (rw_c K b q : Int)) = some ((none : Option ja_V), N') ∧ jFr s7790 N0 N' ∧ N' 77 5 = (K : Int) - 1 ∧ pv_enc N' (rw_st (pv_meet M) K b st q) ∧ ∀ a, a < b → N' 90 a = (rw_d K b q a : Int) := fun hb => by
      refine ⟨_, rfl, (hN.up (Or.inl rfl)).up (Or.inl rfl), ?_, ?_, fun a ha => ?_⟩
      · rw [jb_up_nej (by decide), jb_up_nej (by decide)]
        exact h5
      · rw [rw_st_p ⟨hb, hnc⟩]
        exact ⟨rfl, rfl⟩
      · rw [jb_up_ne (by decide), jb_up_ne (by decide)]
        exact hd a ha
    rw [f_Clock_seekStartOf]
    cases st with
    | none =>
      rw [hst.1, if_pos rfl, js_bands, jz_bI, e4 N hN, if_neg (by omega)]
      exact fin (fun x hx => by cases hx)
    | some x =>
      have hx : N 77 6 = (x.1 : Int) := hst.1
      rw [hx, if_neg (by omega)]
      by_cases w : rw_s K b q < x.1
      · rw [if_pos (by omega), js_bands, jz_bI, e4 N hN, if_neg (by omega)]
        exact fin (fun y hy => by cases hy; exact w)
      · rw [if_neg (by omega), rw_st_n (fun z => w (z.1 x rfl))]
        exact ⟨N, rfl, hN, h5, hst, hd⟩
  | succ n ih =>
    intro b q N st e hN h5 hst hd hnc
    have sb := rw_s_b hK hK2 b q
    have hp : 0 < K ^ n := Nat.pow_pos hK
    have p4 : 10 ^ b ≤ 1000 := by
      have : b = 0 ∨ b = 1 ∨ b = 2 ∨ b = 3 := by omega
      rcases this with rfl | rfl | rfl | rfl <;> decide
    -- the row of starts of this band
    have loop : ∀ (m d : Nat) (N : ja_M) (s : Option (Nat × Nat)), d + m = K → jFr s7790 N0 N → N 77 5 = (K : Int) - 1 → pv_enc N s → (∀ a, a < b → N 90 a = (rw_d K b q a : Int)) → ∃ N', ja_D true (ja_x true (dd + 2 + n)) k_Clock_seekStartOf 26 [some (jr 77), some (ji (b : Int)), some (ji (rw_s K b q : Int)), some (ji (rw_c K b q : Int)), some (ji (d : Int))] [] N = some (none, N') ∧ jFr s7790 N0 N' ∧ N' 77 5 = (K : Int) - 1 ∧ pv_enc N' (jv_it (rw_st (pv_meet M) K B) s ((K * q + d) * K ^ n) (m * K ^ n)) ∧ ∀ a, a < b → N' 90 a = (rw_d K b q a : Int) := by
      intro m
      induction m with
      | zero =>
        intro d N s e2 hN h5 hs hd
        refine ⟨N, ?_, hN, h5, by rw [Nat.zero_mul]; exact hs, hd⟩
        rw [e_Clock_seekStartOf_26, h5, if_pos (by omega)]
      | succ m ihm =>
        intro d N s e2 hN h5 hs hd
        have hdK : d < K := by omega
        obtain ⟨v, a1, a2⟩ := js_apart (dd + 1 + n) (b := b) (d := d) (x := fun i => rw_d K b q i) (M := M) (N := N) (by omega) (by omega) (fun i hi => ⟨by have := rw_d_b hK b q i; omega, hd i hi⟩) (fun i hi => by
          obtain ⟨v, v1, v2, v3⟩ := hm b i hi (by omega)
          exact ⟨v, (hN (86 + b) i (fun z => by have : 86 + b = 77 ∨ 86 + b = 90 := z; omega)).trans v1, v2, v3⟩)
        rw [show dd + 1 + n + 1 = dd + 2 + n by omega] at a1
        have split : jv_it (rw_st (pv_meet M) K B) s ((K * q + d) * K ^ n) ((m + 1) * K ^ n) = jv_it (rw_st (pv_meet M) K B) (jv_it (rw_st (pv_meet M) K B) s ((K * q + d) * K ^ n) (K ^ n)) ((K * q + (d + 1)) * K ^ n) (m * K ^ n) := by
          rw [show (m + 1) * K ^ n = K ^ n + m * K ^ n by rw [Nat.succ_mul, Nat.add_comm], jv_it_add, show (K * q + d) * K ^ n + K ^ n = (K * q + (d + 1)) * K ^ n by rw [← Nat.add_assoc, Nat.succ_mul]]
        have hst2 := e_Clock_seekStartOf_26 (ja_x true (dd + 2 + n)) (b : Int) (rw_s K b q : Int) (rw_c K b q : Int) (d : Int) N
        rw [h5, if_neg (by omega), a1, jz_bI, ja_w_id (x := (d : Int) + 1) (by omega) (by omega), show (d : Int) + 1 = ((d + 1 : Nat) : Int) by omega] at hst2
        have ncs := rw_nc_s (cl := pv_meet M) hdK hnc
        rcases a2 with ⟨rfl, a2⟩ | ⟨rfl, a2⟩
        · rw [if_neg (by decide), if_pos (by omega), show ((b : Int)).toNat = b from rfl, ja_w_id (x := (b : Int) + 1) (by omega) (by omega), ja_w_id (x := (rw_s K b q : Int) + (d : Int)) (by omega) (by omega), ja_w_id (x := (rw_c K b q : Int) * 10) (by omega) (by omega), ja_w_id (x := (rw_c K b q : Int) * 10 + (d : Int)) (by omega) (by omega)] at hst2
          have es : rw_s K (b + 1) (K * q + d) = rw_s K b q + d := by
            show rw_s K b ((K * q + d) / K) + (K * q + d) % K = _
            rw [(rw_div hdK).1, (rw_div hdK).2]
          have ec : rw_c K (b + 1) (K * q + d) = rw_c K b q * 10 + d := by
            show rw_c K b ((K * q + d) / K) * 10 + (K * q + d) % K = _
            rw [(rw_div hdK).1, (rw_div hdK).2]
          have ed : ∀ a, a < b → rw_d K (b + 1) (K * q + d) a = rw_d K b q a := fun a ha => by
            show (if a = b then (K * q + d) % K else rw_d K b ((K * q + d) / K) a) = _
            rw [if_neg (by omega), (rw_div hdK).1]
          have ed2 : rw_d K (b + 1) (K * q + d) b = d := by
            show (if b = b then (K * q + d) % K else rw_d K b ((K * q + d) / K) b) = _
            rw [if_pos rfl, (rw_div hdK).2]
          obtain ⟨N1, g1, g2, g3, g4, g5⟩ := ih (b + 1) (K * q + d) (ja_up N 90 b (d : Int)) s (by omega) (hN.up (Or.inr rfl)) (by rw [jb_up_ne (by decide)]; exact h5) (by
            cases s with
            | none => exact ⟨(jb_up_ne (by decide)).trans hs.1, (jb_up_ne (by decide)).trans hs.2⟩
            | some x => exact ⟨(jb_up_ne (by decide)).trans hs.1, (jb_up_ne (by decide)).trans hs.2⟩) (fun a ha => by
            by_cases z : a = b
            · subst z
              rw [jb_up_eq, ed2]
            · rw [jb_up_nej z, ed a (by omega)]
              exact hd a (by omega)) (ncs.mpr a2)
          rw [es, ec, show ((b + 1 : Nat) : Int) = (b : Int) + 1 by omega, show ((rw_s K b q + d : Nat) : Int) = (rw_s K b q : Int) + (d : Int) by omega, show ((rw_c K b q * 10 + d : Nat) : Int) = (rw_c K b q : Int) * 10 + (d : Int) by omega] at g1
          obtain ⟨N', k1, k2, k3, k4, k5⟩ := ihm (d + 1) N1 _ (by omega) g2 g3 g4 (fun a ha => by rw [g5 a (by omega), ed a ha])
          rw [g1, jz_bV] at hst2
          rw [split]
          exact ⟨N', hst2.trans k1, k2, k3, k4, k5⟩
        · rw [if_pos rfl] at hst2
          have cut : jv_it (rw_st (pv_meet M) K B) s ((K * q + d) * K ^ n) (K ^ n) = s := by
            rw [show B = b + 1 + n by omega]
            exact rw_cut2 hK (fun z => a2 (ncs.mp z))
          rw [split, cut]
          obtain ⟨N', k1, k2, k3, k4, k5⟩ := ihm (d + 1) N s (by omega) hN h5 hs hd
          exact ⟨N', hst2.trans k1, k2, k3, k4, k5⟩
    have go : ∃ N', ja_D true (ja_x true (dd + 2 + n)) k_Clock_seekStartOf 26 [some (jr 77), some (ji (b : Int)), some (ji (rw_s K b q : Int)), some (ji (rw_c K b q : Int)), some (ji 0)] [] N = some (none, N') ∧ jFr s7790 N0 N' ∧ N' 77 5 = (K : Int) - 1 ∧ pv_enc N' (jv_it (rw_st (pv_meet M) K B) st (q * K ^ (n + 1)) (K ^ (n + 1))) ∧ ∀ a, a < b → N' 90 a = (rw_d K b q a : Int) := by
      have := loop K 0 N st (by omega) hN h5 hst hd
      rw [show (K * q + 0) * K ^ n = q * K ^ (n + 1) by rw [Nat.add_zero, Nat.pow_succ, Nat.mul_comm K q, Nat.mul_assoc, Nat.mul_comm K], show K * K ^ n = K ^ (n + 1) by rw [Nat.pow_succ, Nat.mul_comm]] at this
      exact this
    rw [show dd + 2 + (n + 1) = dd + 2 + n + 1 by omega, f_Clock_seekStartOf]
    have b1 := js_bands (dd + 1 + n) N
    rw [show dd + 1 + n + 1 = dd + 2 + n by omega] at b1
    cases st with
    | none =>
      rw [hst.1, if_pos rfl, b1, jz_bI, e4 N hN, if_pos (by omega), if_pos (by omega)]
      exact go
    | some x =>
      have hx : N 77 6 = (x.1 : Int) := hst.1
      rw [hx, if_neg (by omega)]
      by_cases w : rw_s K b q < x.1
      · rw [if_pos (by omega), b1, jz_bI, e4 N hN, if_pos (by omega), if_pos (by omega)]
        exact go
      · have cut : jv_it (rw_st (pv_meet M) K B) (some x) (q * K ^ (n + 1)) (K ^ (n + 1)) = some x := by
          rw [← e]
          exact rw_cut1 hK (fun z => w (z x rfl))
        rw [if_neg (by omega), cut]
        exact ⟨N, rfl, hN, h5, hst, hd⟩
