/-! clashes: all pairs -/
noncomputable abbrev pv_cx (M : ja_M) (a b : Nat) : Int := pv_cl (pv_C (M 11 3).toNat (M 11 6) (aX M a) (aX M b) (oX M a) (oX M b))
theorem pv_cx_sy (M : ja_M) (a b : Nat) : pv_cx M a b = pv_cx M b a := pv_cl_congr (fun v => pv_C_sy v)
noncomputable def pv_cn (M : ja_M) (a b : Nat) : Int := @ite Int (pv_cx M a b = -1) (Classical.propDecidable _) 0 1
theorem pv_cn_b (M : ja_M) (a b : Nat) : 0 ≤ pv_cn M a b ∧ pv_cn M a b ≤ 1 := by
  unfold pv_cn
  split <;> omega
/-- -1, or a minute -/
theorem pv_cx_b {M : ja_M} (hH : jH M) (hO : jO M) {a b : Nat} (ha : (a : Int) < M 11 4) : pv_cx M a b = -1 ∨ 0 ≤ pv_cx M a b := by
  have hb0 := hH.b
  have h0 : ∀ v, pv_C (M 11 3).toNat (M 11 6) (aX M a) (aX M b) (oX M a) (oX M b) v → 0 ≤ v := pv_C_0 (fun t ht => (pv_arr_b hH (hO.v ha) (hO.2.2 a ha).2 (hH.2.2.2 a ha).2 (t := t) (by omega)).1)
  unfold pv_cx pv_cl
  by_cases h : ∃ r, pv_isMin (pv_C (M 11 3).toNat (M 11 6) (aX M a) (aX M b) (oX M a) (oX M b)) r
  · rw [dif_pos h]
    rcases h.choose_spec with ⟨x, -⟩ | ⟨x, -⟩
    · exact Or.inl x
    · exact Or.inr (h0 _ x)
  · rw [dif_neg h]
    exact Or.inl rfl
theorem js_clashingPairs (dd : Nat) {M : ja_M} (hH : jH M) (hO : jO M) : ∃ N, ja_x true (dd + 6) 126 [jr 77] M = some (some (ji (jv_sum (fun a => jv_sum (fun k => pv_cn M a (a + 1 + k)) ((M 11 4).toNat - 1 - a)) (M 11 4).toNat)), N) ∧ jFr sC M N := by
  have hb0 := hH.b
  obtain ⟨B, hB⟩ : ∃ B : Nat, M 11 4 = (B : Int) := ⟨(M 11 4).toNat, by omega⟩
  have eB : (M 11 4).toNat = B := by omega
  obtain ⟨N, h1, hf, hc⟩ := js_look dd hH hO
  refine ⟨N, ?_, hf⟩
  have e4 : N 11 4 = (B : Int) := (hf.kC 11 4 rfl).trans hB
  rw [eB, f_Clock_clashingPairs, h1, jz_bV]
  have hs : ∀ a n, n ≤ 6 → 0 ≤ jv_sum (fun k => pv_cn M a (a + 1 + k)) n ∧ jv_sum (fun k => pv_cn M a (a + 1 + k)) n ≤ 6 := fun a n hn => by
    have := jv_sum_b (f := fun k => pv_cn M a (a + 1 + k)) (c := 1) n (fun t _ => pv_cn_b M a _)
    omega
  have hs2 : ∀ n, n ≤ 6 → 0 ≤ jv_sum (fun a => jv_sum (fun k => pv_cn M a (a + 1 + k)) (B - 1 - a)) n ∧ jv_sum (fun a => jv_sum (fun k => pv_cn M a (a + 1 + k)) (B - 1 - a)) n ≤ 36 := fun n hn => by
    have := jv_sum_b (f := fun a => jv_sum (fun k => pv_cn M a (a + 1 + k)) (B - 1 - a)) (c := 6) n (fun t _ => hs t _ (by omega))
    omega
  have inner : ∀ (a : Nat) (acc : Int), a < B → 0 ≤ acc ∧ acc ≤ 100 → ja_D true (ja_x true (dd + 5)) k_Clock_clashingPairs 15 [some (jr 77), some (ji acc), some (ji (a : Int)), some (ji ((a : Int) + 1))] [] N = ja_D true (ja_x true (dd + 5)) k_Clock_clashingPairs 6 [some (jr 77), some (ji (acc + jv_sum (fun k => pv_cn M a (a + 1 + k)) (B - 1 - a))), some (ji ((a : Int) + 1)), none] [] N := by
    intro a acc ha hacc
    have w := jz_loop (F := fun v k => ja_D true (ja_x true (dd + 5)) k_Clock_clashingPairs 15 [some (jr 77), some (ji v), some (ji (a : Int)), some (ji ((a : Int) + 1 + k))] [] N) (N := fun n => acc + jv_sum (fun k => pv_cn M a (a + 1 + k)) n) (n := B - 1 - a) (B - 1 - a) 0 (by omega) (fun k _ hk => by
      show ja_D true (ja_x true (dd + 5)) k_Clock_clashingPairs 15 _ [] N = _
      have := hs a k (by omega)
      have hcl := js_clashOf (dd + 3) (a := a) (b := a + 1 + k) hH hO hf hc (by omega) (by omega)
      rw [show ((a + 1 + k : Nat) : Int) = (a : Int) + 1 + (k : Int) by omega] at hcl
      rw [e_Clock_clashingPairs_15, js_bands, jz_bI, e4, if_pos (by omega), hcl, jz_bI, ja_w_id (x := (a : Int) + 1 + (k : Int) + 1) (by omega) (by omega), ja_w_id (by omega) (by omega)]
      show _ = ja_D true (ja_x true (dd + 5)) k_Clock_clashingPairs 15 [_, some (ji (acc + (jv_sum (fun k => pv_cn M a (a + 1 + k)) k + pv_cn M a (a + 1 + k)))), _, some (ji ((a : Int) + 1 + ((k : Int) + 1)))] [] N
      rw [← Int.add_assoc acc, ← Int.add_assoc ((a : Int) + 1)]
      by_cases q : pv_cx M a (a + 1 + k) = -1
      · rw [if_pos q, show pv_cn M a (a + 1 + k) = 0 from if_pos q, Int.add_zero]
      · rw [if_neg q, show pv_cn M a (a + 1 + k) = 1 from if_neg q])
    have w : ja_D true (ja_x true (dd + 5)) k_Clock_clashingPairs 15 [some (jr 77), some (ji (acc + 0)), some (ji (a : Int)), some (ji ((a : Int) + 1 + 0))] [] N = ja_D true (ja_x true (dd + 5)) k_Clock_clashingPairs 15 [some (jr 77), some (ji (acc + jv_sum (fun k => pv_cn M a (a + 1 + k)) (B - 1 - a))), some (ji (a : Int)), some (ji ((a : Int) + 1 + ((B - 1 - a : Nat) : Int)))] [] N := w
    rw [Int.add_zero, Int.add_zero] at w
    rw [w, e_Clock_clashingPairs_15, js_bands, jz_bI, e4, if_neg (by omega), ja_w_id (by omega) (by omega)]
  have w := jz_loop (F := fun v k => ja_D true (ja_x true (dd + 5)) k_Clock_clashingPairs 6 [some (jr 77), some (ji v), some (ji k), none] [] N) (N := fun n => jv_sum (fun a => jv_sum (fun k => pv_cn M a (a + 1 + k)) (B - 1 - a)) n) (n := B) B 0 (by omega) (fun k _ hk => by
    show ja_D true (ja_x true (dd + 5)) k_Clock_clashingPairs 6 _ [] N = _
    have := hs2 k (by omega)
    rw [e_Clock_clashingPairs_6, js_bands, jz_bI, e4, if_pos (by omega), ja_w_id (by omega) (by omega), inner k _ hk (by omega)]
    rfl)
  have w : ja_D true (ja_x true (dd + 5)) k_Clock_clashingPairs 6 [some (jr 77), some (ji 0), some (ji 0), none] [] N = ja_D true (ja_x true (dd + 5)) k_Clock_clashingPairs 6 [some (jr 77), some (ji (jv_sum (fun a => jv_sum (fun k => pv_cn M a (a + 1 + k)) (B - 1 - a)) B)), some (ji (B : Int)), none] [] N := w
  rw [w, e_Clock_clashingPairs_6, js_bands, jz_bI, e4, if_neg (by omega)]
/-- the first minute of all pairs -/
def pv_F (M : ja_M) (B : Nat) (v : Int) : Prop := ∃ a b, (a < b ∧ b < B) ∧ v = pv_cx M a b ∧ v ≠ -1
theorem js_firstClash (dd : Nat) {M : ja_M} (hH : jH M) (hO : jO M) : ∃ N, ja_x true (dd + 6) 129 [jr 77] M = some (some (ji (pv_cl (pv_F M (M 11 4).toNat))), N) ∧ jFr sC M N := by
  have hb0 := hH.b
  obtain ⟨B, hB⟩ : ∃ B : Nat, M 11 4 = (B : Int) := ⟨(M 11 4).toNat, by omega⟩
  have eB : (M 11 4).toNat = B := by omega
  obtain ⟨N, h1, hf, hc⟩ := js_look dd hH hO
  refine ⟨N, ?_, hf⟩
  have e4 : N 11 4 = (B : Int) := (hf.kC 11 4 rfl).trans hB
  rw [eB, f_Clock_firstClash, h1, jz_bV]
  let C : Nat → Nat → Int → Prop := fun a b v => ∃ a' b', (a' < a ∨ (a' = a ∧ b' < b)) ∧ (a' < b' ∧ b' < B) ∧ v = pv_cx M a' b' ∧ v ≠ -1
  have hC0 : ∀ a b v, C a b v → 0 ≤ v := fun a b v ⟨a', b', _, h2, h3, h4⟩ => by
    have := pv_cx_b hH hO (a := a') (b := b') (by omega)
    omega
  have inner : ∀ (m b a : Nat) (r : Int), b + m = B → a < b → a < B → pv_isMin (C a b) r → ∃ r', pv_isMin (C (a + 1) 0) r' ∧ ja_D true (ja_x true (dd + 5)) k_Clock_firstClash 15 [some (jr 77), some (ji r), some (ji (a : Int)), some (ji (b : Int)), none] [] N = ja_D true (ja_x true (dd + 5)) k_Clock_firstClash 6 [some (jr 77), some (ji r'), some (ji ((a : Int) + 1)), none, none] [] N := by
    intro m
    induction m with
    | zero =>
      intro b a r e hab ha h
      refine ⟨r, pv_isMin_c h (fun v => ?_), ?_⟩
      · constructor
        · rintro ⟨a', b', h1, h2, h3⟩
          exact ⟨a', b', by omega, h2, h3⟩
        · rintro ⟨a', b', h1, h2, h3⟩
          exact ⟨a', b', by omega, h2, h3⟩
      · rw [e_Clock_firstClash_15, js_bands, jz_bI, e4, if_neg (by omega), ja_w_id (by omega) (by omega)]
    | succ m ih =>
      intro b a r e hab ha h
      have hcl := js_clashOf (dd + 3) (a := a) (b := b) hH hO hf hc (by omega) (by omega)
      have hxb := pv_cx_b hH hO (a := a) (b := b) (by omega)
      by_cases q : pv_cx M a b = -1
      · obtain ⟨r', g1, g2⟩ := ih (b + 1) a r (by omega) (by omega) ha (pv_isMin_c h (fun v => by
          constructor
          · rintro ⟨a', b', h1, h2, h3⟩
            by_cases z : a' = a ∧ b' = b
            · obtain ⟨rfl, rfl⟩ := z
              exact absurd (h3.1.trans q) h3.2
            · exact ⟨a', b', by omega, h2, h3⟩
          · rintro ⟨a', b', h1, h2, h3⟩
            exact ⟨a', b', by omega, h2, h3⟩))
        refine ⟨r', g1, ?_⟩
        rw [show ((b + 1 : Nat) : Int) = (b : Int) + 1 by omega] at g2
        rw [e_Clock_firstClash_15, js_bands, jz_bI, e4, if_pos (by omega), hcl, jz_bI, if_pos q, ja_w_id (by omega) (by omega)]
        exact g2
      · obtain ⟨r', g1, g2⟩ := ih (b + 1) a (if r = -1 then pv_cx M a b else if pv_cx M a b < r then pv_cx M a b else r) (by omega) (by omega) ha (pv_isMin_s (hC0 a b) (by omega) h (fun v => by
          constructor
          · rintro ⟨a', b', h1, h2, h3⟩
            by_cases z : a' = a ∧ b' = b
            · obtain ⟨rfl, rfl⟩ := z
              exact Or.inr h3.1
            · exact Or.inl ⟨a', b', by omega, h2, h3⟩
          · rintro (⟨a', b', h1, h2, h3⟩ | h)
            · exact ⟨a', b', by omega, h2, h3⟩
            · exact ⟨a, b, by omega, ⟨hab, by omega⟩, h, by rw [h]; exact q⟩))
        refine ⟨r', g1, ?_⟩
        rw [show ((b + 1 : Nat) : Int) = (b : Int) + 1 by omega] at g2
        rw [e_Clock_firstClash_15, js_bands, jz_bI, e4, if_pos (by omega), hcl, jz_bI, if_neg q, ja_w_id (by omega) (by omega), ← g2]
        by_cases q2 : r = -1
        · rw [if_pos q2, if_pos q2]
        · rw [if_neg q2, if_neg q2]
          by_cases q3 : pv_cx M a b < r
          · rw [if_pos q3, if_pos q3]
          · rw [if_neg q3, if_neg q3]
  have outer : ∀ (m a : Nat) (r : Int), a + m = B → pv_isMin (C a 0) r → ∃ r', pv_isMin (C B 0) r' ∧ ja_D true (ja_x true (dd + 5)) k_Clock_firstClash 6 [some (jr 77), some (ji r), some (ji (a : Int)), none, none] [] N = some (some (ji r'), N) := by
    intro m
    induction m with
    | zero =>
      intro a r e h
      have : a = B := by omega
      subst this
      refine ⟨r, h, ?_⟩
      rw [e_Clock_firstClash_6, js_bands, jz_bI, e4, if_neg (by omega)]
    | succ m ih =>
      intro a r e h
      obtain ⟨r1, g1, g2⟩ := inner (B - (a + 1)) (a + 1) a r (by omega) (by omega) (by omega) (pv_isMin_c h (fun v => by
        constructor
        · rintro ⟨a', b', h1, h2, h3⟩
          exact ⟨a', b', by omega, h2, h3⟩
        · rintro ⟨a', b', h1, h2, h3⟩
          exact ⟨a', b', by omega, h2, h3⟩))
      obtain ⟨r', k1, k2⟩ := ih (a + 1) r1 (by omega) g1
      refine ⟨r', k1, ?_⟩
      rw [show ((a + 1 : Nat) : Int) = (a : Int) + 1 by omega] at k2 g2
      rw [e_Clock_firstClash_6, js_bands, jz_bI, e4, if_pos (by omega), ja_w_id (by omega) (by omega), g2, k2]
  obtain ⟨r, hr, e⟩ := outer B 0 (-1) (by omega) (Or.inl ⟨rfl, fun v ⟨t', u', h1, _⟩ => by omega⟩)
  have e : ja_D true (ja_x true (dd + 5)) k_Clock_firstClash 6 [some (jr 77), some (ji (-1)), some (ji 0), none, none] [] N = some (some (ji r), N) := e
  rw [e, pv_cl_eq (C := pv_F M B) (r := r) (fun v ⟨a', b', h2, h3, h4⟩ => by
    have := pv_cx_b hH hO (a := a') (b := b') (by omega)
    omega) (pv_isMin_c hr (fun v => by
    constructor
    · rintro ⟨a', b', h1, h2⟩
      exact ⟨a', b', by omega, h1, h2⟩
    · rintro ⟨a', b', -, h1, h2⟩
      exact ⟨a', b', h1, h2⟩))]
/-- what the reference's bands do, seen by its own rows -/
noncomputable abbrev pv_cr (M : ja_M) (a b : Nat) : Int := pv_cl (pv_C (M 11 3).toNat (M 11 6) (aR M a) (aR M b) (oR M a) (oR M b))
theorem jO.cl {M : ja_M} (hH : jH M) (h : jO M) {a b : Nat} (ha : (a : Int) < M 11 4) (hb : (b : Int) < M 11 4) : pv_cr M a b = pv_cx M a b := pv_cl_congr (fun v => by
  have hb0 := hH.b
  constructor
  · rintro ⟨t, u, ⟨h1, h2⟩, h3, h4, h5⟩
    rw [h.eq (by omega) (by omega), h.eq (by omega) (by omega)] at h3
    rw [h.arr hH ha (by omega), h.arr hH hb (by omega)] at h4 h5
    exact ⟨t, u, ⟨h1, h2⟩, h3, h4, h5⟩
  · rintro ⟨t, u, ⟨h1, h2⟩, h3, h4, h5⟩
    rw [← h.eq (by omega) (by omega), ← h.eq (by omega) (by omega)] at h3
    rw [← h.arr hH ha (by omega), ← h.arr hH hb (by omega)] at h4 h5
    exact ⟨t, u, ⟨h1, h2⟩, h3, h4, h5⟩)
/-- the reference's clashes, whatever its rows are -/
theorem js_R_clashes (dd : Nat) {w : Int} {M : ja_M} (hH : jH M) (h0 : M 11 4 ≠ 0) (hw : 0 ≤ w ∧ w ≤ 1) (hv : ∀ b : Nat, (b : Int) < M 11 4 → ∀ u : Nat, (u : Int) < M 11 3 → 0 ≤ oR M b u ∧ oR M b u < M 11 3) (hs : ∀ b : Nat, (b : Int) < M 11 4 → 0 ≤ M 155 b ∧ M 155 b ≤ 99) : ∃ n r, ja_x true (dd + 5) 276 [jr 137, ji w] M = some (some (ji (if w = 0 then n else r)), M) ∧ n = jv_sum (fun a => jv_sum (fun b => @ite Int (pv_cr M a b = -1) (Classical.propDecidable _) 0 1) a) (M 11 4).toNat ∧ pv_isMin (fun v => ∃ a b, (b < a ∧ a < (M 11 4).toNat) ∧ v = pv_cr M a b ∧ v ≠ -1) r := by
  have hb0 := hH.b
  obtain ⟨B, hB⟩ : ∃ B : Nat, M 11 4 = (B : Int) := ⟨(M 11 4).toNat, by omega⟩
  have eB : (M 11 4).toNat = B := by omega
  have hcb : ∀ a b : Nat, a < B → b < B → pv_cr M a b = -1 ∨ 0 ≤ pv_cr M a b := fun a b ha hb => by
    have hz : ∀ v, pv_C (M 11 3).toNat (M 11 6) (aR M a) (aR M b) (oR M a) (oR M b) v → 0 ≤ v := pv_C_0 (fun t ht => (pv_arr_b hH (hv a (by omega)) (hs a (by omega)) (hH.2.2.2 a (by omega)).2 (t := t) (by omega)).1)
    unfold pv_cr pv_cl
    by_cases h : ∃ r, pv_isMin (pv_C (M 11 3).toNat (M 11 6) (aR M a) (aR M b) (oR M a) (oR M b)) r
    · rw [dif_pos h]
      rcases h.choose_spec with ⟨x, -⟩ | ⟨x, -⟩
      · exact Or.inl x
      · exact Or.inr (hz _ x)
    · rw [dif_neg h]
      exact Or.inl rfl
  rw [eB, f_R_clashes, hH.2.1.2.1, if_neg h0, js_in, jz_bI, jz_b0, if_pos hw]
  let C : Nat → Nat → Int → Prop := fun a b v => ∃ a' b', (a' < a ∨ (a' = a ∧ b' < b)) ∧ (b' < a' ∧ a' < B) ∧ v = pv_cr M a' b' ∧ v ≠ -1
  have hC0 : ∀ a b v, C a b v → 0 ≤ v := fun a b v ⟨a', b', _, h2, h3, h4⟩ => by
    have := hcb a' b' (by omega) (by omega)
    omega
  let g : Nat → Nat → Int := fun a b => @ite Int (pv_cr M a b = -1) (Classical.propDecidable _) 0 1
  have hg : ∀ a b, 0 ≤ g a b ∧ g a b ≤ 1 := fun a b => by
    show 0 ≤ @ite Int (pv_cr M a b = -1) (Classical.propDecidable _) 0 1 ∧ @ite Int (pv_cr M a b = -1) (Classical.propDecidable _) 0 1 ≤ 1
    split <;> omega
  have hgs : ∀ a n, n ≤ 6 → 0 ≤ jv_sum (fun b => g a b) n ∧ jv_sum (fun b => g a b) n ≤ 6 := fun a n hn => by
    have := jv_sum_b (f := fun b => g a b) (c := 1) n (fun t _ => hg a t)
    omega
  have hgs2 : ∀ n, n ≤ 6 → 0 ≤ jv_sum (fun a => jv_sum (fun b => g a b) a) n ∧ jv_sum (fun a => jv_sum (fun b => g a b) a) n ≤ 36 := fun n hn => by
    have := jv_sum_b (f := fun a => jv_sum (fun b => g a b) a) (c := 6) n (fun t _ => hgs t t (by omega))
    omega
  have inner : ∀ (m b a : Nat) (r n : Int), b + m = a → a < B → (0 ≤ n ∧ n ≤ 100) → pv_isMin (C a b) r → ∃ r', pv_isMin (C (a + 1) 0) r' ∧ ja_D true (ja_x true (dd + 4)) k_R_clashes 22 [some (jr 137), some (ji w), some (ji (n + jv_sum (fun b => g a b) b)), some (ji r), some (ji (a : Int)), some (ji (b : Int)), none] [] M = ja_D true (ja_x true (dd + 4)) k_R_clashes 16 [some (jr 137), some (ji w), some (ji (n + jv_sum (fun b => g a b) a)), some (ji r'), some (ji ((a : Int) + 1)), none, none] [] M := by
    intro m
    induction m with
    | zero =>
      intro b a r n e ha hn h
      have : b = a := by omega
      subst this
      refine ⟨r, pv_isMin_c h (fun v => ?_), ?_⟩
      · constructor
        · rintro ⟨a', b', h1, h2, h3⟩
          exact ⟨a', b', by omega, h2, h3⟩
        · rintro ⟨a', b', h1, h2, h3⟩
          exact ⟨a', b', by omega, h2, h3⟩
      · rw [e_R_clashes_22, if_neg (by omega), ja_w_id (by omega) (by omega)]
    | succ m ih =>
      intro b a r n e ha hn h
      have hcl := js_R_clashOf dd (a := a) (b := b) hH (by omega) (by omega) (hv a (by omega)) (hs a (by omega)) (hv b (by omega)) (hs b (by omega))
      have hxb := hcb a b ha (by omega)
      have hsb := hgs a b (by omega)
      have es : jv_sum (fun b => g a b) (b + 1) = jv_sum (fun b => g a b) b + g a b := rfl
      by_cases q : pv_cr M a b = -1
      · have eg : g a b = 0 := if_pos q
        obtain ⟨r', g1, g2⟩ := ih (b + 1) a r n (by omega) ha hn (pv_isMin_c h (fun v => by
          constructor
          · rintro ⟨a', b', h1, h2, h3⟩
            by_cases z : a' = a ∧ b' = b
            · obtain ⟨rfl, rfl⟩ := z
              exact absurd (h3.1.trans q) h3.2
            · exact ⟨a', b', by omega, h2, h3⟩
          · rintro ⟨a', b', h1, h2, h3⟩
            exact ⟨a', b', by omega, h2, h3⟩))
        refine ⟨r', g1, ?_⟩
        rw [show ((b + 1 : Nat) : Int) = (b : Int) + 1 by omega, es, eg, Int.add_zero] at g2
        rw [e_R_clashes_22, if_pos (by omega), hcl, jz_bI, if_pos q, if_pos q, Int.add_zero, ja_w_id (x := n + _) (by omega) (by omega), ja_w_id (by omega) (by omega)]
        exact g2
      · have eg : g a b = 1 := if_neg q
        obtain ⟨r', g1, g2⟩ := ih (b + 1) a (if r = -1 then pv_cr M a b else if pv_cr M a b < r then pv_cr M a b else r) n (by omega) ha hn (pv_isMin_s (hC0 a b) (by omega) h (fun v => by
          constructor
          · rintro ⟨a', b', h1, h2, h3⟩
            by_cases z : a' = a ∧ b' = b
            · obtain ⟨rfl, rfl⟩ := z
              exact Or.inr h3.1
            · exact Or.inl ⟨a', b', by omega, h2, h3⟩
          · rintro (⟨a', b', h1, h2, h3⟩ | h)
            · exact ⟨a', b', by omega, h2, h3⟩
            · exact ⟨a, b, by omega, ⟨by omega, by omega⟩, h, by rw [h]; exact q⟩))
        refine ⟨r', g1, ?_⟩
        rw [show ((b + 1 : Nat) : Int) = (b : Int) + 1 by omega, es, eg, ← Int.add_assoc] at g2
        rw [e_R_clashes_22, if_pos (by omega), hcl, jz_bI, if_neg q, if_neg q, ja_w_id (x := n + _ + 1) (by omega) (by omega), ja_w_id (by omega) (by omega), ← g2]
        by_cases q2 : r = -1
        · rw [if_pos q2, if_pos q2]
        · rw [if_neg q2, if_neg q2]
          by_cases q3 : pv_cr M a b < r
          · rw [if_pos q3, if_pos q3]
          · rw [if_neg q3, if_neg q3]
  have outer : ∀ (m a : Nat) (r : Int), a + m = B → pv_isMin (C a 0) r → ∃ r', pv_isMin (C B 0) r' ∧ ja_D true (ja_x true (dd + 4)) k_R_clashes 16 [some (jr 137), some (ji w), some (ji (jv_sum (fun a => jv_sum (fun b => g a b) a) a)), some (ji r), some (ji (a : Int)), none, none] [] M = some (some (ji (if w = 0 then jv_sum (fun a => jv_sum (fun b => g a b) a) B else r')), M) := by
    intro m
    induction m with
    | zero =>
      intro a r e h
      have : a = B := by omega
      subst this
      refine ⟨r, h, ?_⟩
      rw [e_R_clashes_16, hH.2.1.2.1, hB, if_neg (by omega)]
      by_cases q : w = 0
      · rw [if_pos q, if_pos q]
      · rw [if_neg q, if_neg q]
    | succ m ih =>
      intro a r e h
      have hsa := hgs2 a (by omega)
      obtain ⟨r1, g1, g2⟩ := inner a 0 a r (jv_sum (fun a => jv_sum (fun b => g a b) a) a) (by omega) (by omega) (by omega) h
      obtain ⟨r', k1, k2⟩ := ih (a + 1) r1 (by omega) g1
      refine ⟨r', k1, ?_⟩
      rw [show ((a + 1 : Nat) : Int) = (a : Int) + 1 by omega] at k2
      have g2 : ja_D true (ja_x true (dd + 4)) k_R_clashes 22 [some (jr 137), some (ji w), some (ji (jv_sum (fun a => jv_sum (fun b => g a b) a) a + 0)), some (ji r), some (ji (a : Int)), some (ji 0), none] [] M = ja_D true (ja_x true (dd + 4)) k_R_clashes 16 [some (jr 137), some (ji w), some (ji (jv_sum (fun a => jv_sum (fun b => g a b) a) (a + 1))), some (ji r1), some (ji ((a : Int) + 1)), none, none] [] M := g2
      rw [Int.add_zero] at g2
      rw [e_R_clashes_16, hH.2.1.2.1, if_pos (by omega), g2, k2]
  obtain ⟨r, hr, e⟩ := outer B 0 (-1) (by omega) (Or.inl ⟨rfl, fun v ⟨t', u', h1, _⟩ => by omega⟩)
  refine ⟨_, r, e, rfl, pv_isMin_c hr (fun v => ?_)⟩
  constructor
  · rintro ⟨a', b', h1, h2⟩
    exact ⟨a', b', by omega, h1, h2⟩
  · rintro ⟨a', b', -, h1, h2⟩
    exact ⟨a', b', h1, h2⟩
theorem jy_p21 : jy_o21 := by
  intro w _
  refine jOp.read (fun M hJ => ?_)
  obtain ⟨⟨hT, hH, hO⟩, -⟩ := hJ
  have hb := hH.b
  have hX := f_X_clashes 1999 w M
  rw [js_isTold 1998, jz_bI, jz_b0] at hX
  by_cases h0 : 0 < M 11 3
  · rw [if_pos h0] at hX
    by_cases h1 : 0 ≤ w ∧ w ≤ 1
    · rw [if_neg (by omega), if_neg (by omega)] at hX
      have core : ∀ (N : ja_M) (v : Int), jy_E 125 [jr 1, ji w] M = some (some (ji v), N) → jFr sC M N → (∀ n r, n = jv_sum (fun a => jv_sum (fun b => pv_cn M b a) a) (M 11 4).toNat → r = pv_cl (pv_F M (M 11 4).toNat) → v = if w = 0 then n else r) → ∃ v M1, jy_E 125 [jr 1, ji w] M = some (some (ji v), M1) ∧ jK M M1 ∧ (∀ i, M1 0 i = M 0 i) ∧ ∃ M2, jy_E 276 [jr 137, ji w] M1 = some (some (ji v), M2) ∧ jK M1 M2 ∧ (∀ i, M2 0 i = M1 0 i) := by
        intro N v hv hf hval
        have K := hf.kC
        have hHN : jH N := hH.kp (K.of jk_H)
        have hON : jO N := hO.kp hH (K.of jk_O)
        obtain ⟨n, r, g1, g2, g3⟩ := js_R_clashes 1995 (w := w) hHN (by rw [K 11 4 rfl]; omega) h1 (fun b hb4 => hON.vR hb4) (fun b hb4 => hON.sR hb4)
        refine ⟨v, N, hv, K, fun i => hf 0 i (by show ¬ (79 ≤ 0 ∧ 0 ≤ 84); omega), N, ?_, jKs.rf N, fun _ => rfl⟩
        have ecl : ∀ a b : Nat, a < (M 11 4).toNat → b < (M 11 4).toNat → pv_cr N a b = pv_cx M a b := fun a b ha hb4 => by
          rw [hON.cl hHN (by rw [K 11 4 rfl]; omega) (by rw [K 11 4 rfl]; omega)]
          have er : ∀ b t, b < 6 → oX N b t = oX M b t := fun b t hb6 => K (26 + b) t (jk_O _ _ (jk_26 b hb6 t))
          have ea : ∀ b, b < 6 → aX N b = aX M b := fun b hb6 => by
            funext t
            show pv_arr (N 12) (N 13) (N 32 b) (N 14 b) (N 11 6) (oX N b) t = _
            rw [show N 12 = M 12 from funext (fun i => K 12 i rfl), show N 13 = M 13 from funext (fun i => K 13 i rfl), K 32 b rfl, K 14 b rfl, K 11 6 rfl, show oX N b = oX M b from funext (fun t => er b t hb6)]
          show pv_cl (pv_C (N 11 3).toNat (N 11 6) (aX N a) (aX N b) (oX N a) (oX N b)) = _
          rw [K 11 3 rfl, K 11 6 rfl, ea a (by omega), ea b (by omega), show oX N a = oX M a from funext (fun t => er a t (by omega)), show oX N b = oX M b from funext (fun t => er b t (by omega))]
        rw [K 11 4 rfl] at g2 g3
        have hn : n = jv_sum (fun a => jv_sum (fun b => pv_cn M b a) a) (M 11 4).toNat := by
          rw [g2]
          refine jv_sum_congr _ (fun a ha => jv_sum_congr a (fun b hb4 => ?_))
          rw [ecl a b ha (by omega)]
          unfold pv_cn
          rw [pv_cx_sy M b a]
        have hr : r = pv_cl (pv_F M (M 11 4).toNat) := (pv_cl_eq (C := pv_F M (M 11 4).toNat) (fun v ⟨a', b', h2, h3, h4⟩ => by
          have := pv_cx_b hH hO (a := a') (b := b') (by omega)
          omega) (pv_isMin_c g3 (fun v => by
          constructor
          · rintro ⟨a, b, h2, h3, h4⟩
            exact ⟨b, a, h2, by rw [ecl b a (by omega) (by omega), pv_cx_sy]; exact h3, h4⟩
          · rintro ⟨a, b, h2, h3, h4⟩
            exact ⟨b, a, h2, by rw [ecl a b (by omega) (by omega), pv_cx_sy] at h3; exact h3, h4⟩))).symm
        rw [hval n r hn hr]
        exact g1
      by_cases w0 : w = 0
      · obtain ⟨N, g1, g2⟩ := js_clashingPairs 1993 hH hO
        rw [if_pos w0, g1, jz_bI, jv_sum_tri] at hX
        exact core N _ hX g2 (fun n r hn _ => by rw [if_pos w0, hn])
      · obtain ⟨N, g1, g2⟩ := js_firstClash 1993 hH hO
        rw [if_neg w0, g1, jz_bI] at hX
        exact core N _ hX g2 (fun n r _ hr => by rw [if_neg w0, hr])
    · have hX2 : jy_E 125 [jr 1, ji w] M = some (some (ji (-1000000)), M) := by
        refine hX.trans ?_
        by_cases q : w < 0
        · rw [if_pos q]
        · rw [if_neg q, if_pos (by omega)]
      have hR := f_R_clashes 1999 w M
      rw [hH.2.1.2.1, if_neg (by omega), js_in 1998, jz_bI, jz_b0, if_neg h1] at hR
      exact ⟨_, M, hX2, jKs.rf M, fun _ => rfl, M, hR, jKs.rf M, fun _ => rfl⟩
  · rw [if_neg h0] at hX
    have hR := f_R_clashes 1999 w M
    rw [hH.2.1.2.1, if_pos (by omega)] at hR
    exact ⟨_, M, hX, jKs.rf M, fun _ => rfl, M, hR, jKs.rf M, fun _ => rfl⟩
