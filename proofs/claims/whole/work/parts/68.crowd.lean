/-! crowd, well -/
theorem pv_more_congr {P B : Nat} {o o' : Nat → Nat → Int} (h : ∀ b t, b < B → t < P → o b t = o' b t) {t p : Nat} (ht : t < P) : pv_more B o t p = pv_more B o' t p := by
  unfold pv_more
  rw [jv_cnt_congr (q := fun b => decide (o' b t = (p : Int))) B (fun b hb => by rw [h b t hb ht])]
theorem pv_at_congr {P B : Nat} {o o' : Nat → Nat → Int} (h : ∀ b t, b < B → t < P → o b t = o' b t) {t : Nat} {p : Int} (ht : t < P) : pv_at B o t p = pv_at B o' t p := jv_set_congr B (fun b hb => by rw [h b t hb ht])
theorem jy_p13 : jy_o13 := by
  intro a _
  refine jOp.pure (fun M hJ => ?_)
  obtain ⟨⟨hT, hH, hO⟩, -⟩ := hJ
  have hb := hH.b
  obtain ⟨P, hP⟩ : ∃ P : Nat, M 11 3 = (P : Int) := ⟨(M 11 3).toNat, by omega⟩
  have eP : (M 11 3).toNat = P := by omega
  have hX := f_X_crowd 1999 a M
  have hR := f_R_crowd 1999 a M
  rw [js_in 1998, jz_bI, jz_b0] at hR
  by_cases h0 : 0 ≤ a ∧ a ≤ 2
  · rw [if_neg (by omega), if_neg (by omega), js_fmt 1994 hH, jz_bI, eP] at hX
    rw [if_pos h0] at hR
    have heq : ∀ b t, b < (M 11 4).toNat → t < P → oR M b t = oX M b t := fun b t x y => hO.eq x (by omega)
    have inner : ∀ t, t < P → ja_D true (ja_x true 1999) k_R_crowd 15 [some (jr 137), some (ji a), some (ji (t : Int)), some (ji 0)] [] M = match jv_fst (pv_more (M 11 4).toNat (oX M) t) P with
        | some p => some (some (ji (if a = 0 then (t : Int) else if a = 1 then (p : Int) else (pv_at (M 11 4).toNat (oX M) t (p : Int) : Int))), M)
        | none => ja_D true (ja_x true 1999) k_R_crowd 9 [some (jr 137), some (ji a), some (ji ((t : Int) + 1)), none] [] M := by
      intro t ht
      have w := jz_find (F := fun k => ja_D true (ja_x true 1999) k_R_crowd 15 [some (jr 137), some (ji a), some (ji (t : Int)), some (ji k)] [] M) (res := fun p => some (some (ji (if a = 0 then (t : Int) else if a = 1 then (p : Int) else (pv_at (M 11 4).toNat (oX M) t (p : Int) : Int))), M)) (p := pv_more (M 11 4).toNat (oX M) t) (n := P) P 0 (by omega) (fun k _ hk => by
        show ja_D true (ja_x true 1999) k_R_crowd 15 _ [] M = _
        have h64 := jv_set_64 (fun b => decide (oR M b t = (k : Int))) (n := (M 11 4).toNat) (by omega)
        rw [e_R_crowd_15, hH.2.1.1, if_pos (by omega), js_R_bandsAt 1997 hH (by omega), jz_bI, js_bitCount 1998 (show pv_at (M 11 4).toNat (oR M) t (k : Int) < 1024 by unfold pv_at; omega), jz_bI, ja_w_id (by omega) (by omega), js_R_bandsAt 1997 hH (by omega), jz_bI, pv_at_pop (by omega), ← pv_more_congr heq ht, pv_at_congr heq ht]
        unfold pv_more
        by_cases q : 1 < jv_cnt (fun b => decide (oR M b t = (k : Int))) (M 11 4).toNat
        · rw [if_pos q, if_pos (decide_eq_true q)]
          by_cases a0 : a = 0
          · rw [if_pos a0, if_pos a0]
          · rw [if_neg a0, if_neg a0]
            by_cases a1 : a = 1
            · rw [if_pos a1, if_pos a1]
            · rw [if_neg a1, if_neg a1]
        · rw [if_neg q, if_neg (by simp [q])])
      have w : ja_D true (ja_x true 1999) k_R_crowd 15 [some (jr 137), some (ji a), some (ji (t : Int)), some (ji 0)] [] M = match jv_fst (pv_more (M 11 4).toNat (oX M) t) P with
        | some p => some (some (ji (if a = 0 then (t : Int) else if a = 1 then (p : Int) else (pv_at (M 11 4).toNat (oX M) t (p : Int) : Int))), M)
        | none => ja_D true (ja_x true 1999) k_R_crowd 15 [some (jr 137), some (ji a), some (ji (t : Int)), some (ji (P : Int))] [] M := w
      rw [w]
      cases jv_fst (pv_more (M 11 4).toNat (oX M) t) P with
      | some p => rfl
      | none =>
        show ja_D true (ja_x true 1999) k_R_crowd 15 [some (jr 137), some (ji a), some (ji (t : Int)), some (ji (P : Int))] [] M = ja_D true (ja_x true 1999) k_R_crowd 9 [some (jr 137), some (ji a), some (ji ((t : Int) + 1)), none] [] M
        rw [e_R_crowd_15, hH.2.1.1, hP, if_neg (by omega), ja_w_id (by omega) (by omega)]
    have w := jz_find (F := fun k => ja_D true (ja_x true 1999) k_R_crowd 9 [some (jr 137), some (ji a), some (ji k), none] [] M) (res := fun t => match jv_fst (pv_more (M 11 4).toNat (oX M) t) P with
        | some p => some (some (ji (if a = 0 then (t : Int) else if a = 1 then (p : Int) else (pv_at (M 11 4).toNat (oX M) t (p : Int) : Int))), M)
        | none => none) (p := pv_crowded P (M 11 4).toNat (oX M)) (n := P) P 0 (by omega) (fun k _ hk => by
      show ja_D true (ja_x true 1999) k_R_crowd 9 _ [] M = _
      rw [e_R_crowd_9, hH.2.1.1, if_pos (by omega), inner k hk]
      unfold pv_crowded
      cases jv_fst (pv_more (M 11 4).toNat (oX M) k) P with
      | some p => rfl
      | none => rfl)
    have w : ja_D true (ja_x true 1999) k_R_crowd 9 [some (jr 137), some (ji a), some (ji 0), none] [] M = match jv_fst (pv_crowded P (M 11 4).toNat (oX M)) P with
      | some t => (match jv_fst (pv_more (M 11 4).toNat (oX M) t) P with
        | some p => some (some (ji (if a = 0 then (t : Int) else if a = 1 then (p : Int) else (pv_at (M 11 4).toNat (oX M) t (p : Int) : Int))), M)
        | none => none)
      | none => ja_D true (ja_x true 1999) k_R_crowd 9 [some (jr 137), some (ji a), some (ji (P : Int)), none] [] M := w
    rw [w] at hR
    cases ht : jv_fst (pv_crowded P (M 11 4).toNat (oX M)) P with
    | none =>
      rw [ht] at hX hR
      have hR : jy_E 258 [jr 137, ji a] M = ja_D true (ja_x true 1999) k_R_crowd 9 [some (jr 137), some (ji a), some (ji (P : Int)), none] [] M := hR
      rw [e_R_crowd_9, hH.2.1.1, hP, if_neg (by omega)] at hR
      exact ⟨-1, hX, hR⟩
    | some t =>
      rw [ht] at hX hR
      obtain ⟨h1, h2⟩ := jv_fst_some ht
      unfold pv_crowded at h2
      have hX : jy_E 97 [jr 1, ji a] M = if (t : Int) = -1 then some (some (ji (t : Int)), M) else if a = 0 then some (some (ji (t : Int)), M) else ja_bI (ja_x true 1999 94 [jr 24, ji (t : Int)] M) (fun x4 M3 => if a = 1 then some (some (ji x4), M3) else ja_bI (ja_x true 1999 95 [jr 24, ji (t : Int), ji x4] M3) (fun x6 M5 => some (some (ji x6), M5))) := hX
      rw [if_neg (by omega), js_fmp 1995 hH (by omega), jz_bI, eP] at hX
      cases hp : jv_fst (pv_more (M 11 4).toNat (oX M) t) P with
      | none =>
        rw [hp] at h2
        cases h2
      | some p =>
        rw [hp] at hX
        have hX : jy_E 97 [jr 1, ji a] M = if a = 0 then some (some (ji (t : Int)), M) else if a = 1 then some (some (ji (p : Int)), M) else ja_bI (ja_x true 1999 95 [jr 24, ji (t : Int), ji (p : Int)] M) (fun x6 M5 => some (some (ji x6), M5)) := hX
        rw [js_bandsAt 1996 hH (by omega), jz_bI] at hX
        have hR : jy_E 258 [jr 137, ji a] M = (match jv_fst (pv_more (M 11 4).toNat (oX M) t) P with
          | some p => some (some (ji (if a = 0 then (t : Int) else if a = 1 then (p : Int) else (pv_at (M 11 4).toNat (oX M) t (p : Int) : Int))), M)
          | none => none) := hR
        rw [hp] at hR
        refine ⟨_, ?_, hR⟩
        rw [hX]
        by_cases a0 : a = 0
        · rw [if_pos a0, if_pos a0]
        · rw [if_neg a0, if_neg a0]
          by_cases a1 : a = 1
          · rw [if_pos a1, if_pos a1]
          · rw [if_neg a1, if_neg a1]
  · rw [if_neg h0] at hR
    refine ⟨-1, hX.trans ?_, hR⟩
    by_cases q : a < 0
    · rw [if_pos q]
    · rw [if_neg q, if_pos (by omega)]
/-! well -/
/-- who has come to the place p ahead of the band b in the turn t -/
def pv_been (o : Nat → Nat → Int) (p : Int) (t b c : Nat) : Bool := (List.range t).any (fun u => decide (o c u = p)) || (decide (c < b) && decide (o c t = p))
theorem jv_cnt_add {f g : Nat → Bool} {b : Nat} : ∀ n, b < n → f b = false → g b = true → (∀ c, c < n → c ≠ b → g c = f c) → jv_cnt g n = jv_cnt f n + 1
  | 0, h, _, _, _ => by omega
  | n + 1, h, h1, h2, h3 => by
    show jv_cnt g n + (if g n = true then 1 else 0) = jv_cnt f n + (if f n = true then 1 else 0) + 1
    by_cases q : n = b
    · subst q
      rw [h1, h2, jv_cnt_congr n (fun c hc => h3 c (by omega) (by omega))]
      simp
    · rw [h3 n (by omega) q, jv_cnt_add n (by omega) h1 h2 (fun c hc hn => h3 c (by omega) hn)]
      omega
theorem jv_cnt_lt {f : Nat → Bool} {b n : Nat} (hb : b < n) (h : f b = false) : jv_cnt f n < n := by
  have h1 := jv_cnt_add (f := f) (g := fun c => if c = b then true else f c) n hb h (by simp) (fun c _ hc => by simp [hc])
  have h2 := jv_cnt_b (fun c => if c = b then true else f c) n
  omega
theorem jy_p16 : jy_o16 := by
  intro p i rp ri
  refine jOp.pure (fun M hJ => ?_)
  obtain ⟨⟨hT, hH, hO⟩, -⟩ := hJ
  have hb := hH.b
  obtain ⟨P, hP⟩ : ∃ P : Nat, M 11 3 = (P : Int) := ⟨(M 11 3).toNat, by omega⟩
  obtain ⟨B, hB⟩ : ∃ B : Nat, M 11 4 = (B : Int) := ⟨(M 11 4).toNat, by omega⟩
  have hX := f_X_well 1999 p i M
  have hR := f_R_well 1999 p i M
  rw [js_hasPlace 1998, jz_bI, jz_b0] at hX
  rw [js_isPlace 1997 p hH, jz_bI, jz_b0] at hR
  by_cases h1 : 0 ≤ p ∧ p < M 11 3
  · rw [if_pos h1, js_hasBand 1998, jz_bI, jz_b0] at hX
    rw [if_pos h1] at hR
    by_cases h2 : i < 0
    · rw [if_pos h2] at hR
      rw [if_neg (by omega)] at hX
      exact ⟨_, hX, hR⟩
    · rw [if_neg h2] at hR
      have heq : ∀ b t : Nat, b < B → t < P → oR M b t = oX M b t := fun b t x y => hO.eq (by omega) (by omega)
      have inj : ∀ b t u : Nat, b < B → t < P → u < P → oX M b t = oX M b u → t = u := fun b t u x y z e => hO.2.1 b t u (by omega) (by omega) (by omega) e
      -- the counts
      have hnew : ∀ b t : Nat, b < B → t < P → oX M b t = p → pv_been (oX M) p t b b = false ∧ jv_cnt (pv_been (oX M) p t (b + 1)) B = jv_cnt (pv_been (oX M) p t b) B + 1 := fun b t x y e => by
        have n1 : (List.range t).any (fun u => decide (oX M b u = p)) = false := by
          rw [List.any_eq_false]
          intro u hu
          have hu := List.mem_range.mp hu
          simp only [decide_eq_true_eq]
          intro e2
          have := inj b u t x (by omega) y (e2.trans e.symm)
          omega
        have n2 : pv_been (oX M) p t b b = false := by
          unfold pv_been
          rw [n1]
          simp
        refine ⟨n2, jv_cnt_add (b := b) B x n2 ?_ (fun c hc hn => ?_)⟩
        · unfold pv_been
          simp [e]
        · unfold pv_been
          by_cases q : c < b
          · simp [q, Nat.lt_succ_of_lt q]
          · simp [q, show ¬ c < b + 1 by omega]
      have hno : ∀ b t : Nat, oX M b t ≠ p → jv_cnt (pv_been (oX M) p t (b + 1)) B = jv_cnt (pv_been (oX M) p t b) B := fun b t e => jv_cnt_congr B (fun c hc => by
        unfold pv_been
        by_cases q : c = b
        · subst q
          simp [e]
        · by_cases r : c < b
          · simp [r, Nat.lt_succ_of_lt r]
          · simp [r, show ¬ c < b + 1 by omega])
      have hnext : ∀ t : Nat, jv_cnt (pv_been (oX M) p t B) B = jv_cnt (pv_been (oX M) p (t + 1) 0) B := fun t => jv_cnt_congr B (fun c hc => by
        unfold pv_been
        rw [List.range_succ, List.any_append]
        simp [hc])
      have hcb : ∀ t b : Nat, 0 ≤ jv_cnt (pv_been (oX M) p t b) B ∧ jv_cnt (pv_been (oX M) p t b) B ≤ B := fun t b => jv_cnt_b _ B
      -- both loops
      have inB : ∀ (m b t : Nat), b + m = B → t < P → (∀ v : Int, ja_D true (ja_x true 1998) k_Table_comerTo 4 [some (jr 24), some (ji p), some (ji i), some (ji (jv_cnt (pv_been (oX M) p (t + 1) 0) B)), some (ji ((t : Int) + 1)), none] [] M = some (some (ji v), M) → ja_D true (ja_x true 1999) k_R_well 12 [some (jr 137), some (ji p), some (ji i), some (ji (jv_cnt (pv_been (oX M) p (t + 1) 0) B)), some (ji ((t : Int) + 1)), none] [] M = some (some (ji v), M) → ((B : Int) ≤ i → v = -1) → ∃ v' : Int, ja_D true (ja_x true 1998) k_Table_comerTo 11 [some (jr 24), some (ji p), some (ji i), some (ji (jv_cnt (pv_been (oX M) p t b) B)), some (ji (t : Int)), some (ji (b : Int))] [] M = some (some (ji v'), M) ∧ ja_D true (ja_x true 1999) k_R_well 18 [some (jr 137), some (ji p), some (ji i), some (ji (jv_cnt (pv_been (oX M) p t b) B)), some (ji (t : Int)), some (ji (b : Int))] [] M = some (some (ji v'), M) ∧ ((B : Int) ≤ i → v' = -1)) := by
        intro m
        induction m with
        | zero =>
          intro b t e ht v g1 g2 g3
          have : b = B := by omega
          subst this
          refine ⟨v, ?_, ?_, g3⟩
          · rw [e_Table_comerTo_11, js_bands 1997, jz_bI, hB, if_neg (by omega), ja_w_id (by omega) (by omega), hnext]
            exact g1
          · rw [e_R_well_18, hH.2.1.2.1, hB, if_neg (by omega), ja_w_id (by omega) (by omega), hnext]
            exact g2
        | succ m ih =>
          intro b t e ht v g1 g2 g3
          obtain ⟨v', k1, k2, k3⟩ := ih (b + 1) t (by omega) ht v g1 g2 g3
          rw [show ((b + 1 : Nat) : Int) = (b : Int) + 1 by omega] at k1 k2
          have hc := hcb t b
          by_cases q : oX M b t = p
          · obtain ⟨n1, n2⟩ := hnew b t (by omega) ht q
            have n3 := jv_cnt_lt (n := B) (by omega) n1
            rw [n2] at k1 k2
            by_cases r : jv_cnt (pv_been (oX M) p t b) B = i
            · refine ⟨(b : Int), ?_, ?_, fun w => by omega⟩
              · rw [e_Table_comerTo_11, js_bands 1997, jz_bI, if_pos (by omega), js_pl 1996 hH (by omega) (by omega), jz_bI, if_pos q, if_pos r]
              · rw [e_R_well_18, hH.2.1.2.1, if_pos (by omega), js_of 1998 hH (by omega) (by omega), jz_bI, heq b t (by omega) ht, if_pos q, if_pos r]
            · refine ⟨v', ?_, ?_, k3⟩
              · rw [e_Table_comerTo_11, js_bands 1997, jz_bI, if_pos (by omega), js_pl 1996 hH (by omega) (by omega), jz_bI, if_pos q, if_neg r, ja_w_id (by omega) (by omega), ja_w_id (by omega) (by omega)]
                exact k1
              · rw [e_R_well_18, hH.2.1.2.1, if_pos (by omega), js_of 1998 hH (by omega) (by omega), jz_bI, heq b t (by omega) ht, if_pos q, if_neg r, ja_w_id (by omega) (by omega), ja_w_id (by omega) (by omega)]
                exact k2
          · rw [hno b t q] at k1 k2
            refine ⟨v', ?_, ?_, k3⟩
            · rw [e_Table_comerTo_11, js_bands 1997, jz_bI, if_pos (by omega), js_pl 1996 hH (by omega) (by omega), jz_bI, if_neg q, ja_w_id (by omega) (by omega)]
              exact k1
            · rw [e_R_well_18, hH.2.1.2.1, if_pos (by omega), js_of 1998 hH (by omega) (by omega), jz_bI, heq b t (by omega) ht, if_neg q, ja_w_id (by omega) (by omega)]
              exact k2
      have inT : ∀ (m t : Nat), t + m = P → ∃ v : Int, ja_D true (ja_x true 1998) k_Table_comerTo 4 [some (jr 24), some (ji p), some (ji i), some (ji (jv_cnt (pv_been (oX M) p t 0) B)), some (ji (t : Int)), none] [] M = some (some (ji v), M) ∧ ja_D true (ja_x true 1999) k_R_well 12 [some (jr 137), some (ji p), some (ji i), some (ji (jv_cnt (pv_been (oX M) p t 0) B)), some (ji (t : Int)), none] [] M = some (some (ji v), M) ∧ ((B : Int) ≤ i → v = -1) := by
        intro m
        induction m with
        | zero =>
          intro t e
          refine ⟨-1, ?_, ?_, fun _ => rfl⟩
          · rw [e_Table_comerTo_4, js_places 1997, jz_bI, if_neg (by omega)]
          · rw [e_R_well_12, hH.2.1.1, if_neg (by omega)]
        | succ m ih =>
          intro t e
          obtain ⟨v, k1, k2, k3⟩ := ih (t + 1) (by omega)
          rw [show ((t + 1 : Nat) : Int) = (t : Int) + 1 by omega] at k1 k2
          obtain ⟨v', j1, j2, j3⟩ := inB B 0 t (by omega) (by omega) v k1 k2 k3
          refine ⟨v', ?_, ?_, j3⟩
          · rw [e_Table_comerTo_4, js_places 1997, jz_bI, if_pos (by omega)]
            exact j1
          · rw [e_R_well_12, hH.2.1.1, if_pos (by omega)]
            exact j2
      obtain ⟨v, k1, k2, k3⟩ := inT P 0 (by omega)
      have z : jv_cnt (pv_been (oX M) p 0 0) B = 0 := (jv_cnt_0 B).mpr (fun k _ => by unfold pv_been; simp)
      rw [z] at k1 k2
      have k2 : ja_D true (ja_x true 1999) k_R_well 12 [some (jr 137), some (ji p), some (ji i), some (ji 0), some (ji 0), none] [] M = some (some (ji v), M) := k2
      have k1 : ja_D true (ja_x true 1998) k_Table_comerTo 4 [some (jr 24), some (ji p), some (ji i), some (ji 0), some (ji 0), none] [] M = some (some (ji v), M) := k1
      rw [k2] at hR
      refine ⟨v, ?_, hR⟩
      by_cases h3 : 0 ≤ i ∧ i < M 11 4
      · rw [if_pos h3, f_Table_comerTo 1998, k1, jz_bI] at hX
        exact hX
      · rw [if_neg h3] at hX
        rw [k3 (by omega)]
        exact hX
  · rw [if_neg h1] at hX hR
    exact ⟨_, hX, hR⟩
