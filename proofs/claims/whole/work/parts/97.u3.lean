/-! reading: a hunt's clauses, the class -/
def hn_iti (o : Option Nat) : Int := match o with
  | none => -1
  | some i => (i : Int)
def hn_canK (k : Int) (D : ja_M) : Prop := (k = 112 ∧ 1 ≤ D 5 3) ∨ (k = 98 ∧ 1 ≤ D 5 4) ∨ k = 108
theorem js_itemOf (dd : Nat) {k : Int} (c : Int) (M : ja_M) (hk : k = 112 ∨ k = 98 ∨ k = 108) : ja_x true (dd + 1) 30 [ji k, ji c] M = some (some (ji (hn_iti (hn_it k c))), M) := by
  rw [f_HuntReader_itemOf]
  unfold hn_it
  rcases hk with rfl | rfl | rfl
  · by_cases h1 : c = 120
    · simp [h1, hn_iti]
    · by_cases h2 : c = 121
      · simp [h2, hn_iti]
      · simp [h1, h2, hn_iti]
  · by_cases h1 : c = 115
    · simp [h1, hn_iti]
    · simp [h1, hn_iti]
  · by_cases h1 : c = 102
    · simp [h1, hn_iti]
    · by_cases h2 : c = 107
      · simp [h2, hn_iti]
      · simp [h1, h2, hn_iti]
theorem hn_it_can {k c : Int} {D : ja_M} {i : Nat} (hk : hn_canK k D) (e : hn_it k c = some i) : i < 5 ∧ hn_can D i ∧ c ≠ 0 := by
  unfold hn_it at e
  unfold hn_can
  rcases hk with ⟨rfl, hk⟩ | ⟨rfl, hk⟩ | rfl
  · rw [if_pos rfl] at e
    by_cases h1 : c = 120
    · rw [if_pos h1] at e
      cases e
      omega
    · rw [if_neg h1] at e
      by_cases h2 : c = 121
      · rw [if_pos h2] at e
        cases e
        omega
      · rw [if_neg h2] at e
        cases e
  · rw [if_neg (by decide), if_pos rfl] at e
    by_cases h1 : c = 115
    · rw [if_pos h1] at e
      cases e
      omega
    · rw [if_neg h1] at e
      cases e
  · rw [if_neg (by decide), if_neg (by decide)] at e
    by_cases h1 : c = 102
    · rw [if_pos h1] at e
      cases e
      omega
    · rw [if_neg h1] at e
      by_cases h2 : c = 107
      · rw [if_pos h2] at e
        cases e
        omega
      · rw [if_neg h2] at e
        cases e
theorem hn_bits : ∀ i : Nat, i < 5 → ja_and (ja_shr 0 (i : Int)) 1 = 0 ∧ ∀ j : Nat, j < 5 → ja_and (ja_shr (ja_or 0 (ja_shl 1 (i : Int))) (j : Int)) 1 = if j = i then 1 else 0 := by decide +kernel
theorem sg_lt {T : Nat → Int} {n p : Nat} (h : sg T n p ≠ 0) : p < n := by
  unfold sg at h
  by_cases q : p < n
  · exact q
  · rw [if_neg q] at h
    exact absurd rfl h
theorem hn_canK_kp {k : Int} {D D' : ja_M} (h : hn_canK k D) (e3 : D' 5 3 = D 5 3) (e4 : D' 5 4 = D 5 4) : hn_canK k D' := by
  unfold hn_canK at h ⊢
  rw [e3, e4]
  exact h
theorem js_items (dd : Nat) {T : Nat → Int} {n p : Nat} {k : Int} {D : ja_M} (hX : tpX D T n) (hn : n ≤ 160) (hp : p ≤ n) (h : hn_ok D) (hk : hn_canK k D) : ja_x true (dd + 4) 29 [jr 4, ji k] (atX D p) = some (some (ji (if (hn_items T n k p D).2.1 = true then 1 else 0)), atX (hn_items T n k p D).2.2 (hn_items T n k p D).1) ∧ ((hn_items T n k p D).1 ≤ n ∧ p ≤ (hn_items T n k p D).1) ∧ jFr s4 D (hn_items T n k p D).2.2 ∧ hn_ok (hn_items T n k p D).2.2 := by
  have hk3 : k = 112 ∨ k = 98 ∨ k = 108 := by
    unfold hn_canK at hk
    omega
  have hs := sk_b (T := T) hp
  rw [f_HuntReader_readItems, e_HuntReader_readItems_4, if_pos (by decide), js_next (dd + 2) hX hn hp, jz_bI, js_itemOf (dd + 2) _ _ hk3, jz_bI]
  cases e : hn_it k (sg T n (sk T n p)) with
  | none =>
    rw [hn_items_0 e]
    exact ⟨rfl, ⟨hs.2, hs.1⟩, jFr.rf D, h⟩
  | some i =>
    obtain ⟨i5, ic, i0⟩ := hn_it_can hk e
    have sq := sg_lt i0
    have vb := hn_val_b (T := T) (n := n) (p := sk T n p + 1) (by omega) h ic
    have rv := js_readValue dd (p := sk T n p + 1) hX hn (by omega) h ic
    cases hv : hn_val T n i (sk T n p + 1) D with
    | mk r1 rest =>
      obtain ⟨ok, D1⟩ := rest
      rw [hv] at vb rv
      obtain ⟨⟨v1, v2⟩, v3, v4, v5, v6, v7⟩ := vb
      have v1 : r1 ≤ n := v1
      have v2 : sk T n p + 1 ≤ r1 := v2
      rw [show hn_iti (some i) = (i : Int) from rfl, if_neg (by omega), (hn_bits i i5).1, if_neg (by decide), js_pass (dd + 2) hX hn sq, jz_bV, rv, jz_bI, jz_b0, hn_items_s e hv]
      cases ok with
      | false => exact ⟨rfl, ⟨v1, (by show p ≤ r1; omega)⟩, v3, v4⟩
      | true =>
        have hX1 := hX.fr v3
        have hk1 := hn_canK_kp hk v5 v6
        have hs1 : r1 ≤ sk T n r1 ∧ sk T n r1 ≤ n := sk_b (T := T) (p := r1) v1
        rw [if_pos rfl, if_pos rfl, ja_w_id (x := 0 + 1) (by decide) (by decide), e_HuntReader_readItems_4, if_pos (by decide), js_next (dd + 2) hX1 hn v1, jz_bI, js_itemOf (dd + 2) _ _ hk3, jz_bI]
        cases e2 : hn_it k (sg T n (sk T n r1)) with
        | none =>
          rw [hn_2_0 e2]
          exact ⟨rfl, ⟨hs1.2, (by show p ≤ sk T n r1; omega)⟩, v3, v4⟩
        | some j =>
          obtain ⟨j5, jc, j0⟩ := hn_it_can hk1 e2
          have sq1 := sg_lt j0
          rw [hn_2_s e2, show hn_iti (some j) = (j : Int) from rfl, if_neg (by omega), (hn_bits i i5).2 j j5]
          by_cases ji' : j = i
          · rw [if_pos ji', if_pos ji', if_pos rfl]
            exact ⟨rfl, ⟨hs1.2, (by show p ≤ sk T n r1; omega)⟩, v3, v4⟩
          · have wb := hn_val_b (T := T) (n := n) (p := sk T n r1 + 1) (by omega) v4 jc
            rw [if_neg ji', if_neg ji', if_neg (by decide), js_pass (dd + 2) hX1 hn sq1, jz_bV, js_readValue dd hX1 hn (by omega) v4 jc, jz_bI, jz_b0]
            generalize hn_val T n j (sk T n r1 + 1) D1 = s at wb
            obtain ⟨s1, ok2, D2⟩ := s
            have w1 : s1 ≤ n := wb.1.1
            have w2 : sk T n r1 + 1 ≤ s1 := wb.1.2
            refine ⟨?_, ⟨w1, (by show p ≤ s1; omega)⟩, v3.tr wb.2.1, wb.2.2.1⟩
            cases ok2 with
            | false => rfl
            | true =>
              rw [if_pos rfl, ja_w_id (x := 0 + 1 + 1) (by decide) (by decide), e_HuntReader_readItems_4, if_neg (by decide)]
              rfl
