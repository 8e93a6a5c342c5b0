/-! reading: worths, the class's clauses -/
theorem wM_patch (N : ja_M) (A B : List Int) (x v : Int) : ja_up (wM N (A ++ x :: B)) 10 A.length v = wM N (A ++ v :: B) := by
  funext c i
  rw [jz_up]
  unfold wM
  rw [List.length_append, List.length_append, List.length_cons, List.length_cons]
  by_cases h : c = 10 ∧ i = A.length
  · rw [if_pos h, if_neg (fun q => by omega), if_pos ⟨h.1, by omega⟩, h.2, List.getD_eq_getElem?_getD, List.getElem?_append_right (Nat.le_refl _), Nat.sub_self]
    rfl
  · rw [if_neg h]
    by_cases h1 : c = 9 ∧ i = 2
    · rw [if_pos h1, if_pos h1]
    · rw [if_neg h1, if_neg h1]
      by_cases h2 : c = 10 ∧ i < A.length + (B.length + 1)
      · rw [if_pos h2, if_pos h2, List.getD_eq_getElem?_getD, List.getD_eq_getElem?_getD]
        by_cases h3 : i < A.length
        · rw [List.getElem?_append_left h3, List.getElem?_append_left h3]
        · rw [List.getElem?_append_right (by omega), List.getElem?_append_right (by omega)]
          obtain ⟨j, hj⟩ : ∃ j, i - A.length = j + 1 := ⟨i - A.length - 1, by omega⟩
          rw [hj, List.getElem?_cons_succ, List.getElem?_cons_succ]
      · rw [if_neg h2, if_neg h2]
theorem wx_tail (dd : Nat) {T : Nat → Int} {n : Nat} (ht : tpok T n) {N : ja_M} {q : Nat} {W : List Int} {t : jw_C} (hX : tpX N T n) (hq : q ≤ n) (t0 : t ≠ []) (hw : W.length + t.length + 1 ≤ q) : (∀ t' s, (wr_tl T n (q, some t)).2 = some (t', s) → ja_x true (dd + 60) 53 [jr 9] (atX (wM N (W ++ t.map jw_enc)) q) = some (some (ji 1), atX (wM N (W ++ jw_words W.length [(t', s)])) (wr_tl T n (q, some t)).1)) ∧ ((wr_tl T n (q, some t)).2 = none → ∃ ws', ja_x true (dd + 60) 53 [jr 9] (atX (wM N (W ++ t.map jw_enc)) q) = some (some (ji 0), atX (wM N ws') (wr_tl T n (q, some t)).1)) := by
  have hn := ht.1
  have hs := sk_b (T := T) hq
  have hl : (W ++ t.map jw_enc).length = W.length + t.length := by rw [List.length_append, List.length_map]
  have st := f_WorthReader_readWhatFollowsCondition (dd + 59) (atX (wM N (W ++ t.map jw_enc)) q)
  rw [js_take (dd + 57) (wM_tp hX) hn hq (by decide)] at st
  by_cases c : sg T n (sk T n q) = 63
  · have sq := (sg_eq c (by decide)).1
    rw [if_pos c, jz_bI, if_neg (by decide), js_wwrite (dd + 58) (by omega), jz_bI] at st
    have e92 : (atX (wM N (W ++ t.map jw_enc)) (sk T n q + 1)) 9 2 = ((W.length + t.length : Nat) : Int) := by
      show ((W ++ t.map jw_enc).length : Int) = _
      rw [hl]
    have hi := wx_sum ht 6 0 (dd + 36) (by omega)
    obtain ⟨⟨k1, k2⟩, k3⟩ := (wr_sum_ok (T := T) (n := n) 6).1 (sk T n q + 1) sq
    have hl2 : (W ++ t.map jw_enc ++ [30000]).length ≤ sk T n q + 1 := by
      rw [List.length_append, hl, List.length_singleton]
      omega
    rw [wr_tl_y (r := (q, some t)) rfl c]
    cases es : (wr_sum T n 6 (sk T n q + 1)).2 with
    | none =>
      obtain ⟨ws', g⟩ := hi.n hX sq hl2 es
      have g : ja_x true (dd + 59) 44 [jr 9, ji 0] (atX (wM N (W ++ t.map jw_enc ++ [30000])) (sk T n q + 1)) = _ := g
      rw [g, jz_bI, if_pos rfl] at st
      exact ⟨fun t' s h => (by rw [show (((wr_sum T n 6 (sk T n q + 1)).1, Option.map (fun s => (t, s)) (none : Option jw_C)) : wC).2 = none from rfl] at h; cases h), fun _ => ⟨ws', st⟩⟩
    | some s0 =>
      obtain ⟨k4, k5⟩ := k3 s0 es
      have g := hi.y hX sq hl2 es
      have g : ja_x true (dd + 59) 44 [jr 9, ji 0] (atX (wM N (W ++ t.map jw_enc ++ [30000])) (sk T n q + 1)) = _ := g
      have hl3 : (W ++ t.map jw_enc ++ [30000] ++ s0.map jw_enc).length = W.length + t.length + 1 + s0.length := by
        rw [List.length_append, List.length_append, hl, List.length_singleton, List.length_map]
      rw [g, jz_bI, if_neg (by decide), js_wwrite (dd + 58) (by omega), jz_bI, if_neg (by decide), e92, if_pos (by omega), if_pos (by omega), show (((W.length + t.length : Nat) : Int)).toNat = W.length + t.length from rfl] at st
      have e93 : (atX (wM N (W ++ t.map jw_enc ++ [30000] ++ s0.map jw_enc ++ [40000])) (wr_sum T n 6 (sk T n q + 1)).1) 9 2 = ((W.length + t.length + s0.length + 2 : Nat) : Int) := by
        show ((W ++ t.map jw_enc ++ [30000] ++ s0.map jw_enc ++ [40000]).length : Int) = _
        rw [List.length_append, hl3, List.length_singleton]
        omega
      have pat := wM_patch N (W ++ t.map jw_enc) (s0.map jw_enc ++ [40000]) 30000 (30000 + ((W.length + t.length + s0.length + 2 : Nat) : Int))
      rw [hl] at pat
      rw [e93, ja_w_id (by omega) (by omega), ja_up_cm (c := 2) (d := 10) (by omega), show W ++ t.map jw_enc ++ [30000] ++ s0.map jw_enc ++ [40000] = W ++ t.map jw_enc ++ 30000 :: (s0.map jw_enc ++ [40000]) by simp, pat] at st
      refine ⟨fun t' s h => ?_, fun h => by cases h⟩
      have h2 : t = t' ∧ s0 = s := by
        cases h
        exact ⟨rfl, rfl⟩
      obtain ⟨rfl, rfl⟩ := h2
      cases t with
      | nil => exact absurd rfl t0
      | cons x t =>
        rw [st]
        show _ = some (some (ji 1), atX (wM N (W ++ ((x :: t).map jw_enc ++ (30000 + ((W.length + t.length + s0.length + 3 : Nat) : Int)) :: (s0.map jw_enc ++ 40000 :: [])))) (wr_sum T n 6 (sk T n q + 1)).1)
        rw [List.append_assoc, show W.length + (x :: t).length + s0.length + 2 = W.length + t.length + s0.length + 3 by rw [List.length_cons]; omega]
  · rw [if_neg c, jz_bI, if_pos rfl] at st
    rw [wr_tl_f (r := (q, some t)) rfl c]
    exact ⟨fun t' s h => (by cases h), fun _ => ⟨_, st⟩⟩
theorem wr_cmp_sk {T : Nat → Int} {n k q : Nat} (h : q ≤ n) : wr_cmp T n k (sk T n q) = wr_cmp T n k q := by
  unfold wr_cmp
  rw [sk_i h]
theorem wr_sum_sk {T : Nat → Int} {n k p : Nat} (h : p ≤ n) : wr_sum T n k (sk T n p) = wr_sum T n k p := by
  rw [wr_sum_in]
  unfold wr_sumI wr_seq wr_atom
  have : tk T n 4 (sk T n p) = tk T n 4 p := by
    unfold tk
    rw [sk_i h]
  rw [sk_i h, this]
theorem wr_unit_sk {T : Nat → Int} {n k p : Nat} (h : p ≤ n) : wr_unit T n k (sk T n p) = wr_unit T n k p := by
  cases k with
  | zero =>
    show (if sg T n (sk T n (sk T n p)) = 33 then _ else if _ then _ else wr_sc T n 0 (sk T n p)) = (if sg T n (sk T n p) = 33 then _ else if _ then _ else wr_sc T n 0 p)
    unfold wr_sc
    rw [sk_i h, wr_sum_sk h]
  | succ k =>
    show (if sg T n (sk T n (sk T n p)) = 33 then _ else if _ then _ else wr_sc T n (k + 1) (sk T n p)) = (if sg T n (sk T n p) = 33 then _ else if _ then _ else wr_sc T n (k + 1) p)
    unfold wr_sc
    rw [sk_i h, wr_sum_sk h]
theorem wr_cond_sk {T : Nat → Int} {n k p : Nat} (h : p ≤ n) : wr_cond T n (wr_unit T n k) (sk T n p) = wr_cond T n (wr_unit T n k) p := by
  unfold wr_cond wr_truth wr_seq
  rw [wr_unit_sk h]
