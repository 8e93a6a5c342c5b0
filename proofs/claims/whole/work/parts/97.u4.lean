/-! reading: a hunt, the class's reader -/
theorem hn_addP_ok {D : ja_M} (h : hn_ok D) (h6 : D 5 3 ≠ 6) : hn_ok (hn_addP D) ∧ (hn_addP D) 5 3 = D 5 3 + 1 ∧ (hn_addP D) 5 4 = D 5 4 ∧ jFr s4 D (hn_addP D) := by
  obtain ⟨h1, h2, h3, h4, h5, h6', h7⟩ := h
  have e3 : (hn_addP D) 5 3 = D 5 3 + 1 := jb_up_eq
  have e4 : (hn_addP D) 5 4 = D 5 4 := rfl
  refine ⟨⟨by rw [e3]; omega, h2, h3, h4, fun j hj => ?_, h6', h7⟩, e3, e4, (((jFr.rf D).up (by decide)).up (by decide)).up (by decide)⟩
  rw [e3] at hj
  have e6 : (hn_addP D) 6 j = if j = (D 5 3).toNat then 0 else D 6 j := by
    unfold hn_addP
    rw [jb_up_ne (by decide), jb_up_ne (by decide)]
    by_cases z : j = (D 5 3).toNat
    · rw [z, jb_up_eq, if_pos rfl]
    · rw [jb_up_nej z, if_neg z]
  have e7 : (hn_addP D) 7 j = if j = (D 5 3).toNat then 0 else D 7 j := by
    unfold hn_addP
    rw [jb_up_ne (by decide)]
    by_cases z : j = (D 5 3).toNat
    · rw [z, jb_up_eq, if_pos rfl]
    · rw [jb_up_nej z, jb_up_ne (by decide), if_neg z]
  rw [e6, e7]
  by_cases z : j = (D 5 3).toNat
  · rw [if_pos z, if_pos z]
    omega
  · rw [if_neg z, if_neg z]
    exact h5 j (by omega)
theorem hn_addB_ok {D : ja_M} (h : hn_ok D) (h6 : D 5 4 ≠ 6) : hn_ok (hn_addB D) ∧ (hn_addB D) 5 3 = D 5 3 ∧ (hn_addB D) 5 4 = D 5 4 + 1 ∧ jFr s4 D (hn_addB D) := by
  obtain ⟨h1, h2, h3, h4, h5, h6', h7⟩ := h
  have e3 : (hn_addB D) 5 3 = D 5 3 := rfl
  have e4 : (hn_addB D) 5 4 = D 5 4 + 1 := jb_up_eq
  refine ⟨⟨h1, by rw [e4]; omega, h3, h4, h5, fun j hj => ?_, h7⟩, e3, e4, ((jFr.rf D).up (by decide)).up (by decide)⟩
  rw [e4] at hj
  have e8 : (hn_addB D) 8 j = if j = (D 5 4).toNat then 1 else D 8 j := by
    unfold hn_addB
    rw [jb_up_ne (by decide)]
    by_cases z : j = (D 5 4).toNat
    · rw [z, jb_up_eq, if_pos rfl]
    · rw [jb_up_nej z, if_neg z]
  rw [e8]
  by_cases z : j = (D 5 4).toNat
  · rw [if_pos z]
    omega
  · rw [if_neg z]
    exact h6' j (by omega)
theorem hn_law_ok {D : ja_M} (h : hn_ok D) : hn_ok (ja_up D 4 2 1) ∧ jFr s4 D (ja_up D 4 2 1) := by
  obtain ⟨h1, h2, h3, h4, h5, h6', h7⟩ := h
  exact ⟨⟨h1, h2, h3, h4, h5, h6', Or.inr rfl⟩, (jFr.rf D).up (by decide)⟩
theorem hn_items_b {T : Nat → Int} {n p : Nat} {k : Int} {D : ja_M} (hX : tpX D T n) (hn : n ≤ 160) (hp : p ≤ n) (h : hn_ok D) (hk : hn_canK k D) : ((hn_items T n k p D).1 ≤ n ∧ p ≤ (hn_items T n k p D).1) ∧ jFr s4 D (hn_items T n k p D).2.2 ∧ hn_ok (hn_items T n k p D).2.2 := (js_items 0 hX hn hp h hk).2
theorem hn_clause_b {T : Nat → Int} {n p : Nat} {D : ja_M} (hX : tpX D T n) (hn : n ≤ 160) (hp : p ≤ n) (h : hn_ok D) : ((hn_clause T n p D).1 ≤ n ∧ p ≤ (hn_clause T n p D).1) ∧ ((hn_clause T n p D).2.1 = true → p < (hn_clause T n p D).1) ∧ jFr s4 D (hn_clause T n p D).2.2 ∧ hn_ok (hn_clause T n p D).2.2 := by
  have hs := sk_b (T := T) hp
  have bad : (sk T n p ≤ n ∧ p ≤ sk T n p) ∧ (false = true → p < sk T n p) ∧ jFr s4 D D ∧ hn_ok D := ⟨⟨hs.2, hs.1⟩, (fun q => by cases q), jFr.rf D, h⟩
  unfold hn_clause
  by_cases c1 : sg T n (sk T n p) = 112
  · rw [if_pos c1]
    by_cases c2 : D 5 3 = 6
    · rw [if_pos c2]
      exact bad
    · rw [if_neg c2]
      obtain ⟨a1, a2, a3, a4⟩ := hn_addP_ok h c2
      have h1 := h.1
      have sq := (sg_eq c1 (by decide)).1
      have ib := hn_items_b (T := T) (n := n) (p := sk T n p + 1) (k := 112) (hX.fr a4) hn sq a1 (Or.inl ⟨rfl, by omega⟩)
      exact ⟨⟨ib.1.1, by omega⟩, fun _ => by omega, a4.tr ib.2.1, ib.2.2⟩
  · rw [if_neg c1]
    by_cases c3 : sg T n (sk T n p) = 98
    · rw [if_pos c3]
      by_cases c2 : D 5 4 = 6
      · rw [if_pos c2]
        exact bad
      · rw [if_neg c2]
        obtain ⟨a1, a2, a3, a4⟩ := hn_addB_ok h c2
        have h1 := h.2.1
        have sq := (sg_eq c3 (by decide)).1
        have ib := hn_items_b (T := T) (n := n) (p := sk T n p + 1) (k := 98) (hX.fr a4) hn sq a1 (Or.inr (Or.inl ⟨rfl, by omega⟩))
        exact ⟨⟨ib.1.1, by omega⟩, fun _ => by omega, a4.tr ib.2.1, ib.2.2⟩
    · rw [if_neg c3]
      by_cases c4 : sg T n (sk T n p) = 108 ∧ D 4 2 = 0
      · rw [if_pos c4]
        obtain ⟨a1, a4⟩ := hn_law_ok h
        have sq := (sg_eq c4.1 (by decide)).1
        have ib := hn_items_b (T := T) (n := n) (p := sk T n p + 1) (k := 108) (hX.fr a4) hn sq a1 (Or.inr (Or.inr rfl))
        exact ⟨⟨ib.1.1, by omega⟩, fun _ => by omega, a4.tr ib.2.1, ib.2.2⟩
      · rw [if_neg c4]
        exact bad
theorem js_hclause (dd : Nat) {T : Nat → Int} {n p : Nat} {D : ja_M} (hX : tpX D T n) (hn : n ≤ 160) (hp : p ≤ n) (h : hn_ok D) : ja_x true (dd + 6) 23 [jr 4] (atX D p) = some (some (ji (if (hn_clause T n p D).2.1 = true then 1 else 0)), atX (hn_clause T n p D).2.2 (hn_clause T n p D).1) := by
  have hs := sk_b (T := T) hp
  have e3 : (atX D (sk T n p)) 5 3 = D 5 3 := jb_up_ne (by decide)
  have e4 : (atX D (sk T n p)) 5 4 = D 5 4 := jb_up_ne (by decide)
  have e2 : (atX D (sk T n p)) 4 2 = D 4 2 := jb_up_ne (by decide)
  have h1 := h.1
  have h2 := h.2.1
  have fin : ∀ (k : Int) (D1 : ja_M), tpX D1 T n → hn_ok D1 → hn_canK k D1 → sk T n p < n → ja_bV (ja_x true (dd + 5) 28 [jr 2] (atX D1 (sk T n p))) (fun M5 => ja_bI (ja_x true (dd + 5) 29 [jr 4, ji k] M5) (fun x7 M6 => cond (ja_isB x7) (some (some (ji x7), M6)) none)) = some (some (ji (if (hn_items T n k (sk T n p + 1) D1).2.1 = true then 1 else 0)), atX (hn_items T n k (sk T n p + 1) D1).2.2 (hn_items T n k (sk T n p + 1) D1).1) := by
    intro k D1 t1 o1 k1 sq
    rw [js_pass (dd + 4) t1 hn sq, jz_bV, (js_items (dd + 1) t1 hn sq o1 k1).1, jz_bI, jz_cB (by split <;> omega)]
  rw [f_HuntReader_readClause, js_next (dd + 4) hX hn hp, jz_bI, f_HuntReader_addClause]
  unfold hn_clause
  by_cases c1 : sg T n (sk T n p) = 112
  · rw [if_pos c1, if_pos c1, f_Hunt_addPlace_5, e3]
    by_cases c2 : D 5 3 = 6
    · rw [if_pos c2, if_pos c2, jz_bI]
      rfl
    · obtain ⟨a1, a2, a3, a4⟩ := hn_addP_ok h c2
      have t1 : (ja_up (atX D (sk T n p)) 6 (D 5 3).toNat 0) 5 3 = D 5 3 := (jb_up_ne (by decide)).trans e3
      have t2 : (ja_up (ja_up (atX D (sk T n p)) 6 (D 5 3).toNat 0) 7 (D 5 3).toNat 0) 5 3 = D 5 3 := (jb_up_ne (by decide)).trans t1
      rw [if_neg c2, if_neg c2, if_pos (by omega), t1, if_pos (by omega), t2, ja_w_id (x := D 5 3 + 1) (by omega) (by omega), show ja_up (ja_up (ja_up (atX D (sk T n p)) 6 (D 5 3).toNat 0) 7 (D 5 3).toNat 0) 5 3 (D 5 3 + 1) = atX (hn_addP D) (sk T n p) by
        unfold hn_addP
        rw [ja_up_cm (c := 2) (d := 6) (by omega), ja_up_cm (c := 2) (d := 7) (by omega), ja_up_cm (c := 2) (d := 5) (by omega)], jz_bI]
      show ja_bI (some (some (ji 1), atX (hn_addP D) (sk T n p))) _ = _
      rw [jz_bI, if_neg (by decide), c1]
      exact fin 112 _ (hX.fr a4) a1 (Or.inl ⟨rfl, by omega⟩) (sg_eq c1 (by decide)).1
  · rw [if_neg c1, if_neg c1]
    by_cases c3 : sg T n (sk T n p) = 98
    · rw [if_pos c3, if_pos c3, f_Hunt_addBand_5, e4]
      by_cases c2 : D 5 4 = 6
      · rw [if_pos c2, if_pos c2, jz_bI]
        rfl
      · obtain ⟨a1, a2, a3, a4⟩ := hn_addB_ok h c2
        have t1 : (ja_up (atX D (sk T n p)) 8 (D 5 4).toNat 1) 5 4 = D 5 4 := (jb_up_ne (by decide)).trans e4
        rw [if_neg c2, if_neg c2, if_pos (by omega), t1, ja_w_id (x := D 5 4 + 1) (by omega) (by omega), show ja_up (ja_up (atX D (sk T n p)) 8 (D 5 4).toNat 1) 5 4 (D 5 4 + 1) = atX (hn_addB D) (sk T n p) by
          unfold hn_addB
          rw [ja_up_cm (c := 2) (d := 8) (by omega), ja_up_cm (c := 2) (d := 5) (by omega)], jz_bI]
        show ja_bI (some (some (ji 1), atX (hn_addB D) (sk T n p))) _ = _
        rw [jz_bI, if_neg (by decide), c3]
        exact fin 98 _ (hX.fr a4) a1 (Or.inr (Or.inl ⟨rfl, by omega⟩)) (sg_eq c3 (by decide)).1
    · rw [if_neg c3, if_neg c3]
      by_cases c4 : sg T n (sk T n p) = 108
      · rw [if_pos c4, e2]
        by_cases c5 : D 4 2 = 0
        · rw [if_pos c5, jz_bI, if_neg (by decide), if_pos (show sg T n (sk T n p) = 108 ∧ D 4 2 = 0 from ⟨c4, c5⟩), ja_up_cm (c := 2) (d := 4) (by omega), c4]
          obtain ⟨a1, a4⟩ := hn_law_ok h
          exact fin 108 _ (hX.fr a4) a1 (Or.inr (Or.inr rfl)) (sg_eq c4 (by decide)).1
        · rw [if_neg c5, jz_bI, if_pos rfl, if_neg (show ¬ (sg T n (sk T n p) = 108 ∧ D 4 2 = 0) from fun q => c5 q.2)]
          rfl
      · rw [if_neg c4, jz_bI, if_pos rfl, if_neg (show ¬ (sg T n (sk T n p) = 108 ∧ D 4 2 = 0) from fun q => c4 q.1)]
        rfl
theorem js_hread_D (dd : Nat) {T : Nat → Int} {n : Nat} (ht : tpok T n) : ∀ (m c p : Nat) (D : ja_M), tpX D T n → p ≤ n → hn_ok D → n < p + m → 2 * c ≤ p → ∃ r, ja_D true (ja_x true (dd + 6)) k_HuntReader_read 11 [some (jr 4), some (ji (c : Int))] [] (atX D p) = some (some (ji (hn_read T n m p D).1), atX (hn_read T n m p D).2 r) ∧ jFr s4 D (hn_read T n m p D).2 ∧ hn_ok (hn_read T n m p D).2 ∧ ((hn_read T n m p D).1 = -1 → 2 ≤ (hn_read T n m p D).2 5 3 ∧ 1 ≤ (hn_read T n m p D).2 5 4) := by
  intro m
  induction m with
  | zero =>
    intro c p D hX hp h hm hc
    omega
  | succ m ih =>
    intro c p D hX hp h hm hc
    have hn := ht.1
    have cb := hn_clause_b (T := T) hX ht.1 hp h
    have st := e_HuntReader_read_11 (ja_x true (dd + 6)) (c : Int) (atX D p)
    rw [if_pos (by omega), js_hclause dd hX hn hp h, jz_bI, jz_b0] at st
    unfold hn_read
    generalize hn_clause T n p D = r at st cb
    obtain ⟨r1, ok, D1⟩ := r
    obtain ⟨⟨b1, b2⟩, b3, b4, b5⟩ := cb
    have b1 : r1 ≤ n := b1
    have b2 : p ≤ r1 := b2
    have hX1 := hX.fr b4
    have hs := sk_b (T := T) b1
    have e2 : ∀ q : Nat, (atX D1 q) 2 2 = (q : Int) := fun q => jb_up_eq
    cases ok with
    | false =>
      refine ⟨r1, ?_, b4, b5, fun q => ?_⟩
      · rw [st]
        show ja_bI (ja_x true (dd + 6) 36 [jr 2] (atX D1 r1)) _ = _
        rw [f_Tape_position, jz_bI, e2]
        rfl
      · have q : (r1 : Int) = -1 := q
        omega
    | true =>
      have b3 : p < r1 := b3 rfl
      rw [if_pos rfl] at st
      have st : _ = ja_bI (ja_x true (dd + 6) 24 [jr 2] (atX D1 r1)) _ := st
      rw [js_next (dd + 5) hX1 hn b1, jz_bI] at st
      show ∃ r, _ = some (some (ji (if n ≤ sk T n r1 then (if 2 ≤ D1 5 3 ∧ 1 ≤ D1 5 4 then (-1, D1) else ((n : Int), D1)) else if sg T n (sk T n r1) = 59 then hn_read T n m (sk T n r1 + 1) D1 else ((sk T n r1 : Int), D1) : Int × ja_M).1), atX (if n ≤ sk T n r1 then (if 2 ≤ D1 5 3 ∧ 1 ≤ D1 5 4 then (-1, D1) else ((n : Int), D1)) else if sg T n (sk T n r1) = 59 then hn_read T n m (sk T n r1 + 1) D1 else ((sk T n r1 : Int), D1) : Int × ja_M).2 r) ∧ jFr s4 D (if n ≤ sk T n r1 then (if 2 ≤ D1 5 3 ∧ 1 ≤ D1 5 4 then (-1, D1) else ((n : Int), D1)) else if sg T n (sk T n r1) = 59 then hn_read T n m (sk T n r1 + 1) D1 else ((sk T n r1 : Int), D1) : Int × ja_M).2 ∧ hn_ok (if n ≤ sk T n r1 then (if 2 ≤ D1 5 3 ∧ 1 ≤ D1 5 4 then (-1, D1) else ((n : Int), D1)) else if sg T n (sk T n r1) = 59 then hn_read T n m (sk T n r1 + 1) D1 else ((sk T n r1 : Int), D1) : Int × ja_M).2 ∧ ((if n ≤ sk T n r1 then (if 2 ≤ D1 5 3 ∧ 1 ≤ D1 5 4 then (-1, D1) else ((n : Int), D1)) else if sg T n (sk T n r1) = 59 then hn_read T n m (sk T n r1 + 1) D1 else ((sk T n r1 : Int), D1) : Int × ja_M).1 = -1 → 2 ≤ (if n ≤ sk T n r1 then (if 2 ≤ D1 5 3 ∧ 1 ≤ D1 5 4 then (-1, D1) else ((n : Int), D1)) else if sg T n (sk T n r1) = 59 then hn_read T n m (sk T n r1 + 1) D1 else ((sk T n r1 : Int), D1) : Int × ja_M).2 5 3 ∧ 1 ≤ (if n ≤ sk T n r1 then (if 2 ≤ D1 5 3 ∧ 1 ≤ D1 5 4 then (-1, D1) else ((n : Int), D1)) else if sg T n (sk T n r1) = 59 then hn_read T n m (sk T n r1 + 1) D1 else ((sk T n r1 : Int), D1) : Int × ja_M).2 5 4)
      by_cases en : n ≤ sk T n r1
      · have e3 : (atX D1 (sk T n r1)) 5 3 = D1 5 3 := jb_up_ne (by decide)
        have e4 : (atX D1 (sk T n r1)) 5 4 = D1 5 4 := jb_up_ne (by decide)
        have e1 : (atX D1 (sk T n r1)) 2 1 = (n : Int) := (jb_up_nej (by decide)).trans hX1.1
        rw [if_pos ((sg_0 ht).mpr en), f_Hunt_isWhole_5, e3, e4] at st
        rw [if_pos en]
        by_cases w : 2 ≤ D1 5 3 ∧ 1 ≤ D1 5 4
        · rw [if_neg (by omega), if_neg (by omega), jz_bI, if_neg (by decide)] at st
          rw [if_pos w]
          exact ⟨sk T n r1, st, b4, b5, fun _ => w⟩
        · have st2 : ja_D true (ja_x true (dd + 6)) k_HuntReader_read 11 [some (jr 4), some (ji (c : Int))] [] (atX D p) = some (some (ji (n : Int)), atX D1 (sk T n r1)) := by
            rw [st]
            by_cases w1 : D1 5 3 < 2
            · rw [if_pos w1, jz_bI, if_pos rfl, f_Tape_length, jz_bI, e1]
            · rw [if_neg w1, if_pos (by omega), jz_bI, if_pos rfl, f_Tape_length, jz_bI, e1]
          rw [if_neg w]
          refine ⟨sk T n r1, st2, b4, b5, fun q => ?_⟩
          have q : (n : Int) = -1 := q
          omega
      · have q0 : sg T n (sk T n r1) ≠ 0 := fun z => en ((sg_0 ht).mp z)
        have tk2 := js_take (dd + 4) (p := sk T n r1) hX1 hn (by omega) (a := 59) (by decide)
        rw [sk_i b1] at tk2
        rw [if_neg q0, show ja_x true (dd + 6) 38 [jr 2, ji 59] (atX D1 (sk T n r1)) = _ from tk2] at st
        rw [if_neg en]
        by_cases c59 : sg T n (sk T n r1) = 59
        · have sq := sg_lt q0
          rw [if_pos c59, jz_bI, if_neg (by decide), ja_w_id (x := (c : Int) + 1) (by omega) (by omega)] at st
          rw [if_pos c59]
          obtain ⟨r, g1, g2, g3, g4⟩ := ih (c + 1) (sk T n r1 + 1) D1 hX1 sq b5 (by omega) (by omega)
          exact ⟨r, st.trans g1, b4.tr g2, g3, g4⟩
        · rw [if_neg c59, jz_bI, if_pos rfl, f_Tape_position, jz_bI, e2] at st
          rw [if_neg c59]
          refine ⟨sk T n r1, st, b4, b5, fun q => ?_⟩
          have q : (sk T n r1 : Int) = -1 := q
          omega
