/-! reading: worths, the other side's units -/
theorem rw_unit {T : Nat → Int} {n t : Nat} (ht : tpok T n) : ∀ (k d dd : Nat), d + k = 6 → iR T n t d (fun M => ja_x true (dd + (10 + 5 * k)) 221 [jr 137] M) (wr_unit T n k) (4 + 2 * k) := by
  have hn := ht.1
  have sc : ∀ (k d dd : Nat), d + k = 6 → ∀ (N : ja_M) (p : Nat) (cs : jw_C), bR N T n t → p ≤ n → cs.length ≤ p → ¬ sg T n (sk T n p) = 33 → ¬ sg T n (sk T n p) = 40 → (∀ c, (wr_unit T n k p).2 = some c → ja_x true (dd + (10 + 5 * k)) 221 [jr 137] (atR (rM N t d cs) p) = some (none, atR (rM N t d (cs ++ c)) (wr_unit T n k p).1)) ∧ ((wr_unit T n k p).2 = none → ∃ N', ja_x true (dd + (10 + 5 * k)) 221 [jr 137] (atR (rM N t d cs) p) = some (none, N') ∧ fS N t (wr_unit T n k p).1 (160 + (4 + 2 * k)) N') := by
    intro k d dd hd N p cs hb hp hl s1 s2
    obtain ⟨e, he⟩ : ∃ e, dd + (9 + 5 * k) = e + 3 := ⟨dd + 6 + 5 * k, by omega⟩
    rw [show dd + (10 + 5 * k) = e + 3 + 1 by omega]
    have hs := sk_b (T := T) hp
    have hi := rw_sum (t := t) ht k d (dd + 3 + 2 * k) hd
    have hc := rw_cmp (t := t) ht k d (dd + 2 + 2 * k) hd
    rw [show dd + 3 + 2 * k + 6 + 3 * k = e + 3 by omega] at hi
    rw [show dd + 2 + 2 * k + 7 + 3 * k = e + 3 by omega] at hc
    have st := f_R_unit (e + 3) (atR (rM N t d cs) p)
    rw [js_R_look (e + 1) (rM_tp hb.1) hn hp, jz_bI, if_neg (fun w => s1 ((sr_sg ht 33 (by decide)).mp w)), if_neg (fun w => s2 ((sr_sg ht 40 (by decide)).mp w))] at st
    obtain ⟨⟨f1, f2⟩, f3⟩ := (wr_sum_ok (T := T) (n := n) k).1 p hp
    obtain ⟨i1, i2⟩ := hi N (sk T n p) cs hb hs.2 (by omega)
    rw [wr_sum_sk hp] at i1 i2
    rw [wr_unit_s s1 s2]
    unfold wr_sc
    cases ef : (wr_sum T n k p).2 with
    | none =>
      obtain ⟨N', k1, k2⟩ := i2 ef
      have k1 : ja_x true (e + 3) 225 [jr 137] (atR (rM N t d cs) (sk T n p)) = _ := k1
      rw [k1, jz_bV, if_neg (fS_n k2)] at st
      rw [wq_n ef]
      exact ⟨fun c hc => (by cases hc), fun _ => ⟨N', st, k2.mono (by omega)⟩⟩
    | some c0 =>
      obtain ⟨f4, f5⟩ := f3 c0 ef
      have k1 := i1 c0 ef
      have k1 : ja_x true (e + 3) 225 [jr 137] (atR (rM N t d cs) (sk T n p)) = _ := k1
      have e4 : (atR (rM N t d (cs ++ c0)) (wr_sum T n k p).1) 137 4 = -1 := hb.2.1
      rw [k1, jz_bV, e4, if_pos rfl] at st
      obtain ⟨j1, j2⟩ := hc N (wr_sum T n k p).1 (cs ++ c0) hb f2 (by rw [List.length_append]; omega)
      rw [wq_s ef]
      cases ec : (wr_cmp T n k (wr_sum T n k p).1).2 with
      | none =>
        obtain ⟨N', k3, k4⟩ := j2 ec
        have k3 : ja_x true (e + 3) 230 [jr 137] (atR (rM N t d (cs ++ c0)) (wr_sum T n k p).1) = _ := k3
        rw [k3, jz_bV] at st
        rw [wq_n ec]
        exact ⟨fun c hc => (by cases hc), fun _ => ⟨N', st, k4⟩⟩
      | some c1 =>
        have k3 := j1 c1 ec
        have k3 : ja_x true (e + 3) 230 [jr 137] (atR (rM N t d (cs ++ c0)) (wr_sum T n k p).1) = _ := k3
        rw [k3, jz_bV] at st
        rw [wq_s ec]
        refine ⟨fun c hc => ?_, fun h => by cases h⟩
        cases hc
        rw [← List.append_assoc]
        exact st
  intro k
  induction k with
  | zero =>
    intro d dd hd N p cs hb hp hl
    have h6 : d = 6 := by omega
    subst h6
    have hs := sk_b (T := T) hp
    by_cases s : sg T n (sk T n p) = 33 ∨ sg T n (sk T n p) = 40
    · have sq := sg_lt (T := T) (n := n) (p := sk T n p) (by omega)
      have st := f_R_unit (dd + 9) (atR (rM N t 6 cs) p)
      obtain ⟨N', k1, k2⟩ := js_R_opens6 (dd + 7) (p := sk T n p) (cs := cs) hb (by omega) (by omega)
      rw [js_R_look (dd + 7) (rM_tp hb.1) hn hp, jz_bI, k1, jz_bV, jz_bV, if_neg (fS_n k2)] at st
      have st2 : ja_x true (dd + 9 + 1) 221 [jr 137] (atR (rM N t 6 cs) p) = some (none, N') := by
        rw [st]
        rcases s with s | s
        · rw [if_pos ((sr_sg ht 33 (by decide)).mpr s)]
        · rw [if_neg (fun w => by have := (sr_sg ht 33 (by decide)).mp w; omega), if_pos ((sr_sg ht 40 (by decide)).mpr s), if_neg (fS_n k2)]
      rw [wr_unit_0 s]
      exact ⟨fun c hc => (by cases hc), fun _ => ⟨N', st2, k2.mono (by omega)⟩⟩
    · exact sc 0 6 dd hd N p cs hb hp hl (fun w => s (Or.inl w)) (fun w => s (Or.inr w))
  | succ k ih =>
    intro d dd hd N p cs hb hp hl
    have hs := sk_b (T := T) hp
    have uo := wr_unit_ok (T := T) (n := n) k
    obtain ⟨e, he⟩ : ∃ e, dd + (9 + 5 * (k + 1)) = e + 3 := ⟨dd + 6 + 5 * (k + 1), by omega⟩
    have sc1 := sc (k + 1) d dd hd N p cs hb hp hl
    show (∀ c, (wr_unit T n (k + 1) p).2 = some c → ja_x true (dd + (10 + 5 * (k + 1))) 221 [jr 137] (atR (rM N t d cs) p) = _) ∧ ((wr_unit T n (k + 1) p).2 = none → ∃ N', ja_x true (dd + (10 + 5 * (k + 1))) 221 [jr 137] (atR (rM N t d cs) p) = _ ∧ _)
    rw [show dd + (10 + 5 * (k + 1)) = e + 3 + 1 by omega] at sc1 ⊢
    have st := f_R_unit (e + 3) (atR (rM N t d cs) p)
    rw [js_R_look (e + 1) (rM_tp hb.1) hn hp, jz_bI] at st
    by_cases s1 : sg T n (sk T n p) = 33
    · have sq := (sg_eq s1 (by decide)).1
      have hi := ih (d + 1) (dd + 4) (by omega)
      rw [show dd + 4 + (10 + 5 * k) = e + 3 by omega] at hi
      have e4 : (atR (rM N t (d + 1) cs) (sk T n p + 1)) 137 4 = -1 := hb.2.1
      rw [if_pos ((sr_sg ht 33 (by decide)).mpr s1), js_R_opens (e + 1) hb (by omega) (by omega), jz_bV, e4, if_pos rfl] at st
      obtain ⟨⟨f1, f2⟩, f3⟩ := uo.1 (sk T n p + 1) sq
      obtain ⟨i1, i2⟩ := hi N (sk T n p + 1) cs hb sq (by omega)
      rw [wr_unit_n s1]
      cases ef : (wr_unit T n k (sk T n p + 1)).2 with
      | none =>
        obtain ⟨N', k1, k2⟩ := i2 ef
        have k1 : ja_x true (e + 3) 221 [jr 137] (atR (rM N t (d + 1) cs) (sk T n p + 1)) = _ := k1
        obtain ⟨N2, k3, k4⟩ := js_R_putF (e + 2) (a := 9) (b := 0) k2 hb.2.2.2 (by omega)
        rw [k1, jz_bV, k3, jz_bV] at st
        rw [wq_n ef]
        exact ⟨fun c hc => (by cases hc), fun _ => ⟨_, st, (k4.up5 _).mono (by omega)⟩⟩
      | some c0 =>
        obtain ⟨f4, f5⟩ := f3 c0 ef
        have k1 := i1 c0 ef
        have k1 : ja_x true (e + 3) 221 [jr 137] (atR (rM N t (d + 1) cs) (sk T n p + 1)) = _ := k1
        have po := js_R_putO (e + 2) (d := d + 1) (p := (wr_unit T n k (sk T n p + 1)).1) (a := 9) (b := 0) hb (show (cs ++ c0).length < 340 by rw [List.length_append]; omega)
        have e5 : (atR (rM N t (d + 1) (cs ++ c0 ++ [(9, 0)])) (wr_unit T n k (sk T n p + 1)).1) 137 5 = ((d + 1 : Nat) : Int) := rfl
        rw [k1, jz_bV, show ja_x true (e + 3) 223 [jr 137, ji 9, ji 0] (atR (rM N t (d + 1) (cs ++ c0)) (wr_unit T n k (sk T n p + 1)).1) = _ from po, jz_bV, e5, ja_w_id (by omega) (by omega), show ((d + 1 : Nat) : Int) - 1 = (d : Int) by omega, ja_up_cm (c := 137) (i := 3) (d := 137) (j := 5) (by omega), rM_d] at st
        rw [wq_s ef]
        refine ⟨fun c hc => ?_, fun h => by cases h⟩
        cases hc
        rw [← List.append_assoc]
        exact st
    · by_cases s2 : sg T n (sk T n p) = 40
      · have sq := (sg_eq s2 (by decide)).1
        obtain ⟨⟨t1, -⟩, c1, -⟩ := wr_cond_ok (T := T) uo.1 uo.2
        have hi := rw_cond (8 + 5 * k) (dd + 1) (t := t) (d := d + 1) (K := 4 + 2 * k) ht (by omega) uo.1 t1 (fun dd' => by
          have := ih (d + 1) dd' (by omega)
          rw [show dd' + (10 + 5 * k) = dd' + (8 + 5 * k + 2) by omega] at this
          exact this)
        rw [show dd + 1 + (8 + 5 * k + 2) + 3 = e + 3 by omega] at hi
        have e4 : (atR (rM N t (d + 1) cs) (sk T n p + 1)) 137 4 = -1 := hb.2.1
        rw [if_neg (fun w => s1 ((sr_sg ht 33 (by decide)).mp w)), if_pos ((sr_sg ht 40 (by decide)).mpr s2), js_R_opens (e + 1) hb (by omega) (by omega), jz_bV, e4, if_pos rfl] at st
        obtain ⟨⟨f1, f2⟩, f3⟩ := c1 (sk T n p + 1) sq
        obtain ⟨i1, i2⟩ := hi N (sk T n p + 1) cs hb sq (by omega)
        rw [wr_unit_b s2]
        cases ef : (wr_cond T n (wr_unit T n k) (sk T n p + 1)).2 with
        | none =>
          obtain ⟨N', k1, k2⟩ := i2 ef
          have k1 : ja_x true (e + 3) 220 [jr 137] (atR (rM N t (d + 1) cs) (sk T n p + 1)) = _ := k1
          obtain ⟨N2, k3, k4⟩ := js_R_closesF (e + 2) (e := 41) k2
          rw [k1, jz_bV, k3, jz_bV] at st
          rw [wr_close_n ef]
          exact ⟨fun c hc => (by cases hc), fun _ => ⟨N2, st, k4.mono (by omega)⟩⟩
        | some c0 =>
          obtain ⟨f4, f5⟩ := f3 c0 ef
          have k1 := i1 c0 ef
          have k1 : ja_x true (e + 3) 220 [jr 137] (atR (rM N t (d + 1) cs) (sk T n p + 1)) = _ := k1
          obtain ⟨c3, c4⟩ := js_R_closes e (d := d) (q := (wr_cond T n (wr_unit T n k) (sk T n p + 1)).1) (cs := cs ++ c0) (e := 41) (by omega) ht hb f2 (by rw [List.length_append]; omega) (by decide)
          rw [k1, jz_bV] at st
          by_cases q : sg T n (sk T n (wr_cond T n (wr_unit T n k) (sk T n p + 1)).1) = 41
          · rw [c3 q, jz_bV] at st
            rw [wr_close_y ef q]
            exact ⟨fun c hc => (by cases hc; exact st), fun h => by cases h⟩
          · obtain ⟨N', k3, k4⟩ := c4 q
            rw [k3, jz_bV] at st
            rw [wr_close_f ef q]
            exact ⟨fun c hc => (by cases hc), fun _ => ⟨N', st, k4.mono (by omega)⟩⟩
      · exact sc1 s1 s2
