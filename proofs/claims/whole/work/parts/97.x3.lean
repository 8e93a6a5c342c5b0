/-! reading: worths, the other side's sums -/
theorem wr_lt_sr {T : Nat → Int} {n p : Nat} : wr_lt (sr T n p) = wr_lt (sg T n p) := by
  unfold sr sg
  by_cases q : p < n
  · rw [if_pos q, if_pos q]
  · rw [if_neg q, if_neg q]
    rfl
theorem js_R_letterOf (dd : Nat) (c : Int) (M : ja_M) : ja_x true (dd + 1) 229 [ji c] M = some (some (ji (wr_lt c)), M) := by
  rw [f_R_letterOf]
  unfold wr_lt
  by_cases h1 : c = 116
  · rw [if_pos h1, if_pos h1]
  · rw [if_neg h1, if_neg h1]
    by_cases h2 : c = 112
    · rw [if_pos h2, if_pos h2]
    · rw [if_neg h2, if_neg h2]
      by_cases h3 : c = 98
      · rw [if_pos h3, if_pos h3]
      · rw [if_neg h3, if_neg h3]
        by_cases h4 : c = 109
        · rw [if_pos h4, if_pos h4]
        · rw [if_neg h4, if_neg h4]
          by_cases h5 : c = 100
          · rw [if_pos h5, if_pos h5]
          · rw [if_neg h5, if_neg h5]
theorem dg_lt {c : Int} (h : dg c) : wr_lt c = -1 ∧ c ≠ 91 := by
  have h1 : 48 ≤ c ∧ c ≤ 57 := h
  unfold wr_lt
  rw [if_neg (by omega), if_neg (by omega), if_neg (by omega), if_neg (by omega), if_neg (by omega)]
  exact ⟨rfl, by omega⟩
theorem rw_atom (dd : Nat) {T : Nat → Int} {n t k d K : Nat} (ht : tpok T n) (hd : d + k = 6) (hK : 1 ≤ K) (hin : ∀ k', k = k' + 1 → iR T n t (d + 1) (fun M => ja_x true (dd + 3) 225 [jr 137] M) (wr_sum T n k') K) : iR T n t d (fun M => ja_x true (dd + 4) 227 [jr 137] M) (wr_atom T n (wr_in T n k)) K := by
  have hn := ht.1
  intro N p cs hb hp hl
  have hs := sk_b (T := T) hp
  have hR := rM_tp (t := t) (d := d) (cs := cs) hb.1
  have h4 : (rM N t d cs) 137 4 = -1 := hb.2.1
  have st := f_R_atom (dd + 3) (atR (rM N t d cs) p)
  rw [js_R_look (dd + 1) hR hn hp, jz_bI, js_R_isDigit, jz_bI, jz_b0] at st
  show (∀ c, (wr_atom T n (wr_in T n k) p).2 = some c → ja_x true (dd + 4) 227 [jr 137] (atR (rM N t d cs) p) = _) ∧ ((wr_atom T n (wr_in T n k) p).2 = none → ∃ N', ja_x true (dd + 4) 227 [jr 137] (atR (rM N t d cs) p) = _ ∧ _)
  by_cases g : dg (sg T n (sk T n p))
  · obtain ⟨l, b⟩ := dg_lt g
    rw [wr_atom_n l b]
    have tb := tk_b (T := T) (n := n) (m := 4) hp (by decide)
    have pl := js_R_plain_D (dd + 1) hR hn h4 4 (sk T n p) 0 0 rfl hs.2 (tp_v0 (by decide))
    rw [if_pos (dg_sr.mpr g), f_R_plainNumber (dd + 2), show ja_D true (ja_x true (dd + 2)) k_R_plainNumber 4 [some (jr 137), some (ji 0), some (ji 0)] [] (atR (rM N t d cs) (sk T n p)) = _ from pl, jz_bI] at st
    have etk : tk T n 4 p = ((tp_dg T n 4 (sk T n p) 0).1, if dg (sg T n (tp_dg T n 4 (sk T n p) 0).1) then none else some (tp_dg T n 4 (sk T n p) 0).2) := by
      unfold tk
      rw [if_pos g]
    by_cases q : dg (sg T n (tp_dg T n 4 (sk T n p) 0).1)
    · rw [if_pos q] at st etk
      rw [etk] at tb ⊢
      have tb1 : (tp_dg T n 4 (sk T n p) 0).1 ≤ n := tb.2.1
      obtain ⟨N2, k3, k4⟩ := js_R_putF (dd + 2) (a := 0) (b := (tp_dg T n 4 (sk T n p) 0).2) (rM_f (d := d) (cs := cs) (p := (tp_dg T n 4 (sk T n p) 0).1) (f := (tp_dg T n 4 (sk T n p) 0).1) (K := 160) hb (by omega) (by omega)) hb.2.2.2 (by omega)
      rw [k3, jz_bV] at st
      exact ⟨fun c hc => (by cases hc), fun _ => ⟨N2, st, k4.mono (by omega)⟩⟩
    · rw [if_neg q] at st etk
      rw [etk]
      have po := js_R_putO (dd + 2) (d := d) (p := (tp_dg T n 4 (sk T n p) 0).1) (a := 0) (b := (tp_dg T n 4 (sk T n p) 0).2) hb (show cs.length < 340 by omega)
      rw [show ja_x true (dd + 3) 223 [jr 137, ji 0, ji (tp_dg T n 4 (sk T n p) 0).2] (atR (rM N t d cs) (tp_dg T n 4 (sk T n p) 0).1) = _ from po, jz_bV] at st
      exact ⟨fun c hc => (by cases hc; exact st), fun h => by cases h⟩
  · rw [if_neg (fun w => g (dg_sr.mp w)), js_R_letterOf (dd + 2), jz_bI, wr_lt_sr] at st
    by_cases l : wr_lt (sg T n (sk T n p)) = -1
    · rw [if_pos l] at st
      by_cases b : sg T n (sk T n p) = 91
      · have sq := (sg_eq b (by decide)).1
        rw [if_pos ((sr_sg ht 91 (by decide)).mpr b)] at st
        cases k with
        | zero =>
          have h6 : d = 6 := by omega
          subst h6
          obtain ⟨N', k1, k2⟩ := js_R_opens6 (dd + 1) (p := sk T n p) (cs := cs) hb (by omega) (by omega)
          rw [show ja_x true (dd + 3) 222 [jr 137] (atR (rM N t 6 cs) (sk T n p)) = _ from k1, jz_bV, if_neg (fS_n k2)] at st
          rw [show wr_in T n 0 = none from rfl, wr_atom_0 b]
          exact ⟨fun c hc => (by cases hc), fun _ => ⟨N', st, k2.mono (by omega)⟩⟩
        | succ k =>
          have hi := hin k rfl
          obtain ⟨⟨f1, f2⟩, f3⟩ := (wr_sum_ok (T := T) (n := n) k).1 (sk T n p + 1) sq
          rw [show wr_in T n (k + 1) = some (wr_sum T n k) from rfl, wr_atom_b b]
          have e4 : (atR (rM N t (d + 1) cs) (sk T n p + 1)) 137 4 = -1 := hb.2.1
          rw [show ja_x true (dd + 3) 222 [jr 137] (atR (rM N t d cs) (sk T n p)) = _ from js_R_opens (dd + 1) hb (by omega) (by omega), jz_bV, e4, if_pos rfl] at st
          obtain ⟨i1, i2⟩ := hi N (sk T n p + 1) cs hb sq (by omega)
          cases ef : (wr_sum T n k (sk T n p + 1)).2 with
          | none =>
            obtain ⟨N', k1, k2⟩ := i2 ef
            have k1 : ja_x true (dd + 3) 225 [jr 137] (atR (rM N t (d + 1) cs) (sk T n p + 1)) = _ := k1
            obtain ⟨N2, k3, k4⟩ := js_R_closesF (dd + 2) (e := 93) k2
            rw [k1, jz_bV, k3, jz_bV] at st
            rw [wr_close_n ef]
            exact ⟨fun c hc => (by cases hc), fun _ => ⟨N2, st, k4⟩⟩
          | some c0 =>
            obtain ⟨f4, f5⟩ := f3 c0 ef
            have k1 := i1 c0 ef
            have k1 : ja_x true (dd + 3) 225 [jr 137] (atR (rM N t (d + 1) cs) (sk T n p + 1)) = _ := k1
            obtain ⟨c1, c2⟩ := js_R_closes dd (d := d) (q := (wr_sum T n k (sk T n p + 1)).1) (cs := cs ++ c0) (e := 93) (by omega) ht hb f2 (by rw [List.length_append]; omega) (by decide)
            rw [k1, jz_bV] at st
            by_cases q : sg T n (sk T n (wr_sum T n k (sk T n p + 1)).1) = 93
            · rw [c1 q, jz_bV] at st
              rw [wr_close_y ef q]
              exact ⟨fun c hc => (by cases hc; exact st), fun h => by cases h⟩
            · obtain ⟨N', k3, k4⟩ := c2 q
              rw [k3, jz_bV] at st
              rw [wr_close_f ef q]
              exact ⟨fun c hc => (by cases hc), fun _ => ⟨N', st, k4.mono (by omega)⟩⟩
      · rw [if_neg (fun w => b ((sr_sg ht 91 (by decide)).mp w)), js_R_bad (dd + 2) (N := rM N t d cs) h4, jz_bV] at st
        rw [wr_atom_n l b]
        have etk : tk T n 4 p = (sk T n p, none) := by
          unfold tk
          rw [if_neg g]
        rw [etk]
        exact ⟨fun c hc => (by cases hc), fun _ => ⟨_, st, (rM_f (K := 160) hb (by omega) (by omega)).mono (by omega)⟩⟩
    · obtain ⟨l1, l2⟩ := wr_lt_b l
      have sq := sg_lt l2
      have e3 : (atR (rM N t d cs) (sk T n p)) 137 3 = (sk T n p : Int) := rfl
      have po := js_R_putO (dd + 2) (d := d) (p := sk T n p + 1) (a := 1) (b := wr_lt (sg T n (sk T n p))) hb (show cs.length < 340 by omega)
      rw [if_neg l, e3, ja_w_id (by omega) (by omega), ja_up_up, js_R_letterOf (dd + 2), jz_bI, wr_lt_sr, show ja_x true (dd + 3) 223 [jr 137, ji 1, ji (wr_lt (sg T n (sk T n p)))] (ja_up (rM N t d cs) 137 3 ((sk T n p : Int) + 1)) = _ from po, jz_bV] at st
      rw [wr_atom_l l]
      exact ⟨fun c hc => (by cases hc; exact st), fun h => by cases h⟩
theorem rw_term (dd : Nat) {T : Nat → Int} {n t d K : Nat} {f : wP} (ht : tpok T n) (hK : K ≤ 100) (hg : wGd n f) (hi : iR T n t d (fun M => ja_x true (dd + 4) 227 [jr 137] M) f K) : iR T n t d (fun M => ja_x true (dd + 5) 226 [jr 137] M) (wr_seq T n f wr_opT) (K + 1) := by
  have hn := ht.1
  have g0 : ∀ M : ja_M, M 137 4 ≠ -1 → (if M 137 4 = (-1) then ja_bI (ja_x true (dd + 4) 207 [jr 137] M) (fun x3 M2 => ja_D true (ja_x true (dd + 4)) k_R_term 11 [some (jr 137), some (ji x3)] [] M2) else ja_D true (ja_x true (dd + 4)) k_R_term 11 [some (jr 137), some (ji (-1))] [] M) = some (none, M) := fun M h => by
    rw [if_neg h, e_R_term_11, if_neg (by decide), if_neg (by decide)]
  have lp : lR T n t d (fun M => if M 137 4 = (-1) then ja_bI (ja_x true (dd + 4) 207 [jr 137] M) (fun x3 M2 => ja_D true (ja_x true (dd + 4)) k_R_term 11 [some (jr 137), some (ji x3)] [] M2) else ja_D true (ja_x true (dd + 4)) k_R_term 11 [some (jr 137), some (ji (-1))] [] M) f wr_opT (K + 1) := ⟨g0, fun N p cs acc hb hp hl => rw_loop (dw := dd + 3) hn hK hg (fun c o h => (wOpT c o h).1) hi g0 (fun N p cs hb hp e => by
    have e4 : (atR (rM N t d cs) p) 137 4 = -1 := hb.2.1
    show (if (atR (rM N t d cs) p) 137 4 = (-1) then _ else _) = _
    rw [e4, if_pos rfl, js_R_look (dd + 2) (rM_tp hb.1) hn hp, jz_bI, e_R_term_11]
    rcases wr_opT_i (c := sg T n (sk T n p)) with ⟨-, q1, q2⟩ | ⟨q, -⟩ | ⟨q, -⟩
    · rw [if_neg (fun w => q1 ((sr_sg ht 42 (by decide)).mp w)), if_neg (fun w => q2 ((sr_sg ht 47 (by decide)).mp w))]
    · rw [q] at e
      cases e
    · rw [q] at e
      cases e) (fun N p cs o hb hp e => by
    have e4 : (atR (rM N t d cs) p) 137 4 = -1 := hb.2.1
    have sq := sg_lt (wOpT _ o e).1
    have e3 : (atR (rM N t d cs) (sk T n p)) 137 3 = (sk T n p : Int) := rfl
    show (if (atR (rM N t d cs) p) 137 4 = (-1) then _ else _) = _
    rw [e4, if_pos rfl, js_R_look (dd + 2) (rM_tp hb.1) hn hp, jz_bI, e_R_term_11, e3, ja_w_id (by omega) (by omega), ja_up_up]
    rcases wr_opT_i (c := sg T n (sk T n p)) with ⟨q, -⟩ | ⟨q, q1⟩ | ⟨q, q1⟩
    · rw [q] at e
      cases e
    · rw [q] at e
      cases e
      rw [(sr_sg ht 42 (by decide)).mpr q1, if_pos rfl]
      rfl
    · rw [q] at e
      cases e
      rw [(sr_sg ht 47 (by decide)).mpr q1, if_neg (by decide), if_pos rfl]
      rfl) (n + 1) p cs acc N (by omega) hp hl hb⟩
  have := rw_seq hg hi lp
  intro N p cs h1 h2 h3
  obtain ⟨g1, g2⟩ := this N p cs h1 h2 h3
  refine ⟨fun c hc => (f_R_term (dd + 4) _).trans (g1 c hc), fun h => ?_⟩
  obtain ⟨N', k1, k2⟩ := g2 h
  exact ⟨N', (f_R_term (dd + 4) _).trans k1, k2⟩
theorem rw_sumI (dd : Nat) {T : Nat → Int} {n t d K : Nat} {f : wP} (ht : tpok T n) (hK : K ≤ 100) (hg : wGd n f) (hi : iR T n t d (fun M => ja_x true (dd + 5) 226 [jr 137] M) f K) : iR T n t d (fun M => ja_x true (dd + 6) 225 [jr 137] M) (wr_seq T n f wr_opS) (K + 1) := by
  have hn := ht.1
  have g0 : ∀ M : ja_M, M 137 4 ≠ -1 → (if M 137 4 = (-1) then ja_bI (ja_x true (dd + 5) 207 [jr 137] M) (fun x3 M2 => ja_D true (ja_x true (dd + 5)) k_R_sum 11 [some (jr 137), some (ji x3)] [] M2) else ja_D true (ja_x true (dd + 5)) k_R_sum 11 [some (jr 137), some (ji (-1))] [] M) = some (none, M) := fun M h => by
    rw [if_neg h, e_R_sum_11, if_neg (by decide), if_neg (by decide)]
  have lp : lR T n t d (fun M => if M 137 4 = (-1) then ja_bI (ja_x true (dd + 5) 207 [jr 137] M) (fun x3 M2 => ja_D true (ja_x true (dd + 5)) k_R_sum 11 [some (jr 137), some (ji x3)] [] M2) else ja_D true (ja_x true (dd + 5)) k_R_sum 11 [some (jr 137), some (ji (-1))] [] M) f wr_opS (K + 1) := ⟨g0, fun N p cs acc hb hp hl => rw_loop (dw := dd + 4) hn hK hg (fun c o h => (wOpS c o h).1) hi g0 (fun N p cs hb hp e => by
    have e4 : (atR (rM N t d cs) p) 137 4 = -1 := hb.2.1
    show (if (atR (rM N t d cs) p) 137 4 = (-1) then _ else _) = _
    rw [e4, if_pos rfl, js_R_look (dd + 3) (rM_tp hb.1) hn hp, jz_bI, e_R_sum_11]
    rcases wr_opS_i (c := sg T n (sk T n p)) with ⟨-, q1, q2⟩ | ⟨q, -⟩ | ⟨q, -⟩
    · rw [if_neg (fun w => q1 ((sr_sg ht 43 (by decide)).mp w)), if_neg (fun w => q2 ((sr_sg ht 45 (by decide)).mp w))]
    · rw [q] at e
      cases e
    · rw [q] at e
      cases e) (fun N p cs o hb hp e => by
    have e4 : (atR (rM N t d cs) p) 137 4 = -1 := hb.2.1
    have sq := sg_lt (wOpS _ o e).1
    have e3 : (atR (rM N t d cs) (sk T n p)) 137 3 = (sk T n p : Int) := rfl
    show (if (atR (rM N t d cs) p) 137 4 = (-1) then _ else _) = _
    rw [e4, if_pos rfl, js_R_look (dd + 3) (rM_tp hb.1) hn hp, jz_bI, e_R_sum_11, e3, ja_w_id (by omega) (by omega), ja_up_up]
    rcases wr_opS_i (c := sg T n (sk T n p)) with ⟨q, -⟩ | ⟨q, q1⟩ | ⟨q, q1⟩
    · rw [q] at e
      cases e
    · rw [q] at e
      cases e
      rw [(sr_sg ht 43 (by decide)).mpr q1, if_pos rfl]
      rfl
    · rw [q] at e
      cases e
      rw [(sr_sg ht 45 (by decide)).mpr q1, if_neg (by decide), if_pos rfl]
      rfl) (n + 1) p cs acc N (by omega) hp hl hb⟩
  have := rw_seq hg hi lp
  intro N p cs h1 h2 h3
  obtain ⟨g1, g2⟩ := this N p cs h1 h2 h3
  refine ⟨fun c hc => (f_R_sum (dd + 5) _).trans (g1 c hc), fun h => ?_⟩
  obtain ⟨N', k1, k2⟩ := g2 h
  exact ⟨N', (f_R_sum (dd + 5) _).trans k1, k2⟩
theorem rw_sum {T : Nat → Int} {n t : Nat} (ht : tpok T n) : ∀ (k d dd : Nat), d + k = 6 → iR T n t d (fun M => ja_x true (dd + 6 + 3 * k) 225 [jr 137] M) (wr_sum T n k) (3 + 2 * k) := by
  intro k
  induction k with
  | zero =>
    intro d dd hd
    have i1 := rw_atom dd (t := t) (k := 0) (K := 1) ht hd (by decide) (fun k' hk => by cases hk)
    have i2 := rw_term dd ht (by decide) (wr_atom_ok (T := T) (by decide) (wr_in_ok (T := T) 0)).1 i1
    exact rw_sumI dd ht (by decide) (wr_term_ok (T := T) (inner := wr_in T n 0) (h := 1) (by decide) (wr_in_ok (T := T) 0)).1 i2
  | succ k ih =>
    intro d dd hd
    have i1 := rw_atom (dd + 3 * (k + 1)) (t := t) (k := k + 1) (K := 3 + 2 * k) ht hd (by omega) (fun k' hk => by
      cases hk
      have := ih (d + 1) dd (by omega)
      rw [show dd + 6 + 3 * k = dd + 3 * (k + 1) + 3 by omega] at this
      exact this)
    have i2 := rw_term (dd + 3 * (k + 1)) ht (by omega) (wr_atom_ok (T := T) (h := 2 * (k + 1) + 1) (by omega) (wr_in_ok (k + 1))).1 i1
    have i3 := rw_sumI (dd + 3 * (k + 1)) ht (by omega) (wr_term_ok (T := T) (h := 2 * (k + 1) + 1) (by omega) (wr_in_ok (k + 1))).1 i2
    rw [show dd + 3 * (k + 1) + 6 = dd + 6 + 3 * (k + 1) by omega, show 3 + 2 * k + 1 + 1 = 3 + 2 * (k + 1) by omega] at i3
    exact i3
