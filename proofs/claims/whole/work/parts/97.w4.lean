/-! reading: worths, the class's sums and conditions -/
theorem wr_opT_i {c : Int} : (wr_opT c = none ∧ c ≠ 42 ∧ c ≠ 47) ∨ (wr_opT c = some 4 ∧ c = 42) ∨ (wr_opT c = some 5 ∧ c = 47) := by
  unfold wr_opT
  by_cases h1 : c = 42
  · rw [if_pos h1]
    exact Or.inr (Or.inl ⟨rfl, h1⟩)
  · rw [if_neg h1]
    by_cases h2 : c = 47
    · rw [if_pos h2]
      exact Or.inr (Or.inr ⟨rfl, h2⟩)
    · rw [if_neg h2]
      exact Or.inl ⟨rfl, h1, h2⟩
theorem wr_opS_i {c : Int} : (wr_opS c = none ∧ c ≠ 43 ∧ c ≠ 45) ∨ (wr_opS c = some 2 ∧ c = 43) ∨ (wr_opS c = some 3 ∧ c = 45) := by
  unfold wr_opS
  by_cases h1 : c = 43
  · rw [if_pos h1]
    exact Or.inr (Or.inl ⟨rfl, h1⟩)
  · rw [if_neg h1]
    by_cases h2 : c = 45
    · rw [if_pos h2]
      exact Or.inr (Or.inr ⟨rfl, h2⟩)
    · rw [if_neg h2]
      exact Or.inl ⟨rfl, h1, h2⟩
theorem wr_opA_i {c : Int} : (wr_opA c = none ∧ c ≠ 38) ∨ (wr_opA c = some 10 ∧ c = 38) := by
  unfold wr_opA
  by_cases h1 : c = 38
  · rw [if_pos h1]
    exact Or.inr ⟨rfl, h1⟩
  · rw [if_neg h1]
    exact Or.inl ⟨rfl, h1⟩
theorem wr_opO_i {c : Int} : (wr_opO c = none ∧ c ≠ 124) ∨ (wr_opO c = some 11 ∧ c = 124) := by
  unfold wr_opO
  by_cases h1 : c = 124
  · rw [if_pos h1]
    exact Or.inr ⟨rfl, h1⟩
  · rw [if_neg h1]
    exact Or.inl ⟨rfl, h1⟩
theorem wx_term (dd : Nat) {T : Nat → Int} {n a : Nat} {f : wP} (ht : tpok T n) (hg : wGd n f) (hi : iX T n (fun M => ja_x true (dd + 3) 46 [jr 9, ji (a : Int)] M) f) : iX T n (fun M => ja_x true (dd + 4) 45 [jr 9, ji (a : Int)] M) (wr_seq T n f wr_opT) := by
  have hn := ht.1
  have lp : lX T n (fun M => ja_D true (ja_x true (dd + 3)) k_WorthReader_readTerm 8 [some (jr 9), some (ji (a : Int)), some (ji 1), none] [] M) f wr_opT := fun N p ws acc h1 h2 h3 h4 => wx_loop (dw := dd + 2) (F := fun c M => ja_D true (ja_x true (dd + 3)) k_WorthReader_readTerm 8 [some (jr 9), some (ji (a : Int)), some (ji (c : Int)), none] [] M) hn hg (fun c o h => (wOpT c o h).1) hi (fun c N p ws hc hX hp e => by
    show ja_D true (ja_x true (dd + 3)) k_WorthReader_readTerm 8 _ [] _ = _
    rw [e_WorthReader_readTerm_8, if_pos (by omega), js_next (dd + 2) (wM_tp hX) hn hp, jz_bI]
    rcases wr_opT_i (c := sg T n (sk T n p)) with ⟨-, q1, q2⟩ | ⟨q, -⟩ | ⟨q, -⟩
    · rw [if_neg q1, if_neg q2]
    · rw [q] at e
      cases e
    · rw [q] at e
      cases e) (fun c N p ws o hc hX hp e => by
    show ja_D true (ja_x true (dd + 3)) k_WorthReader_readTerm 8 _ [] _ = _
    have sq := sg_lt (wOpT _ o e).1
    rw [e_WorthReader_readTerm_8, if_pos (by omega), js_next (dd + 2) (wM_tp hX) hn hp, jz_bI, js_pass (dd + 2) (wM_tp hX) hn sq, jz_bV, ja_w_id (x := (c : Int) + 1) (by omega) (by omega)]
    rcases wr_opT_i (c := sg T n (sk T n p)) with ⟨q, -⟩ | ⟨q, q1⟩ | ⟨q, q1⟩
    · rw [q] at e
      cases e
    · rw [q] at e
      cases e
      rw [if_pos q1, q1]
      rfl
    · rw [q] at e
      cases e
      rw [if_neg (by omega), if_pos q1, q1]
      rfl) (n + 1) 1 p ws acc N (by omega) (by omega) h2 h4 h1
  have := wx_seq hg hi lp
  intro N p ws h1 h2 h3
  obtain ⟨ws', g1, g2⟩ := this N p ws h1 h2 h3
  exact ⟨ws', (f_WorthReader_readTerm (dd + 3) (a : Int) _).trans g1, g2⟩
theorem wx_sumI (dd : Nat) {T : Nat → Int} {n a : Nat} {f : wP} (ht : tpok T n) (hg : wGd n f) (hi : iX T n (fun M => ja_x true (dd + 4) 45 [jr 9, ji (a : Int)] M) f) : iX T n (fun M => ja_x true (dd + 5) 44 [jr 9, ji (a : Int)] M) (wr_seq T n f wr_opS) := by
  have hn := ht.1
  have lp : lX T n (fun M => ja_D true (ja_x true (dd + 4)) k_WorthReader_readSum 8 [some (jr 9), some (ji (a : Int)), some (ji 1), none] [] M) f wr_opS := fun N p ws acc h1 h2 h3 h4 => wx_loop (dw := dd + 3) (F := fun c M => ja_D true (ja_x true (dd + 4)) k_WorthReader_readSum 8 [some (jr 9), some (ji (a : Int)), some (ji (c : Int)), none] [] M) hn hg (fun c o h => (wOpS c o h).1) hi (fun c N p ws hc hX hp e => by
    show ja_D true (ja_x true (dd + 4)) k_WorthReader_readSum 8 _ [] _ = _
    rw [e_WorthReader_readSum_8, if_pos (by omega), js_next (dd + 3) (wM_tp hX) hn hp, jz_bI]
    rcases wr_opS_i (c := sg T n (sk T n p)) with ⟨-, q1, q2⟩ | ⟨q, -⟩ | ⟨q, -⟩
    · rw [if_neg q1, if_neg q2]
    · rw [q] at e
      cases e
    · rw [q] at e
      cases e) (fun c N p ws o hc hX hp e => by
    show ja_D true (ja_x true (dd + 4)) k_WorthReader_readSum 8 _ [] _ = _
    have sq := sg_lt (wOpS _ o e).1
    rw [e_WorthReader_readSum_8, if_pos (by omega), js_next (dd + 3) (wM_tp hX) hn hp, jz_bI, js_pass (dd + 3) (wM_tp hX) hn sq, jz_bV, ja_w_id (x := (c : Int) + 1) (by omega) (by omega)]
    rcases wr_opS_i (c := sg T n (sk T n p)) with ⟨q, -⟩ | ⟨q, q1⟩ | ⟨q, q1⟩
    · rw [q] at e
      cases e
    · rw [q] at e
      cases e
      rw [if_pos q1, q1]
      rfl
    · rw [q] at e
      cases e
      rw [if_neg (by omega), if_pos q1, q1]
      rfl) (n + 1) 1 p ws acc N (by omega) (by omega) h2 h4 h1
  have := wx_seq hg hi lp
  intro N p ws h1 h2 h3
  obtain ⟨ws', g1, g2⟩ := this N p ws h1 h2 h3
  exact ⟨ws', (f_WorthReader_readSum (dd + 4) (a : Int) _).trans g1, g2⟩
theorem wx_sum {T : Nat → Int} {n : Nat} (ht : tpok T n) : ∀ (k a dd : Nat), a + k = 6 → iX T n (fun M => ja_x true (dd + 5 + 3 * k) 44 [jr 9, ji (a : Int)] M) (wr_sum T n k) := by
  intro k
  induction k with
  | zero =>
    intro a dd ha
    have i1 := wx_atom dd (k := 0) ht ha (fun k' hk => by cases hk)
    have i2 := wx_term dd ht (wr_atom_ok (T := T) (by decide) (wr_in_ok 0)).1 i1
    exact wx_sumI dd ht (wr_term_ok (T := T) (inner := wr_in T n 0) (h := 1) (by decide) (wr_in_ok (T := T) 0)).1 i2
  | succ k ih =>
    intro a dd ha
    have i1 := wx_atom (dd + 3 * (k + 1)) (k := k + 1) ht ha (fun k' hk => by
      cases hk
      have := ih (a + 1) dd (by omega)
      rw [show dd + 5 + 3 * k = dd + 3 * (k + 1) + 2 by omega] at this
      exact this)
    have i2 := wx_term (dd + 3 * (k + 1)) ht (wr_atom_ok (T := T) (by omega) (wr_in_ok (k + 1))).1 i1
    have i3 := wx_sumI (dd + 3 * (k + 1)) ht (wr_term_ok (T := T) (by omega) (wr_in_ok (k + 1))).1 i2
    rw [show dd + 3 * (k + 1) + 5 = dd + 5 + 3 * (k + 1) by omega] at i3
    exact i3
theorem js_isComparison (dd : Nat) (c : Int) (M : ja_M) : ja_x true (dd + 1) 50 [ji c] M = some (some (ji (if (wr_opC c).isSome = true then 1 else 0)), M) := by
  rw [f_WorthReader_isComparison]
  unfold wr_opC
  by_cases h1 : c = 61
  · rw [if_pos h1, if_pos h1]
    rfl
  · rw [if_neg h1, if_neg h1]
    by_cases h2 : c = 60
    · rw [if_pos h2, if_pos h2]
      rfl
    · rw [if_neg h2, if_neg h2]
      by_cases h3 : c = 62
      · rw [if_pos h3, if_pos h3]
        rfl
      · rw [if_neg h3, if_neg h3]
        rfl
theorem wx_cmp {T : Nat → Int} {n : Nat} (ht : tpok T n) (k a dd : Nat) (ha : a + k = 6) : iX T n (fun M => ja_x true (dd + 6 + 3 * k) 49 [jr 9, ji (a : Int)] M) (wr_cmp T n k) := by
  have hn := ht.1
  refine iX.mk (fun N p ws h1 h2 h3 => ?_)
  have hX := wM_tp (ws := ws) h1
  have hs := sk_b (T := T) h2
  have st := f_WorthReader_readComparison (dd + 5 + 3 * k) (a : Int) (atX (wM N ws) p)
  rw [show dd + 5 + 3 * k = dd + 4 + 3 * k + 1 by omega, js_next (dd + 4 + 3 * k) hX hn h2, jz_bI, js_isComparison, jz_bI, jz_b0] at st
  show (∀ c, (wr_cmp T n k p).2 = some c → ja_x true (dd + 6 + 3 * k) 49 [jr 9, ji (a : Int)] (atX (wM N ws) p) = _) ∧ ((wr_cmp T n k p).2 = none → ∃ ws', ja_x true (dd + 6 + 3 * k) 49 [jr 9, ji (a : Int)] (atX (wM N ws) p) = _)
  rw [show dd + 6 + 3 * k = dd + 4 + 3 * k + 1 + 1 by omega]
  cases e : wr_opC (sg T n (sk T n p)) with
  | none =>
    rw [e, if_neg (by decide)] at st
    rw [wr_cmp_n e]
    exact ⟨fun c hc => (by cases hc), fun _ => ⟨ws, st⟩⟩
  | some o =>
    obtain ⟨⟨o0, o1⟩, o2, o3⟩ := wr_opC_i e
    have sq := sg_lt o0
    have hi := wx_sum ht k a dd ha
    obtain ⟨⟨f1, f2⟩, f3⟩ := (wr_sum_ok (T := T) (n := n) k).1 (sk T n p + 1) sq
    rw [e, if_pos (show (some o).isSome = true from rfl), js_pass (dd + 4 + 3 * k) hX hn sq, jz_bV] at st
    rw [wr_cmp_s e]
    cases ef : (wr_sum T n k (sk T n p + 1)).2 with
    | none =>
      obtain ⟨ws', g⟩ := hi.n h1 sq (ws := ws) (by omega) ef
      have g : ja_x true (dd + 5 + 3 * k) 44 [jr 9, ji (a : Int)] (atX (wM N ws) (sk T n p + 1)) = _ := g
      rw [show dd + 5 + 3 * k = dd + 4 + 3 * k + 1 by omega] at g
      rw [g, jz_bI, if_pos rfl] at st
      rw [wq_n ef]
      exact ⟨fun c hc => (by cases hc), fun _ => ⟨ws', st⟩⟩
    | some d =>
      have g := hi.y h1 sq (ws := ws) (by omega) ef
      have g : ja_x true (dd + 5 + 3 * k) 44 [jr 9, ji (a : Int)] (atX (wM N ws) (sk T n p + 1)) = _ := g
      rw [show dd + 5 + 3 * k = dd + 4 + 3 * k + 1 by omega] at g
      obtain ⟨f4, f5⟩ := f3 d ef
      have hl2 : (ws ++ d.map jw_enc).length < 160 := by
        rw [List.length_append, List.length_map]
        omega
      rw [g, jz_bI, if_neg (by decide), ja_w_id (by omega) (by omega), js_wwrite (dd + 4 + 3 * k) hl2, jz_bI, if_neg (by decide)] at st
      rw [wq_s ef]
      refine ⟨fun c hc => ?_, fun w => by cases w⟩
      cases hc
      have eo : jw_enc (o, 0) = 20000 + sg T n (sk T n p) := by
        rw [o2]
        have : o = 6 ∨ o = 7 ∨ o = 8 := by omega
        rcases this with rfl | rfl | rfl <;> rfl
      rw [List.map_append, ← List.append_assoc]
      show _ = some (some (ji 1), atX (wM N (ws ++ d.map jw_enc ++ [jw_enc (o, 0)])) (wr_sum T n k (sk T n p + 1)).1)
      rw [eo]
      exact st
