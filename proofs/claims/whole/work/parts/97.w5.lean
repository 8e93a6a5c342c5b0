/-! reading: worths, the class's conditions -/
theorem wx_mu (ℓ dd : Nat) {T : Nat → Int} {n a : Nat} {u : wP} (ht : tpok T n) (hg : wGd n u) (hu : ∀ dd, iX T n (fun M => ja_x true (dd + (ℓ + 2)) 43 [jr 9, ji (a : Int)] M) u) : lX T n (fun M => ja_x true (dd + (ℓ + 2) + 1) 51 [jr 9, ji (a : Int)] M) u wr_opA := by
  have hn := ht.1
  intro N p ws acc h1 h2 h3 h4
  have := wx_loop (T := T) (n := n) (dw := dd + (ℓ + 1)) (F := fun c M => ja_D true (ja_x true (dd + (ℓ + 2))) k_WorthReader_readMoreUnits 2 [some (jr 9), some (ji (a : Int)), some (ji (c : Int))] [] M) (op := wr_opA) hn hg (fun c o h => (wOpA c o h).1) (hu dd) (fun c N p ws hc hX hp e => by
    show ja_D true (ja_x true (dd + (ℓ + 2))) k_WorthReader_readMoreUnits 2 _ [] _ = _
    rw [e_WorthReader_readMoreUnits_2, if_pos (by omega), show dd + (ℓ + 2) = dd + ℓ + 2 by omega, js_take (dd + ℓ) (wM_tp hX) hn hp (by decide)]
    rcases wr_opA_i (c := sg T n (sk T n p)) with ⟨-, q1⟩ | ⟨q, -⟩
    · rw [if_neg q1, jz_bI, if_pos rfl]
    · rw [q] at e
      cases e) (fun c N p ws o hc hX hp e => by
    show ja_D true (ja_x true (dd + (ℓ + 2))) k_WorthReader_readMoreUnits 2 _ [] _ = _
    rw [e_WorthReader_readMoreUnits_2, if_pos (by omega), show ja_x true (dd + (ℓ + 2)) 38 [jr 2, ji 38] (atX (wM N ws) p) = _ from js_take (dd + ℓ) (wM_tp hX) hn hp (by decide), ja_w_id (x := (c : Int) + 1) (by omega) (by omega)]
    rcases wr_opA_i (c := sg T n (sk T n p)) with ⟨q, -⟩ | ⟨q, q1⟩
    · rw [q] at e
      cases e
    · rw [q] at e
      cases e
      rw [if_pos q1, jz_bI, if_neg (by decide)]
      rfl) (n + 1) 0 p ws acc N (by omega) (by omega) h2 h4 h1
  obtain ⟨ws', g1, g2⟩ := this
  exact ⟨ws', (f_WorthReader_readMoreUnits _ _ _).trans g1, g2⟩
theorem wx_truth (ℓ dd : Nat) {T : Nat → Int} {n a : Nat} {u : wP} (ht : tpok T n) (hg : wGd n u) (hu : ∀ dd, iX T n (fun M => ja_x true (dd + (ℓ + 2)) 43 [jr 9, ji (a : Int)] M) u) : iX T n (fun M => ja_x true (dd + (ℓ + 4)) 42 [jr 9, ji (a : Int)] M) (wr_truth T n u) := by
  have h1 := hu (dd + 1)
  rw [show dd + 1 + (ℓ + 2) = dd + (ℓ + 2) + 1 by omega] at h1
  have := wx_seq hg h1 (wx_mu ℓ dd ht hg hu).wrap
  intro N p ws x1 x2 x3
  obtain ⟨ws', g1, g2⟩ := this N p ws x1 x2 x3
  exact ⟨ws', (f_WorthReader_readTruth (dd + (ℓ + 2) + 1) (a : Int) _).trans g1, g2⟩
theorem wx_mt (ℓ dd : Nat) {T : Nat → Int} {n a : Nat} {u : wP} (ht : tpok T n) (hg : wGd n u) (hu : ∀ dd, iX T n (fun M => ja_x true (dd + (ℓ + 2)) 42 [jr 9, ji (a : Int)] M) u) : lX T n (fun M => ja_x true (dd + (ℓ + 2) + 1) 52 [jr 9, ji (a : Int)] M) u wr_opO := by
  have hn := ht.1
  intro N p ws acc h1 h2 h3 h4
  have := wx_loop (T := T) (n := n) (dw := dd + (ℓ + 1)) (F := fun c M => ja_D true (ja_x true (dd + (ℓ + 2))) k_WorthReader_readMoreTruths 2 [some (jr 9), some (ji (a : Int)), some (ji (c : Int))] [] M) (op := wr_opO) hn hg (fun c o h => (wOpO c o h).1) (hu dd) (fun c N p ws hc hX hp e => by
    show ja_D true (ja_x true (dd + (ℓ + 2))) k_WorthReader_readMoreTruths 2 _ [] _ = _
    rw [e_WorthReader_readMoreTruths_2, if_pos (by omega), show dd + (ℓ + 2) = dd + ℓ + 2 by omega, js_take (dd + ℓ) (wM_tp hX) hn hp (by decide)]
    rcases wr_opO_i (c := sg T n (sk T n p)) with ⟨-, q1⟩ | ⟨q, -⟩
    · rw [if_neg q1, jz_bI, if_pos rfl]
    · rw [q] at e
      cases e) (fun c N p ws o hc hX hp e => by
    show ja_D true (ja_x true (dd + (ℓ + 2))) k_WorthReader_readMoreTruths 2 _ [] _ = _
    rw [e_WorthReader_readMoreTruths_2, if_pos (by omega), show ja_x true (dd + (ℓ + 2)) 38 [jr 2, ji 124] (atX (wM N ws) p) = _ from js_take (dd + ℓ) (wM_tp hX) hn hp (by decide), ja_w_id (x := (c : Int) + 1) (by omega) (by omega)]
    rcases wr_opO_i (c := sg T n (sk T n p)) with ⟨q, -⟩ | ⟨q, q1⟩
    · rw [q] at e
      cases e
    · rw [q] at e
      cases e
      rw [if_pos q1, jz_bI, if_neg (by decide)]
      rfl) (n + 1) 0 p ws acc N (by omega) (by omega) h2 h4 h1
  obtain ⟨ws', g1, g2⟩ := this
  exact ⟨ws', (f_WorthReader_readMoreTruths _ _ _).trans g1, g2⟩
theorem wx_cond (ℓ dd : Nat) {T : Nat → Int} {n a : Nat} {u : wP} (ht : tpok T n) (hg : wGd n u) (hg2 : wGd n (wr_truth T n u)) (hu : ∀ dd, iX T n (fun M => ja_x true (dd + (ℓ + 2)) 43 [jr 9, ji (a : Int)] M) u) : iX T n (fun M => ja_x true (dd + (ℓ + 6)) 41 [jr 9, ji (a : Int)] M) (wr_cond T n u) := by
  have ht2 : ∀ dd, iX T n (fun M => ja_x true (dd + (ℓ + 2 + 2)) 42 [jr 9, ji (a : Int)] M) (wr_truth T n u) := fun dd => wx_truth ℓ dd ht hg hu
  have h1 := ht2 (dd + 1)
  rw [show dd + 1 + (ℓ + 2 + 2) = dd + (ℓ + 2 + 2) + 1 by omega] at h1
  have := wx_seq hg2 h1 (wx_mt (ℓ + 2) dd ht hg2 ht2).wrap
  intro N p ws x1 x2 x3
  obtain ⟨ws', g1, g2⟩ := this N p ws x1 x2 x3
  exact ⟨ws', (f_WorthReader_readCondition (dd + (ℓ + 2 + 2) + 1) (a : Int) _).trans g1, g2⟩
theorem wx_unit {T : Nat → Int} {n : Nat} (ht : tpok T n) : ∀ (k a dd : Nat), a + k = 6 → iX T n (fun M => ja_x true (dd + (9 + 5 * k)) 43 [jr 9, ji (a : Int)] M) (wr_unit T n k) := by
  have hn := ht.1
  have sc : ∀ (k a dd : Nat), a + k = 6 → ∀ (N : ja_M) (p : Nat) (ws : List Int), tpX N T n → p ≤ n → ws.length ≤ p → ¬ sg T n (sk T n p) = 33 → ¬ sg T n (sk T n p) = 40 → (∀ c, (wr_unit T n k p).2 = some c → ja_x true (dd + (9 + 5 * k)) 43 [jr 9, ji (a : Int)] (atX (wM N ws) p) = some (some (ji 1), atX (wM N (ws ++ c.map jw_enc)) (wr_unit T n k p).1)) ∧ ((wr_unit T n k p).2 = none → ∃ ws', ja_x true (dd + (9 + 5 * k)) 43 [jr 9, ji (a : Int)] (atX (wM N ws) p) = some (some (ji 0), atX (wM N ws') (wr_unit T n k p).1)) := by
    intro k a dd ha N p ws h1 h2 h3 s1 s2
    obtain ⟨e, he⟩ : ∃ e, dd + (8 + 5 * k) = e + 2 := ⟨dd + 6 + 5 * k, by omega⟩
    rw [show dd + (9 + 5 * k) = e + 2 + 1 by omega]
    have hX := wM_tp (ws := ws) h1
    have hs := sk_b (T := T) h2
    have st := f_WorthReader_readUnit (e + 2) (a : Int) (atX (wM N ws) p)
    rw [js_next (e + 1) hX hn h2, jz_bI, if_neg s1, if_neg s2] at st
    have hi := wx_sum ht k a (dd + 3 + 2 * k) ha
    have hc := wx_cmp ht k a (dd + 2 + 2 * k) ha
    rw [show dd + 3 + 2 * k + 5 + 3 * k = e + 2 by omega] at hi
    rw [show dd + 2 + 2 * k + 6 + 3 * k = e + 2 by omega] at hc
    have gs := (wr_sum_ok (T := T) (n := n) k).1
    have skp : wr_sum T n k (sk T n p) = wr_sum T n k p := by
      rw [wr_sum_in]
      unfold wr_sumI wr_seq wr_atom
      have : tk T n 4 (sk T n p) = tk T n 4 p := by
        unfold tk
        rw [sk_i h2]
      rw [sk_i h2, this]
    obtain ⟨⟨f1, f2⟩, f3⟩ := gs p h2
    rw [wr_unit_s s1 s2]
    unfold wr_sc
    rw [← skp] at f1 f2 f3 ⊢
    cases ef : (wr_sum T n k (sk T n p)).2 with
    | none =>
      obtain ⟨ws', g⟩ := hi.n h1 hs.2 (ws := ws) (by omega) ef
      have g : ja_x true (e + 2) 44 [jr 9, ji (a : Int)] (atX (wM N ws) (sk T n p)) = _ := g
      rw [g, jz_bI, if_pos rfl] at st
      rw [wq_n ef]
      exact ⟨fun c hc => (by cases hc), fun _ => ⟨ws', st⟩⟩
    | some d =>
      have g := hi.y h1 hs.2 (ws := ws) (by omega) ef
      have g : ja_x true (e + 2) 44 [jr 9, ji (a : Int)] (atX (wM N ws) (sk T n p)) = _ := g
      rw [g, jz_bI, if_neg (by decide)] at st
      obtain ⟨f4, f5⟩ := f3 d ef
      have hl : (ws ++ d.map jw_enc).length ≤ (wr_sum T n k (sk T n p)).1 := by
        rw [List.length_append, List.length_map]
        omega
      rw [wq_s ef]
      cases ec : (wr_cmp T n k (wr_sum T n k (sk T n p)).1).2 with
      | none =>
        obtain ⟨ws', g⟩ := hc.n h1 f2 hl ec
        have g : ja_x true (e + 2) 49 [jr 9, ji (a : Int)] (atX (wM N (ws ++ d.map jw_enc)) (wr_sum T n k (sk T n p)).1) = _ := g
        rw [g, jz_bI, if_pos rfl] at st
        rw [wq_n ec]
        exact ⟨fun c hc => (by cases hc), fun _ => ⟨ws', st⟩⟩
      | some e' =>
        have g := hc.y h1 f2 hl ec
        have g : ja_x true (e + 2) 49 [jr 9, ji (a : Int)] (atX (wM N (ws ++ d.map jw_enc)) (wr_sum T n k (sk T n p)).1) = _ := g
        rw [g, jz_bI, if_neg (by decide)] at st
        rw [wq_s ec]
        refine ⟨fun c hc => ?_, fun w => by cases w⟩
        cases hc
        rw [List.map_append, ← List.append_assoc]
        exact st
  intro k
  induction k with
  | zero =>
    intro a dd ha
    refine iX.mk (fun N p ws h1 h2 h3 => ?_)
    have hX := wM_tp (ws := ws) h1
    by_cases s1 : sg T n (sk T n p) = 33
    · have st := f_WorthReader_readUnit (dd + (8 + 5 * 0)) (a : Int) (atX (wM N ws) p)
      rw [js_next (dd + 7) hX hn h2, jz_bI, if_pos s1, if_neg (by omega)] at st
      rw [wr_unit_0 (Or.inl s1)]
      exact ⟨fun c hc => (by cases hc), fun _ => ⟨ws, st⟩⟩
    · by_cases s2 : sg T n (sk T n p) = 40
      · have st := f_WorthReader_readUnit (dd + (8 + 5 * 0)) (a : Int) (atX (wM N ws) p)
        rw [js_next (dd + 7) hX hn h2, jz_bI, if_neg s1, if_pos s2, if_neg (by omega)] at st
        rw [wr_unit_0 (Or.inr s2)]
        exact ⟨fun c hc => (by cases hc), fun _ => ⟨ws, st⟩⟩
      · exact sc 0 a dd ha N p ws h1 h2 h3 s1 s2
  | succ k ih =>
    intro a dd ha
    refine iX.mk (fun N p ws h1 h2 h3 => ?_)
    have hX := wM_tp (ws := ws) h1
    have hs := sk_b (T := T) h2
    have uo := wr_unit_ok (T := T) (n := n) k
    obtain ⟨e, he⟩ : ∃ e, dd + (8 + 5 * (k + 1)) = e + 2 := ⟨dd + 6 + 5 * (k + 1), by omega⟩
    have sc1 := sc (k + 1) a dd ha N p ws h1 h2 h3
    rw [show dd + (9 + 5 * (k + 1)) = e + 2 + 1 by omega] at sc1 ⊢
    by_cases s1 : sg T n (sk T n p) = 33
    · have sq := (sg_eq s1 (by decide)).1
      have hi := ih (a + 1) (dd + 4) (by omega)
      rw [show dd + 4 + (9 + 5 * k) = e + 2 by omega] at hi
      have st := f_WorthReader_readUnit (e + 2) (a : Int) (atX (wM N ws) p)
      rw [js_next (e + 1) hX hn h2, jz_bI, if_pos s1, if_pos (by omega), js_pass (e + 1) hX hn sq, jz_bV, if_pos s1, ja_w_id (by omega) (by omega), show (a : Int) + 1 = ((a + 1 : Nat) : Int) by omega] at st
      obtain ⟨⟨f1, f2⟩, f3⟩ := uo.1 (sk T n p + 1) sq
      rw [wr_unit_n s1]
      cases ef : (wr_unit T n k (sk T n p + 1)).2 with
      | none =>
        obtain ⟨ws', g⟩ := hi.n h1 sq (ws := ws) (by omega) ef
        have g : ja_x true (e + 2) 43 [jr 9, ji ((a + 1 : Nat) : Int)] (atX (wM N ws) (sk T n p + 1)) = _ := g
        rw [g, jz_bI, if_pos rfl] at st
        rw [wq_n ef]
        exact ⟨fun c hc => (by cases hc), fun _ => ⟨ws', st⟩⟩
      | some d =>
        have g := hi.y h1 sq (ws := ws) (by omega) ef
        have g : ja_x true (e + 2) 43 [jr 9, ji ((a + 1 : Nat) : Int)] (atX (wM N ws) (sk T n p + 1)) = _ := g
        obtain ⟨f4, f5⟩ := f3 d ef
        have hl2 : (ws ++ d.map jw_enc).length < 160 := by
          rw [List.length_append, List.length_map]
          omega
        rw [g, jz_bI, if_neg (by decide), js_wwrite (e + 1) hl2, jz_bI, if_neg (by decide)] at st
        rw [wq_s ef]
        refine ⟨fun c hc => ?_, fun w => by cases w⟩
        cases hc
        rw [List.map_append, ← List.append_assoc]
        exact st
    · by_cases s2 : sg T n (sk T n p) = 40
      · have sq := (sg_eq s2 (by decide)).1
        obtain ⟨⟨t1, -⟩, c1, -⟩ := wr_cond_ok (T := T) uo.1 uo.2
        have hi := wx_cond (7 + 5 * k) dd (a := a + 1) ht uo.1 t1 (fun dd' => by
          have := ih (a + 1) dd' (by omega)
          rw [show dd' + (9 + 5 * k) = dd' + (7 + 5 * k + 2) by omega] at this
          exact this)
        rw [show dd + (7 + 5 * k + 6) = e + 2 by omega] at hi
        have st := f_WorthReader_readUnit (e + 2) (a : Int) (atX (wM N ws) p)
        rw [js_next (e + 1) hX hn h2, jz_bI, if_neg s1, if_pos s2, if_pos (by omega), js_pass (e + 1) hX hn sq, jz_bV, if_neg s1, ja_w_id (by omega) (by omega), show (a : Int) + 1 = ((a + 1 : Nat) : Int) by omega] at st
        obtain ⟨⟨f1, f2⟩, f3⟩ := c1 (sk T n p + 1) sq
        rw [wr_unit_b s2]
        cases ef : (wr_cond T n (wr_unit T n k) (sk T n p + 1)).2 with
        | none =>
          obtain ⟨ws', g⟩ := hi.n h1 sq (ws := ws) (by omega) ef
          have g : ja_x true (e + 2) 41 [jr 9, ji ((a + 1 : Nat) : Int)] (atX (wM N ws) (sk T n p + 1)) = _ := g
          rw [g, jz_bI, if_pos rfl] at st
          rw [wr_close_n ef]
          exact ⟨fun c hc => (by cases hc), fun _ => ⟨ws', st⟩⟩
        | some d =>
          have g := hi.y h1 sq (ws := ws) (by omega) ef
          have g : ja_x true (e + 2) 41 [jr 9, ji ((a + 1 : Nat) : Int)] (atX (wM N ws) (sk T n p + 1)) = _ := g
          rw [g, jz_bI, if_neg (by decide), js_take e (wM_tp h1) hn f2 (by decide)] at st
          by_cases q : sg T n (sk T n (wr_cond T n (wr_unit T n k) (sk T n p + 1)).1) = 41
          · rw [if_pos q, jz_bI, if_neg (by decide)] at st
            rw [wr_close_y ef q]
            exact ⟨fun c hc => (by cases hc; exact st), fun w => by cases w⟩
          · rw [if_neg q, jz_bI, if_pos rfl] at st
            rw [wr_close_f ef q]
            exact ⟨fun c hc => (by cases hc), fun _ => ⟨_, st⟩⟩
      · exact sc1 s1 s2
