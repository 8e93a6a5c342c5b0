/-! reading: worths, the class's reader -/
theorem wr_ty_ne {t : jw_C} (h : jw_ty [] t = some [true]) : t ≠ [] := fun e => by
  rw [e] at h
  cases h
theorem wx_clause (dd : Nat) {T : Nat → Int} {n : Nat} (ht : tpok T n) {N : ja_M} {p : Nat} {W : List Int} (hX : tpX N T n) (hp : p ≤ n) (hw : W.length ≤ p) : (∀ t s, (wr_clause T n p).2 = some (t, s) → ja_x true (dd + 61) 40 [jr 9] (atX (wM N W) p) = some (some (ji 1), atX (wM N (W ++ jw_words W.length [(t, s)])) (wr_clause T n p).1)) ∧ ((wr_clause T n p).2 = none → ∃ ws', ja_x true (dd + 61) 40 [jr 9] (atX (wM N W) p) = some (some (ji 0), atX (wM N ws') (wr_clause T n p).1)) := by
  have hn := ht.1
  have hs := sk_b (T := T) hp
  have st := f_WorthReader_readClause (dd + 60) (atX (wM N W) p)
  rw [js_take (dd + 58) (wM_tp hX) hn hp (by decide)] at st
  unfold wr_clause
  by_cases h1 : sg T n (sk T n p) = 121
  · have sq := (sg_eq h1 (by decide)).1
    have hs2 := sk_b (T := T) (n := n) (p := sk T n p + 1) sq
    rw [if_pos h1, jz_bI, if_neg (by decide), js_take (dd + 58) (wM_tp hX) hn sq (by decide)] at st
    rw [if_pos h1]
    by_cases h2 : sg T n (sk T n (sk T n p + 1)) = 58
    · have sq2 : sk T n (sk T n p + 1) + 1 ≤ n := (sg_eq h2 (by decide)).1
      have hs3 := sk_b (T := T) (n := n) (p := sk T n (sk T n p + 1) + 1) sq2
      rw [if_pos h2, jz_bI, if_neg (by decide), js_next (dd + 59) (p := sk T n (sk T n p + 1) + 1) (wM_tp hX) hn sq2, jz_bI] at st
      rw [if_pos h2]
      generalize hp3 : sk T n (sk T n p + 1) + 1 = p3 at st sq2 hs3
      have b3 : p + 2 ≤ p3 := by omega
      have sq2 : p3 ≤ n := sq2
      obtain ⟨u1, u2⟩ := wr_unit_ok (T := T) (n := n) 6
      obtain ⟨⟨t1, -⟩, c1, c2⟩ := wr_cond_ok (T := T) u1 u2
      obtain ⟨⟨f1, f2⟩, f3⟩ := c1 p3 sq2
      have hunit : ∀ dd, iX T n (fun M => ja_x true (dd + (37 + 2)) 43 [jr 9, ji ((0 : Nat) : Int)] M) (wr_unit T n 6) := fun dd => wx_unit ht 6 0 dd rfl
      -- the condition read, what follows
      have fol : ∀ x, ja_x true (dd + 61) 40 [jr 9] (atX (wM N W) p) = ja_bI x (fun x10 M9 => if x10 = 0 then some (some (ji 0), M9) else some (some (ji 1), M9)) → ∀ t, (wr_cond T n (wr_unit T n 6) p3).2 = some t → x = ja_x true (dd + 60) 53 [jr 9] (atX (wM N (W ++ t.map jw_enc)) (wr_cond T n (wr_unit T n 6) p3).1) → wr_plain T n p3 = none → (∀ t s, (wr_body T n p3).2 = some (t, s) → ja_x true (dd + 61) 40 [jr 9] (atX (wM N W) p) = some (some (ji 1), atX (wM N (W ++ jw_words W.length [(t, s)])) (wr_body T n p3).1)) ∧ ((wr_body T n p3).2 = none → ∃ ws', ja_x true (dd + 61) 40 [jr 9] (atX (wM N W) p) = some (some (ji 0), atX (wM N ws') (wr_body T n p3).1)) := by
        intro x hx t et ex hpl
        obtain ⟨f4, f5⟩ := f3 t et
        have er : wr_cond T n (wr_unit T n 6) p3 = ((wr_cond T n (wr_unit T n 6) p3).1, some t) := by
          rw [← et]
        obtain ⟨g1, g2⟩ := wx_tail dd ht (q := (wr_cond T n (wr_unit T n 6) p3).1) (W := W) hX f2 (wr_ty_ne (c2 p3 t sq2 et [] (by show 0 + 18 ≤ 40; omega))) (by omega)
        rw [wr_body_n hpl, er]
        refine ⟨fun t' s h => ?_, fun h => ?_⟩
        · rw [hx, ex, g1 t' s h, jz_bI, if_neg (by decide)]
        · obtain ⟨ws', g⟩ := g2 h
          exact ⟨ws', by rw [hx, ex, g, jz_bI, if_pos rfl]⟩
      have cond0 : sg T n (sk T n p3) = 33 ∨ sg T n (sk T n p3) = 40 → ja_x true (dd + 61) 40 [jr 9] (atX (wM N W) p) = ja_bI (ja_x true (dd + 60) 41 [jr 9, ji 0] (atX (wM N W) (sk T n p3))) (fun x8 M7 => if x8 = 0 then some (some (ji 0), M7) else ja_bI (ja_x true (dd + 60) 53 [jr 9] M7) (fun x10 M9 => if x10 = 0 then some (some (ji 0), M9) else some (some (ji 1), M9))) → (∀ t s, (wr_body T n p3).2 = some (t, s) → ja_x true (dd + 61) 40 [jr 9] (atX (wM N W) p) = some (some (ji 1), atX (wM N (W ++ jw_words W.length [(t, s)])) (wr_body T n p3).1)) ∧ ((wr_body T n p3).2 = none → ∃ ws', ja_x true (dd + 61) 40 [jr 9] (atX (wM N W) p) = some (some (ji 0), atX (wM N ws') (wr_body T n p3).1)) := by
        intro hs0 st
        have hpl : wr_plain T n p3 = none := by
          cases e : wr_plain T n p3 with
          | none => rfl
          | some c =>
            obtain ⟨q1, q2, -⟩ := wr_plain_i e
            rcases hs0 with q | q
            · exact absurd q q1
            · exact absurd q q2
        have hi := wx_cond 37 (dd + 17) (a := 0) ht u1 t1 hunit
        cases et : (wr_cond T n (wr_unit T n 6) p3).2 with
        | none =>
          obtain ⟨ws', g⟩ := hi.n hX hs3.2 (ws := W) (by omega) (by rw [wr_cond_sk sq2]; exact et)
          rw [wr_cond_sk sq2] at g
          have g : ja_x true (dd + 60) 41 [jr 9, ji 0] (atX (wM N W) (sk T n p3)) = _ := g
          rw [g, jz_bI, if_pos rfl] at st
          rw [wr_body_n hpl, wr_tl_n et]
          exact ⟨fun t s h => (by cases h), fun _ => ⟨ws', st⟩⟩
        | some t =>
          have g := hi.y hX hs3.2 (ws := W) (by omega) (c := t) (by rw [wr_cond_sk sq2]; exact et)
          rw [wr_cond_sk sq2] at g
          have g : ja_x true (dd + 60) 41 [jr 9, ji 0] (atX (wM N W) (sk T n p3)) = _ := g
          rw [g, jz_bI, if_neg (by decide)] at st
          exact fol _ st t et rfl hpl
      by_cases s1 : sg T n (sk T n p3) = 33
      · rw [if_pos s1] at st
        exact cond0 (Or.inl s1) st
      · by_cases s2 : sg T n (sk T n p3) = 40
        · rw [if_neg s1, if_pos s2] at st
          exact cond0 (Or.inr s2) st
        · rw [if_neg s1, if_neg s2] at st
          have hi := wx_sum ht 6 0 (dd + 37) (by omega)
          obtain ⟨⟨k1, k2⟩, k3⟩ := (wr_sum_ok (T := T) (n := n) 6).1 p3 sq2
          have eu : wr_unit T n 6 p3 = wr_sc T n 6 p3 := wr_unit_s s1 s2
          cases es : (wr_sum T n 6 p3).2 with
          | none =>
            have hpl : wr_plain T n p3 = none := by
              unfold wr_plain
              rw [if_neg s1, if_neg s2, es]
            obtain ⟨ws', g⟩ := hi.n hX hs3.2 (ws := W) (by omega) (by rw [wr_sum_sk sq2]; exact es)
            rw [wr_sum_sk sq2] at g
            have g : ja_x true (dd + 60) 44 [jr 9, ji 0] (atX (wM N W) (sk T n p3)) = _ := g
            rw [g, jz_bI, if_pos rfl] at st
            have ec : wr_cond T n (wr_unit T n 6) p3 = ((wr_sum T n 6 p3).1, none) := by
              unfold wr_cond wr_truth wr_seq
              rw [eu]
              unfold wr_sc
              rw [wq_n es]
              rfl
            rw [wr_body_n hpl, ec]
            exact ⟨fun t s h => (by cases h), fun _ => ⟨ws', st⟩⟩
          | some c =>
            obtain ⟨k4, k5⟩ := k3 c es
            have hs4 := sk_b (T := T) k2
            have g := hi.y hX hs3.2 (ws := W) (by omega) (c := c) (by rw [wr_sum_sk sq2]; exact es)
            rw [wr_sum_sk sq2] at g
            have g : ja_x true (dd + 60) 44 [jr 9, ji 0] (atX (wM N W) (sk T n p3)) = _ := g
            have hlc : (W ++ c.map jw_enc).length = W.length + c.length := by rw [List.length_append, List.length_map]
            rw [g, jz_bI, if_neg (by decide), js_next (dd + 59) (wM_tp hX) hn k2, jz_bI, js_isComparison (dd + 59), jz_bI, jz_b0] at st
            by_cases hc : wr_opC (sg T n (sk T n (wr_sum T n 6 p3).1)) = none
            · have hpl : wr_plain T n p3 = some c := by
                unfold wr_plain
                rw [if_neg s1, if_neg s2, es]
                exact if_pos hc
              rw [hc, if_neg (by decide), js_wwrite (dd + 59) (by omega), jz_bI, jz_cB (Or.inr rfl)] at st
              rw [wr_body_s hpl]
              refine ⟨fun t s h => ?_, fun h => by cases h⟩
              have h2 : [] = t ∧ c = s := by
                cases h
                exact ⟨rfl, rfl⟩
              obtain ⟨rfl, rfl⟩ := h2
              rw [st]
              show _ = some (some (ji 1), atX (wM N (W ++ (c.map jw_enc ++ 40000 :: []))) (sk T n (wr_sum T n 6 p3).1))
              rw [List.append_assoc]
            · have hpl : wr_plain T n p3 = none := by
                unfold wr_plain
                rw [if_neg s1, if_neg s2, es]
                exact if_neg hc
              have hcs : (wr_opC (sg T n (sk T n (wr_sum T n 6 p3).1))).isSome = true := by
                cases e : wr_opC (sg T n (sk T n (wr_sum T n 6 p3).1)) with
                | none => exact absurd e hc
                | some o => rfl
              rw [if_pos hcs] at st
              have hcm := wx_cmp ht 6 0 (dd + 36) (by omega)
              obtain ⟨⟨m1, m2⟩, m3⟩ := wr_cmp_ok (T := T) (k := 6) k2
              cases ec : (wr_cmp T n 6 (wr_sum T n 6 p3).1).2 with
              | none =>
                obtain ⟨ws', g⟩ := hcm.n hX hs4.2 (ws := W ++ c.map jw_enc) (by omega) (by rw [wr_cmp_sk k2]; exact ec)
                rw [wr_cmp_sk k2] at g
                have g : ja_x true (dd + 60) 49 [jr 9, ji 0] (atX (wM N (W ++ c.map jw_enc)) (sk T n (wr_sum T n 6 p3).1)) = _ := g
                rw [g, jz_bI, if_pos rfl] at st
                have ec : wr_cond T n (wr_unit T n 6) p3 = ((wr_cmp T n 6 (wr_sum T n 6 p3).1).1, none) := by
                  unfold wr_cond wr_truth wr_seq
                  rw [eu]
                  unfold wr_sc
                  rw [wq_s es, wq_n ec]
                  rfl
                rw [wr_body_n hpl, ec]
                exact ⟨fun t s h => (by cases h), fun _ => ⟨ws', st⟩⟩
              | some d =>
                obtain ⟨⟨m4, m5⟩, -⟩ := m3 d ec
                have g := hcm.y hX hs4.2 (ws := W ++ c.map jw_enc) (by omega) (c := d) (by rw [wr_cmp_sk k2]; exact ec)
                rw [wr_cmp_sk k2] at g
                have g : ja_x true (dd + 60) 49 [jr 9, ji 0] (atX (wM N (W ++ c.map jw_enc)) (sk T n (wr_sum T n 6 p3).1)) = _ := g
                rw [g, jz_bI, if_neg (by decide), List.append_assoc, ← List.map_append] at st
                have eu2 : wr_unit T n 6 p3 = ((wr_cmp T n 6 (wr_sum T n 6 p3).1).1, some (c ++ d)) := by
                  rw [eu]
                  unfold wr_sc
                  rw [wq_s es, wq_s ec]
                have etr : wr_truth T n (wr_unit T n 6) p3 = wr_loop T n (wr_unit T n 6) wr_opA (n + 1) (wr_cmp T n 6 (wr_sum T n 6 p3).1).1 (c ++ d) := by
                  unfold wr_truth wr_seq
                  rw [eu2]
                  rfl
                have lA := wx_mu 37 (dd + 20) (a := 0) ht u1 hunit
                obtain ⟨ws1, g1, g2⟩ := lA N _ W (c ++ d) hX m2 (by omega) (by rw [List.length_append]; omega)
                have g1 : ja_x true (dd + 60) 51 [jr 9, ji 0] (atX (wM N (W ++ (c ++ d).map jw_enc)) (wr_cmp T n 6 (wr_sum T n 6 p3).1).1) = _ := g1
                rw [← etr] at g1 g2
                rw [g1, jz_bI, jz_b0] at st
                obtain ⟨⟨tr1, tr2⟩, tr3⟩ := t1 p3 sq2
                cases e1 : (wr_truth T n (wr_unit T n 6) p3).2 with
                | none =>
                  rw [e1, if_neg (by decide)] at st
                  have ec : wr_cond T n (wr_unit T n 6) p3 = ((wr_truth T n (wr_unit T n 6) p3).1, none) := by
                    show wq (wr_truth T n (wr_unit T n 6) p3) _ = _
                    rw [wq_n e1]
                  rw [wr_body_n hpl, ec]
                  exact ⟨fun t s h => (by cases h), fun _ => ⟨ws1, st⟩⟩
                | some t1' =>
                  obtain ⟨tr4, tr5⟩ := tr3 t1' e1
                  rw [e1, if_pos (show (some t1').isSome = true from rfl), g2 t1' e1] at st
                  have eco : wr_cond T n (wr_unit T n 6) p3 = wr_loop T n (wr_truth T n (wr_unit T n 6)) wr_opO (n + 1) (wr_truth T n (wr_unit T n 6) p3).1 t1' := by
                    show wq (wr_truth T n (wr_unit T n 6) p3) _ = _
                    rw [wq_s e1]
                  have lO := wx_mt 39 (dd + 18) (a := 0) ht t1 (fun dd' => wx_truth 37 dd' ht u1 hunit)
                  obtain ⟨ws2, g3, g4⟩ := lO N _ W t1' hX tr2 (by omega) (by omega)
                  have g3 : ja_x true (dd + 60) 52 [jr 9, ji 0] (atX (wM N (W ++ t1'.map jw_enc)) (wr_truth T n (wr_unit T n 6) p3).1) = _ := g3
                  rw [← eco] at g3 g4
                  rw [g3, jz_bI, jz_b0] at st
                  cases e2 : (wr_cond T n (wr_unit T n 6) p3).2 with
                  | none =>
                    rw [e2, if_neg (by decide)] at st
                    rw [wr_body_n hpl, wr_tl_n e2]
                    exact ⟨fun t s h => (by cases h), fun _ => ⟨ws2, st⟩⟩
                  | some t2 =>
                    rw [e2, if_pos (show (some t2).isSome = true from rfl), g4 t2 e2] at st
                    exact fol _ st t2 e2 rfl hpl
    · rw [if_neg h2, jz_bI, if_pos rfl] at st
      rw [if_neg h2]
      exact ⟨fun t s h => (by cases h), fun _ => ⟨_, st⟩⟩
  · rw [if_neg h1, jz_bI, if_pos rfl] at st
    rw [if_neg h1]
    exact ⟨fun t s h => (by cases h), fun _ => ⟨_, st⟩⟩
