/-! reading: the law; the whole hunt, the other side -/
theorem js_R_lfin (dd : Nat) {N : ja_M} {p : Nat} {g k : Int} (h : N 137 4 ≠ -1 ∨ k = -1 ∨ ja_and (ja_shr g k) 1 = 1) : ja_D true (ja_x true (dd + 1)) k_R_lawText 22 [some (jr 137), some (ji g), some (ji k), none] [] (atR N p) = some (none, atR N p) := by
  have e4 : (atR N p) 137 4 = N 137 4 := jb_up_nej (by decide)
  rw [e_R_lawText_22]
  by_cases h4 : (atR N p) 137 4 = -1
  · rw [if_pos h4]
    by_cases h1 : k = -1
    · rw [if_pos h1]
    · have hb : ja_and (ja_shr g k) 1 = 1 := by
        rcases h with h | h | h
        · exact absurd (e4.symm.trans h4) h
        · exact absurd h h1
        · exact h
      rw [if_neg h1, f_R_has, hb, if_pos rfl, jz_bI, if_neg (by decide)]
  · rw [if_neg h4]
theorem hn_it_108 (c : Int) : (hn_it 108 c = none ∧ kk 102 107 c = -1) ∨ ∃ i : Nat, (i = 0 ∨ i = 1) ∧ hn_it 108 c = some (i + 3) ∧ kk 102 107 c = (i : Int) ∧ c ≠ 0 := by
  unfold hn_it kk
  rw [if_neg (by decide), if_neg (by decide)]
  by_cases h1 : c = 102
  · rw [if_pos h1, if_pos h1]
    exact Or.inr ⟨0, Or.inl rfl, rfl, rfl, by omega⟩
  · rw [if_neg h1, if_neg h1]
    by_cases h2 : c = 107
    · rw [if_pos h2, if_pos h2]
      exact Or.inr ⟨1, Or.inr rfl, rfl, rfl, by omega⟩
    · rw [if_neg h2, if_neg h2]
      exact Or.inl ⟨rfl, rfl⟩
theorem js_R_law (dd : Nat) {M0 N : ja_M} {T : Nat → Int} {n q : Nat} {D' : ja_M} (ht : tpok T n) (hq : q < n) (hF : jFH M0 N) (hR0 : tpR M0 T n) (h4 : N 137 4 = -1) (a1 : hn_ok D') (hr : rH D' N (D' 5 3) (D' 5 4)) : ∃ N' r', ja_x true (dd + 4) 216 [jr 137] (atR N q) = some (none, atR N' r') ∧ jFH M0 N' ∧ rOut T n (hn_items T n 108 (q + 1) D') N' r' := by
  have hn := ht.1
  have e3 : (atR N q) 137 3 = (q : Int) := jb_up_eq
  have st := f_R_lawText (dd + 3) (atR N q)
  rw [e3, ja_w_id (by omega) (by omega), ja_up_up, show (q : Int) + 1 = ((q + 1 : Nat) : Int) by omega] at st
  have st := st.trans (js_R_kk (dd + 1) ht (hR0.fr hF) hq (by decide) (by decide) (fun k M => ja_D true (ja_x true (dd + 3)) k_R_lawText 22 [some (jr 137), some (ji 0), some (ji k), none] [] M))
  have hs : q + 1 ≤ sk T n (q + 1) ∧ sk T n (q + 1) ≤ n := sk_b (T := T) (n := n) (p := q + 1) hq
  have st : _ = ja_D true (ja_x true (dd + 3)) k_R_lawText 22 [some (jr 137), some (ji 0), some (ji (kk 102 107 (sg T n (sk T n (q + 1))))), none] [] (atR N (sk T n (q + 1))) := st
  rcases hn_it_108 (sg T n (sk T n (q + 1))) with ⟨e, ek⟩ | ⟨i, i01, e, ki, i0⟩
  · rw [hn_items_0 e]
    exact ⟨_, _, st.trans (js_R_lfin (dd + 2) (Or.inr (Or.inl ek))), hF, Or.inl ⟨rfl, h4, hr, hs.2, rfl⟩⟩
  · have sq := sg_lt i0
    have vb := hn_val_b (T := T) (n := n) (p := sk T n (q + 1) + 1) (item := i + 3) (by omega) a1 (by unfold hn_can; omega)
    obtain ⟨N2, w1, w2, w4⟩ := js_R_lstep dd (i := i) (g := 0) ht i01 (hn_bits i (by omega)).1 sq hF hR0 h4 a1 hr
    rw [ki, w1] at st
    cases hv : hn_val T n (i + 3) (sk T n (q + 1) + 1) D' with
    | mk r ro =>
      obtain ⟨ok, D1⟩ := ro
      rw [hv] at st w4 vb
      rw [hn_items_s e hv]
      obtain ⟨⟨v1, v2⟩, v3, v4, v5, v6, v7⟩ := vb
      have v1 : r ≤ n := v1
      have hs1 : r ≤ sk T n r ∧ sk T n r ≤ n := sk_b (T := T) (p := r) v1
      have v5 : D1 5 3 = D' 5 3 := v5
      have v6 : D1 5 4 = D' 5 4 := v6
      cases ok with
      | false =>
        rcases w4 with ⟨w4, -⟩ | ⟨-, w4⟩
        · cases w4
        · have w4 : N2 137 4 = (r : Int) := w4
          exact ⟨_, _, st.trans (js_R_lfin (dd + 2) (Or.inl (by omega))), w2, Or.inr ⟨rfl, w4⟩⟩
      | true =>
        rw [if_pos rfl]
        rcases w4 with ⟨-, w4, w5⟩ | ⟨w4, -⟩
        · have w5 : rH D1 N2 (D' 5 3) (D' 5 4) := w5
          rw [← v5, ← v6] at w5
          have st : _ = ja_D true (ja_x true (dd + 3)) k_R_lawText 22 [some (jr 137), some (ji (ja_or 0 (ja_shl 1 (i : Int)))), some (ji (kk 102 107 (sg T n (sk T n r)))), none] [] (atR N2 (sk T n r)) := st
          rcases hn_it_108 (sg T n (sk T n r)) with ⟨e2, ek2⟩ | ⟨j, j01, e2, kj, j0⟩
          · rw [hn_2_0 e2]
            exact ⟨_, _, st.trans (js_R_lfin (dd + 2) (Or.inr (Or.inl ek2))), w2, Or.inl ⟨rfl, w4, w5, hs1.2, rfl⟩⟩
          · have sq1 := sg_lt j0
            rw [kj] at st
            have bj := (hn_bits i (by omega)).2 j (by omega)
            rw [hn_2_s e2]
            by_cases z : j = i
            · rw [if_pos z] at bj
              rw [if_pos (by omega)]
              exact ⟨_, _, st.trans (js_R_lfin (dd + 2) (Or.inr (Or.inr bj))), w2, Or.inl ⟨rfl, w4, w5, hs1.2, rfl⟩⟩
            · rw [if_neg z] at bj
              rw [if_neg (by omega)]
              have vb2 := hn_val_b (T := T) (n := n) (p := sk T n r + 1) (item := j + 3) (by omega) v4 (by unfold hn_can; omega)
              obtain ⟨N3, y1, y2, y4⟩ := js_R_lstep dd (i := j) (g := ja_or 0 (ja_shl 1 (i : Int))) ht j01 bj sq1 w2 hR0 w4 v4 w5
              rw [y1] at st
              generalize hn_val T n (j + 3) (sk T n r + 1) D1 = s at st y4 vb2
              obtain ⟨s1, ok2, D2⟩ := s
              have u1 : s1 ≤ n := vb2.1.1
              have u5 : D2 5 3 = D1 5 3 := vb2.2.2.2.1
              have u6 : D2 5 4 = D1 5 4 := vb2.2.2.2.2.1
              have hs2 : s1 ≤ sk T n s1 ∧ sk T n s1 ≤ n := sk_b (T := T) (p := s1) u1
              have st : _ = ja_D true (ja_x true (dd + 3)) k_R_lawText 22 [some (jr 137), some (ji (ja_or (ja_or 0 (ja_shl 1 (i : Int))) (ja_shl 1 (j : Int)))), some (ji (kk 102 107 (sg T n (sk T n s1)))), none] [] (atR N3 (sk T n s1)) := st
              cases ok2 with
              | false =>
                rcases y4 with ⟨y4, -⟩ | ⟨-, y4⟩
                · cases y4
                · have y4 : N3 137 4 = (s1 : Int) := y4
                  exact ⟨_, _, st.trans (js_R_lfin (dd + 2) (Or.inl (by omega))), y2, Or.inr ⟨rfl, y4⟩⟩
              | true =>
                rcases y4 with ⟨-, y4, y5⟩ | ⟨y4, -⟩
                · have y5 : rH D2 N3 (D1 5 3) (D1 5 4) := y5
                  rw [← u5, ← u6] at y5
                  refine ⟨_, _, st.trans (js_R_lfin (dd + 2) ?_), y2, Or.inl ⟨rfl, y4, y5, hs2.2, sk_i u1⟩⟩
                  rcases hn_it_108 (sg T n (sk T n s1)) with ⟨-, x⟩ | ⟨k, x1, -, x2, -⟩
                  · exact Or.inr (Or.inl x)
                  · rw [x2]
                    exact Or.inr (Or.inr (hn_bits2 i (by omega) j (by omega) (fun w => z w.symm) k (by omega)))
                · cases y4
        · cases w4
theorem hn_read_s (T : Nat → Int) (n m p : Nat) (D : ja_M) {r : Nat} {ok : Bool} {D1 : ja_M} (h : hn_clause T n p D = (r, ok, D1)) : hn_read T n (m + 1) p D = if ok = true then (if n ≤ sk T n r then (if 2 ≤ D1 5 3 ∧ 1 ≤ D1 5 4 then (-1, D1) else ((n : Int), D1)) else if sg T n (sk T n r) = 59 then hn_read T n m (sk T n r + 1) D1 else ((sk T n r : Int), D1)) else ((r : Int), D1) := by
  show (if (hn_clause T n p D).2.1 = true then _ else _) = _
  rw [h]
theorem js_R_hread_D (dd : Nat) {M0 : ja_M} {T : Nat → Int} {n : Nat} (ht : tpok T n) (hR0 : tpR M0 T n) {D0 : ja_M} (hX0 : tpX D0 T n) : ∀ (m p : Nat) (D N : ja_M), jFr s4 D0 D → p ≤ n → hn_ok D → n < p + m → jFH M0 N → N 137 4 = -1 → rH D N (D 5 3) (D 5 4) → ∃ N', ja_D true (ja_x true (dd + 5)) k_R_readHunt 22 [some (jr 137), some (ji (D 4 2)), some (ji 1), none] [] (atR N p) = some (some (ji (hn_read T n m p D).1), N') ∧ jFH M0 N' ∧ ((hn_read T n m p D).1 = -1 → rH (hn_read T n m p D).2 N' ((hn_read T n m p D).2 5 3) ((hn_read T n m p D).2 5 4)) := by
  have hn := ht.1
  intro m
  induction m with
  | zero =>
    intro p D N hf hp h hm
    omega
  | succ m ih =>
    intro p D N hf hp h hm hF h4 hr
    have cb := hn_clause_b (T := T) (hX0.fr hf) hn hp h
    have hs : p ≤ sk T n p ∧ sk T n p ≤ n := sk_b (T := T) (p := p) hp
    have tail : ∀ (N1 : ja_M) (r' : Nat), jFH M0 N1 → rOut T n (hn_clause T n p D) N1 r' → ∃ N', ja_D true (ja_x true (dd + 5)) k_R_readHunt 63 [some (jr 137), some (ji ((hn_clause T n p D).2.2 4 2)), none, none] [] (atR N1 r') = some (some (ji (hn_read T n (m + 1) p D).1), N') ∧ jFH M0 N' ∧ ((hn_read T n (m + 1) p D).1 = -1 → rH (hn_read T n (m + 1) p D).2 N' ((hn_read T n (m + 1) p D).2 5 3) ((hn_read T n (m + 1) p D).2 5 4)) := by
      intro N1 r' f1 ho
      cases hc : hn_clause T n p D with
      | mk r ro =>
        obtain ⟨ok, D1⟩ := ro
        rw [hn_read_s T n m p D hc]
        rw [hc] at cb ho
        obtain ⟨⟨b1, b2⟩, b3, b4, b5⟩ := cb
        have b1 : r ≤ n := b1
        have b2 : p ≤ r := b2
        have e4 : ∀ q : Nat, (atR N1 q) 137 4 = N1 137 4 := fun q => jb_up_nej (by decide)
        have e3 : ∀ q : Nat, (atR N1 q) 137 3 = (q : Int) := fun q => jb_up_eq
        show ∃ N', ja_D true (ja_x true (dd + 5)) k_R_readHunt 63 [some (jr 137), some (ji (D1 4 2)), none, none] [] (atR N1 r') = _ ∧ _
        cases ok with
        | false =>
          rcases ho with ⟨ho, -⟩ | ⟨-, ho⟩
          · cases ho
          · have ho : N1 137 4 = (r : Int) := ho
            have w : ja_up (atR N1 r') 137 3 (ja_w ((atR N1 r') 137 3 + 0)) 137 4 = (r : Int) := (jb_up_nej (by decide)).trans ((e4 r').trans ho)
            refine ⟨ja_up (atR N1 r') 137 3 (ja_w ((atR N1 r') 137 3 + 0)), ?_, (f1.up (by omega)).up (by omega), fun q => ?_⟩
            · rw [e_R_readHunt_63, if_neg (by rw [e4, ho]; omega), e_R_readHunt_73, e_R_readHunt_22, if_pos rfl, e_R_readHunt_86, if_neg (by rw [w]; omega), e_R_readHunt_103, w]
              rfl
            · have q : (r : Int) = -1 := q
              omega
        | true =>
          have b3 : p < r := b3 rfl
          rw [if_pos rfl]
          rcases ho with ⟨-, o1, o2, o3, o4⟩ | ⟨ho, -⟩
          · have o2 : rH D1 N1 (D1 5 3) (D1 5 4) := o2
            have o4 : sk T n r' = sk T n r := o4
            have hs1 : r ≤ sk T n r ∧ sk T n r ≤ n := sk_b (T := T) (p := r) b1
            have st := e_R_readHunt_63 (ja_x true (dd + 5)) (D1 4 2) (atR N1 r')
            rw [e4, o1, if_pos rfl, js_R_look (dd + 3) (hR0.fr f1) hn o3, jz_bI, o4, e3] at st
            by_cases c59 : sg T n (sk T n r) = 59
            · have sq := (sg_eq c59 (by decide)).1
              rw [if_neg (by omega), if_pos c59]
              rw [if_pos ((sr_sg ht 59 (by decide)).mpr c59), ja_w_id (by omega) (by omega), ja_up_up] at st
              obtain ⟨N', g1, g2⟩ := ih (sk T n r + 1) D1 N1 (hf.tr b4) sq b5 (by omega) f1 o1 o2
              exact ⟨N', st.trans g1, g2⟩
            · rw [if_neg (fun w => c59 ((sr_sg ht 59 (by decide)).mp w)), e_R_readHunt_73, e3, ja_w_id (by omega) (by omega), ja_up_up, Int.add_zero, e_R_readHunt_22, if_pos rfl, e_R_readHunt_86, show (ja_up N1 137 3 (sk T n r : Int)) 137 4 = -1 from (e4 _).trans o1, if_pos rfl, js_R_look (dd + 3) (hR0.fr f1) hn hs1.2, jz_bI, sk_i b1] at st
              by_cases en : n ≤ sk T n r
              · have m20 : (atR N1 (sk T n r)) 137 20 = D1 5 3 := (jb_up_nej (by decide)).trans o2.1.1
                have m21 : (atR N1 (sk T n r)) 137 21 = D1 5 4 := (jb_up_nej (by decide)).trans o2.1.2.1
                have h1 := b5.1
                have h2 := b5.2.1
                have h1 : 0 ≤ D1 5 3 ∧ D1 5 3 ≤ 6 := h1
                have h2 : 0 ≤ D1 5 4 ∧ D1 5 4 ≤ 6 := h2
                have bad : ja_D true (ja_x true (dd + 5)) k_R_readHunt 101 [some (jr 137), none, none, none] [] (atR N1 (sk T n r)) = some (some (ji (n : Int)), ja_up (atR N1 (sk T n r)) 137 4 (sk T n r : Int)) := by
                  rw [e_R_readHunt_101, js_R_bad (dd + 4) o1, jz_bV, e_R_readHunt_103, jb_up_eq, show sk T n r = n by omega]
                rw [if_pos en]
                rw [if_pos ((sr_n ht).mpr en), m20, m21, bad] at st
                by_cases w : 2 ≤ D1 5 3 ∧ 1 ≤ D1 5 4
                · rw [if_pos w]
                  rw [if_neg (by omega), if_neg (by omega), e_R_readHunt_103, e4, o1] at st
                  exact ⟨_, st, f1.up (by omega), fun _ => o2⟩
                · rw [if_neg w]
                  refine ⟨ja_up (atR N1 (sk T n r)) 137 4 (sk T n r : Int), ?_, (f1.up (by omega)).up (by omega), fun q => ?_⟩
                  · rw [st]
                    by_cases w1 : D1 5 3 < 2
                    · rw [if_pos w1]
                    · rw [if_neg w1, if_pos (by omega)]
                  · have q : (n : Int) = -1 := q
                    omega
              · rw [if_neg en, if_neg c59]
                rw [if_neg (fun w => en ((sr_n ht).mp w)), e_R_readHunt_101, js_R_bad (dd + 4) o1, jz_bV, e_R_readHunt_103, jb_up_eq] at st
                refine ⟨_, st, (f1.up (by omega)).up (by omega), fun q => ?_⟩
                have q : (sk T n r : Int) = -1 := q
                omega
          · cases ho
    have st := e_R_readHunt_22 (ja_x true (dd + 5)) (D 4 2) 1 (atR N p)
    have e4 : (atR N p) 137 4 = -1 := (jb_up_nej (by decide)).trans h4
    have m20 : (atR N (sk T n p)) 137 20 = D 5 3 := (jb_up_nej (by decide)).trans hr.1.1
    have m21 : (atR N (sk T n p)) 137 21 = D 5 4 := (jb_up_nej (by decide)).trans hr.1.2.1
    rw [if_neg (by decide), e4, if_pos rfl, js_R_look (dd + 3) (hR0.fr hF) hn hp, jz_bI, m20] at st
    have bad : ∀ l, ja_D true (ja_x true (dd + 5)) k_R_readHunt 61 [some (jr 137), some (ji l), none, none] [] (atR N (sk T n p)) = ja_D true (ja_x true (dd + 5)) k_R_readHunt 63 [some (jr 137), some (ji l), none, none] [] (atR (ja_up N 137 4 (sk T n p : Int)) (sk T n p)) := fun l => by
      rw [e_R_readHunt_61, js_R_bad (dd + 4) h4, jz_bV, ja_up_cm (by omega)]
    have badO : hn_clause T n p D = (sk T n p, false, D) → ∃ N', ja_D true (ja_x true (dd + 5)) k_R_readHunt 61 [some (jr 137), some (ji (D 4 2)), none, none] [] (atR N (sk T n p)) = some (some (ji (hn_read T n (m + 1) p D).1), N') ∧ jFH M0 N' ∧ ((hn_read T n (m + 1) p D).1 = -1 → rH (hn_read T n (m + 1) p D).2 N' ((hn_read T n (m + 1) p D).2 5 3) ((hn_read T n (m + 1) p D).2 5 4)) := fun hc => by
      have := tail (ja_up N 137 4 (sk T n p : Int)) (sk T n p) (hF.up (by omega)) (by rw [hc]; exact Or.inr ⟨rfl, jb_up_eq⟩)
      rw [bad]
      rw [hc] at this
      exact this
    have h1 := h.1
    have h2 := h.2.1
    by_cases c1 : sg T n (sk T n p) = 112
    · rw [(sr_sg ht 112 (by decide)).mpr c1, if_pos rfl] at st
      have sq := (sg_eq c1 (by decide)).1
      by_cases c2 : D 5 3 = 6
      · have hc : hn_clause T n p D = (sk T n p, false, D) := by
          unfold hn_clause
          rw [if_pos c1, if_pos c2]
        rw [if_neg (by omega), e_R_readHunt_41, if_neg (by decide), e_R_readHunt_51, if_neg (by decide)] at st
        rw [st]
        exact badO hc
      · have hc : hn_clause T n p D = hn_items T n 112 (sk T n p + 1) (hn_addP D) := by
          unfold hn_clause
          rw [if_pos c1, if_neg c2]
        obtain ⟨N1, r', g1, g2, g3⟩ := js_R_place (dd + 1) ht sq hF hR0 h4 h (by omega) hr
        rw [if_pos (by omega), show ja_x true (dd + 5) 209 [jr 137] (atR N (sk T n p)) = _ from g1, jz_bV] at st
        have := tail N1 r' g2 (by rw [hc]; exact g3)
        rw [hc, (hn_items_kp T n (sk T n p + 1) 112 (hn_addP D)).1] at this
        rw [st]
        exact this
    · by_cases c3 : sg T n (sk T n p) = 98
      · rw [(sr_sg ht 98 (by decide)).mpr c3, if_neg (by decide), e_R_readHunt_41, if_pos rfl, m21] at st
        have sq := (sg_eq c3 (by decide)).1
        by_cases c2 : D 5 4 = 6
        · have hc : hn_clause T n p D = (sk T n p, false, D) := by
            unfold hn_clause
            rw [if_neg c1, if_pos c3, if_pos c2]
          rw [if_neg (by omega), e_R_readHunt_51, if_neg (by decide)] at st
          rw [st]
          exact badO hc
        · have hc : hn_clause T n p D = hn_items T n 98 (sk T n p + 1) (hn_addB D) := by
            unfold hn_clause
            rw [if_neg c1, if_pos c3, if_neg c2]
          obtain ⟨N1, r', g1, g2, g3⟩ := js_R_band (dd + 1) ht sq hF hR0 h4 h (by omega) hr
          rw [if_pos (by omega), show ja_x true (dd + 5) 215 [jr 137] (atR N (sk T n p)) = _ from g1, jz_bV] at st
          have := tail N1 r' g2 (by rw [hc]; exact g3)
          rw [hc, (hn_items_kp T n (sk T n p + 1) 98 (hn_addB D)).1] at this
          rw [st]
          exact this
      · rw [if_neg (fun w => c1 ((sr_sg ht 112 (by decide)).mp w)), e_R_readHunt_41, if_neg (fun w => c3 ((sr_sg ht 98 (by decide)).mp w)), e_R_readHunt_51] at st
        by_cases c4 : sg T n (sk T n p) = 108
        · have sq := (sg_eq c4 (by decide)).1
          rw [if_pos ((sr_sg ht 108 (by decide)).mpr c4)] at st
          by_cases c5 : D 4 2 = 0
          · have hc : hn_clause T n p D = hn_items T n 108 (sk T n p + 1) (ja_up D 4 2 1) := by
              unfold hn_clause
              rw [if_neg c1, if_neg c3, if_pos ⟨c4, c5⟩]
            obtain ⟨N1, r', g1, g2, g3⟩ := js_R_law (dd + 1) (D' := ja_up D 4 2 1) ht sq hF hR0 h4 (hn_law_ok h).1 hr
            rw [if_pos c5, show ja_x true (dd + 5) 216 [jr 137] (atR N (sk T n p)) = _ from g1, jz_bV] at st
            have := tail N1 r' g2 (by rw [hc]; exact g3)
            rw [hc, (hn_items_kp T n (sk T n p + 1) 108 (ja_up D 4 2 1)).1, jb_up_eq] at this
            rw [st]
            exact this
          · have hc : hn_clause T n p D = (sk T n p, false, D) := by
              unfold hn_clause
              rw [if_neg c1, if_neg c3, if_neg (fun w => c5 w.2)]
            rw [if_neg c5] at st
            rw [st]
            exact badO hc
        · have hc : hn_clause T n p D = (sk T n p, false, D) := by
            unfold hn_clause
            rw [if_neg c1, if_neg c3, if_neg (fun w => c4 w.1)]
          rw [if_neg (fun w => c4 ((sr_sg ht 108 (by decide)).mp w))] at st
          rw [st]
          exact badO hc
