/-! reading: a place, a band, the other side -/
def rOut (T : Nat → Int) (n : Nat) (it : hnR) (N' : ja_M) (r' : Nat) : Prop := (it.2.1 = true ∧ N' 137 4 = -1 ∧ rH it.2.2 N' (it.2.2 5 3) (it.2.2 5 4) ∧ r' ≤ n ∧ sk T n r' = sk T n it.1) ∨ (it.2.1 = false ∧ N' 137 4 = (it.1 : Int))
theorem js_R_pfin (dd : Nat) {N : ja_M} {p : Nat} {g k v : Int} (h20 : N 137 20 = v) (hv : 0 ≤ v ∧ v ≤ 6) (h : N 137 4 ≠ -1 ∨ k = -1 ∨ ja_and (ja_shr g k) 1 = 1) : ja_D true (ja_x true (dd + 1)) k_R_placeText 34 [some (jr 137), some (ji g), some (ji k), none] [] (atR N p) = some (none, atR (ja_up N 137 20 (v + 1)) p) := by
  have e4 : (atR N p) 137 4 = N 137 4 := jb_up_nej (by decide)
  have e20 : (atR N p) 137 20 = v := (jb_up_nej (by decide)).trans h20
  have fin : some ((none : Option ja_V), ja_up (atR N p) 137 20 (ja_w ((atR N p) 137 20 + 1))) = some (none, atR (ja_up N 137 20 (v + 1)) p) := by
    rw [e20, ja_w_id (by omega) (by omega), ja_up_cm (by omega)]
  rw [e_R_placeText_34]
  by_cases h4 : (atR N p) 137 4 = -1
  · rw [if_pos h4]
    by_cases h1 : k = -1
    · rw [if_pos h1]
      exact fin
    · have hb : ja_and (ja_shr g k) 1 = 1 := by
        rcases h with h | h | h
        · exact absurd (e4.symm.trans h4) h
        · exact absurd h h1
        · exact h
      rw [if_neg h1, f_R_has, hb, if_pos rfl, jz_bI, if_neg (by decide)]
      exact fin
  · rw [if_neg h4]
    exact fin
theorem rH_fin {D N : ja_M} {pl bl : Int} (h : rH D N pl bl) (v : Int) : rH D (ja_up N 137 20 v) v bl := ⟨⟨jb_up_eq, h.1.2⟩, h.2⟩
theorem kk_112 (c : Int) : kk 120 121 c = hn_iti (hn_it 112 c) := by
  unfold kk hn_it
  rw [if_pos rfl]
  by_cases h1 : c = 120
  · rw [if_pos h1, if_pos h1]
    rfl
  · rw [if_neg h1, if_neg h1]
    by_cases h2 : c = 121
    · rw [if_pos h2, if_pos h2]
      rfl
    · rw [if_neg h2, if_neg h2]
      rfl
theorem hn_it_112 {c : Int} {i : Nat} (e : hn_it 112 c = some i) : (i = 0 ∨ i = 1) ∧ c ≠ 0 := by
  unfold hn_it at e
  rw [if_pos rfl] at e
  by_cases h1 : c = 120
  · rw [if_pos h1] at e
    cases e
    omega
  · rw [if_neg h1] at e
    by_cases h2 : c = 121
    · rw [if_pos h2] at e
      cases e
      omega
    · rw [if_neg h2] at e
      cases e
theorem hn_bits2 : ∀ i : Nat, i < 2 → ∀ j : Nat, j < 2 → i ≠ j → ∀ k : Nat, k < 2 → ja_and (ja_shr (ja_or (ja_or 0 (ja_shl 1 (i : Int))) (ja_shl 1 (j : Int))) (k : Int)) 1 = 1 := by decide +kernel
theorem hn_k01 (c : Int) : kk 120 121 c = -1 ∨ ∃ k : Nat, k < 2 ∧ kk 120 121 c = (k : Int) := by
  unfold kk
  by_cases h1 : c = 120
  · rw [if_pos h1]
    exact Or.inr ⟨0, by decide, rfl⟩
  · rw [if_neg h1]
    by_cases h2 : c = 121
    · rw [if_pos h2]
      exact Or.inr ⟨1, by decide, rfl⟩
    · rw [if_neg h2]
      exact Or.inl rfl
theorem js_R_place (dd : Nat) {M0 N : ja_M} {T : Nat → Int} {n q : Nat} {D : ja_M} (ht : tpok T n) (hq : q < n) (hF : jFH M0 N) (hR0 : tpR M0 T n) (h4 : N 137 4 = -1) (hD : hn_ok D) (h6 : D 5 3 < 6) (hr : rH D N (D 5 3) (D 5 4)) : ∃ N' r', ja_x true (dd + 4) 209 [jr 137] (atR N q) = some (none, atR N' r') ∧ jFH M0 N' ∧ rOut T n (hn_items T n 112 (q + 1) (hn_addP D)) N' r' := by
  have hn := ht.1
  have h1 := hD.1
  obtain ⟨a1, a2, a3, a4⟩ := hn_addP_ok hD (by omega)
  have e3 : (atR N q) 137 3 = (q : Int) := jb_up_eq
  have m20 : (ja_up N 137 3 ((q + 1 : Nat) : Int)) 137 20 = D 5 3 := (jb_up_nej (by decide)).trans hr.1.1
  have x20 : (ja_up (ja_up N 137 3 ((q + 1 : Nat) : Int)) 148 (D 5 3).toNat 0) 137 20 = D 5 3 := (jb_up_ne (by decide)).trans m20
  have st := f_R_placeText (dd + 3) (atR N q)
  rw [e3, ja_w_id (by omega) (by omega), ja_up_up, show (q : Int) + 1 = ((q + 1 : Nat) : Int) by omega, m20, if_pos (by omega), x20, if_pos (by omega), ja_up_cm (c := 137) (d := 148) (by omega), ja_up_cm (c := 137) (d := 149) (by omega)] at st
  have f1 : jFH M0 (ja_up (ja_up N 148 (D 5 3).toNat 0) 149 (D 5 3).toNat 0) := (hF.up (by omega)).up (by omega)
  have r1 : rH (hn_addP D) (ja_up (ja_up N 148 (D 5 3).toNat 0) 149 (D 5 3).toNat 0) (hn_addP D 5 3 - 1) (hn_addP D 5 4) := by
    rw [a2, a3]
    refine ⟨⟨by rw [Int.add_sub_cancel]; exact hr.1.1, hr.1.2⟩, fun j hj => ?_, hr.2.2⟩
    rw [a2] at hj
    have e6 : (hn_addP D) 6 j = if j = (D 5 3).toNat then 0 else D 6 j := by
      unfold hn_addP
      rw [jb_up_ne (by decide), jb_up_ne (by decide)]
      by_cases z : j = (D 5 3).toNat
      · rw [z, jb_up_eq, if_pos rfl]
      · rw [jb_up_nej z, if_neg z]
    have e7 : (hn_addP D) 7 j = if j = (D 5 3).toNat then 0 else D 7 j := by
      unfold hn_addP
      rw [jb_up_ne (by decide)]
      by_cases z : j = (D 5 3).toNat
      · rw [z, jb_up_eq, if_pos rfl]
      · rw [jb_up_nej z, jb_up_ne (by decide), if_neg z]
    rw [e6, e7, jb_up_ne (by decide)]
    by_cases z : j = (D 5 3).toNat
    · rw [z, jb_up_eq, jb_up_eq, if_pos rfl, if_pos rfl]
      exact ⟨rfl, rfl⟩
    · rw [jb_up_nej z, jb_up_nej z, jb_up_ne (by decide), if_neg z, if_neg z]
      exact hr.2.1 j (by omega)
  have h41 : (ja_up (ja_up N 148 (D 5 3).toNat 0) 149 (D 5 3).toNat 0) 137 4 = -1 := h4
  generalize (ja_up (ja_up N 148 (D 5 3).toNat 0) 149 (D 5 3).toNat 0) = N1 at st f1 r1 h41
  generalize hn_addP D = D' at a1 a2 a3 r1
  have st := st.trans (js_R_kk (dd + 1) ht (hR0.fr f1) hq (by decide) (by decide) (fun k M => ja_D true (ja_x true (dd + 3)) k_R_placeText 34 [some (jr 137), some (ji 0), some (ji k), none] [] M))
  have hs := sk_b (T := T) (n := n) (p := q + 1) hq
  have up : D' 5 3 - 1 + 1 = D' 5 3 := by omega
  cases e : hn_it 112 (sg T n (sk T n (q + 1))) with
  | none =>
    refine ⟨_, _, st.trans (js_R_pfin (dd + 2) r1.1.1 (by omega) (Or.inr (Or.inl (by rw [kk_112, e]; rfl)))), f1.up (by omega), ?_⟩
    rw [hn_items_0 e]
    refine Or.inl ⟨rfl, h41, ?_, hs.2, sk_i (sk_b (T := T) (n := n) (p := q + 1) hq).2 ▸ rfl⟩
    rw [up]
    exact rH_fin r1 _
  | some i =>
    obtain ⟨i01, i0⟩ := hn_it_112 e
    have sq := sg_lt i0
    have ki : kk 120 121 (sg T n (sk T n (q + 1))) = (i : Int) := by rw [kk_112, e]; rfl
    have vb := hn_val_b (T := T) (n := n) (p := sk T n (q + 1) + 1) (item := i) (by omega) a1 (by unfold hn_can; omega)
    obtain ⟨N2, w1, w2, w3, w4⟩ := js_R_pstep dd (i := i) (g := 0) ht i01 (hn_bits i (by omega)).1 sq f1 hR0 h41 a1 (by omega) r1
    have st : _ = ja_D true (ja_x true (dd + 3)) k_R_placeText 34 [some (jr 137), some (ji 0), some (ji (kk 120 121 (sg T n (sk T n (q + 1))))), none] [] (atR N1 (sk T n (q + 1))) := st
    rw [ki, w1] at st
    cases hv : hn_val T n i (sk T n (q + 1) + 1) D' with
    | mk r ro =>
      obtain ⟨ok, D1⟩ := ro
      rw [hv] at st w4 vb
      rw [hn_items_s e hv]
      obtain ⟨⟨v1, v2⟩, v3, v4, v5, v6, v7⟩ := vb
      have v1 : r ≤ n := v1
      have hs1 : r ≤ sk T n r ∧ sk T n r ≤ n := sk_b (T := T) (p := r) v1
      have v5 : D1 5 3 = D' 5 3 := v5
      have v6 : D1 5 4 = D' 5 4 := v6
      cases ok with
      | false =>
        rcases w4 with ⟨w4, -⟩ | ⟨-, w4⟩
        · cases w4
        · have w4 : N2 137 4 = (r : Int) := w4
          exact ⟨_, _, st.trans (js_R_pfin (dd + 2) w3 (by omega) (Or.inl (by omega))), w2.up (by omega), Or.inr ⟨rfl, w4⟩⟩
      | true =>
        rw [if_pos rfl]
        rcases w4 with ⟨-, w4, w5⟩ | ⟨w4, -⟩
        · have w5 : rH D1 N2 (D' 5 3 - 1) (D' 5 4) := w5
          rw [← v5, ← v6] at w5
          have st : _ = ja_D true (ja_x true (dd + 3)) k_R_placeText 34 [some (jr 137), some (ji (ja_or 0 (ja_shl 1 (i : Int)))), some (ji (kk 120 121 (sg T n (sk T n r)))), none] [] (atR N2 (sk T n r)) := st
          have up1 : D1 5 3 - 1 + 1 = D1 5 3 := by omega
          cases e2 : hn_it 112 (sg T n (sk T n r)) with
          | none =>
            refine ⟨_, _, st.trans (js_R_pfin (dd + 2) w5.1.1 (by omega) (Or.inr (Or.inl (by rw [kk_112, e2]; rfl)))), w2.up (by omega), ?_⟩
            rw [hn_2_0 e2]
            refine Or.inl ⟨rfl, w4, ?_, hs1.2, rfl⟩
            rw [up1]
            exact rH_fin w5 _
          | some j =>
            obtain ⟨j01, j0⟩ := hn_it_112 e2
            have sq1 := sg_lt j0
            have kj : kk 120 121 (sg T n (sk T n r)) = (j : Int) := by rw [kk_112, e2]; rfl
            rw [kj] at st
            have bj := (hn_bits i (by omega)).2 j (by omega)
            rw [hn_2_s e2]
            by_cases z : j = i
            · rw [if_pos z] at bj
              rw [if_pos z]
              refine ⟨_, _, st.trans (js_R_pfin (dd + 2) w5.1.1 (by omega) (Or.inr (Or.inr bj))), w2.up (by omega), ?_⟩
              refine Or.inl ⟨rfl, w4, ?_, hs1.2, rfl⟩
              rw [up1]
              exact rH_fin w5 _
            · rw [if_neg z] at bj
              rw [if_neg z]
              have d1 : (1 : Int) ≤ D1 5 3 := by omega
              have vb2 := hn_val_b (T := T) (n := n) (p := sk T n r + 1) (item := j) (by omega) v4 (by
                show (j = 0 ∧ 1 ≤ D1 5 3) ∨ (j = 1 ∧ 1 ≤ D1 5 3) ∨ (j = 2 ∧ 1 ≤ D1 5 4) ∨ j = 3 ∨ j = 4
                omega)
              obtain ⟨N3, y1, y2, y3, y4⟩ := js_R_pstep dd (i := j) (g := ja_or 0 (ja_shl 1 (i : Int))) ht j01 bj sq1 w2 hR0 w4 v4 (by omega) w5
              rw [y1] at st
              generalize hn_val T n j (sk T n r + 1) D1 = s at st y4 vb2
              obtain ⟨s1, ok2, D2⟩ := s
              have u1 : s1 ≤ n := vb2.1.1
              have u5 : D2 5 3 = D1 5 3 := vb2.2.2.2.1
              have u6 : D2 5 4 = D1 5 4 := vb2.2.2.2.2.1
              have hs2 : s1 ≤ sk T n s1 ∧ sk T n s1 ≤ n := sk_b (T := T) (p := s1) u1
              have st : _ = ja_D true (ja_x true (dd + 3)) k_R_placeText 34 [some (jr 137), some (ji (ja_or (ja_or 0 (ja_shl 1 (i : Int))) (ja_shl 1 (j : Int)))), some (ji (kk 120 121 (sg T n (sk T n s1)))), none] [] (atR N3 (sk T n s1)) := st
              cases ok2 with
              | false =>
                rcases y4 with ⟨y4, -⟩ | ⟨-, y4⟩
                · cases y4
                · have y4 : N3 137 4 = (s1 : Int) := y4
                  exact ⟨_, _, st.trans (js_R_pfin (dd + 2) y3 (by omega) (Or.inl (by omega))), y2.up (by omega), Or.inr ⟨rfl, y4⟩⟩
              | true =>
                rcases y4 with ⟨-, y4, y5⟩ | ⟨y4, -⟩
                · have y5 : rH D2 N3 (D1 5 3 - 1) (D1 5 4) := y5
                  rw [← u5, ← u6] at y5
                  refine ⟨_, _, st.trans (js_R_pfin (dd + 2) y5.1.1 (by omega) ?_), y2.up (by omega), ?_⟩
                  · rcases hn_k01 (sg T n (sk T n s1)) with x | ⟨k, x1, x2⟩
                    · exact Or.inr (Or.inl x)
                    · rw [x2]
                      exact Or.inr (Or.inr (hn_bits2 i (by omega) j (by omega) (fun w => z w.symm) k x1))
                  · refine Or.inl ⟨rfl, y4, ?_, hs2.2, sk_i u1⟩
                    rw [show D2 5 3 - 1 + 1 = D2 5 3 by omega]
                    exact rH_fin y5 _
                · cases y4
        · cases w4
