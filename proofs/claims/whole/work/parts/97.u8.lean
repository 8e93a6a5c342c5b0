/-! reading: a band, the law, the other side -/
theorem hn_it_98 (c : Int) : hn_it 98 c = if c = 115 then some 2 else none := by
  unfold hn_it
  rw [if_neg (by decide), if_pos rfl]
theorem js_R_band (dd : Nat) {M0 N : ja_M} {T : Nat → Int} {n q : Nat} {D : ja_M} (ht : tpok T n) (hq : q < n) (hF : jFH M0 N) (hR0 : tpR M0 T n) (h4 : N 137 4 = -1) (hD : hn_ok D) (h6 : D 5 4 < 6) (hr : rH D N (D 5 3) (D 5 4)) : ∃ N' r', ja_x true (dd + 4) 215 [jr 137] (atR N q) = some (none, atR N' r') ∧ jFH M0 N' ∧ rOut T n (hn_items T n 98 (q + 1) (hn_addB D)) N' r' := by
  have hn := ht.1
  have h1 := hD.2.1
  obtain ⟨a1, a2, a3, a4⟩ := hn_addB_ok hD (by omega)
  have e3 : (atR N q) 137 3 = (q : Int) := jb_up_eq
  have m21 : (ja_up N 137 3 ((q + 1 : Nat) : Int)) 137 21 = D 5 4 := (jb_up_nej (by decide)).trans hr.1.2.1
  have st := f_R_bandText (dd + 3) (atR N q)
  rw [e3, ja_w_id (by omega) (by omega), ja_up_up, show (q : Int) + 1 = ((q + 1 : Nat) : Int) by omega, m21, if_pos (by omega), ja_up_cm (c := 137) (d := 150) (by omega)] at st
  have f1 : jFH M0 (ja_up N 150 (D 5 4).toNat 1) := hF.up (by omega)
  have r1 : rH (hn_addB D) (ja_up N 150 (D 5 4).toNat 1) (hn_addB D 5 3) (D 5 4) := by
    rw [a2]
    refine ⟨hr.1, hr.2.1, fun j hj => ?_⟩
    rw [a3] at hj
    have e8 : (hn_addB D) 8 j = if j = (D 5 4).toNat then 1 else D 8 j := by
      unfold hn_addB
      rw [jb_up_ne (by decide)]
      by_cases z : j = (D 5 4).toNat
      · rw [z, jb_up_eq, if_pos rfl]
      · rw [jb_up_nej z, if_neg z]
    rw [e8]
    by_cases z : j = (D 5 4).toNat
    · rw [z, jb_up_eq, if_pos rfl]
    · rw [jb_up_nej z, if_neg z]
      exact hr.2.2 j (by omega)
  have h41 : (ja_up N 150 (D 5 4).toNat 1) 137 4 = -1 := h4
  generalize (ja_up N 150 (D 5 4).toNat 1) = N1 at st f1 r1 h41
  generalize hn_addB D = D' at a1 a2 a3 r1
  have hs : q + 1 ≤ sk T n (q + 1) ∧ sk T n (q + 1) ≤ n := sk_b (T := T) (n := n) (p := q + 1) hq
  rw [js_R_look (dd + 1) (hR0.fr f1) hn hq, jz_bI] at st
  by_cases c1 : sg T n (sk T n (q + 1)) = 115
  · have e : hn_it 98 (sg T n (sk T n (q + 1))) = some 2 := by rw [hn_it_98, if_pos c1]
    have sq := (sg_eq c1 (by decide)).1
    have e33 : (atR N1 (sk T n (q + 1))) 137 3 = (sk T n (q + 1) : Int) := jb_up_eq
    have vb := hn_val_b (T := T) (n := n) (p := sk T n (q + 1) + 1) (item := 2) (by omega) a1 (Or.inr (Or.inr (Or.inl ⟨rfl, by omega⟩)))
    obtain ⟨a, N3, g1, g2⟩ := js_R_val dd (i := 2) (D := D') (p := sk T n (q + 1) + 1) (lo := 1) (hi := 5) (hR0.fr f1) hn (by omega) h41 rfl rfl
    have k21 : (ja_up N1 137 3 ((sk T n (q + 1) + 1 : Nat) : Int)) 137 21 = D 5 4 := (jb_up_nej (by decide)).trans r1.1.2.1
    rw [if_pos ((sr_sg ht 115 (by decide)).mpr c1), e33, ja_w_id (by omega) (by omega), ja_up_up, show (sk T n (q + 1) : Int) + 1 = ((sk T n (q + 1) + 1 : Nat) : Int) by omega, k21, g1, jz_bI, if_pos (by omega), ja_up_cm (c := 137) (d := 150) (by omega)] at st
    have n21 : N3 137 21 = D 5 4 := by
      rcases g2 with ⟨rfl, -⟩ | ⟨rfl, -⟩
      · exact r1.1.2.1
      · exact (jb_up_nej (by decide)).trans r1.1.2.1
    have f3 : jFH M0 N3 := by
      rcases g2 with ⟨rfl, -⟩ | ⟨rfl, -⟩
      · exact f1
      · exact f1.up (by omega)
    cases hv : hn_val T n 2 (sk T n (q + 1) + 1) D' with
    | mk r ro =>
      obtain ⟨ok, D1⟩ := ro
      rw [hv] at st g2 vb
      rw [hn_items_s e hv]
      have v1 : r ≤ n := vb.1.1
      have v5 : D1 5 3 = D' 5 3 := vb.2.2.2.1
      have v6 : D1 5 4 = D' 5 4 := vb.2.2.2.2.1
      have m : (ja_up (ja_up N3 150 (D 5 4).toNat a) 137 3 (r : Int)) 137 21 = D 5 4 := ((jb_up_nej (by decide)).trans (jb_up_ne (by decide))).trans n21
      have st : _ = some (none, ja_up (ja_up (ja_up N3 150 (D 5 4).toNat a) 137 3 (r : Int)) 137 21 (ja_w ((ja_up (ja_up N3 150 (D 5 4).toNat a) 137 3 (r : Int)) 137 21 + 1))) := st
      rw [m, ja_w_id (by omega) (by omega), ja_up_cm (c := 137) (d := 137) (by omega)] at st
      refine ⟨_, r, st, (f3.up (by omega)).up (by omega), ?_⟩
      cases ok with
      | false =>
        rcases g2 with ⟨-, g2⟩ | ⟨rfl, g2⟩
        · have g2 : (false, D1) = (true, hn_put D' 2 a) := g2
          cases g2
        · refine Or.inr ⟨rfl, ?_⟩
          show (ja_up (ja_up (ja_up N1 137 4 (r : Int)) 150 (D 5 4).toNat a) 137 21 (D 5 4 + 1)) 137 4 = (r : Int)
          rw [jb_up_nej (by decide), jb_up_ne (by decide), jb_up_eq]
      | true =>
        rw [if_pos rfl]
        rcases g2 with ⟨rfl, g2⟩ | ⟨-, g2⟩
        · have g2 : (true, D1) = (true, hn_put D' 2 a) := g2
          cases g2
          have r2 : rH (hn_put D' 2 a) (ja_up (ja_up N3 150 (D 5 4).toNat a) 137 21 (D 5 4 + 1)) ((hn_put D' 2 a) 5 3) ((hn_put D' 2 a) 5 4) := by
            refine ⟨⟨r1.1.1, ?_, r1.1.2.2⟩, r1.2.1, fun j hj => ?_⟩
            · show D 5 4 + 1 = D' 5 4
              omega
            · have hj : (j : Int) < D' 5 4 := hj
              show (ja_up N3 150 (D 5 4).toNat a) 150 j = (ja_up D' 8 (D' 5 4 - 1).toNat a) 8 j
              rw [show D' 5 4 - 1 = D 5 4 by omega]
              by_cases z : j = (D 5 4).toNat
              · rw [z, jb_up_eq, jb_up_eq]
              · rw [jb_up_nej z, jb_up_nej z]
                exact r1.2.2 j hj
          have out : ∀ it : hnR, it = (sk T n r, true, hn_put D' 2 a) → rOut T n it (ja_up (ja_up N3 150 (D 5 4).toNat a) 137 21 (D 5 4 + 1)) r := fun it hit => by
            rw [hit]
            exact Or.inl ⟨rfl, h41, r2, v1, (sk_i v1).symm⟩
          apply out
          cases e2 : hn_it 98 (sg T n (sk T n r)) with
          | none => exact hn_2_0 e2
          | some j =>
            rw [hn_2_s e2]
            rw [hn_it_98] at e2
            by_cases z : sg T n (sk T n r) = 115
            · rw [if_pos z] at e2
              cases e2
              rw [if_pos rfl]
            · rw [if_neg z] at e2
              cases e2
        · cases g2
  · have e : hn_it 98 (sg T n (sk T n (q + 1))) = none := by rw [hn_it_98, if_neg c1]
    have m : (atR N1 (sk T n (q + 1))) 137 21 = D 5 4 := (jb_up_nej (by decide)).trans r1.1.2.1
    rw [if_neg (fun w => c1 ((sr_sg ht 115 (by decide)).mp w)), m, ja_w_id (by omega) (by omega), ja_up_cm (c := 137) (d := 137) (by omega)] at st
    refine ⟨_, _, st, f1.up (by omega), ?_⟩
    rw [hn_items_0 e]
    refine Or.inl ⟨rfl, h41, ⟨⟨r1.1.1, ?_, r1.1.2.2⟩, r1.2⟩, hs.2, rfl⟩
    show D 5 4 + 1 = D' 5 4
    omega
theorem js_R_lstep (dd : Nat) {M0 N : ja_M} {T : Nat → Int} {n p i : Nat} {g : Int} {D : ja_M} (ht : tpok T n) (hi : i = 0 ∨ i = 1) (hg : ja_and (ja_shr g (i : Int)) 1 = 0) (hp : p < n) (hF : jFH M0 N) (hR0 : tpR M0 T n) (h4 : N 137 4 = -1) (hD : hn_ok D) (hr : rH D N (D 5 3) (D 5 4)) : ∃ N', ja_D true (ja_x true (dd + 3)) k_R_lawText 22 [some (jr 137), some (ji g), some (ji (i : Int)), none] [] (atR N p) = ja_D true (ja_x true (dd + 3)) k_R_lawText 22 [some (jr 137), some (ji (ja_or g (ja_shl 1 (i : Int)))), some (ji (kk 102 107 (sg T n (sk T n (hn_val T n (i + 3) (p + 1) D).1)))), none] [] (atR N' (sk T n (hn_val T n (i + 3) (p + 1) D).1)) ∧ jFH M0 N' ∧ (((hn_val T n (i + 3) (p + 1) D).2.1 = true ∧ N' 137 4 = -1 ∧ rH (hn_val T n (i + 3) (p + 1) D).2.2 N' (D 5 3) (D 5 4)) ∨ ((hn_val T n (i + 3) (p + 1) D).2.1 = false ∧ N' 137 4 = ((hn_val T n (i + 3) (p + 1) D).1 : Int))) := by
  have hn := ht.1
  have e2 : (atR N p) 137 3 = (p : Int) := jb_up_eq
  have e4 : (atR N p) 137 4 = -1 := (jb_up_nej (by decide)).trans h4
  have vb := hn_val_b (T := T) (n := n) (p := p + 1) (item := i + 3) (by omega) hD (by unfold hn_can; omega)
  have st := e_R_lawText_22 (ja_x true (dd + 3)) g (i : Int) (atR N p)
  rw [e4, if_pos rfl, if_neg (by omega), f_R_has, hg, if_neg (by decide), jz_bI, if_pos rfl, e2, ja_w_id (by omega) (by omega), ja_up_up, show (p : Int) + 1 = ((p + 1 : Nat) : Int) by omega] at st
  rcases hi with rfl | rfl
  · obtain ⟨a, N3, g1, g2⟩ := js_R_val dd (i := 0 + 3) (D := D) (p := p + 1) (lo := 0) (hi := 9) (hR0.fr hF) hn (by omega) h4 rfl rfl
    rw [if_pos (by decide), g1, jz_bI, if_pos (by decide), if_neg (by decide), ja_up_self (N := ja_up _ 137 22 _) rfl, ja_up_cm (by omega), show ((0 : Nat) : Int) = 0 from rfl] at st
    have f4 : jFH M0 (ja_up N3 137 22 a) := by
      rcases g2 with ⟨rfl, -⟩ | ⟨rfl, -⟩
      · exact hF.up (by omega)
      · exact (hF.up (by omega)).up (by omega)
    refine ⟨ja_up N3 137 22 a, st.trans (js_R_kk (dd + 1) ht (hR0.fr f4) vb.1.1 (by decide) (by decide) (fun k M => ja_D true (ja_x true (dd + 3)) k_R_lawText 22 [some (jr 137), some (ji (ja_or g (ja_shl 1 0))), some (ji k), none] [] M)), f4, ?_⟩
    rcases g2 with ⟨rfl, q⟩ | ⟨rfl, q⟩
    · rw [q]
      exact Or.inl ⟨rfl, h4, ⟨⟨hr.1.1, hr.1.2.1, rfl, hr.1.2.2.2⟩, hr.2⟩⟩
    · exact Or.inr ⟨q, by rw [jb_up_nej (by decide), jb_up_eq]⟩
  · obtain ⟨a, N3, g1, g2⟩ := js_R_val dd (i := 1 + 3) (D := D) (p := p + 1) (lo := 0) (hi := 30) (hR0.fr hF) hn (by omega) h4 rfl rfl
    rw [if_neg (by decide), g1, jz_bI, if_neg (by decide), if_pos (by decide), ja_up_self (c := 137) (i := 22) rfl, ja_up_cm (by omega), show ((1 : Nat) : Int) = 1 from rfl] at st
    have f4 : jFH M0 (ja_up N3 137 23 a) := by
      rcases g2 with ⟨rfl, -⟩ | ⟨rfl, -⟩
      · exact hF.up (by omega)
      · exact (hF.up (by omega)).up (by omega)
    refine ⟨ja_up N3 137 23 a, st.trans (js_R_kk (dd + 1) ht (hR0.fr f4) vb.1.1 (by decide) (by decide) (fun k M => ja_D true (ja_x true (dd + 3)) k_R_lawText 22 [some (jr 137), some (ji (ja_or g (ja_shl 1 1))), some (ji k), none] [] M)), f4, ?_⟩
    rcases g2 with ⟨rfl, q⟩ | ⟨rfl, q⟩
    · rw [q]
      exact Or.inl ⟨rfl, h4, ⟨⟨hr.1.1, hr.1.2.1, hr.1.2.2.1, rfl⟩, hr.2⟩⟩
    · exact Or.inr ⟨q, by rw [jb_up_nej (by decide), jb_up_eq]⟩
