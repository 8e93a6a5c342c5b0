/-! pieces -/
def jv_ch (n : Int) : Nat → Int
  | 0 => 1
  | i + 1 => (jv_ch n i * (n - i)).tdiv ((i : Int) + 1)
def jv_sz (k n : Nat) : Nat := (List.range (2 ^ n)).countP (fun s => jv_pop s == k)
set_option maxRecDepth 100000 in
theorem jv_sz_ch : ∀ n, n < 11 → ∀ k, k < 11 → k ≤ n → ((jv_sz k n : Nat) : Int) = jv_ch (n : Int) k := by decide +kernel
theorem jv_ch_b : ∀ n : Nat, n < 11 → ∀ k, k < 11 → k ≤ n → 0 ≤ jv_ch (n : Int) k ∧ jv_ch (n : Int) k ≤ 252 := by decide +kernel
theorem js_choose (dd : Nat) {n k : Nat} (M : ja_M) (hn : n < 11) (hk : k ≤ n) : ja_x true (dd + 1) 296 [ji (n : Int), ji (k : Int)] M = some (some (ji (jv_ch (n : Int) k)), M) := by
  rw [f_R_choose]
  have w := jz_loop (F := fun v i => ja_D true (ja_x true dd) k_R_choose 4 [some (ji (n : Int)), some (ji (k : Int)), some (ji v), some (ji i)] [] M) (N := fun i => jv_ch (n : Int) i) (n := k) k 0 (by omega) (fun i _ hi => by
    show ja_D true (ja_x true dd) k_R_choose 4 _ [] M = _
    have h1 := jv_ch_b n hn i (by omega) (by omega)
    have h2 := jv_ch_b n hn (i + 1) (by omega) (by omega)
    have h3 : jv_ch (n : Int) i * ((n : Int) - i) ≤ 252 * 11 := Int.mul_le_mul h1.2 (by omega) (by omega) (by omega)
    have h4 : 0 ≤ jv_ch (n : Int) i * ((n : Int) - i) := Int.mul_nonneg h1.1 (by omega)
    have e : jv_ch (n : Int) (i + 1) = (jv_ch (n : Int) i * ((n : Int) - i)).tdiv ((i : Int) + 1) := rfl
    rw [e_R_choose_4, if_pos (by omega), ja_w_id (x := (i : Int) + 1) (by omega) (by omega), jz_is0 (by omega), cond_false, ja_w_id (x := (n : Int) - (i : Int)) (by omega) (by omega), ja_w_id (x := jv_ch (n : Int) i * ((n : Int) - i)) (by omega) (by omega), ← e, ja_w_id (by omega) (by omega)])
  have w : ja_D true (ja_x true dd) k_R_choose 4 [some (ji (n : Int)), some (ji (k : Int)), some (ji 1), some (ji 0)] [] M = ja_D true (ja_x true dd) k_R_choose 4 [some (ji (n : Int)), some (ji (k : Int)), some (ji (jv_ch (n : Int) k)), some (ji (k : Int))] [] M := w
  rw [w, e_R_choose_4, if_neg (by omega), if_neg (by omega)]
theorem jx_p10 {n : Nat} (h : n ≤ 10) : 2 ^ n ≤ 1024 := Nat.pow_le_pow_right (by decide) h
theorem js_howManySets (dd : Nat) {n k : Nat} (M : ja_M) (hn : n ≤ 10) : ja_x true (dd + 2) 183 [ji (n : Int), ji (k : Int)] M = some (some (ji (jv_sz k n : Int)), M) := by
  have hp := jx_p10 hn
  rw [f_X_howManySets]
  have w := jz_loop (F := fun v i => ja_D true (ja_x true (dd + 1)) k_X_howManySets 4 [some (ji (n : Int)), some (ji (k : Int)), some (ji v), some (ji i)] [] M) (N := fun i => jv_cnt (fun s => jv_pop s == k) i) (n := 2 ^ n) (2 ^ n) 0 (by omega) (fun i _ hi => by
    show ja_D true (ja_x true (dd + 1)) k_X_howManySets 4 _ [] M = _
    have h1 := jv_cnt_b (fun s => jv_pop s == k) i
    rw [e_X_howManySets_4, jx_shl1 (by omega), if_pos (by omega), js_bitCount dd (by omega), jz_bI, ja_w_id (x := (i : Int) + 1) (by omega) (by omega), ja_w_id (by omega) (by omega)]
    show _ = ja_D true (ja_x true (dd + 1)) k_X_howManySets 4 [_, _, some (ji (jv_cnt (fun s => jv_pop s == k) i + (if (jv_pop i == k) = true then 1 else 0))), _] [] M
    by_cases q : jv_pop i = k
    · rw [if_pos (by omega), if_pos (by simp [q])]
    · rw [if_neg (by omega), if_neg (by simp [q]), Int.add_zero])
  have w : ja_D true (ja_x true (dd + 1)) k_X_howManySets 4 [some (ji (n : Int)), some (ji (k : Int)), some (ji 0), some (ji 0)] [] M = ja_D true (ja_x true (dd + 1)) k_X_howManySets 4 [some (ji (n : Int)), some (ji (k : Int)), some (ji (jv_cnt (fun s => jv_pop s == k) (2 ^ n))), some (ji ((2 ^ n : Nat) : Int))] [] M := w
  rw [w, e_X_howManySets_4, jx_shl1 (by omega), if_neg (by omega), ← jc_cp]
  rfl
theorem jy_p30 : jy_o30 := by
  intro a b c ra rb rc
  refine jOp.pure (fun M hJ => ?_)
  have hX := f_X_pieces 1999 a b c M
  have hR := f_R_pieces 1999 a b c M
  rw [js_in 1998, jz_bI, jz_b0] at hR
  by_cases h1 : 1 ≤ a ∧ a ≤ 10
  · rw [if_neg (by omega), if_neg (by omega)] at hX
    rw [if_pos h1, js_in 1998, jz_bI, jz_b0] at hR
    by_cases h2 : 1 ≤ b ∧ b ≤ a
    · rw [if_neg (by omega), if_neg (by omega)] at hX
      rw [if_pos h2] at hR
      by_cases h3 : c < 0
      · rw [if_pos h3] at hX hR
        exact ⟨_, hX, hR⟩
      · rw [if_neg h3] at hX hR
        obtain ⟨n, rfl⟩ := Int.eq_ofNat_of_zero_le (show 0 ≤ a by omega)
        obtain ⟨k, rfl⟩ : ∃ k : Nat, b = ((k + 1 : Nat) : Int) := ⟨b.toNat - 1, by omega⟩
        have ek : ja_w (((k + 1 : Nat) : Int) - 1) = (k : Int) := by
          rw [ja_w_id (by omega) (by omega)]
          omega
        have en : ja_w ((n : Int) - 1) = ((n - 1 : Nat) : Int) := by
          rw [ja_w_id (by omega) (by omega)]
          omega
        rw [ek, en] at hX hR
        by_cases c0 : c = 0
        · rw [if_pos c0, js_howManySets 1997 M (by omega), jz_bI, jv_sz_ch n (by omega) k (by omega) (by omega)] at hX
          rw [if_pos (by omega), if_pos c0, js_choose 1998 M (by omega) (by omega), jz_bI] at hR
          exact ⟨_, hX, hR⟩
        · rw [if_neg c0] at hX
          by_cases c1 : c = 1
          · rw [if_pos c1, js_howManySets 1997 M (by omega), jz_bI, jv_sz_ch (n - 1) (by omega) k (by omega) (by omega)] at hX
            rw [if_pos (by omega), if_neg c0, js_choose 1998 M (by omega) (by omega), jz_bI] at hR
            exact ⟨_, hX, hR⟩
          · rw [if_neg c1, ja_w_id (x := c - 2) (by omega) (by omega), f_X_setByNumber 1998] at hX
            rw [if_neg (by omega)] at hR
            have hp := jx_p10 (n := n) (by omega)
            have key : ∀ (m s : Nat) (ac : Int), s + m = 2 ^ n → 0 ≤ ac ∧ ac ≤ s → ∃ v : Int, (v = -1 ∨ 0 ≤ v) ∧ ja_D true (ja_x true 1998) k_X_setByNumber 4 [some (ji (n : Int)), some (ji (k : Int)), some (ji (c - 2)), some (ji ac), some (ji (s : Int))] [] M = some (some (ji v), M) ∧ ja_D true (ja_x true 1999) k_R_pieces 37 [none, some (ji (n : Int)), some (ji ((k + 1 : Nat) : Int)), some (ji c), some (ji ac), some (ji (s : Int))] [] M = some (some (ji (if v = -1 then -1 else ja_and (ja_w ((ja_shl 1 (n : Int)) - 1)) (ja_xor v (-1)))), M) := by
              intro m
              induction m with
              | zero =>
                intro s ac e ha
                refine ⟨-1, Or.inl rfl, ?_, ?_⟩
                · rw [e_X_setByNumber_4, jx_shl1 (by omega), if_neg (by omega)]
                · rw [e_R_pieces_37, jx_shl1 (by omega), if_neg (by omega), if_pos rfl]
              | succ m ih =>
                intro s ac e ha
                have hb := js_bitCount 1997 (a := s) (by omega) M
                have hb2 := js_bitCount 1998 (a := s) (by omega) M
                by_cases q : (jv_pop s : Int) = (k : Int)
                · by_cases r : ac = c - 2
                  · refine ⟨(s : Int), Or.inr (by omega), ?_, ?_⟩
                    · rw [e_X_setByNumber_4, jx_shl1 (by omega), if_pos (by omega), hb, jz_bI, if_pos q, if_pos r]
                    · rw [e_R_pieces_37, jx_shl1 (by omega), if_pos (by omega), hb2, jz_bI, ek, ja_w_id (x := c - 2) (by omega) (by omega), if_pos q, if_pos r, if_neg (by omega)]
                  · obtain ⟨v, h0, g1, g2⟩ := ih (s + 1) (ac + 1) (by omega) (by omega)
                    rw [show ((s + 1 : Nat) : Int) = (s : Int) + 1 by omega] at g1 g2
                    refine ⟨v, h0, ?_, ?_⟩
                    · rw [e_X_setByNumber_4, jx_shl1 (by omega), if_pos (by omega), hb, jz_bI, if_pos q, if_neg r, ja_w_id (by omega) (by omega), ja_w_id (by omega) (by omega)]
                      exact g1
                    · rw [e_R_pieces_37, jx_shl1 (by omega), if_pos (by omega), hb2, jz_bI, ek, ja_w_id (x := c - 2) (by omega) (by omega), if_pos q, if_neg r, ja_w_id (x := ac + 1) (by omega) (by omega), ja_w_id (x := (s : Int) + 1) (by omega) (by omega)]
                      rw [jx_shl1 (by omega)] at g2
                      exact g2
                · obtain ⟨v, h0, g1, g2⟩ := ih (s + 1) ac (by omega) (by omega)
                  rw [show ((s + 1 : Nat) : Int) = (s : Int) + 1 by omega] at g1 g2
                  refine ⟨v, h0, ?_, ?_⟩
                  · rw [e_X_setByNumber_4, jx_shl1 (by omega), if_pos (by omega), hb, jz_bI, if_neg q, ja_w_id (by omega) (by omega)]
                    exact g1
                  · rw [e_R_pieces_37, jx_shl1 (by omega), if_pos (by omega), hb2, jz_bI, ek, if_neg q, ja_w_id (x := (s : Int) + 1) (by omega) (by omega)]
                    rw [jx_shl1 (by omega)] at g2
                    exact g2
            obtain ⟨v, h0, g1, g2⟩ := key (2 ^ n) 0 0 (by omega) (by omega)
            have g1 : ja_D true (ja_x true 1998) k_X_setByNumber 4 [some (ji (n : Int)), some (ji (k : Int)), some (ji (c - 2)), some (ji 0), some (ji 0)] [] M = some (some (ji v), M) := g1
            have g2 : ja_D true (ja_x true 1999) k_R_pieces 37 [none, some (ji (n : Int)), some (ji ((k + 1 : Nat) : Int)), some (ji c), some (ji 0), some (ji 0)] [] M = some (some (ji (if v = -1 then -1 else ja_and (ja_w ((ja_shl 1 (n : Int)) - 1)) (ja_xor v (-1)))), M) := g2
            rw [g1, jz_bI] at hX
            rw [g2] at hR
            refine ⟨_, hX.trans ?_, hR⟩
            by_cases q : v = -1
            · rw [if_pos q, if_pos q]
            · rw [if_neg q, if_neg q]
    · rw [if_neg h2] at hR
      refine ⟨-1, hX.trans ?_, hR⟩
      by_cases q : b < 1
      · rw [if_pos q]
      · rw [if_neg q, if_pos (by omega)]
  · rw [if_neg h1] at hR
    refine ⟨-1, hX.trans ?_, hR⟩
    by_cases q : a < 1
    · rw [if_pos q]
    · rw [if_neg q, if_pos (by omega)]
