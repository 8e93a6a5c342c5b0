/-! back, again -/
theorem js_hasImage (dd : Nat) {M : ja_M} (hI : jIm M) : ja_x true (dd + 1) 192 [jr 33] M = some (some (ji (M 33 7)), M) := by
  rw [f_Past_hasImage, jz_cB hI.1]
theorem js_putStart (dd : Nat) {b v : Int} {M : ja_M} (hH : jH M) (h1 : 0 ≤ b ∧ b < M 11 4) : ja_x true (dd + 2) 80 [jr 24, ji b, ji v] M = some (none, ja_up M 32 b.toNat v) := by
  have hb := hH.b
  rw [f_Table_putStart, js_hasBand, jz_bI, jz_b0, if_pos h1, if_pos (by omega)]
theorem jy_p33 : jy_o33 := by
  intro M hJ
  have hJ0 := hJ
  obtain ⟨⟨hT, hH, hO⟩, ⟨hW, hP, hI⟩, hF, hL, hB⟩ := hJ
  have hb := hH.b
  have hX := f_X_back 1999 M
  rw [js_hasImage 1998 hI, jz_bI] at hX
  by_cases h0 : M 33 7 = 0
  · rw [if_pos h0] at hX
    have hR := f_R_back 1999 M
    rw [hI.2.1, if_pos h0] at hR
    exact ⟨_, _, _, hX, hR, hJ0, jrm.same (fun _ => rfl) rfl⟩
  · have h1 : M 33 7 = 1 := by
      have := hI.1
      omega
    have hold := hI.2.2 h1
    have hbr := js_bringOrders 1995 (M := M) (a := 75) (f := fun b t => M 169 (6 * b + t)) hH (by omega) rfl (fun b t hb4 ht => by
      have := (hold b hb4).1.2.1 t ht
      dsimp only at this ⊢
      omega) (fun b hb4 => (hold b hb4).1.1)
    have hgb := f_Past_goBack 1998 M
    rw [hbr, jz_bV] at hgb
    obtain ⟨B, hB4⟩ : ∃ B : Nat, M 11 4 = (B : Int) := ⟨(M 11 4).toNat, by omega⟩
    have gN : ∀ c i, ¬ (26 ≤ c ∧ c ≤ 31) → ja_rows M (M 11 4).toNat (M 11 3).toNat (fun b t => M 169 (6 * b + t)) c i = M c i := fun c i x => ja_rows_ne (by omega)
    have gN26 : ∀ b t : Nat, (b : Int) < M 11 4 → (t : Int) < M 11 3 → ja_rows M (M 11 4).toNat (M 11 3).toNat (fun b t => M 169 (6 * b + t)) (26 + b) t = M 169 (6 * b + t) := fun b t hb4 ht => ja_rows_in (by omega) (by omega)
    have KN : jKs kN M (ja_rows M (M 11 4).toNat (M 11 3).toNat (fun b t => M 169 (6 * b + t))) := (jKs.rf M).rows (by omega) jk_N26
    generalize ja_rows M (M 11 4).toNat (M 11 3).toNat (fun b t => M 169 (6 * b + t)) = N at *
    have K2 : ∀ n, jKs kN M (ja_row N 32 n (fun b => M 76 b)) := fun n => KN.row (fun _ => rfl)
    have w := jz_loop (F := fun N k => ja_D true (ja_x true 1998) k_Past_goBack 6 [some (jr 33), some (ji k)] [] N) (N := fun n => ja_row N 32 n (fun b => M 76 b)) (n := B) B 0 (by omega) (fun k _ hk => by
      show ja_D true (ja_x true 1998) k_Past_goBack 6 _ [] _ = _
      have hHk : jH (ja_row N 32 k (fun b => M 76 b)) := hH.kp ((K2 k).of jn_H)
      rw [e_Past_goBack_6, js_bands 1997, jz_bI, (K2 k) 11 4 rfl, if_pos (by omega), if_pos (by omega), js_putStart 1996 hHk (by rw [(K2 k) 11 4 rfl]; omega), jz_bV, ja_row_ne (by decide), gN _ _ (by decide), ja_w_id (by omega) (by omega), show ((k : Int)).toNat = k from rfl, ja_row_up N 32 k (fun b => M 76 b)])
    have w : ja_D true (ja_x true 1998) k_Past_goBack 6 [some (jr 33), some (ji 0)] [] (ja_row N 32 0 (fun b => M 76 b)) = ja_D true (ja_x true 1998) k_Past_goBack 6 [some (jr 33), some (ji (B : Int))] [] (ja_row N 32 B (fun b => M 76 b)) := w
    rw [ja_row0e] at w
    rw [w, e_Past_goBack_6, js_bands 1997, jz_bI, (K2 B) 11 4 rfl, hB4, if_neg (by omega), jb_up_eq] at hgb
    rw [if_neg h0, hgb, jz_bI] at hX
    have KQ : jKs kN M (ja_up (ja_row N 32 B (fun b => M 76 b)) 33 4 0) := (K2 B).up rfl
    have gQ : ∀ c i, ¬ (26 ≤ c ∧ c ≤ 31) → c ≠ 32 → ¬ (c = 33 ∧ i = 4) → ja_up (ja_row N 32 B (fun b => M 76 b)) 33 4 0 c i = M c i := fun c i x y z => by rw [jz_up, if_neg z, ja_row_ne y, gN _ _ x]
    have gQ26 : ∀ b t : Nat, (b : Int) < M 11 4 → (t : Int) < M 11 3 → ja_up (ja_row N 32 B (fun b => M 76 b)) 33 4 0 (26 + b) t = M 169 (6 * b + t) := fun b t hb4 ht => by rw [jb_up_ne (by omega), ja_row_ne (by omega), gN26 b t hb4 ht]
    have gQ32 : ∀ b : Nat, (b : Int) < M 11 4 → ja_up (ja_row N 32 B (fun b => M 76 b)) 33 4 0 32 b = M 76 b := fun b hb4 => by rw [jb_up_ne (by decide), ja_row_in (by omega)]
    have gQ34 : ja_up (ja_row N 32 B (fun b => M 76 b)) 33 4 0 33 4 = 0 := jb_up_eq
    generalize ja_up (ja_row N 32 B (fun b => M 76 b)) 33 4 0 = Q at *
    have hR := f_R_back 1999 Q
    rw [gQ 137 57 (by decide) (by decide) (by decide), hI.2.1, if_neg h0] at hR
    have v := jz_loop (F := fun N k => ja_D true (ja_x true 1999) k_R_back 7 [some (jr 137), some (ji k)] [] N) (N := fun k => ja_seg Q 154 0 k (fun j => M 169 j)) (n := 36) 36 0 (by omega) (fun k _ hk => by
      show ja_D true (ja_x true 1999) k_R_back 7 _ [] _ = _
      rw [e_R_back_7, if_pos (by omega), if_pos (by omega), if_pos (by omega), ja_w_id (by omega) (by omega), ja_seg_ne (by decide), gQ _ _ (by decide) (by decide) (by omega), show ((k : Int)).toNat = k from rfl, show ja_up (ja_seg Q 154 0 k (fun j => M 169 j)) 154 k (M 169 k) = ja_seg Q 154 0 (k + 1) (fun j => M 169 j) by rw [← ja_seg_s Q 154 0 k (fun j => M 169 j), Nat.zero_add]])
    have v : ja_D true (ja_x true 1999) k_R_back 7 [some (jr 137), some (ji 0)] [] (ja_seg Q 154 0 0 (fun j => M 169 j)) = ja_D true (ja_x true 1999) k_R_back 7 [some (jr 137), some (ji 36)] [] (ja_seg Q 154 0 36 (fun j => M 169 j)) := v
    rw [ja_seg_0] at v
    rw [v, e_R_back_7, if_neg (by decide)] at hR
    have u := jz_loop (F := fun N k => ja_D true (ja_x true 1999) k_R_back 22 [some (jr 137), some (ji k)] [] N) (N := fun k => ja_seg (ja_seg Q 154 0 36 (fun j => M 169 j)) 155 0 k (fun j => M 170 j)) (n := 6) 6 0 (by omega) (fun k _ hk => by
      show ja_D true (ja_x true 1999) k_R_back 22 _ [] _ = _
      rw [e_R_back_22, if_pos (by omega), if_pos (by omega), if_pos (by omega), ja_w_id (by omega) (by omega), ja_seg_ne (by decide), ja_seg_ne (by decide), gQ _ _ (by decide) (by decide) (by omega), show ((k : Int)).toNat = k from rfl, show ja_up (ja_seg (ja_seg Q 154 0 36 (fun j => M 169 j)) 155 0 k (fun j => M 170 j)) 155 k (M 170 k) = ja_seg (ja_seg Q 154 0 36 (fun j => M 169 j)) 155 0 (k + 1) (fun j => M 170 j) by rw [← ja_seg_s _ 155 0 k (fun j => M 170 j), Nat.zero_add]])
    have u : ja_D true (ja_x true 1999) k_R_back 22 [some (jr 137), some (ji 0)] [] (ja_seg (ja_seg Q 154 0 36 (fun j => M 169 j)) 155 0 0 (fun j => M 170 j)) = ja_D true (ja_x true 1999) k_R_back 22 [some (jr 137), some (ji 6)] [] (ja_seg (ja_seg Q 154 0 36 (fun j => M 169 j)) 155 0 6 (fun j => M 170 j)) := u
    rw [ja_seg_0] at u
    rw [u, e_R_back_22, if_neg (by decide)] at hR
    have KF : jKs kN M (ja_up (ja_seg (ja_seg Q 154 0 36 (fun j => M 169 j)) 155 0 6 (fun j => M 170 j)) 137 35 0) := ((KQ.seg (fun _ => rfl)).seg (fun _ => rfl)).up rfl
    have gF : ∀ c i, c ≠ 154 → c ≠ 155 → c ≠ 137 → ja_up (ja_seg (ja_seg Q 154 0 36 (fun j => M 169 j)) 155 0 6 (fun j => M 170 j)) 137 35 0 c i = Q c i := fun c i x y z => by rw [jb_up_ne z, ja_seg_ne y, ja_seg_ne x]
    refine ⟨_, _, _, hX, hR, hJ0.acts KF ?_ ?_, jrm.same (fun i => by rw [gF _ _ (by decide) (by decide) (by decide), gQ _ _ (by decide) (by decide) (by omega)]) (KF 93 4 rfl)⟩
    · refine jO_new (fun b t => M 169 (6 * b + t)) ?_ ?_ ?_ ?_ <;> rw [KF 11 4 rfl]
      · intro b hb4
        rw [KF 11 3 rfl]
        exact (hold b hb4).1.2
      · intro b t hb4 ht
        rw [KF 11 3 rfl] at ht
        rw [gF _ _ (by omega) (by omega) (by omega)]
        exact gQ26 b t hb4 ht
      · intro b t hb4 ht
        rw [KF 11 3 rfl] at ht
        rw [jb_up_ne (by decide), ja_seg_ne (by decide), ja_seg_at (by omega)]
      · intro b hb4
        rw [gF 32 _ (by decide) (by decide) (by decide), jb_up_ne (by decide), ja_seg_at (by omega), gQ32 b hb4]
        exact (hold b hb4).2
    · have e34 : ja_up (ja_seg (ja_seg Q 154 0 36 (fun j => M 169 j)) 155 0 6 (fun j => M 170 j)) 137 35 0 33 4 = 0 := by rw [gF _ _ (by decide) (by decide) (by decide), gQ34]
      unfold jPs
      rw [e34, gF 33 3 (by decide) (by decide) (by decide), gQ 33 3 (by decide) (by decide) (by decide)]
      exact ⟨hP.1, by omega, jb_up_eq, fun k b hk => by omega⟩
/-- how many t below n there are with p -/
def jv_cnt (p : Nat → Bool) : Nat → Int
  | 0 => 0
  | t + 1 => jv_cnt p t + (if p t = true then 1 else 0)
theorem jv_cnt_b (p : Nat → Bool) : ∀ n, 0 ≤ jv_cnt p n ∧ jv_cnt p n ≤ n
  | 0 => ⟨Int.le_refl _, Int.le_refl _⟩
  | n + 1 => by
    have := jv_cnt_b p n
    show 0 ≤ jv_cnt p n + (if p n = true then 1 else 0) ∧ jv_cnt p n + (if p n = true then 1 else 0) ≤ ((n + 1 : Nat) : Int)
    split <;> omega
def jv_sum (f : Nat → Int) : Nat → Int
  | 0 => 0
  | t + 1 => jv_sum f t + f t
theorem jv_sum_b {f : Nat → Int} {c : Int} : ∀ n, (∀ t, t < n → 0 ≤ f t ∧ f t ≤ c) → 0 ≤ jv_sum f n ∧ jv_sum f n ≤ n * c
  | 0, _ => by
    show (0 : Int) ≤ 0 ∧ (0 : Int) ≤ 0 * c
    omega
  | n + 1, h => by
    have h1 := jv_sum_b n (fun t ht => h t (by omega))
    have h2 := h n (by omega)
    show 0 ≤ jv_sum f n + f n ∧ jv_sum f n + f n ≤ ((n + 1 : Nat) : Int) * c
    rw [show ((n + 1 : Nat) : Int) = (n : Int) + 1 by omega, Int.add_mul]
    omega
/-- like the image -/
def jv_lik (M : ja_M) (b : Nat) : Int := jv_cnt (fun t => decide (M (26 + b) t = M 169 (6 * b + t))) (M 11 3).toNat
theorem js_likeImage (dd : Nat) {M : ja_M} (hH : jH M) (hO : jO M) (hI : jIm M) (h1 : M 33 7 = 1) : ja_x true (dd + 3) 195 [jr 33] M = some (some (ji (jv_sum (jv_lik M) (M 11 4).toNat)), M) := by
  have hb := hH.b
  have hold := hI.2.2 h1
  obtain ⟨B, hB⟩ : ∃ B : Nat, M 11 4 = (B : Int) := ⟨(M 11 4).toNat, by omega⟩
  obtain ⟨P, hP⟩ : ∃ P : Nat, M 11 3 = (P : Int) := ⟨(M 11 3).toNat, by omega⟩
  have hc : ∀ b, 0 ≤ jv_lik M b ∧ jv_lik M b ≤ 6 := fun b => by
    have := jv_cnt_b (fun t => decide (M (26 + b) t = M 169 (6 * b + t))) (M 11 3).toNat
    unfold jv_lik
    omega
  have hs : ∀ n, n ≤ 6 → 0 ≤ jv_sum (jv_lik M) n ∧ jv_sum (jv_lik M) n ≤ n * 6 := fun n _ => jv_sum_b n (fun t _ => hc t)
  rw [f_Past_likeImage]
  have inner : ∀ (b k : Nat) (acc : Int), (b : Int) < M 11 4 → k ≤ P → 0 ≤ acc ∧ acc + k ≤ 60 → ja_D true (ja_x true (dd + 2)) k_Past_likeImage 20 [some (jr 33), some (ji acc), some (ji (b : Int)), some (ji (jv_digs (fun t => M 169 (6 * b + t)) k)), some (ji ((k : Int) - 1))] [] M = ja_D true (ja_x true (dd + 2)) k_Past_likeImage 4 [some (jr 33), some (ji (acc + jv_cnt (fun t => decide (M (26 + b) t = M 169 (6 * b + t))) k)), some (ji ((b : Int) + 1)), none, none] [] M := by
    intro b k
    induction k with
    | zero =>
      intro acc hb4 _ ha
      rw [e_Past_likeImage_20, if_pos (by omega), ja_w_id (by omega) (by omega)]
      show _ = ja_D true (ja_x true (dd + 2)) k_Past_likeImage 4 [some (jr 33), some (ji (acc + 0)), _, none, none] [] M
      rw [Int.add_zero]
    | succ k ih =>
      intro acc hb4 hk ha
      have p9 : ∀ t, t < k + 1 → 0 ≤ M 169 (6 * b + t) ∧ M 169 (6 * b + t) ≤ 9 := fun t ht => by
        have := (hold b hb4).1.2.1 t (by omega)
        dsimp only at this
        omega
      have g1 := jv_digs_b (f := fun t => M 169 (6 * b + t)) k (fun t ht => p9 t (by omega))
      have g2 := p9 k (by omega)
      have g3 := jv_10p (n := k) (by omega)
      have es : jv_digs (fun t => M 169 (6 * b + t)) (k + 1) = jv_digs (fun t => M 169 (6 * b + t)) k * 10 + M 169 (6 * b + k) := rfl
      have em : (jv_digs (fun t => M 169 (6 * b + t)) (k + 1)).tmod 10 = M 169 (6 * b + k) := by rw [jz_tmod (by omega)]; omega
      have ed : (jv_digs (fun t => M 169 (6 * b + t)) (k + 1)).tdiv 10 = jv_digs (fun t => M 169 (6 * b + t)) k := by rw [Int.tdiv_eq_ediv_of_nonneg (by omega)]; omega
      have hcb := jv_cnt_b (fun t => decide (M (26 + b) t = M 169 (6 * b + t))) k
      have e1 : jv_of M (b : Int) (((k + 1 : Nat) : Int) - 1) = M (26 + b) k := by
        unfold jv_of
        rw [show (((k + 1 : Nat) : Int) - 1).toNat = k by omega]
        rfl
      have ec : jv_cnt (fun t => decide (M (26 + b) t = M 169 (6 * b + t))) (k + 1) = jv_cnt (fun t => decide (M (26 + b) t = M 169 (6 * b + t))) k + (if decide (M (26 + b) k = M 169 (6 * b + k)) = true then 1 else 0) := rfl
      rw [e_Past_likeImage_20, if_neg (by omega), js_placeOf' dd hH (by omega) ⟨by omega, by omega⟩, jz_bI, em, ed, e1, ja_w_id (x := jv_digs _ k) (by omega) (by omega), ja_w_id (x := ((k + 1 : Nat) : Int) - 1 + -1) (by omega) (by omega), show ((k + 1 : Nat) : Int) - 1 + -1 = (k : Int) - 1 by omega, ec]
      by_cases q : M (26 + b) k = M 169 (6 * b + k)
      · rw [if_pos q.symm, ja_w_id (by omega) (by omega), ih (acc + 1) hb4 (by omega) (by omega), if_pos (decide_eq_true q), Int.add_assoc acc 1, Int.add_comm 1]
      · rw [if_neg (fun e => q e.symm), ih acc hb4 (by omega) (by omega), if_neg (by simp [q]), Int.add_zero]
  have w := jz_loop (F := fun v k => ja_D true (ja_x true (dd + 2)) k_Past_likeImage 4 [some (jr 33), some (ji v), some (ji k), none, none] [] M) (N := fun n => jv_sum (jv_lik M) n) (n := B) B 0 (by omega) (fun k _ hk => by
    show ja_D true (ja_x true (dd + 2)) k_Past_likeImage 4 _ [] M = _
    have := hs k (by omega)
    rw [e_Past_likeImage_4, js_bands, jz_bI, if_pos (by omega), if_pos (by omega), js_places, jz_bI, show ((k : Int)).toNat = k from rfl, (hold k (by omega)).1.1, hP, show ((P : Int)).toNat = P from rfl, ja_w_id (x := (P : Int) - 1) (by omega) (by omega), inner k P _ (by omega) (Nat.le_refl _) (by omega)]
    show _ = ja_D true (ja_x true (dd + 2)) k_Past_likeImage 4 [some (jr 33), some (ji (jv_sum (jv_lik M) k + jv_lik M k)), _, none, none] [] M
    rw [show jv_lik M k = jv_cnt (fun t => decide (M (26 + k) t = M 169 (6 * k + t))) P by unfold jv_lik; rw [hP]; rfl])
  have w : ja_D true (ja_x true (dd + 2)) k_Past_likeImage 4 [some (jr 33), some (ji 0), some (ji 0), none, none] [] M = ja_D true (ja_x true (dd + 2)) k_Past_likeImage 4 [some (jr 33), some (ji (jv_sum (jv_lik M) B)), some (ji (B : Int)), none, none] [] M := w
  rw [w, e_Past_likeImage_4, js_bands, jz_bI, hB, if_neg (by omega)]
  rfl
theorem js_R_again (dd : Nat) {M : ja_M} (hH : jH M) (hO : jO M) (hI : jIm M) (h1 : M 33 7 = 1) : ja_x true (dd + 2) 300 [jr 137] M = some (some (ji (jv_sum (jv_lik M) (M 11 4).toNat)), M) := by
  have hb := hH.b
  obtain ⟨B, hB⟩ : ∃ B : Nat, M 11 4 = (B : Int) := ⟨(M 11 4).toNat, by omega⟩
  obtain ⟨P, hP⟩ : ∃ P : Nat, M 11 3 = (P : Int) := ⟨(M 11 3).toNat, by omega⟩
  have hc : ∀ b n, n ≤ 6 → 0 ≤ jv_cnt (fun t => decide (M (26 + b) t = M 169 (6 * b + t))) n ∧ jv_cnt (fun t => decide (M (26 + b) t = M 169 (6 * b + t))) n ≤ 6 := fun b n hn => by
    have := jv_cnt_b (fun t => decide (M (26 + b) t = M 169 (6 * b + t))) n
    omega
  have hs : ∀ n, n ≤ 6 → 0 ≤ jv_sum (jv_lik M) n ∧ jv_sum (jv_lik M) n ≤ n * 6 := fun n _ => jv_sum_b n (fun t _ => hc t _ (by omega))
  rw [f_R_again, hI.2.1, if_neg (by omega)]
  have inner : ∀ (b : Nat) (acc : Int), (b : Int) < M 11 4 → 0 ≤ acc ∧ acc ≤ 40 → ja_D true (ja_x true (dd + 1)) k_R_again 15 [some (jr 137), some (ji acc), some (ji (b : Int)), some (ji 0)] [] M = ja_D true (ja_x true (dd + 1)) k_R_again 9 [some (jr 137), some (ji (acc + jv_lik M b)), some (ji ((b : Int) + 1)), none] [] M := by
    intro b acc hb4 ha
    have w := jz_loop (F := fun v k => ja_D true (ja_x true (dd + 1)) k_R_again 15 [some (jr 137), some (ji v), some (ji (b : Int)), some (ji k)] [] M) (N := fun n => acc + jv_cnt (fun t => decide (M (26 + b) t = M 169 (6 * b + t))) n) (n := P) P 0 (by omega) (fun k _ hk => by
      show ja_D true (ja_x true (dd + 1)) k_R_again 15 _ [] M = _
      have := hc b k (by omega)
      have e1 : jv_of M (b : Int) (k : Int) = M (26 + b) k := rfl
      rw [e_R_again_15, hH.2.1.1, if_pos (by omega), js_R_of dd hH hO (by omega) (by omega), jz_bI, ja_w_id (x := 6 * (b : Int)) (by omega) (by omega), ja_w_id (x := 6 * (b : Int) + (k : Int)) (by omega) (by omega), if_pos (by omega), show (6 * (b : Int) + (k : Int)).toNat = 6 * b + k by omega, e1, ja_w_id (x := (k : Int) + 1) (by omega) (by omega), ja_w_id (by omega) (by omega), ja_w_id (by omega) (by omega), Int.add_zero]
      show _ = ja_D true (ja_x true (dd + 1)) k_R_again 15 [some (jr 137), some (ji (acc + (jv_cnt (fun t => decide (M (26 + b) t = M 169 (6 * b + t))) k + (if decide (M (26 + b) k = M 169 (6 * b + k)) = true then 1 else 0)))), _, _] [] M
      by_cases q : M (26 + b) k = M 169 (6 * b + k)
      · rw [if_pos q, if_pos (decide_eq_true q), ← Int.add_assoc]
      · rw [if_neg q, if_neg (by simp [q]), Int.add_zero])
    have w : ja_D true (ja_x true (dd + 1)) k_R_again 15 [some (jr 137), some (ji (acc + 0)), some (ji (b : Int)), some (ji 0)] [] M = ja_D true (ja_x true (dd + 1)) k_R_again 15 [some (jr 137), some (ji (acc + jv_cnt (fun t => decide (M (26 + b) t = M 169 (6 * b + t))) P)), some (ji (b : Int)), some (ji (P : Int))] [] M := w
    rw [Int.add_zero] at w
    rw [w, e_R_again_15, hH.2.1.1, hP, if_neg (by omega), ja_w_id (by omega) (by omega)]
    rw [show jv_lik M b = jv_cnt (fun t => decide (M (26 + b) t = M 169 (6 * b + t))) P by unfold jv_lik; rw [hP]; rfl]
  have w := jz_loop (F := fun v k => ja_D true (ja_x true (dd + 1)) k_R_again 9 [some (jr 137), some (ji v), some (ji k), none] [] M) (N := fun n => jv_sum (jv_lik M) n) (n := B) B 0 (by omega) (fun k _ hk => by
    show ja_D true (ja_x true (dd + 1)) k_R_again 9 _ [] M = _
    have := hs k (by omega)
    rw [e_R_again_9, hH.2.1.2.1, if_pos (by omega), inner k _ (by omega) (by omega)]
    rfl)
  have w : ja_D true (ja_x true (dd + 1)) k_R_again 9 [some (jr 137), some (ji 0), some (ji 0), none] [] M = ja_D true (ja_x true (dd + 1)) k_R_again 9 [some (jr 137), some (ji (jv_sum (jv_lik M) B)), some (ji (B : Int)), none] [] M := w
  rw [w, e_R_again_9, hH.2.1.2.1, hB, if_neg (by omega)]
  rfl
theorem jy_p34 : jy_o34 := by
  refine jOp.pure (fun M hJ => ?_)
  obtain ⟨⟨hT, hH, hO⟩, ⟨hW, hP, hI⟩, hF, hL, hB⟩ := hJ
  have hX := f_X_again 1999 M
  rw [js_hasImage 1998 hI, jz_bI] at hX
  by_cases h0 : M 33 7 = 0
  · rw [if_pos h0] at hX
    have hR := f_R_again 1999 M
    rw [hI.2.1, if_pos h0] at hR
    exact ⟨_, hX, hR⟩
  · have h1 : M 33 7 = 1 := by
      have := hI.1
      omega
    rw [if_neg h0, js_likeImage 1996 hH hO hI h1, jz_bI] at hX
    exact ⟨_, hX, js_R_again 1998 hH hO hI h1⟩
