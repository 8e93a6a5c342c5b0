/-! undo, image, back, again -/
/-- one act less -/
theorem jPs_pop {M M' : ja_M} (hP : jPs M) (h0 : M 33 4 ≠ 0) (e3 : M' 11 3 = M 11 3) (e4 : M' 11 4 = M 11 4) (r3 : M' 33 3 = (M 33 3 + 39) % 40) (r4 : M' 33 4 = M 33 4 - 1) (ra : M' 137 35 = M 33 4 - 1) (rows : ∀ q b : Nat, q < 40 → M' (35 + q) b = M (35 + q) b) (k : ∀ j, M' 156 j = M 156 j) : jPs M' := by
  obtain ⟨p1, p2, p3, p4⟩ := hP
  have ef : M' 156 = M 156 := funext k
  unfold jPs
  rw [r3, r4, ra, e3, e4, ef]
  refine ⟨by omega, by omega, rfl, fun n b hn hb => ?_⟩
  have er : jv_ring ((M 33 3 + 39) % 40) (M 33 4 - 1) n = jv_ring (M 33 3) (M 33 4) n := by
    unfold jv_ring
    omega
  rw [er, rows _ _ jv_ring_lt]
  exact p4 n b (by omega) hb
theorem js_R_undo2 (E : ja_E) {n : Nat} {M : ja_M} (hn : n < 40) (h : M 137 35 = (n : Int)) : ja_D true E k_R_undo 13 [some (jr 137), some (ji 0)] [] M = some (some (ji (n : Int)), ja_seg M 154 0 36 (fun j => M 156 (36 * n + j))) := by
  have e35 : ∀ k, ja_seg M 154 0 k (fun j => M 156 (36 * n + j)) 137 35 = (n : Int) := fun k => (ja_seg_ne (by decide)).trans h
  have w := jz_loop (F := fun N k => ja_D true E k_R_undo 13 [some (jr 137), some (ji k)] [] N) (N := fun k => ja_seg M 154 0 k (fun j => M 156 (36 * n + j))) (n := 36) 36 0 (by omega) (fun k _ hk => by
    show ja_D true E k_R_undo 13 _ [] _ = _
    rw [e_R_undo_13, if_pos (by omega), e35, ja_w_id (x := 36 * (n : Int)) (by omega) (by omega), ja_w_id (by omega) (by omega), if_pos (by omega), if_pos (by omega), ja_w_id (by omega) (by omega), ja_seg_ne (by decide), show (36 * (n : Int) + (k : Int)).toNat = 36 * n + k by omega, show ((k : Int)).toNat = 0 + k by omega, ja_seg_s M 154 0 k (fun j => M 156 (36 * n + j))])
  have w : ja_D true E k_R_undo 13 [some (jr 137), some (ji 0)] [] (ja_seg M 154 0 0 (fun j => M 156 (36 * n + j))) = ja_D true E k_R_undo 13 [some (jr 137), some (ji 36)] [] (ja_seg M 154 0 36 (fun j => M 156 (36 * n + j))) := w
  rw [ja_seg_0] at w
  rw [w, e_R_undo_13, if_neg (by decide), e35]
theorem ja_seg_at {M : ja_M} {c n j : Nat} {f : Nat → Int} (h : j < n) : ja_seg M c 0 n f c j = f j := by
  have := ja_seg_in (M := M) (c := c) (a := 0) (n := n) (f := f) h
  rw [Nat.zero_add] at this
  exact this
theorem jy_p9 : jy_o9 := by
  intro M hJ
  have hJ0 := hJ
  obtain ⟨⟨hT, hH, hO⟩, ⟨hW, hP, hI⟩, hF, hL, hB⟩ := hJ
  have hb := hH.b
  obtain ⟨p1, p2, p3, p4⟩ := id hP
  have hX := f_X_undo 1999 M
  rw [f_Past_acts 1998, jz_bI] at hX
  have hR := fun N => f_R_undo 1999 N
  by_cases h0 : M 33 4 = 0
  · rw [if_pos h0] at hX
    have hR := hR M
    rw [p3, if_pos h0] at hR
    exact ⟨_, _, _, hX, hR, hJ0, jrm.same (fun _ => rfl) rfl⟩
  · have hu := f_Past_undoLatest 1998 M
    have w1 : (ja_w (ja_w (M 33 3 + 40) - 1)).tmod 40 = (M 33 3 + 39) % 40 := by
      rw [ja_w_id (x := M 33 3 + 40) (by omega) (by omega), ja_w_id (by omega) (by omega), jz_tmod (by omega)]
      omega
    have w2 : ja_w (ja_up M 33 3 ((M 33 3 + 39) % 40) 33 4 - 1) = M 33 4 - 1 := by
      rw [jb_up_nej (by decide), ja_w_id (by omega) (by omega)]
    rw [if_neg h0, w1, w2] at hu
    have e33 : ja_up (ja_up M 33 3 ((M 33 3 + 39) % 40)) 33 4 (M 33 4 - 1) 33 3 = (M 33 3 + 39) % 40 := by rw [jb_up_nej (by decide), jb_up_eq]
    have e34 : ja_up (ja_up M 33 3 ((M 33 3 + 39) % 40)) 33 4 (M 33 4 - 1) 33 4 = M 33 4 - 1 := jb_up_eq
    have eo : ∀ c i, c ≠ 33 → ja_up (ja_up M 33 3 ((M 33 3 + 39) % 40)) 33 4 (M 33 4 - 1) c i = M c i := fun c i x => by rw [jb_up_ne x, jb_up_ne x]
    have KA : jKs kN M (ja_up (ja_up M 33 3 ((M 33 3 + 39) % 40)) 33 4 (M 33 4 - 1)) := ((jKs.rf M).up rfl).up rfl
    generalize ja_up (ja_up M 33 3 ((M 33 3 + 39) % 40)) 33 4 (M 33 4 - 1) = A at *
    have hHA : jH A := hH.kp (KA.of jn_H)
    have eri : jv_ring (M 33 3) (M 33 4) ((M 33 4).toNat - 1) = ((M 33 3 + 39) % 40).toNat := by
      unfold jv_ring
      omega
    have hold := fun (b : Nat) (hb4 : (b : Int) < M 11 4) => p4 ((M 33 4).toNat - 1) b (by omega) hb4
    rw [eri] at hold
    have hbr := js_bringOrders 1995 (M := A) (a := 35 + ((M 33 3 + 39) % 40).toNat) (f := fun b t => M 156 (36 * ((M 33 4).toNat - 1) + 6 * b + t)) hHA (by omega) (jk_row35 (by omega)) (fun b t hb4 ht => by
      rw [eo 11 4 (by decide)] at hb4
      rw [eo 11 3 (by decide)] at ht
      have := (hold b hb4).2.1 t ht
      dsimp only at this ⊢
      omega) (fun b hb4 => by
      rw [eo 11 4 (by decide)] at hb4
      rw [eo _ _ (by omega), eo 11 3 (by decide)]
      exact (hold b hb4).1)
    rw [eo 11 4 (by decide), eo 11 3 (by decide)] at hbr
    rw [e33, if_pos (by omega), show 34 + 1 + ((M 33 3 + 39) % 40).toNat = 35 + ((M 33 3 + 39) % 40).toNat by omega, jk_ck rfl rfl (by rw [jk_rSs (jk_rf (by omega))]; rfl), cond_true, hbr, jz_bV] at hu
    rw [if_neg h0, hu, jz_bV, f_Past_acts 1998, jz_bI, ja_rows_ne (by omega), e34] at hX
    have hNc : ∀ c i, ¬ (26 ≤ c ∧ c ≤ 31) → ja_rows A (M 11 4).toNat (M 11 3).toNat (fun b t => M 156 (36 * ((M 33 4).toNat - 1) + 6 * b + t)) c i = A c i := fun c i x => ja_rows_ne (by omega)
    have hN26 : ∀ b t : Nat, (b : Int) < M 11 4 → (t : Int) < M 11 3 → ja_rows A (M 11 4).toNat (M 11 3).toNat (fun b t => M 156 (36 * ((M 33 4).toNat - 1) + 6 * b + t)) (26 + b) t = M 156 (36 * ((M 33 4).toNat - 1) + 6 * b + t) := fun b t hb4 ht => ja_rows_in (by omega) (by omega)
    have KN : jKs kN M (ja_rows A (M 11 4).toNat (M 11 3).toNat (fun b t => M 156 (36 * ((M 33 4).toNat - 1) + 6 * b + t))) := KA.rows (by omega) jk_N26
    generalize ja_rows A (M 11 4).toNat (M 11 3).toNat (fun b t => M 156 (36 * ((M 33 4).toNat - 1) + 6 * b + t)) = N at *
    have hR := hR N
    have e35 : N 137 35 = M 33 4 := by rw [hNc _ _ (by decide), eo _ _ (by decide), p3]
    rw [e35, if_neg h0, ja_w_id (by omega) (by omega), js_R_undo2 _ (n := (M 33 4).toNat - 1) (by omega) (jb_up_eq.trans (by omega)), show (((M 33 4).toNat - 1 : Nat) : Int) = M 33 4 - 1 by omega] at hR
    have n156 : ∀ j, ja_up N 137 35 (M 33 4 - 1) 156 j = M 156 j := fun j => by rw [jb_up_ne (by decide), hNc _ _ (by decide), eo _ _ (by decide)]
    have KF : jKs kN M (ja_seg (ja_up N 137 35 (M 33 4 - 1)) 154 0 36 (fun j => ja_up N 137 35 (M 33 4 - 1) 156 (36 * ((M 33 4).toNat - 1) + j))) := (KN.up rfl).seg (fun _ => rfl)
    have gF : ∀ c i, c ≠ 154 → c ≠ 137 → ¬ (26 ≤ c ∧ c ≤ 31) → ja_seg (ja_up N 137 35 (M 33 4 - 1)) 154 0 36 (fun j => ja_up N 137 35 (M 33 4 - 1) 156 (36 * ((M 33 4).toNat - 1) + j)) c i = A c i := fun c i x y z => by rw [ja_seg_ne x, jb_up_ne y, hNc _ _ z]
    refine ⟨_, _, _, hX, hR, hJ0.acts KF ?_ ?_, jrm.same (fun i => by rw [gF _ _ (by decide) (by decide) (by decide), eo _ _ (by decide)]) (KF 93 4 rfl)⟩
    · refine jO_new (fun b t => M 156 (36 * ((M 33 4).toNat - 1) + 6 * b + t)) ?_ ?_ ?_ ?_ <;> rw [KF 11 4 rfl]
      · intro b hb4
        rw [KF 11 3 rfl]
        exact (hold b hb4).2
      · intro b t hb4 ht
        rw [KF 11 3 rfl] at ht
        rw [ja_seg_ne (by omega), jb_up_ne (by omega)]
        exact hN26 b t hb4 ht
      · intro b t hb4 ht
        rw [KF 11 3 rfl] at ht
        rw [ja_seg_at (by omega), n156]
        congr 1
        omega
      · intro b hb4
        rw [gF _ _ (by decide) (by decide) (by decide), gF _ _ (by decide) (by decide) (by decide), eo _ _ (by decide), eo _ _ (by decide)]
        exact hO.2.2 b hb4
    · refine jPs_pop hP h0 (KF 11 3 rfl) (KF 11 4 rfl) ?_ ?_ ?_ ?_ ?_
      · rw [gF _ _ (by decide) (by decide) (by decide), e33]
      · rw [gF _ _ (by decide) (by decide) (by decide), e34]
      · rw [ja_seg_ne (by decide), jb_up_eq]
      · intro q b hq
        rw [gF _ _ (by omega) (by omega) (by omega), eo _ _ (by omega)]
      · intro j
        rw [ja_seg_ne (by decide), n156]
/-! the image -/
theorem js_isTold (dd : Nat) (M : ja_M) : ja_x true (dd + 1) 90 [jr 11] M = some (some (ji (if 0 < M 11 3 then 1 else 0)), M) := by
  rw [f_Hunt_isTold_11]
  split <;> rfl
/-- what the class's image makes -/
def jv_img (M : ja_M) : ja_M := ja_row (ja_row (ja_up M 33 7 1) 75 (M 11 4).toNat (fun b => jv_dig M b)) 76 (M 11 4).toNat (fun b => M 32 b)
theorem js_takeImage (dd : Nat) {M : ja_M} (hH : jH M) (hO : jO M) : ja_x true (dd + 5) 190 [jr 33] M = some (none, jv_img M) := by
  have hb := hH.b
  have K0H : jKs kH M (ja_up M 33 7 1) := (jKs.rf M).up rfl
  have K0O : jKs kO M (ja_up M 33 7 1) := (jKs.rf M).up rfl
  rw [f_Past_takeImage, js_keepOrders dd (hH.kp K0H) (hO.kp hH K0O) (by decide) rfl, jz_bV, K0H 11 4 rfl]
  have ed : ja_row (ja_up M 33 7 1) 75 (M 11 4).toNat (fun b => jv_dig (ja_up M 33 7 1) b) = ja_row (ja_up M 33 7 1) 75 (M 11 4).toNat (fun b => jv_dig M b) := by
    funext c j
    unfold ja_row
    by_cases q : c = 75 ∧ j < (M 11 4).toNat
    · rw [if_pos q, if_pos q]
      exact jv_dig_kp hH (b := (j : Int)) (by omega) K0O
    · rw [if_neg q, if_neg q]
  rw [ed]
  obtain ⟨B, hB⟩ : ∃ B : Nat, M 11 4 = (B : Int) := ⟨(M 11 4).toNat, by omega⟩
  have KH : jKs kH M (ja_row (ja_up M 33 7 1) 75 (M 11 4).toNat (fun b => jv_dig M b)) := K0H.row (fun _ => rfl)
  have K32 : ∀ i, ja_row (ja_up M 33 7 1) 75 (M 11 4).toNat (fun b => jv_dig M b) 32 i = M 32 i := fun i => by rw [ja_row_ne (by decide), jb_up_ne (by decide)]
  unfold jv_img
  generalize ja_row (ja_up M 33 7 1) 75 (M 11 4).toNat (fun b => jv_dig M b) = N at *
  have K2 : ∀ n, jKs kH M (ja_row N 76 n (fun b => M 32 b)) := fun n => KH.row (fun _ => rfl)
  have w := jz_loop (F := fun N k => ja_D true (ja_x true (dd + 4)) k_Past_takeImage 9 [some (jr 33), some (ji k)] [] N) (N := fun n => ja_row N 76 n (fun b => M 32 b)) (n := B) B 0 (by omega) (fun k _ hk => by
    show ja_D true (ja_x true (dd + 4)) k_Past_takeImage 9 _ [] _ = _
    rw [e_Past_takeImage_9, js_bands, jz_bI, (K2 k) 11 4 rfl, if_pos (by omega), js_startOf (dd + 2) (hH.kp (K2 k)) (by rw [(K2 k) 11 4 rfl]; omega), jz_bI, if_pos (by omega), ja_row_ne (by decide), K32, ja_w_id (by omega) (by omega), show ((k : Int)).toNat = k from rfl, ja_row_up N 76 k (fun b => M 32 b)])
  have w : ja_D true (ja_x true (dd + 4)) k_Past_takeImage 9 [some (jr 33), some (ji 0)] [] (ja_row N 76 0 (fun b => M 32 b)) = ja_D true (ja_x true (dd + 4)) k_Past_takeImage 9 [some (jr 33), some (ji (B : Int))] [] (ja_row N 76 B (fun b => M 32 b)) := w
  rw [ja_row0e] at w
  rw [w, e_Past_takeImage_9, js_bands, jz_bI, (K2 B) 11 4 rfl, hB, if_neg (by omega)]
  rfl
theorem js_R_image (dd : Nat) {M : ja_M} (h : M 137 28 ≠ 0) : ja_x true (dd + 1) 298 [jr 137] M = some (some (ji (M 137 35)), ja_up (ja_seg (ja_seg M 169 0 36 (fun j => M 154 j)) 170 0 6 (fun j => M 155 j)) 137 57 1) := by
  rw [f_R_image, if_neg h]
  have w := jz_loop (F := fun N k => ja_D true (ja_x true dd) k_R_image 7 [some (jr 137), some (ji k)] [] N) (N := fun k => ja_seg M 169 0 k (fun j => M 154 j)) (n := 36) 36 0 (by omega) (fun k _ hk => by
    show ja_D true (ja_x true dd) k_R_image 7 _ [] _ = _
    rw [e_R_image_7, if_pos (by omega), if_pos (by omega), if_pos (by omega), ja_w_id (by omega) (by omega), ja_seg_ne (by decide), show ((k : Int)).toNat = 0 + k by omega, Nat.zero_add, show ja_up (ja_seg M 169 0 k (fun j => M 154 j)) 169 k (M 154 k) = ja_seg M 169 0 (k + 1) (fun j => M 154 j) by rw [← ja_seg_s M 169 0 k (fun j => M 154 j), Nat.zero_add]])
  have w : ja_D true (ja_x true dd) k_R_image 7 [some (jr 137), some (ji 0)] [] (ja_seg M 169 0 0 (fun j => M 154 j)) = ja_D true (ja_x true dd) k_R_image 7 [some (jr 137), some (ji 36)] [] (ja_seg M 169 0 36 (fun j => M 154 j)) := w
  rw [ja_seg_0] at w
  rw [w, e_R_image_7, if_neg (by decide)]
  have e155 : ∀ j, ja_seg M 169 0 36 (fun j => M 154 j) 155 j = M 155 j := fun j => ja_seg_ne (by decide)
  have e35 : ja_seg M 169 0 36 (fun j => M 154 j) 137 35 = M 137 35 := ja_seg_ne (by decide)
  generalize ja_seg M 169 0 36 (fun j => M 154 j) = N at *
  have w2 := jz_loop (F := fun N k => ja_D true (ja_x true dd) k_R_image 22 [some (jr 137), some (ji k)] [] N) (N := fun k => ja_seg N 170 0 k (fun j => M 155 j)) (n := 6) 6 0 (by omega) (fun k _ hk => by
    show ja_D true (ja_x true dd) k_R_image 22 _ [] _ = _
    rw [e_R_image_22, if_pos (by omega), if_pos (by omega), if_pos (by omega), ja_w_id (by omega) (by omega), ja_seg_ne (by decide), e155, show ((k : Int)).toNat = k from rfl, show ja_up (ja_seg N 170 0 k (fun j => M 155 j)) 170 k (M 155 k) = ja_seg N 170 0 (k + 1) (fun j => M 155 j) by rw [← ja_seg_s N 170 0 k (fun j => M 155 j), Nat.zero_add]])
  have w2 : ja_D true (ja_x true dd) k_R_image 22 [some (jr 137), some (ji 0)] [] (ja_seg N 170 0 0 (fun j => M 155 j)) = ja_D true (ja_x true dd) k_R_image 22 [some (jr 137), some (ji 6)] [] (ja_seg N 170 0 6 (fun j => M 155 j)) := w2
  rw [ja_seg_0] at w2
  rw [w2, e_R_image_22, if_neg (by decide), jb_up_nej (by decide), ja_seg_ne (by decide), e35]
/-- cells of the image -/
theorem jy_p32 : jy_o32 := by
  intro M hJ
  have hJ0 := hJ
  obtain ⟨⟨hT, hH, hO⟩, ⟨hW, hP, hI⟩, hF, hL, hB⟩ := hJ
  have hb := hH.b
  have hX := f_X_image 1999 M
  rw [js_isTold 1998, jz_bI, jz_b0] at hX
  by_cases h0 : 0 < M 11 3
  · rw [if_pos h0, js_takeImage 1994 hH hO, jz_bV, f_Past_acts 1998, jz_bI] at hX
    have g : ∀ c i, c ≠ 75 → c ≠ 76 → ¬ (c = 33 ∧ i = 7) → jv_img M c i = M c i := fun c i x y z => by
      unfold jv_img
      rw [ja_row_ne y, ja_row_ne x, jz_up, if_neg z]
    have i7 : jv_img M 33 7 = 1 := by
      unfold jv_img
      rw [ja_row_ne (by decide), ja_row_ne (by decide), jb_up_eq]
    have i75 : ∀ b, b < (M 11 4).toNat → jv_img M 75 b = jv_dig M b := fun b hb4 => by
      unfold jv_img
      rw [ja_row_ne (by decide), ja_row_in hb4]
    have i76 : ∀ b, b < (M 11 4).toNat → jv_img M 76 b = M 32 b := fun b hb4 => by
      unfold jv_img
      rw [ja_row_in hb4]
    have K1 : ∀ κ : Nat → Nat → Bool, (∀ i, κ 75 i = false) → (∀ i, κ 76 i = false) → κ 33 7 = false → jKs κ M (jv_img M) := fun κ x y z => ((((jKs.rf M).up z).row x).row y)
    rw [g 33 4 (by decide) (by decide) (by decide)] at hX
    generalize jv_img M = N at *
    have hR := js_R_image 1999 (M := N) (by rw [g 137 28 (by decide) (by decide) (by decide), hH.2.1.2.1]; omega)
    rw [g 137 35 (by decide) (by decide) (by decide), hP.2.2.1] at hR
    have K : ∀ κ : Nat → Nat → Bool, (∀ i, κ 75 i = false) → (∀ i, κ 76 i = false) → κ 33 7 = false → (∀ i, κ 169 i = false) → (∀ i, κ 170 i = false) → κ 137 57 = false → jKs κ M (ja_up (ja_seg (ja_seg N 169 0 36 (fun j => N 154 j)) 170 0 6 (fun j => N 155 j)) 137 57 1) := fun κ a b c d e f => (((K1 κ a b c).seg d).seg e).up f
    refine ⟨_, _, _, hX, hR, ⟨⟨hT.kp (K kT (fun _ => rfl) (fun _ => rfl) rfl (fun _ => rfl) (fun _ => rfl) rfl), hH.kp (K kH (fun _ => rfl) (fun _ => rfl) rfl (fun _ => rfl) (fun _ => rfl) rfl), hO.kp hH (K kO (fun _ => rfl) (fun _ => rfl) rfl (fun _ => rfl) (fun _ => rfl) rfl)⟩, ⟨hW.kp (K kW (fun _ => rfl) (fun _ => rfl) rfl (fun _ => rfl) (fun _ => rfl) rfl), hP.kp (K kP (fun _ => rfl) (fun _ => rfl) rfl (fun _ => rfl) (fun _ => rfl) rfl), ?_⟩, hF.kp hH (K kF (fun _ => rfl) (fun _ => rfl) rfl (fun _ => rfl) (fun _ => rfl) rfl), hL.kp (K kL (fun _ => rfl) (fun _ => rfl) rfl (fun _ => rfl) (fun _ => rfl) rfl), hB.kp (K kB (fun _ => rfl) (fun _ => rfl) rfl (fun _ => rfl) (fun _ => rfl) rfl)⟩, jrm.same (fun i => by rw [jb_up_ne (by decide), ja_seg_ne (by decide), ja_seg_ne (by decide), g _ _ (by decide) (by decide) (by omega)]) ((K kL (fun _ => rfl) (fun _ => rfl) rfl (fun _ => rfl) (fun _ => rfl) rfl) 93 4 rfl)⟩
    have q : ∀ c i, c ≠ 169 → c ≠ 170 → c ≠ 137 → ja_up (ja_seg (ja_seg N 169 0 36 (fun j => N 154 j)) 170 0 6 (fun j => N 155 j)) 137 57 1 c i = N c i := fun c i x y z => by rw [jb_up_ne z, ja_seg_ne y, ja_seg_ne x]
    unfold jIm
    rw [q 33 7 (by decide) (by decide) (by decide), i7, q 11 4 (by decide) (by decide) (by decide), q 11 3 (by decide) (by decide) (by decide), g 11 4 (by decide) (by decide) (by decide), g 11 3 (by decide) (by decide) (by decide), jb_up_eq]
    refine ⟨Or.inr rfl, rfl, fun _ b hb4 => ?_⟩
    have e169 : ∀ t : Nat, (t : Int) < M 11 3 → ja_up (ja_seg (ja_seg N 169 0 36 (fun j => N 154 j)) 170 0 6 (fun j => N 155 j)) 137 57 1 169 (6 * b + t) = M (26 + b) t := fun t ht => by
      rw [jb_up_ne (by decide), ja_seg_ne (by decide), ja_seg_at (by omega), g _ _ (by decide) (by decide) (by omega)]
      exact (hO.1 b t hb4 ht).1
    have e170 : ja_up (ja_seg (ja_seg N 169 0 36 (fun j => N 154 j)) 170 0 6 (fun j => N 155 j)) 137 57 1 170 b = M 32 b := by
      rw [jb_up_ne (by decide), ja_seg_at (by omega), g _ _ (by decide) (by decide) (by omega)]
      exact (hO.2.2 b hb4).1
    have pm := hO.perm hb4
    refine ⟨⟨?_, fun t ht => ?_, fun t u ht hu e => ?_⟩, ?_, ?_⟩
    · rw [q _ _ (by decide) (by decide) (by decide), i75 b (by omega), jv_dig_eq, show ((b : Int)).toNat = b from rfl]
      exact jv_digs_congr _ (fun t ht => (e169 t (by omega)).symm)
    · dsimp only
      rw [e169 t ht]
      exact pm.1 t ht
    · dsimp only at e
      rw [e169 t ht, e169 u hu] at e
      exact pm.2 t u ht hu e
    · rw [e170, q _ _ (by decide) (by decide) (by decide), i76 b (by omega)]
    · rw [q _ _ (by decide) (by decide) (by decide), i76 b (by omega)]
      exact (hO.2.2 b hb4).2
  · rw [if_neg h0] at hX
    have hR := f_R_image 1999 M
    rw [hH.2.1.2.1, if_pos (by omega)] at hR
    exact ⟨_, _, _, hX, hR, hJ0, jrm.same (fun _ => rfl) rfl⟩
