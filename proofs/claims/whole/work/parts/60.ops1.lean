/-! THE PROMISES: feed, end, place, band, start, worth, at, follows, even, count -/
theorem jz_cB {x : Int} {a : Option ja_R} (h : x = 0 ∨ x = 1) : cond (ja_isB x) a none = a := by rw [jz_isB h]; rfl
theorem jt_app_K {κ : Nat → Nat → Bool} {cc cl sl : Nat} (h1 : ∀ i, κ cc i = false) (h2 : κ cl sl = false) (ys : List Int) (M : ja_M) : jKs κ M (jt_app cc cl sl ys M) := fun c i q => by
  refine jt_app_off (fun e => ?_) (fun e => ?_) ys M
  · rw [e, h1] at q
    cases q
  · rw [e.1, e.2, h2] at q
    cases q
theorem jt_all_b (a b c d e : Int) : ∀ y ∈ jt_all a b c d e, 0 ≤ y ∧ y ≤ 255 := by
  intro y hy
  unfold jt_all jt_bs at hy
  simp only [List.cons_append, List.nil_append, List.mem_cons, List.not_mem_nil, or_false] at hy
  rcases hy with rfl | rfl | rfl | rfl | rfl | rfl | rfl | rfl | rfl | rfl | rfl | rfl | rfl | rfl | rfl | rfl | rfl | rfl | rfl | rfl <;> exact jz_and255 _
theorem jt_nz_filter : ∀ ys : List Int, jt_nz ys = ((ys.filter (fun y => !(y == 0))).length : Int)
  | [] => rfl
  | y :: ys => by
    show jt_1 y + jt_nz ys = _
    rw [jt_nz_filter ys]
    unfold jt_1
    by_cases h : y = 0
    · rw [if_pos h]
      simp [h]
    · rw [if_neg h]
      simp [h]
      omega
theorem jy_p0 : jy_o0 := by
  intro a b c d e _ _ _ _ _ M hJ
  obtain ⟨⟨hT, hH, hO⟩, ⟨hW, hP, hI⟩, hF, hL, hB⟩ := hJ
  obtain ⟨t1, t2, t3⟩ := hT
  have hX := js_X_feed 1998 a b c d e t1
  by_cases q : 160 < M 2 1 + jt_nz (jt_all a b c d e)
  · rw [if_pos q] at hX
    have hR := js_R_feed 1998 a b c d e (M := M) (by rw [t2]; exact t1)
    rw [t2, if_pos q] at hR
    exact ⟨-1, M, M, hX, hR, ⟨⟨⟨t1, t2, t3⟩, hH, hO⟩, ⟨hW, hP, hI⟩, hF, hL, hB⟩, jrm.same (fun _ => rfl) rfl⟩
  · rw [if_neg q] at hX
    have hf := jt_nz_filter (jt_all a b c d e)
    have hall := jt_all_b a b c d e
    have e1 : jt_app 3 2 1 (jt_all a b c d e) M 137 2 = M 2 1 := (jt_app_off (by decide) (by decide) _ _).trans t2
    have e21 : jt_app 3 2 1 (jt_all a b c d e) M 2 1 = M 2 1 + jt_nz (jt_all a b c d e) := jt_app_len (by decide) _ _
    have e3 := fun j => jt_app_get (cc := 3) (cl := 2) (sl := 1) (by decide) (jt_all a b c d e) M j t1.1
    have e138 : ∀ j, jt_app 3 2 1 (jt_all a b c d e) M 138 j = M 138 j := fun j => jt_app_off (by decide) (by omega) _ _
    have K : ∀ κ : Nat → Nat → Bool, (∀ i, κ 3 i = false) → κ 2 1 = false → (∀ i, κ 138 i = false) → κ 137 2 = false → jKs κ M (jt_app 138 137 2 (jt_all a b c d e) (jt_app 3 2 1 (jt_all a b c d e) M)) := fun κ k1 k2 k3 k4 => (jt_app_K k1 k2 _ _).tr (jt_app_K k3 k4 _ _)
    have hR := js_R_feed 1998 a b c d e (M := jt_app 3 2 1 (jt_all a b c d e) M) (by rw [e1]; exact t1)
    rw [e1, if_neg q] at hR
    refine ⟨_, _, _, hX, hR, ⟨⟨?_, hH.kp (K kH (fun _ => rfl) rfl (fun _ => rfl) rfl), hO.kp hH (K kO (fun _ => rfl) rfl (fun _ => rfl) rfl)⟩, ⟨hW.kp (K kW (fun _ => rfl) rfl (fun _ => rfl) rfl), hP.kp (K kP (fun _ => rfl) rfl (fun _ => rfl) rfl), hI.kp (K kI (fun _ => rfl) rfl (fun _ => rfl) rfl)⟩, hF.kp hH (K kF (fun _ => rfl) rfl (fun _ => rfl) rfl), hL.kp (K kL (fun _ => rfl) rfl (fun _ => rfl) rfl), hB.kp (K kB (fun _ => rfl) rfl (fun _ => rfl) rfl)⟩, jrm.same (fun i => (jt_app_off (by decide) (by omega) _ _).trans (jt_app_off (by decide) (by omega) _ _)) ((jt_app_off (by decide) (by omega) _ _).trans (jt_app_off (by decide) (by omega) _ _))⟩
    generalize hN : jt_app 3 2 1 (jt_all a b c d e) M = N at *
    have f1 : jt_app 138 137 2 (jt_all a b c d e) N 137 2 = M 2 1 + jt_nz (jt_all a b c d e) := (jt_app_len (by decide) _ _).trans (by rw [e1])
    have f2 : jt_app 138 137 2 (jt_all a b c d e) N 2 1 = M 2 1 + jt_nz (jt_all a b c d e) := (jt_app_off (by decide) (by decide) _ _).trans e21
    have f3 : ∀ j, jt_app 138 137 2 (jt_all a b c d e) N 3 j = N 3 j := fun j => jt_app_off (by decide) (by omega) _ _
    have f4 := fun j => jt_app_get (cc := 138) (cl := 137) (sl := 2) (by decide) (jt_all a b c d e) N j (by rw [e1]; exact t1.1)
    rw [e1] at f4
    have hb := jt_nzb (jt_all a b c d e)
    refine ⟨by rw [f2]; omega, f1.trans f2.symm, fun j hj => ?_⟩
    rw [f2] at hj
    rw [f4, f3, e3, e138]
    by_cases r : (M 2 1).toNat ≤ j ∧ j < (M 2 1).toNat + (jt_nz (jt_all a b c d e)).toNat
    · rw [if_pos r, if_pos r]
      refine ⟨rfl, ?_⟩
      have hlt : j - (M 2 1).toNat < ((jt_all a b c d e).filter (fun y => !(y == 0))).length := by omega
      rw [List.getD_eq_getElem?_getD, List.getElem?_eq_getElem hlt]
      have hm := List.getElem_mem hlt
      obtain ⟨m1, m2⟩ := List.mem_filter.mp hm
      have := hall _ m1
      show 1 ≤ ((jt_all a b c d e).filter (fun y => !(y == 0)))[j - (M 2 1).toNat] ∧ _ ≤ (255 : Int)
      generalize ((jt_all a b c d e).filter (fun y => !(y == 0)))[j - (M 2 1).toNat] = y at *
      have : y ≠ 0 := by
        intro e
        rw [e] at m2
        simp at m2
      show 1 ≤ y ∧ y ≤ 255
      omega
    · rw [if_neg r, if_neg r]
      exact t3 j (by omega)
theorem jy_p1 : jy_o1 := by
  intro a _ M hJ
  obtain ⟨⟨hT, hH, hO⟩, ⟨hW, hP, hI⟩, hF, hL, hB⟩ := hJ
  obtain ⟨t1, t2, t3⟩ := hT
  have hX : jy_E 17 [jr 1, ji a] M = ja_bI (ja_x true 1999 18 [jr 2, ji a] M) (fun x2 M1 => cond (ja_isB x2) (some (some (ji x2), M1)) none) := f_X_end 1999 a M
  have hC : ja_x true 1999 18 [jr 2, ji a] M = if a < 0 then some (some (ji 0), M) else if M 2 1 < a then some (some (ji 0), M) else some (some (ji 1), ja_up M 2 1 a) := f_Tape_cut 1998 a M
  rw [hC] at hX
  have hR : ∀ N, jy_E 204 [jr 137, ji a] N = if a < 0 then some (some (ji 0), N) else if N 137 2 < a then some (some (ji 0), N) else some (some (ji 1), ja_up N 137 2 a) := fun N => f_R_end 1999 a N
  by_cases q : a < 0 ∨ M 2 1 < a
  · have hX2 : jy_E 17 [jr 1, ji a] M = some (some (ji 0), M) := by
      rw [hX]
      rcases q with q | q
      · rw [if_pos q]; rfl
      · by_cases q0 : a < 0
        · rw [if_pos q0]; rfl
        · rw [if_neg q0, if_pos q]; rfl
    have hR2 : jy_E 204 [jr 137, ji a] M = some (some (ji 0), M) := by
      rw [hR, t2]
      rcases q with q | q
      · rw [if_pos q]
      · by_cases q0 : a < 0
        · rw [if_pos q0]
        · rw [if_neg q0, if_pos q]
    exact ⟨0, M, M, hX2, hR2, ⟨⟨⟨t1, t2, t3⟩, hH, hO⟩, ⟨hW, hP, hI⟩, hF, hL, hB⟩, jrm.same (fun _ => rfl) rfl⟩
  · have hX2 : jy_E 17 [jr 1, ji a] M = some (some (ji 1), ja_up M 2 1 a) := by
      rw [hX, if_neg (by omega), if_neg (by omega)]; rfl
    have hR2 : jy_E 204 [jr 137, ji a] (ja_up M 2 1 a) = some (some (ji 1), ja_up (ja_up M 2 1 a) 137 2 a) := by
      rw [hR, jb_up_ne (by decide), t2, if_neg (by omega), if_neg (by omega)]
    have K : ∀ κ : Nat → Nat → Bool, κ 2 1 = false → κ 137 2 = false → jKs κ M (ja_up (ja_up M 2 1 a) 137 2 a) := fun κ k1 k2 => ((jKs.rf M).up k1).up k2
    refine ⟨_, _, _, hX2, hR2, ⟨⟨?_, hH.kp (K kH rfl rfl), hO.kp hH (K kO rfl rfl)⟩, ⟨hW.kp (K kW rfl rfl), hP.kp (K kP rfl rfl), hI.kp (K kI rfl rfl)⟩, hF.kp hH (K kF rfl rfl), hL.kp (K kL rfl rfl), hB.kp (K kB rfl rfl)⟩, jrm.same (fun i => by rw [jb_up_ne (by decide), jb_up_ne (by decide)]) (by rw [jb_up_ne (by decide), jb_up_ne (by decide)])⟩
    have f1 : ja_up (ja_up M 2 1 a) 137 2 a 2 1 = a := by rw [jb_up_ne (by decide), jb_up_eq]
    have f2 : ja_up (ja_up M 2 1 a) 137 2 a 137 2 = a := jb_up_eq
    refine ⟨by rw [f1]; omega, by rw [f1, f2], fun j hj => ?_⟩
    rw [f1] at hj
    rw [jb_up_ne (by decide), jb_up_ne (by decide), jb_up_ne (by decide), jb_up_ne (by decide)]
    exact t3 j (by omega)
theorem jy_p4 : jy_o4 := by
  intro a b ra rb M hH
  have hb := hH.b
  have h := f_R_place 1999 a b M
  rw [js_isPlace 1997 a hH, jz_bI] at h
  refine h.trans ?_
  by_cases c1 : 0 ≤ a ∧ a < M 11 3
  · rw [if_pos c1, if_neg (by decide), js_in 1998, jz_bI]
    by_cases c2 : 0 ≤ b ∧ b ≤ 1
    · have e := (hH.2.2.1 a.toNat (by omega)).1
      have cc : (0 ≤ a ∧ a < M 11 3) ∧ 0 ≤ b ∧ b ≤ 1 := ⟨c1, c2⟩
      rw [if_pos c2, if_neg (by decide), jb_up_eq, if_neg (by decide), if_pos (show 0 ≤ a ∧ a < 6 by omega), if_pos (show 0 ≤ a ∧ a < 6 by omega), jb_up_ne (by decide), jb_up_ne (by decide)]
      simp only [cc, and_self, if_true]
      rw [e.1, e.2]
      split <;> rfl
    · rw [if_neg c2, if_pos rfl, jb_up_eq, if_pos rfl, if_neg (fun q => c2 q.2), if_neg (fun q => c2 q.2)]
  · rw [if_neg c1, if_pos rfl, jb_up_eq, if_pos rfl, if_neg (fun q => c1 q.1), if_neg (fun q => c1 q.1)]
theorem js_slow (dd : Nat) {b : Int} {M : ja_M} (h : jH M) (h1 : 0 ≤ b ∧ b < M 11 4) : ja_x true (dd + 2) 68 [jr 11, ji b] M = some (some (ji (M 14 b.toNat)), M) := by
  have hb := h.b
  rw [f_Hunt_slow_11, js_hasBand, jz_bI, if_pos h1, if_neg (by decide), if_pos (by omega)]
theorem js_startOf (dd : Nat) {b : Int} {M : ja_M} (h : jH M) (h1 : 0 ≤ b ∧ b < M 11 4) : ja_x true (dd + 2) 72 [jr 24, ji b] M = some (some (ji (M 32 b.toNat)), M) := by
  have hb := h.b
  rw [f_Table_startOf, js_hasBand, jz_bI, if_pos h1, if_neg (by decide), if_pos (by omega)]
theorem jy_p5 : jy_o5 := by
  intro a b _ _
  refine jOp.pure (fun M hJ => ?_)
  obtain ⟨⟨hT, hH, hO⟩, -⟩ := hJ
  have hb := hH.b
  have hX := f_X_band 1999 a b M
  have hR := f_R_band 1999 a b M
  rw [js_hasBand 1998, jz_bI] at hX
  rw [js_isBand 1997 a hH, jz_bI] at hR
  by_cases h1 : 0 ≤ a ∧ a < M 11 4
  · rw [if_pos h1, if_neg (by decide)] at hX hR
    rw [js_in 1998, jz_bI] at hR
    by_cases b0 : b = 0
    · rw [if_pos b0, js_slow 1997 hH h1, jz_bI] at hX
      rw [if_pos (show 0 ≤ b ∧ b ≤ 2 by omega), if_neg (by decide), if_pos b0, if_pos (by omega), (hH.2.2.2 a.toNat (by omega)).1] at hR
      exact ⟨_, hX, hR⟩
    · rw [if_neg b0] at hX
      by_cases b1 : b = 1
      · rw [if_pos b1, (js_digitsOf 1996 hH hO h1).1, jz_bI] at hX
        rw [if_pos (show 0 ≤ b ∧ b ≤ 2 by omega), if_neg (by decide), if_neg b0, if_pos b1, js_orderOf 1996 hH hO h1, jz_bI] at hR
        exact ⟨_, hX, hR⟩
      · rw [if_neg b1] at hX
        by_cases b2 : b = 2
        · rw [if_pos b2, js_startOf 1997 hH h1, jz_bI] at hX
          rw [if_pos (show 0 ≤ b ∧ b ≤ 2 by omega), if_neg (by decide), if_neg b0, if_neg b1, if_pos (by omega), (hO.2.2 a.toNat (by omega)).1] at hR
          exact ⟨_, hX, hR⟩
        · rw [if_neg b2] at hX
          rw [if_neg (show ¬ (0 ≤ b ∧ b ≤ 2) by omega), if_pos rfl] at hR
          exact ⟨_, hX, hR⟩
  · rw [if_neg h1, if_pos rfl] at hX hR
    exact ⟨_, hX, hR⟩
theorem jy_p7 : jy_o7 := by
  intro a b _ _ M hJ
  have hJ0 := hJ
  obtain ⟨⟨hT, hH, hO⟩, ⟨hW, hP, hI⟩, hF, hL, hB⟩ := hJ
  have hb := hH.b
  have hX := f_X_start 1999 a b M
  rw [js_hasBand 1998, jz_bI] at hX
  have hR := fun N => f_R_start 1999 a b N
  by_cases h1 : (0 ≤ a ∧ a < M 11 4) ∧ (0 ≤ b ∧ b ≤ 99)
  · obtain ⟨h1, h2⟩ := h1
    have hS := f_Table_putStart 1998 a b M
    rw [js_hasBand 1997, jz_bI, if_pos h1, if_neg (by decide), if_pos (by omega)] at hS
    rw [if_pos h1, if_neg (by decide), if_neg (by omega), if_neg (by omega), hS, jz_bV] at hX
    have K : ∀ κ : Nat → Nat → Bool, κ 32 a.toNat = false → κ 155 a.toNat = false → jKs κ M (ja_up (ja_up M 32 a.toNat b) 155 a.toNat b) := fun κ k1 k2 => ((jKs.rf M).up k1).up k2
    have hR := hR (ja_up M 32 a.toNat b)
    have hH1 : jH (ja_up M 32 a.toNat b) := hH.kp ((jKs.rf M).up rfl)
    rw [js_isBand 1997 a hH1, jz_bI, jb_up_ne (by decide), if_pos h1, if_neg (by decide), js_in 1998, jz_bI, if_pos h2, if_neg (by decide), if_pos (by omega)] at hR
    refine ⟨_, _, _, hX, hR, ⟨⟨hT.kp (K kT rfl rfl), hH.kp (K kH rfl rfl), ?_⟩, ⟨hW.kp (K kW rfl rfl), hP.kp (K kP rfl rfl), hI.kp (K kI rfl rfl)⟩, hF.kp hH (K kF rfl rfl), hL.kp (K kL rfl rfl), hB.kp (K kB rfl rfl)⟩, jrm.same (fun i => by rw [jb_up_ne (by decide), jb_up_ne (by decide)]) (by rw [jb_up_ne (by decide), jb_up_ne (by decide)])⟩
    have g : ∀ c i, c ≠ 32 → c ≠ 155 → ja_up (ja_up M 32 a.toNat b) 155 a.toNat b c i = M c i := fun c i x y => by rw [jb_up_ne y, jb_up_ne x]
    unfold jO
    rw [g 11 3 (by decide) (by decide), g 11 4 (by decide) (by decide)]
    refine ⟨fun b' t hb' ht => ?_, fun b' t u hb' ht hu => ?_, fun b' hb' => ?_⟩
    · rw [g 154 _ (by decide) (by decide), g (26 + b') t (by omega) (by omega)]
      exact hO.1 b' t hb' ht
    · rw [g (26 + b') t (by omega) (by omega), g (26 + b') u (by omega) (by omega)]
      exact hO.2.1 b' t u hb' ht hu
    · by_cases e : b' = a.toNat
      · subst e
        rw [jb_up_eq, jb_up_ne (by decide), jb_up_eq]
        exact ⟨rfl, h2⟩
      · rw [jb_up_nej e, jb_up_ne (by decide), jb_up_ne (by decide), jb_up_nej e]
        exact hO.2.2 b' hb'
  · have hX2 : jy_E 79 [jr 1, ji a, ji b] M = some (some (ji 0), M) := by
      refine hX.trans ?_
      by_cases q : 0 ≤ a ∧ a < M 11 4
      · rw [if_pos q, if_neg (by decide)]
        by_cases q2 : b < 0
        · rw [if_pos q2]
        · rw [if_neg q2, if_pos (by omega)]
      · rw [if_neg q, if_pos rfl]
    have hR := hR M
    rw [js_isBand 1997 a hH, jz_bI] at hR
    have hR2 : jy_E 249 [jr 137, ji a, ji b] M = some (some (ji 0), M) := by
      refine hR.trans ?_
      by_cases q : 0 ≤ a ∧ a < M 11 4
      · rw [if_pos q, if_neg (by decide), js_in 1998, jz_bI, jz_b0, if_neg (by omega)]
      · rw [if_neg q, if_pos rfl]
    exact ⟨0, M, M, hX2, hR2, hJ0, jrm.same (fun _ => rfl) rfl⟩
theorem jy_p8 : jy_o8 := by
  intro a _ M hJ
  have hJ0 := hJ
  obtain ⟨⟨hT, hH, hO⟩, ⟨hW, hP, hI⟩, hF, hL, hB⟩ := hJ
  have hX := f_X_worth 1999 a M
  have hC := f_Worths_hold 1998 a M
  rw [hC] at hX
  have hR := fun N => f_R_worth 1999 a N
  by_cases q : -1 ≤ a ∧ a < M 15 4
  · rw [if_neg (by omega), if_pos q.2] at hX
    have K : ∀ κ : Nat → Nat → Bool, κ 15 5 = false → κ 137 33 = false → jKs κ M (ja_up (ja_up M 15 5 a) 137 33 a) := fun κ k1 k2 => ((jKs.rf M).up k1).up k2
    have hR := hR (ja_up M 15 5 a)
    rw [jb_up_ne (by decide), hW.2.1, ja_w_id (by have := hW.1; omega) (by have := hW.1; omega), js_in 1998, jz_bI, jz_b0, if_pos (by omega)] at hR
    refine ⟨_, _, _, hX, hR, ⟨⟨hT.kp (K kT rfl rfl), hH.kp (K kH rfl rfl), hO.kp hH (K kO rfl rfl)⟩, ⟨?_, hP.kp (K kP rfl rfl), hI.kp (K kI rfl rfl)⟩, hF.kp hH (K kF rfl rfl), hL.kp (K kL rfl rfl), hB.kp (K kB rfl rfl)⟩, jrm.same (fun i => by rw [jb_up_ne (by decide), jb_up_ne (by decide)]) (by rw [jb_up_ne (by decide), jb_up_ne (by decide)])⟩
    obtain ⟨w1, w2, w3, w4, w5⟩ := hW
    have f1 : ja_up (ja_up M 15 5 a) 137 33 a 15 5 = a := by rw [jb_up_ne (by decide), jb_up_eq]
    have f2 : ja_up (ja_up M 15 5 a) 137 33 a 137 33 = a := jb_up_eq
    have f3 : ja_up (ja_up M 15 5 a) 137 33 a 15 4 = M 15 4 := by rw [jb_up_ne (by decide), jb_up_nej (by decide)]
    have f4 : ja_up (ja_up M 15 5 a) 137 33 a 137 13 = M 137 13 := by rw [jb_up_nej (by decide), jb_up_ne (by decide)]
    unfold jW
    rw [f1, f2, f3, f4]
    refine ⟨w1, w2, q, rfl, fun k hk => ?_⟩
    obtain ⟨cs, hc⟩ := w5 k hk
    have Kk : jKs (fun c i => kW c i && !(Nat.beq c 15) && !(Nat.beq c 137)) M (ja_up (ja_up M 15 5 a) 137 33 a) := K _ rfl rfl
    refine ⟨cs, ?_⟩
    obtain ⟨⟨x1, x2, x3⟩, ⟨m1, m2⟩, c1, c2, c3⟩ := hc
    have g : ∀ c i, c ≠ 15 → c ≠ 137 → ja_up (ja_up M 15 5 a) 137 33 a c i = M c i := fun c i x y => by rw [jb_up_ne y, jb_up_ne x]
    refine ⟨⟨x1, x2, x3⟩, ⟨by rw [g 142 _ (by decide) (by decide)]; exact m1, jw_mod_congr cs 0 0 (fun i _ _ => ⟨g _ _ (by decide) (by decide), g _ _ (by decide) (by decide)⟩) (fun i _ _ => ⟨g _ _ (by decide) (by decide), g _ _ (by decide) (by decide), g _ _ (by decide) (by decide)⟩) m2⟩, by rw [g 21 _ (by decide) (by decide)]; exact c1, c2, fun i x hx => by rw [g (17 + k) i (by omega) (by omega)]; exact c3 i x hx⟩
  · have hX2 : jy_E 81 [jr 1, ji a] M = some (some (ji 0), M) := by
      refine hX.trans ?_
      by_cases q2 : a < -1
      · rw [if_pos q2]; rfl
      · rw [if_neg q2, if_neg (by omega)]; rfl
    have hR := hR M
    rw [hW.2.1, ja_w_id (by have := hW.1; omega) (by have := hW.1; omega), js_in 1998, jz_bI, jz_b0, if_neg (by omega)] at hR
    exact ⟨0, M, M, hX2, hR, hJ0, jrm.same (fun _ => rfl) rfl⟩
theorem jy_p10 : jy_o10 := fun a b _ _ => jOp.pure (fun M hJ => ⟨_, js_X_at 1997 a b hJ.1.2.1, js_R_at 1997 a b hJ.1.2.1 hJ.1.2.2⟩)
theorem jy_p11 : jy_o11 := fun a b _ _ => jOp.pure (fun M hJ => ⟨_, js_X_follows 1996 a b hJ.1.2.1, js_R_follows 1996 a b hJ.1.2.1 hJ.1.2.2⟩)
theorem jy_p14 : jy_o14 := fun a b c ra _ _ => jOp.pure (fun M hJ => ⟨_, js_X_even 1998 a b c M, js_R_even 1998 M ra⟩)
theorem jy_p35 : jy_o35 := by
  intro a _
  refine jOp.pure (fun M hJ => ?_)
  obtain ⟨⟨hT, hH, hO⟩, ⟨hW, hP, hI⟩, hF, hL, hB⟩ := hJ
  have hX := f_X_count 1999 a M
  rw [f_Hunt_places_11 1998, f_Hunt_bands_11 1998, f_Worths_size 1998, f_Tape_length 1998, f_Hunt_follow_11 1998, f_Hunt_stay_11 1998, f_Worths_holding 1998, f_Finds_size 1998, f_Past_acts 1998] at hX
  have hR := f_R_count 1999 a M
  rw [hH.2.1.1, hH.2.1.2.1, hW.2.1, hT.2.1, hH.2.1.2.2.1, hH.2.1.2.2.2, hW.2.2.2.1, hF.2.1, hP.2.2.1] at hR
  simp only [jz_bI] at hX
  by_cases h0 : a = 0
  · rw [if_pos h0] at hX hR; exact ⟨_, hX, hR⟩
  rw [if_neg h0] at hX hR
  by_cases h1 : a = 1
  · rw [if_pos h1] at hX hR; exact ⟨_, hX, hR⟩
  rw [if_neg h1] at hX hR
  by_cases h2 : a = 2
  · rw [if_pos h2] at hX hR; exact ⟨_, hX, hR⟩
  rw [if_neg h2] at hX hR
  by_cases h3 : a = 3
  · rw [if_pos h3] at hX hR; exact ⟨_, hX, hR⟩
  rw [if_neg h3] at hX hR
  by_cases h4 : a = 4
  · rw [if_pos h4] at hX hR; exact ⟨_, hX, hR⟩
  rw [if_neg h4] at hX hR
  by_cases h5 : a = 5
  · rw [if_pos h5] at hX hR; exact ⟨_, hX, hR⟩
  rw [if_neg h5] at hX hR
  by_cases h6 : a = 6
  · rw [if_pos h6] at hX hR; exact ⟨_, hX, hR⟩
  rw [if_neg h6] at hX hR
  by_cases h7 : a = 7
  · rw [if_pos h7] at hX hR; exact ⟨_, hX, hR⟩
  rw [if_neg h7] at hX hR
  by_cases h8 : a = 8
  · rw [if_pos h8] at hX hR; exact ⟨_, hX, hR⟩
  rw [if_neg h8] at hX hR
  exact ⟨_, hX, hR⟩
