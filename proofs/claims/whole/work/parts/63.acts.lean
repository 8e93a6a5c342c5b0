/-! order, undo: the promises -/
/-- cells that acts change -/
def kA (c i : Nat) : Bool := (Nat.ble 26 c && Nat.ble c 32) || ((Nat.ble 35 c && Nat.ble c 74) || ((Nat.beq c 33 && (Nat.beq i 3 || Nat.beq i 4)) || ((Nat.beq c 137 && Nat.beq i 35) || (Nat.beq c 154 || (Nat.beq c 155 || (Nat.beq c 156 || Nat.beq c 24))))))
abbrev kN (c i : Nat) : Bool := !(kA c i)
theorem jz_bt {a b : Nat} (h : Nat.beq a b = true) : a = b := Nat.eq_of_beq_eq_true h
theorem jn_T (c i : Nat) (h : kT c i = true) : kN c i = true := by
  unfold kT at h
  split at h
  · rfl
  · rfl
  · rw [jz_bt h]
    rfl
  · rfl
  · cases h
theorem jn_H (c i : Nat) (h : kH c i = true) : kN c i = true := by
  unfold kH at h
  split at h
  · rfl
  · rfl
  · rfl
  · rfl
  · obtain ⟨a, b⟩ := jb_and h
    have a := Nat.le_of_ble_eq_true a
    have b := Nat.le_of_ble_eq_true b
    have : i = 27 ∨ i = 28 ∨ i = 29 ∨ i = 30 := by omega
    rcases this with rfl | rfl | rfl | rfl <;> rfl
  · rfl
  · rfl
  · rfl
  · cases h
theorem jz_or {a b : Bool} (h : (a || b) = true) : a = true ∨ b = true := by
  cases a with
  | true => exact Or.inl rfl
  | false => exact Or.inr h
theorem jn_Wo (c i : Nat) (h : kW c i = true) : kN c i = true := by
  unfold kW at h
  split at h
  all_goals first | rfl | (cases h; done) | skip
  rcases jz_or h with h | h <;> (rw [jz_bt h]; rfl)
theorem jn_I (c i : Nat) (h : kI c i = true) : kN c i = true := by
  unfold kI at h
  split at h
  · rfl
  · rw [jz_bt h]
    rfl
  · rfl
  · rfl
  · rw [jz_bt h]
    rfl
  · rfl
  · rfl
  · cases h
theorem jn_F (c i : Nat) (h : kF c i = true) : kN c i = true := by
  unfold kF at h
  split at h
  all_goals first | rfl | (cases h; done) | skip
  rw [jz_bt h]
  rfl
theorem jn_L (c i : Nat) (h : kL c i = true) : kN c i = true := by
  unfold kL at h
  split at h
  all_goals first | rfl | (cases h; done) | skip
theorem jn_B (c i : Nat) (h : kB c i = true) : kN c i = true := by
  unfold kB at h
  split at h
  all_goals first | rfl | (cases h; done) | skip
/-- all but orders, starts and acts -/
theorem jJ.acts {M M' : ja_M} (h : jJ M) (k : jKs kN M M') (hO : jO M') (hP : jPs M') : jJ M' := by
  obtain ⟨⟨h1, h2, -⟩, ⟨h4, -, h6⟩, h7, h8, h9⟩ := h
  exact ⟨⟨h1.kp (k.of jn_T), h2.kp (k.of jn_H), hO⟩, ⟨h4.kp (k.of jn_Wo), hP, h6.kp (k.of jn_I)⟩, h7.kp h2 (k.of jn_F), h8.kp (k.of jn_L), h9.kp (k.of jn_B)⟩
theorem jk_N26 : ∀ b i, b < 6 → kN (26 + b) i = false := by
  intro b i hb
  rcases b with _ | _ | _ | _ | _ | _ | b <;> first | rfl | omega
theorem jk_N35 {b : Nat} (hb : b < 40) (i : Nat) : kN (35 + b) i = false := by
  rcases b with _ | _ | _ | _ | _ | _ | _ | _ | _ | _ | _ | _ | _ | _ | _ | _ | _ | _ | _ | _ | _ | _ | _ | _ | _ | _ | _ | _ | _ | _ | _ | _ | _ | _ | _ | _ | _ | _ | _ | _ | b <;> first | rfl | omega
theorem jO_new {M' : ja_M} (o : Nat → Nat → Int) (hp : ∀ b : Nat, (b : Int) < M' 11 4 → jv_perm (M' 11 3) (o b)) (h26 : ∀ b t : Nat, (b : Int) < M' 11 4 → (t : Int) < M' 11 3 → M' (26 + b) t = o b t) (h154 : ∀ b t : Nat, (b : Int) < M' 11 4 → (t : Int) < M' 11 3 → M' 154 (6 * b + t) = o b t) (hs : ∀ b : Nat, (b : Int) < M' 11 4 → M' 155 b = M' 32 b ∧ (0 ≤ M' 32 b ∧ M' 32 b ≤ 99)) : jO M' := by
  refine ⟨fun b t hb ht => ?_, fun b t u hb ht hu e => ?_, hs⟩
  · rw [h154 b t hb ht, h26 b t hb ht]
    exact ⟨rfl, (hp b hb).1 t ht⟩
  · rw [h26 b t hb ht, h26 b u hb hu] at e
    exact (hp b hb).2 t u ht hu e
theorem jO.perm {M : ja_M} (h : jO M) {b : Nat} (hb : (b : Int) < M 11 4) : jv_perm (M 11 3) (fun t => M (26 + b) t) := ⟨fun t ht => (h.1 b t hb ht).2, fun t u ht hu e => h.2.1 b t u hb ht hu e⟩
theorem jv_rem_K (M : ja_M) (h : 0 ≤ M 33 3 ∧ M 33 3 < 40) : jKs kN M (jv_rem M) := (((jKs.rf M).row (fun i => jk_N35 (by omega) i)).up rfl).up rfl
theorem jv_rem_c {M : ja_M} (h : 0 ≤ M 33 3 ∧ M 33 3 < 40) {c i : Nat} (h1 : ¬ (35 ≤ c ∧ c ≤ 74)) (h2 : c ≠ 33) : jv_rem M c i = M c i := by
  unfold jv_rem
  rw [jb_up_ne h2, jb_up_ne h2, ja_row_ne (by omega)]
theorem jv_kp_c {M : ja_M} {n : Nat} {c i : Nat} (h1 : c ≠ 156) (h2 : ¬ (c = 137 ∧ i = 35)) : (if n = 40 then jv_kp40 M else jv_kpn M n) c i = M c i := by
  split
  · unfold jv_kp40
    rw [jz_up, if_neg h2, ja_seg_ne h1, jz_up, if_neg h2, ja_seg_ne h1]
  · unfold jv_kpn
    rw [jz_up, if_neg h2, ja_seg_ne h1]
theorem jv_kp_35 {M : ja_M} {n : Nat} (hn : n ≤ 40) : (if n = 40 then jv_kp40 M else jv_kpn M n) 137 35 = if (n : Int) = 40 then 40 else (n : Int) + 1 := by
  by_cases q : n = 40
  · rw [if_pos q, if_pos (by omega)]
    exact jb_up_eq
  · rw [if_neg q, if_neg (by omega)]
    exact jb_up_eq
theorem jv_kp_K {M : ja_M} {n : Nat} : jKs kN M (if n = 40 then jv_kp40 M else jv_kpn M n) := fun c i h => jv_kp_c (fun e => by rw [e] at h; cases h) (fun e => by rw [e.1, e.2] at h; cases h)
/-- remember, and keep: whatever the orders become between them -/
theorem jPs_acts {M N M' : ja_M} (hH : jH M) (hO : jO M) (hP : jPs M) (h1 : ∀ c i, ¬ (26 ≤ c ∧ c ≤ 32) → c ≠ 24 → N c i = jv_rem M c i) (h2 : ∀ c i, c ≠ 154 → c ≠ 155 → M' c i = (if (M 33 4).toNat = 40 then jv_kp40 N else jv_kpn N (M 33 4).toNat) c i) : jPs M' := by
  have hb := hH.b
  have hP0 := hP
  obtain ⟨p1, p2, p3, p4⟩ := hP
  have g : ∀ c i, c ≠ 156 → ¬ (c = 137 ∧ i = 35) → ¬ (26 ≤ c ∧ c ≤ 32) → c ≠ 24 → c ≠ 154 → c ≠ 155 → M' c i = jv_rem M c i := fun c i a b d e x y => by rw [h2 c i x y, jv_kp_c a b, h1 c i d e]
  have e33 : jv_rem M 33 3 = (M 33 3 + 1) % 40 := by
    unfold jv_rem
    rw [jb_up_nej (by decide), jb_up_eq]
  have e34 : jv_rem M 33 4 = if M 33 4 = 40 then 40 else M 33 4 + 1 := jb_up_eq
  have n156 : ∀ j, N 156 j = M 156 j := fun j => by rw [h1 _ _ (by decide) (by decide), jv_rem_c p1 (by decide) (by decide)]
  have n154 : ∀ j, N 154 j = M 154 j := fun j => by rw [h1 _ _ (by decide) (by decide), jv_rem_c p1 (by decide) (by decide)]
  refine jPs_push hH hO hP0 ?_ ?_ ?_ ?_ ?_ ?_ ?_ ?_ ?_ ?_ ?_
  · rw [g 11 3 (by decide) (by decide) (by decide) (by decide) (by decide) (by decide), jv_rem_c p1 (by decide) (by decide)]
  · rw [g 11 4 (by decide) (by decide) (by decide) (by decide) (by decide) (by decide), jv_rem_c p1 (by decide) (by decide)]
  · rw [g 33 3 (by decide) (by decide) (by decide) (by decide) (by decide) (by decide), e33]
  · rw [g 33 4 (by decide) (by decide) (by decide) (by decide) (by decide) (by decide), e34]
  · rw [g 33 4 (by decide) (by decide) (by decide) (by decide) (by decide) (by decide), e34, h2 137 35 (by decide) (by decide), jv_kp_35 (by omega)]
    by_cases q : M 33 4 = 40
    · rw [if_pos q, if_pos (by omega)]
    · rw [if_neg q, if_neg (by omega)]
      omega
  · intro b hb4
    rw [g _ _ (by omega) (by omega) (by omega) (by omega) (by omega) (by omega)]
    unfold jv_rem
    rw [jb_up_ne (by omega), jb_up_ne (by omega), ja_row_in (by omega)]
  · intro q b hq hne
    rw [g _ _ (by omega) (by omega) (by omega) (by omega) (by omega) (by omega)]
    unfold jv_rem
    rw [jb_up_ne (by omega), jb_up_ne (by omega), ja_row_ne (by omega)]
  · intro q j hj
    rw [h2 _ _ (by decide) (by decide), if_pos (by omega)]
    unfold jv_kp40
    rw [jb_up_ne (by decide), ja_seg_out (Or.inl hj), jb_up_ne (by decide)]
    have := ja_seg_in (M := N) (c := 156) (a := 0) (n := 1404) (f := fun j => N 156 (j + 36)) hj
    rw [Nat.zero_add] at this
    rw [this, n156]
  · intro q j hj
    rw [h2 _ _ (by decide) (by decide), if_pos (by omega)]
    unfold jv_kp40
    rw [jb_up_ne (by decide), ja_seg_in hj, n154]
  · intro q j hj
    rw [h2 _ _ (by decide) (by decide), if_neg (by omega)]
    unfold jv_kpn
    rw [jb_up_ne (by decide), ja_seg_out (Or.inl hj), n156]
  · intro q j hj
    rw [h2 _ _ (by decide) (by decide), if_neg (by omega)]
    unfold jv_kpn
    rw [jb_up_ne (by decide), ja_seg_in hj, n154]
theorem jy_p6 : jy_o6 := by
  intro a b ra rb M hJ
  have hJ0 := hJ
  obtain ⟨⟨hT, hH, hO⟩, ⟨hW, hP, hI⟩, hF, hL, hB⟩ := hJ
  have hb := hH.b
  have hX := f_X_order 1999 a b M
  rw [js_hasBand 1998, jz_bI, jz_b0] at hX
  by_cases h1 : 0 ≤ a ∧ a < M 11 4
  · rw [if_pos h1, js_isOrder 1997 hH rb, jz_bI] at hX
    by_cases h2 : jv_Q (M 11 3) (M 11 3).toNat b 0
    · have h2' := h2
      obtain ⟨f, f1, f2, f3⟩ := h2
      obtain ⟨p1, p2, p3, -⟩ := id hP
      have K1 := jv_rem_K M p1
      have hH1 : jH (jv_rem M) := hH.kp (K1.of jn_H)
      have e113 : jv_rem M 11 3 = M 11 3 := K1 11 3 rfl
      have hput := js_putOrder 1997 (b := a) (M := jv_rem M) (f := f) hH1 (by rw [K1 11 4 rfl]; exact h1) (fun t ht => by
        rw [e113] at ht
        have := (f1 t ht).1
        omega)
      rw [e113, ← f3] at hput
      rw [jv_b1 h2', if_neg (by decide), js_remember 1994 hH hO hP, jz_bV, hput, jz_bV, f_Past_acts 1998, jz_bI, ja_row_ne (by omega)] at hX
      have e34 : jv_rem M 33 4 = if M 33 4 = 40 then 40 else M 33 4 + 1 := jb_up_eq
      -- the class's memory
      have hN1 : ∀ c i, ¬ (26 ≤ c ∧ c ≤ 32) → c ≠ 24 → ja_row (jv_rem M) (26 + a.toNat) (M 11 3).toNat f c i = jv_rem M c i := fun c i x _ => ja_row_ne (by omega)
      have hN26 : ∀ t, t < (M 11 3).toNat → ja_row (jv_rem M) (26 + a.toNat) (M 11 3).toNat f (26 + a.toNat) t = f t := fun t ht => ja_row_in ht
      have hNo : ∀ c i, c ≠ 26 + a.toNat → ja_row (jv_rem M) (26 + a.toNat) (M 11 3).toNat f c i = jv_rem M c i := fun c i x => ja_row_ne x
      generalize hNd : ja_row (jv_rem M) (26 + a.toNat) (M 11 3).toNat f = N at *
      have KN : jKs kN M N := by
        rw [← hNd]
        exact K1.row (fun i => jk_N26 _ i (by omega))
      have hHN : jH N := hH.kp (KN.of jn_H)
      have hR := f_R_order 1999 a b N
      have e35 : N 137 35 = ((M 33 4).toNat : Int) := by
        rw [hN1 _ _ (by decide) (by decide), jv_rem_c p1 (by decide) (by decide), p3]
        omega
      rw [js_isBand 1997 a hHN, jz_bI, KN 11 4 rfl, jz_b0, if_pos h1, js_R_isOrder 1996 hHN (by rw [KN 11 3 rfl]; omega) rb, jz_bI, KN 11 3 rfl, jv_b1 h2', if_neg (by decide), js_R_keep 1998 (by omega) e35, jz_bV] at hR
      generalize hKd : (if (M 33 4).toNat = 40 then jv_kp40 N else jv_kpn N (M 33 4).toNat) = Q at hR
      have KQ : jKs kN N Q := by
        rw [← hKd]
        exact jv_kp_K
      have hHQ : jH Q := hHN.kp (KQ.of jn_H)
      have e113' : Q 11 3 = M 11 3 := (KQ 11 3 rfl).trans (KN 11 3 rfl)
      have e114' : Q 11 4 = M 11 4 := (KQ 11 4 rfl).trans (KN 11 4 rfl)
      rw [js_write 1996 hHQ (by rw [e114']; exact h1) rb, jz_bV, e113', ja_seg_ne (by decide)] at hR
      have eQ35 : Q 137 35 = if M 33 4 = 40 then 40 else M 33 4 + 1 := by
        rw [← hKd, jv_kp_35 (by omega)]
        by_cases q : M 33 4 = 40
        · rw [if_pos q, if_pos (by omega)]
        · rw [if_neg q, if_neg (by omega)]
          omega
      rw [eQ35] at hR
      rw [e34] at hX
      have KF : jKs kN M (ja_seg Q 154 (6 * a.toNat) (M 11 3).toNat (fun t => jv_nthd (M 11 3).toNat b t)) := (KN.tr KQ).seg (fun _ => rfl)
      have f9 : ∀ t, t < (M 11 3).toNat → 0 ≤ f t ∧ f t ≤ 9 := fun t ht => by have := (f1 t ht).1; omega
      have hQc : ∀ c i, c ≠ 156 → c ≠ 137 → Q c i = N c i := fun c i x y => by
        rw [← hKd]
        exact jv_kp_c x (fun e => y e.1)
      refine ⟨_, _, _, hX, hR, hJ0.acts KF ?_ (jPs_acts (N := N) hH hO hP hN1 (fun c i x y => by rw [ja_seg_ne x, hKd])), jrm.same (fun i => ?_) (KF 93 4 rfl)⟩
      · refine jO_new (fun b' t => if b' = a.toNat then f t else M (26 + b') t) ?_ ?_ ?_ ?_ <;> rw [KF 11 4 rfl]
        · intro b' hb'
          rw [KF 11 3 rfl]
          by_cases q : b' = a.toNat
          · rw [show (fun t => if b' = a.toNat then f t else M (26 + b') t) = f from funext (fun t => if_pos q)]
            exact ⟨fun t ht => (f1 t (by omega)).1, fun t u ht hu e => f2 t u (by omega) (by omega) e⟩
          · rw [show (fun t => if b' = a.toNat then f t else M (26 + b') t) = (fun t => M (26 + b') t) from funext (fun t => if_neg q)]
            exact hO.perm hb'
        · intro b' t hb' ht
          rw [KF 11 3 rfl] at ht
          rw [ja_seg_ne (by omega), hQc _ _ (by omega) (by omega)]
          by_cases q : b' = a.toNat
          · rw [if_pos q, q]
            exact hN26 t (by omega)
          · rw [if_neg q, hNo _ _ (by omega), jv_rem_c p1 (by omega) (by omega)]
        · intro b' t hb' ht
          rw [KF 11 3 rfl] at ht
          by_cases q : b' = a.toNat
          · rw [if_pos q, q, ja_seg_in (by omega), f3, jv_nthd_digs _ t (by omega) f9]
          · rw [if_neg q, ja_seg_out (by omega), hQc _ _ (by decide) (by decide), hNo _ _ (by omega), jv_rem_c p1 (by decide) (by decide)]
            exact (hO.1 b' t hb' ht).1
        · intro b' hb'
          rw [ja_seg_ne (by decide), ja_seg_ne (by decide), hQc _ _ (by decide) (by decide), hQc _ _ (by decide) (by decide), hNo _ _ (by omega), hNo _ _ (by omega), jv_rem_c p1 (by decide) (by decide), jv_rem_c p1 (by decide) (by decide)]
          exact hO.2.2 b' hb'
      · rw [ja_seg_ne (by decide), hQc _ _ (by decide) (by decide), hNo _ _ (by omega), jv_rem_c p1 (by decide) (by decide)]
    · rw [jv_b0 h2, if_pos rfl] at hX
      have hR := f_R_order 1999 a b M
      rw [js_isBand 1997 a hH, jz_bI, jz_b0, if_pos h1, js_R_isOrder 1996 hH (by omega) rb, jz_bI, jv_b0 h2, if_pos rfl] at hR
      exact ⟨_, _, _, hX, hR, hJ0, jrm.same (fun _ => rfl) rfl⟩
  · rw [if_neg h1] at hX
    have hR := f_R_order 1999 a b M
    rw [js_isBand 1997 a hH, jz_bI, jz_b0, if_neg h1] at hR
    exact ⟨_, _, _, hX, hR, hJ0, jrm.same (fun _ => rfl) rfl⟩
