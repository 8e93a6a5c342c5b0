/-! the tape: feed, end (promises 2, 3) -/
def jt_1 (y : Int) : Int := if y = 0 then 0 else 1
theorem jt_1b (y : Int) : 0 ≤ jt_1 y ∧ jt_1 y ≤ 1 := by unfold jt_1; split <;> omega
/-- bytes come to a tape (0 is left out): its cell cc, its length at cl, sl -/
def jt_app (cc cl sl : Nat) : List Int → ja_M → ja_M
  | [], M => M
  | y :: ys, M => if y = 0 then jt_app cc cl sl ys M else jt_app cc cl sl ys (ja_up (ja_up M cc (M cl sl).toNat y) cl sl (M cl sl + 1))
def jt_nz : List Int → Int
  | [] => 0
  | y :: ys => jt_1 y + jt_nz ys
theorem jt_nzb : ∀ ys : List Int, 0 ≤ jt_nz ys ∧ jt_nz ys ≤ ys.length
  | [] => ⟨Int.le_refl _, Int.le_refl _⟩
  | y :: ys => by
    have := jt_nzb ys
    have := jt_1b y
    show 0 ≤ jt_1 y + jt_nz ys ∧ jt_1 y + jt_nz ys ≤ ((ys.length + 1 : Nat) : Int)
    omega
theorem jt_nz_app : ∀ xs ys : List Int, jt_nz (xs ++ ys) = jt_nz xs + jt_nz ys
  | [], ys => by simp [jt_nz]
  | x :: xs, ys => by
    show jt_1 x + jt_nz (xs ++ ys) = jt_1 x + jt_nz xs + jt_nz ys
    rw [jt_nz_app xs ys]
    omega
theorem jt_app_app (cc cl sl : Nat) : ∀ (xs ys : List Int) (M : ja_M), jt_app cc cl sl (xs ++ ys) M = jt_app cc cl sl ys (jt_app cc cl sl xs M)
  | [], _, _ => rfl
  | x :: xs, ys, M => by
    show (if x = 0 then _ else _) = jt_app cc cl sl ys (if x = 0 then _ else _)
    split
    · exact jt_app_app cc cl sl xs ys M
    · exact jt_app_app cc cl sl xs ys _
theorem jt_app_len {cc cl sl : Nat} (hne : cl ≠ cc) : ∀ (ys : List Int) (M : ja_M), jt_app cc cl sl ys M cl sl = M cl sl + jt_nz ys
  | [], M => by simp [jt_app, jt_nz]
  | y :: ys, M => by
    show (if y = 0 then jt_app cc cl sl ys M else _) cl sl = M cl sl + (jt_1 y + jt_nz ys)
    by_cases h : y = 0
    · rw [if_pos h, jt_app_len hne ys M]
      unfold jt_1
      rw [if_pos h]
      omega
    · rw [if_neg h, jt_app_len hne ys, jb_up_eq]
      unfold jt_1
      rw [if_neg h]
      omega
/-- all else stays -/
theorem jt_app_off {cc cl sl c i : Nat} (h1 : c ≠ cc) (h2 : ¬ (c = cl ∧ i = sl)) : ∀ (ys : List Int) (M : ja_M), jt_app cc cl sl ys M c i = M c i
  | [], _ => rfl
  | y :: ys, M => by
    show (if y = 0 then jt_app cc cl sl ys M else _) c i = M c i
    split
    · exact jt_app_off h1 h2 ys M
    · rw [jt_app_off h1 h2 ys, jz_up, if_neg h2, jz_up, if_neg (fun q => h1 q.1)]
/-- what the tape holds then -/
theorem jt_app_get {cc cl sl : Nat} (hne : cl ≠ cc) : ∀ (ys : List Int) (M : ja_M) (j : Nat), 0 ≤ M cl sl → jt_app cc cl sl ys M cc j = if (M cl sl).toNat ≤ j ∧ j < (M cl sl).toNat + (jt_nz ys).toNat then (ys.filter (fun y => !(y == 0))).getD (j - (M cl sl).toNat) 0 else M cc j
  | [], M, j, h => by
    rw [if_neg (by show ¬ ((M cl sl).toNat ≤ j ∧ j < (M cl sl).toNat + (0 : Int).toNat); omega)]
    rfl
  | y :: ys, M, j, h => by
    have hb := jt_nzb ys
    show (if y = 0 then jt_app cc cl sl ys M else _) cc j = _
    by_cases h0 : y = 0
    · rw [if_pos h0, jt_app_get hne ys M j h]
      have e : jt_nz (y :: ys) = jt_nz ys := by
        show jt_1 y + jt_nz ys = _
        unfold jt_1
        rw [if_pos h0]
        omega
      rw [e]
      simp [h0]
    · have e : jt_nz (y :: ys) = 1 + jt_nz ys := by
        show jt_1 y + jt_nz ys = _
        unfold jt_1
        rw [if_neg h0]
      have hf : (y :: ys).filter (fun y => !(y == 0)) = y :: ys.filter (fun y => !(y == 0)) := by simp [h0]
      rw [if_neg h0, jt_app_get hne ys _ j (by rw [jb_up_eq]; omega), jb_up_eq, hf, e]
      have c1 : (M cl sl + 1).toNat = (M cl sl).toNat + 1 := by omega
      have c2 : (1 + jt_nz ys).toNat = (jt_nz ys).toNat + 1 := by omega
      rw [c1, c2]
      by_cases hj : (M cl sl).toNat + 1 ≤ j ∧ j < (M cl sl).toNat + 1 + (jt_nz ys).toNat
      · rw [if_pos hj, if_pos (by omega), show j - (M cl sl).toNat = (j - ((M cl sl).toNat + 1)) + 1 by omega]
        rfl
      · rw [if_neg hj, jb_up_ne (Ne.symm hne)]
        by_cases hj2 : j = (M cl sl).toNat
        · subst hj2
          rw [jb_up_eq, if_pos (by omega), Nat.sub_self]
          rfl
        · rw [jb_up_nej hj2, if_neg (by omega)]
def jt_bs (a : Int) : List Int := [jz_by a 24, jz_by a 16, jz_by a 8, jz_by a 0]
theorem jt_bi_step (E : ja_E) {a n s : Int} (t : Int) (M : ja_M) (ht : s - 8 = t) (hs : 0 ≤ s ∧ s ≤ 24) (hn : 0 ≤ n ∧ n ≤ 100) : ja_D true E k_Tape_bytesIn 4 [some (ji a), some (ji n), some (ji s)] [] M = ja_D true E k_Tape_bytesIn 4 [some (ji a), some (ji (n + jt_1 (jz_by a s))), some (ji t)] [] M := by
  subst ht
  rw [e_Tape_bytesIn_4, if_neg (by omega), ja_w_id (x := s + -8) (by omega) (by omega), ja_w_id (x := n + 1) (by omega) (by omega)]
  unfold jt_1 jz_by
  split
  · rw [Int.add_zero]
    rfl
  · rfl
theorem js_bytesIn (dd : Nat) (a : Int) (M : ja_M) : ja_x true (dd + 1) 13 [ji a] M = some (some (ji (jt_nz (jt_bs a))), M) := by
  have h1 := jt_1b (jz_by a 24)
  have h2 := jt_1b (jz_by a 16)
  have h3 := jt_1b (jz_by a 8)
  have h4 := jt_1b (jz_by a 0)
  rw [f_Tape_bytesIn, jt_bi_step _ 16 M (by decide) (by decide) (by decide), jt_bi_step _ 8 M (by decide) (by decide) (by omega), jt_bi_step _ 0 M (by decide) (by decide) (by omega), jt_bi_step _ (-8) M (by decide) (by decide) (by omega), e_Tape_bytesIn_4, if_pos (by decide)]
  show some (some (ji (0 + jt_1 (jz_by a 24) + jt_1 (jz_by a 16) + jt_1 (jz_by a 8) + jt_1 (jz_by a 0))), M) = some (some (ji (jt_1 (jz_by a 24) + (jt_1 (jz_by a 16) + (jt_1 (jz_by a 8) + (jt_1 (jz_by a 0) + 0))))), M)
  congr 4
  omega
theorem jt_ad_step (E : ja_E) {a s : Int} (t : Int) {M : ja_M} (ht : s - 8 = t) (hs : 0 ≤ s ∧ s ≤ 24) (h : 0 ≤ M 2 1 ∧ M 2 1 + jt_1 (jz_by a s) ≤ 160) : ja_D true E k_Tape_add 2 [some (jr 2), some (ji a), some (ji s), none] [] M = ja_D true E k_Tape_add 2 [some (jr 2), some (ji a), some (ji t), none] [] (jt_app 3 2 1 [jz_by a s] M) := by
  subst ht
  rw [e_Tape_add_2, if_neg (by omega), ja_w_id (x := s + -8) (by omega) (by omega)]
  show (if jz_by a s = 0 then _ else _) = ja_D true E k_Tape_add 2 _ [] (if jz_by a s = 0 then M else _)
  by_cases h0 : jz_by a s = 0
  · rw [if_pos h0, if_pos h0]
    rfl
  · have e1 : jt_1 (jz_by a s) = 1 := if_neg h0
    rw [if_neg h0, if_neg h0, if_pos (by omega), if_pos (by omega), jb_up_ne (by decide), ja_w_id (by omega) (by omega)]
    rfl
theorem js_add (dd : Nat) (a : Int) {M : ja_M} (h : 0 ≤ M 2 1 ∧ M 2 1 + jt_nz (jt_bs a) ≤ 160) : ja_x true (dd + 1) 15 [jr 2, ji a] M = some (none, jt_app 3 2 1 (jt_bs a) M) := by
  have h1 := jt_1b (jz_by a 24)
  have h2 := jt_1b (jz_by a 16)
  have h3 := jt_1b (jz_by a 8)
  have h4 := jt_1b (jz_by a 0)
  have hs : jt_nz (jt_bs a) = jt_1 (jz_by a 24) + (jt_1 (jz_by a 16) + (jt_1 (jz_by a 8) + (jt_1 (jz_by a 0) + 0))) := rfl
  have l : ∀ (y : Int) (N : ja_M), jt_app 3 2 1 [y] N 2 1 = N 2 1 + jt_1 y := fun y N => by
    rw [jt_app_len (by decide)]
    show _ + (jt_1 y + 0) = _
    omega
  rw [f_Tape_add, jt_ad_step _ 16 (by decide) (by decide) (by omega), jt_ad_step _ 8 (by decide) (by decide) (by rw [l]; omega), jt_ad_step _ 0 (by decide) (by decide) (by rw [l, l]; omega), jt_ad_step _ (-8) (by decide) (by decide) (by rw [l, l, l]; omega), e_Tape_add_2, if_pos (by decide)]
  rw [← jt_app_app, ← jt_app_app, ← jt_app_app]
  rfl
def jt_all (a b c d e : Int) : List Int := jt_bs a ++ (jt_bs b ++ (jt_bs c ++ (jt_bs d ++ jt_bs e)))
theorem js_X_feed (dd : Nat) (a b c d e : Int) {M : ja_M} (h : 0 ≤ M 2 1 ∧ M 2 1 ≤ 160) : ja_x true (dd + 2) 12 [jr 1, ji a, ji b, ji c, ji d, ji e] M = if 160 < M 2 1 + jt_nz (jt_all a b c d e) then some (some (ji (-1)), M) else some (some (ji (M 2 1 + jt_nz (jt_all a b c d e))), jt_app 3 2 1 (jt_all a b c d e) M) := by
  have ha := jt_nzb (jt_bs a)
  have hb := jt_nzb (jt_bs b)
  have hc := jt_nzb (jt_bs c)
  have hd := jt_nzb (jt_bs d)
  have he := jt_nzb (jt_bs e)
  have hl : ∀ x, ((jt_bs x).length : Int) = 4 := fun x => rfl
  rw [hl] at ha hb hc hd he
  have hn : jt_nz (jt_all a b c d e) = jt_nz (jt_bs a) + (jt_nz (jt_bs b) + (jt_nz (jt_bs c) + (jt_nz (jt_bs d) + jt_nz (jt_bs e)))) := by
    unfold jt_all
    rw [jt_nz_app, jt_nz_app, jt_nz_app, jt_nz_app]
  rw [f_X_feed, js_bytesIn, jz_bI, js_bytesIn, jz_bI, js_bytesIn, jz_bI, js_bytesIn, jz_bI, js_bytesIn, jz_bI, f_Tape_hasRoom]
  rw [ja_w_id (x := jt_nz (jt_bs a) + jt_nz (jt_bs b)) (by omega) (by omega), ja_w_id (x := jt_nz (jt_bs a) + jt_nz (jt_bs b) + jt_nz (jt_bs c)) (by omega) (by omega), ja_w_id (x := jt_nz (jt_bs a) + jt_nz (jt_bs b) + jt_nz (jt_bs c) + jt_nz (jt_bs d)) (by omega) (by omega), ja_w_id (x := jt_nz (jt_bs a) + jt_nz (jt_bs b) + jt_nz (jt_bs c) + jt_nz (jt_bs d) + jt_nz (jt_bs e)) (by omega) (by omega), ja_w_id (x := M 2 1 + _) (by omega) (by omega)]
  by_cases hx : 160 < M 2 1 + jt_nz (jt_all a b c d e)
  · rw [if_pos hx, if_pos (by omega), jz_bI, if_pos rfl]
  · have l : ∀ (ys : List Int) (N : ja_M), jt_app 3 2 1 ys N 2 1 = N 2 1 + jt_nz ys := fun ys N => jt_app_len (by decide) ys N
    rw [if_neg hx, if_neg (by omega), jz_bI, if_neg (by decide), js_add _ a (by omega), jz_bV, js_add _ b (by rw [l]; omega), jz_bV, js_add _ c (by rw [l, l]; omega), jz_bV, js_add _ d (by rw [l, l, l]; omega), jz_bV, js_add _ e (by rw [l, l, l, l]; omega), jz_bV, f_Tape_length, jz_bI]
    unfold jt_all
    rw [jt_app_app, jt_app_app, jt_app_app, jt_app_app, l, l, l, l, l, ← jt_all, hn]
    congr 4
    omega
