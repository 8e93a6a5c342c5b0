/-! the reference's tape -/
theorem jz_bv (A : BitVec 32) (k : Nat) (hk : k ≤ 24) : (A.sshiftRight k) &&& 255#32 = (A >>> k) &&& 255#32 := by
  apply BitVec.eq_of_getLsbD_eq
  intro i hi
  rw [BitVec.getLsbD_and, BitVec.getLsbD_and, BitVec.getLsbD_sshiftRight, BitVec.getLsbD_ushiftRight]
  by_cases h8 : i < 8
  · have : k + i < 32 := by omega
    simp [this, hi, show ¬ 32 ≤ i by omega]
  · have h255 : (255#32).getLsbD i = false := by
      have : (255#32) = BitVec.ofNat 32 (2 ^ 8 - 1) := rfl
      rw [this, BitVec.getLsbD_ofNat, Nat.testBit_two_pow_sub_one]
      simp [h8]
    rw [h255]
    simp
theorem jz_shr (a : Int) : ja_and (ja_shr a 24) 255 = jz_by a 24 ∧ ja_and (ja_shr a 16) 255 = jz_by a 16 ∧ ja_and (ja_shr a 8) 255 = jz_by a 8 ∧ ja_and (ja_shr a 0) 255 = jz_by a 0 := by
  have key : ∀ (A : Int32) (z : Int32) (k : Nat), k ≤ 24 → z = Int32.ofNat k → (A >>> (z &&& 31)).toBitVec = A.toBitVec.sshiftRight k → ((A.toUInt32 >>> (z.toUInt32 &&& Int32.toUInt32 31)).toInt32).toBitVec = A.toBitVec >>> k → ((A >>> (z &&& 31)) &&& 255) = ((A.toUInt32 >>> (z.toUInt32 &&& Int32.toUInt32 31)).toInt32 &&& 255) := by
    intro A z k hk _ h1 h2
    apply Int32.toBitVec_inj.mp
    rw [Int32.toBitVec_and, Int32.toBitVec_and, h1, h2]
    exact jz_bv A.toBitVec k hk
  have go : ∀ (k : Nat), k ≤ 24 → (∀ A : Int32, (A >>> (Int32.ofInt (k : Int) &&& 31)).toBitVec = A.toBitVec.sshiftRight k) → (∀ A : Int32, ((A.toUInt32 >>> ((Int32.ofInt (k : Int)).toUInt32 &&& Int32.toUInt32 31)).toInt32).toBitVec = A.toBitVec >>> k) → ja_and (ja_shr a (k : Int)) 255 = jz_by a (k : Int) := by
    intro k hk h1 h2
    unfold jz_by ja_and ja_shr ja_ush
    rw [jn_back, jn_back]
    exact congrArg Int32.toInt (key (Int32.ofInt a) (Int32.ofInt (k : Int)) k hk (jn_nat k) (h1 _) (h2 _))
  exact ⟨go 24 (by decide) (fun A => rfl) (fun A => rfl), go 16 (by decide) (fun A => rfl) (fun A => rfl), go 8 (by decide) (fun A => rfl) (fun A => rfl), go 0 (by decide) (fun A => rfl) (fun A => rfl)⟩
theorem js_byteOf (dd : Nat) (a b c d e k : Int) (M : ja_M) (hk : 0 ≤ k ∧ k < 20) : ja_x true (dd + 1) 203 [ji a, ji b, ji c, ji d, ji e, ji k] M = some (some (ji ((jt_all a b c d e).getD k.toNat 0)), M) := by
  have hc : k = 0 ∨ k = 1 ∨ k = 2 ∨ k = 3 ∨ k = 4 ∨ k = 5 ∨ k = 6 ∨ k = 7 ∨ k = 8 ∨ k = 9 ∨ k = 10 ∨ k = 11 ∨ k = 12 ∨ k = 13 ∨ k = 14 ∨ k = 15 ∨ k = 16 ∨ k = 17 ∨ k = 18 ∨ k = 19 := by omega
  rcases hc with rfl | rfl | rfl | rfl | rfl | rfl | rfl | rfl | rfl | rfl | rfl | rfl | rfl | rfl | rfl | rfl | rfl | rfl | rfl | rfl
  · rw [f_R_byteOf, if_pos (by decide)]
    exact congrArg (fun x => some (some (ji x), M)) (jz_shr a).1
  · rw [f_R_byteOf, if_pos (by decide)]
    exact congrArg (fun x => some (some (ji x), M)) (jz_shr a).2.1
  · rw [f_R_byteOf, if_pos (by decide)]
    exact congrArg (fun x => some (some (ji x), M)) (jz_shr a).2.2.1
  · rw [f_R_byteOf, if_pos (by decide)]
    exact congrArg (fun x => some (some (ji x), M)) (jz_shr a).2.2.2
  · rw [f_R_byteOf, if_neg (by decide), if_pos (by decide)]
    exact congrArg (fun x => some (some (ji x), M)) (jz_shr b).1
  · rw [f_R_byteOf, if_neg (by decide), if_pos (by decide)]
    exact congrArg (fun x => some (some (ji x), M)) (jz_shr b).2.1
  · rw [f_R_byteOf, if_neg (by decide), if_pos (by decide)]
    exact congrArg (fun x => some (some (ji x), M)) (jz_shr b).2.2.1
  · rw [f_R_byteOf, if_neg (by decide), if_pos (by decide)]
    exact congrArg (fun x => some (some (ji x), M)) (jz_shr b).2.2.2
  · rw [f_R_byteOf, if_neg (by decide), if_neg (by decide), if_pos (by decide)]
    exact congrArg (fun x => some (some (ji x), M)) (jz_shr c).1
  · rw [f_R_byteOf, if_neg (by decide), if_neg (by decide), if_pos (by decide)]
    exact congrArg (fun x => some (some (ji x), M)) (jz_shr c).2.1
  · rw [f_R_byteOf, if_neg (by decide), if_neg (by decide), if_pos (by decide)]
    exact congrArg (fun x => some (some (ji x), M)) (jz_shr c).2.2.1
  · rw [f_R_byteOf, if_neg (by decide), if_neg (by decide), if_pos (by decide)]
    exact congrArg (fun x => some (some (ji x), M)) (jz_shr c).2.2.2
  · rw [f_R_byteOf, if_neg (by decide), if_neg (by decide), if_neg (by decide), if_pos (by decide)]
    exact congrArg (fun x => some (some (ji x), M)) (jz_shr d).1
  · rw [f_R_byteOf, if_neg (by decide), if_neg (by decide), if_neg (by decide), if_pos (by decide)]
    exact congrArg (fun x => some (some (ji x), M)) (jz_shr d).2.1
  · rw [f_R_byteOf, if_neg (by decide), if_neg (by decide), if_neg (by decide), if_pos (by decide)]
    exact congrArg (fun x => some (some (ji x), M)) (jz_shr d).2.2.1
  · rw [f_R_byteOf, if_neg (by decide), if_neg (by decide), if_neg (by decide), if_pos (by decide)]
    exact congrArg (fun x => some (some (ji x), M)) (jz_shr d).2.2.2
  · rw [f_R_byteOf, if_neg (by decide), if_neg (by decide), if_neg (by decide), if_neg (by decide)]
    exact congrArg (fun x => some (some (ji x), M)) (jz_shr e).1
  · rw [f_R_byteOf, if_neg (by decide), if_neg (by decide), if_neg (by decide), if_neg (by decide)]
    exact congrArg (fun x => some (some (ji x), M)) (jz_shr e).2.1
  · rw [f_R_byteOf, if_neg (by decide), if_neg (by decide), if_neg (by decide), if_neg (by decide)]
    exact congrArg (fun x => some (some (ji x), M)) (jz_shr e).2.2.1
  · rw [f_R_byteOf, if_neg (by decide), if_neg (by decide), if_neg (by decide), if_neg (by decide)]
    exact congrArg (fun x => some (some (ji x), M)) (jz_shr e).2.2.2
theorem jt_all_len (a b c d e : Int) : (jt_all a b c d e).length = 20 := rfl
theorem jr_feed1 (dd : Nat) (a b c d e : Int) (M : ja_M) : ∀ (m : Nat) (k : Nat) (n : Int), k + m = 20 → 0 ≤ n ∧ n ≤ k → ja_D true (ja_x true (dd + 1)) k_R_feed 4 [some (jr 137), some (ji a), some (ji b), some (ji c), some (ji d), some (ji e), some (ji n), some (ji (k : Int)), none] [] M = ja_D true (ja_x true (dd + 1)) k_R_feed 4 [some (jr 137), some (ji a), some (ji b), some (ji c), some (ji d), some (ji e), some (ji (n + jt_nz ((jt_all a b c d e).drop k))), some (ji 20), none] [] M
  | 0, k, n, hk, _ => by
    have : k = 20 := by omega
    subst this
    rw [List.drop_eq_nil_of_le (by rw [jt_all_len]; exact Nat.le_refl _)]
    show ja_D true _ k_R_feed 4 _ [] M = ja_D true _ k_R_feed 4 [some (jr 137), some (ji a), some (ji b), some (ji c), some (ji d), some (ji e), some (ji (n + 0)), some (ji 20), none] [] M
    rw [Int.add_zero]
    rfl
  | m + 1, k, n, hk, hn => by
    have hlt : k < (jt_all a b c d e).length := by rw [jt_all_len]; omega
    have hg : (jt_all a b c d e).getD k 0 = (jt_all a b c d e)[k] := by rw [List.getD_eq_getElem?_getD, List.getElem?_eq_getElem hlt]; rfl
    have hd : (jt_all a b c d e).drop k = (jt_all a b c d e)[k] :: (jt_all a b c d e).drop (k + 1) := List.drop_eq_getElem_cons hlt
    have h1 := jt_1b ((jt_all a b c d e)[k])
    rw [e_R_feed_4, if_pos (by omega), js_byteOf dd a b c d e k M (by omega), jz_bI, Int.toNat_natCast, hg, hd]
    rw [ja_w_id (x := (k : Int) + 1) (by omega) (by omega), ja_w_id (x := n + 0) (by omega) (by omega), ja_w_id (x := n + 1) (by omega) (by omega), show (k : Int) + 1 = ((k + 1 : Nat) : Int) by omega]
    show _ = ja_D true _ k_R_feed 4 [some (jr 137), some (ji a), some (ji b), some (ji c), some (ji d), some (ji e), some (ji (n + (jt_1 ((jt_all a b c d e)[k]) + jt_nz ((jt_all a b c d e).drop (k + 1))))), some (ji 20), none] [] M
    by_cases h0 : (jt_all a b c d e)[k] = 0
    · have e1 : jt_1 ((jt_all a b c d e)[k]) = 0 := if_pos h0
      rw [if_pos h0, jr_feed1 dd a b c d e M m (k + 1) (n + 0) (by omega) (by omega), e1]
      congr 3
      simp only [Int.add_zero, Int.zero_add]
    · have e1 : jt_1 ((jt_all a b c d e)[k]) = 1 := if_neg h0
      rw [if_neg h0, jr_feed1 dd a b c d e M m (k + 1) (n + 1) (by omega) (by omega), e1, Int.add_assoc]
theorem jr_feed2 (dd : Nat) (a b c d e : Int) : ∀ (m : Nat) (k : Nat) (M : ja_M), k + m = 20 → 0 ≤ M 137 2 ∧ M 137 2 + jt_nz ((jt_all a b c d e).drop k) ≤ 160 → ja_D true (ja_x true (dd + 1)) k_R_feed 33 [some (jr 137), some (ji a), some (ji b), some (ji c), some (ji d), some (ji e), none, some (ji (k : Int)), none] [] M = some (some (ji (M 137 2 + jt_nz ((jt_all a b c d e).drop k))), jt_app 138 137 2 ((jt_all a b c d e).drop k) M)
  | 0, k, M, hk, _ => by
    have : k = 20 := by omega
    subst this
    rw [List.drop_eq_nil_of_le (by rw [jt_all_len]; exact Nat.le_refl _), e_R_feed_33, if_neg (by omega)]
    show some (some (ji (M 137 2)), M) = some (some (ji (M 137 2 + 0)), M)
    rw [Int.add_zero]
  | m + 1, k, M, hk, hn => by
    have hlt : k < (jt_all a b c d e).length := by rw [jt_all_len]; omega
    have hg : (jt_all a b c d e).getD k 0 = (jt_all a b c d e)[k] := by rw [List.getD_eq_getElem?_getD, List.getElem?_eq_getElem hlt]; rfl
    have hd : (jt_all a b c d e).drop k = (jt_all a b c d e)[k] :: (jt_all a b c d e).drop (k + 1) := List.drop_eq_getElem_cons hlt
    have h1 := jt_1b ((jt_all a b c d e)[k])
    have h2 := jt_nzb ((jt_all a b c d e).drop (k + 1))
    rw [hd] at hn ⊢
    have hn : 0 ≤ M 137 2 ∧ M 137 2 + (jt_1 ((jt_all a b c d e)[k]) + jt_nz ((jt_all a b c d e).drop (k + 1))) ≤ 160 := hn
    rw [e_R_feed_33, if_pos (by omega), js_byteOf dd a b c d e k M (by omega), jz_bI, Int.toNat_natCast, hg]
    rw [ja_w_id (x := (k : Int) + 1) (by omega) (by omega), show (k : Int) + 1 = ((k + 1 : Nat) : Int) by omega]
    show _ = some (some (ji (M 137 2 + (jt_1 ((jt_all a b c d e)[k]) + jt_nz ((jt_all a b c d e).drop (k + 1))))), if (jt_all a b c d e)[k] = 0 then _ else _)
    by_cases h0 : (jt_all a b c d e)[k] = 0
    · have e1 : jt_1 ((jt_all a b c d e)[k]) = 0 := if_pos h0
      rw [e1] at hn ⊢
      rw [if_pos h0, if_pos h0, jr_feed2 dd a b c d e m (k + 1) M (by omega) (by omega), Int.zero_add]
    · have e1 : jt_1 ((jt_all a b c d e)[k]) = 1 := if_neg h0
      rw [e1] at hn ⊢
      rw [if_neg h0, if_neg h0, if_pos (by omega), jb_up_ne (by decide), ja_w_id (by omega) (by omega), jr_feed2 dd a b c d e m (k + 1) _ (by omega) (by rw [jb_up_eq]; omega), jb_up_eq]
      congr 4
      omega
theorem js_R_feed (dd : Nat) (a b c d e : Int) {M : ja_M} (h : 0 ≤ M 137 2 ∧ M 137 2 ≤ 160) : ja_x true (dd + 2) 202 [jr 137, ji a, ji b, ji c, ji d, ji e] M = if 160 < M 137 2 + jt_nz (jt_all a b c d e) then some (some (ji (-1)), M) else some (some (ji (M 137 2 + jt_nz (jt_all a b c d e))), jt_app 138 137 2 (jt_all a b c d e) M) := by
  have hb := jt_nzb (jt_all a b c d e)
  rw [jt_all_len] at hb
  rw [f_R_feed, show (0 : Int) = ((0 : Nat) : Int) from rfl, jr_feed1 dd a b c d e M 20 0 _ (by decide) (by decide), e_R_feed_4, if_neg (by decide)]
  rw [show (jt_all a b c d e).drop 0 = jt_all a b c d e from rfl, show ((0 : Nat) : Int) + jt_nz (jt_all a b c d e) = jt_nz (jt_all a b c d e) by omega, ja_w_id (by omega) (by omega)]
  by_cases hx : 160 < M 137 2 + jt_nz (jt_all a b c d e)
  · rw [if_pos hx, if_pos hx]
  · rw [if_neg hx, if_neg hx]
    exact jr_feed2 dd a b c d e 20 0 M (by decide) (by show _ ∧ M 137 2 + jt_nz (jt_all a b c d e) ≤ 160; omega)
