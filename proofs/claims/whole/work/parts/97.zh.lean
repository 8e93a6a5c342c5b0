/-! tables: both sides -/
def kZ (c i : Nat) : Bool := kT c i || (kH c i || (kO c i || (kW c i || (kP c i || (kI c i || kF c i)))))
theorem kZ_0 (i : Nat) : kZ 0 i = false := rfl
theorem kZ_172 (i : Nat) : kZ 172 i = false := rfl
theorem kZ_93 (i : Nat) : kZ 93 i = Nat.beq i 3 := rfl
theorem kZ_m (c i : Nat) (h1 : 101 ≤ c) (h2 : c ≤ 122) : kZ c i = false := by
  have : c = 101 ∨ c = 102 ∨ c = 103 ∨ c = 104 ∨ c = 105 ∨ c = 106 ∨ c = 107 ∨ c = 108 ∨ c = 109 ∨ c = 110 ∨ c = 111 ∨ c = 112 ∨ c = 113 ∨ c = 114 ∨ c = 115 ∨ c = 116 ∨ c = 117 ∨ c = 118 ∨ c = 119 ∨ c = 120 ∨ c = 121 ∨ c = 122 := by omega
  rcases this with rfl | rfl | rfl | rfl | rfl | rfl | rfl | rfl | rfl | rfl | rfl | rfl | rfl | rfl | rfl | rfl | rfl | rfl | rfl | rfl | rfl | rfl <;> rfl
theorem tZ.k {M N : ja_M} (k : tZ M N) : jKs kZ M N := fun c i q => k c i (fun e => by
    rw [e, kZ_0] at q
    cases q) (fun e => by
    rw [kZ_m c i e.1 e.2] at q
    cases q) (fun e => by
    rw [e, kZ_172] at q
    cases q) (fun e => by
    rw [e.1, kZ_93] at q
    have := Nat.eq_of_beq_eq_true q
    omega)
theorem jJ_z {M N : ja_M} (h : jJ M) (k : tZ M N) (hL : jFl N) (hB : jTb N) : jJ N := by
  obtain ⟨⟨h1, h2, h3⟩, ⟨h4, h5, h6⟩, h7, -, -⟩ := h
  have q := k.k
  exact ⟨⟨h1.kp (fun c i e => q c i (by unfold kZ; rw [e]; rfl)), h2.kp (fun c i e => q c i (by unfold kZ; rw [e]; simp)), h3.kp h2 (fun c i e => q c i (by unfold kZ; rw [e]; simp))⟩, ⟨h4.kp (fun c i e => q c i (by unfold kZ; rw [e]; simp)), h5.kp (fun c i e => q c i (by unfold kZ; rw [e]; simp)), h6.kp (fun c i e => q c i (by unfold kZ; rw [e]; simp))⟩, h7.kp h2 (fun c i e => q c i (by unfold kZ; rw [e]; simp)), hL, hB⟩
theorem jrm.r {M N N' : ja_M} (h : jrm M N) (e : ∀ i, N' 0 i = N 0 i) (e4 : N' 93 4 = N 93 4) : jrm M N' := by
  unfold jrm at h ⊢
  rw [e 1, e 2, e4]
  exact h
theorem jy_p27 : jy_o27 := by
  intro a b ba bb M hJ
  have hJ0 := hJ
  obtain ⟨⟨hT, hH, hO⟩, -, hF, hL, hTb⟩ := hJ
  have h0 := hH.b
  have hX := f_X_tables 1999 a b M
  rw [js_small 1997 M, jz_bI, jz_b0] at hX
  have hR := f_R_tables 1999 a b M
  rw [hH.2.1.2.1, hH.2.1.1] at hR
  by_cases hs : 0 < M 11 3 ∧ M 11 3 ≤ 5 ∧ M 11 4 ≤ 5
  case neg =>
    rw [if_neg hs] at hX
    refine ⟨-1000000, M, M, hX, ?_, hJ0, jrm.same (fun _ => rfl) rfl⟩
    by_cases c1 : M 11 4 = 0
    · rw [if_pos c1] at hR
      exact hR
    · rw [if_neg c1] at hR
      by_cases c2 : 5 < M 11 4
      · rw [if_pos c2] at hR
        exact hR
      · rw [if_neg c2, if_pos (by omega)] at hR
        exact hR
  rw [if_pos hs] at hX
  rw [if_neg (by omega), if_neg (by omega), if_neg (by omega)] at hR
  obtain ⟨P, hP⟩ := Int.eq_ofNat_of_zero_le h0.1.1
  obtain ⟨B, hB⟩ := Int.eq_ofNat_of_zero_le h0.2.1.1
  obtain ⟨f, hf⟩ := Int.eq_ofNat_of_zero_le h0.2.2.1.1
  have hP1 : 1 ≤ P ∧ P ≤ 5 := by omega
  have hB1 : 1 ≤ B ∧ B ≤ 5 := by omega
  obtain ⟨N, s1, s2, s3, s4, s5, s6, s7, s8⟩ := js_seek hJ0 hP hB hf hP1 hB1
  have hN := jJ_z hJ0 s2 s3 s4
  have hHN := hN.1.2.1
  have hFN := hN.2.2.1
  have n3 : N 11 3 = (P : Int) := (s2 11 3 (by omega) (by omega) (by omega) (by omega)).trans hP
  have n4 : N 11 4 = (B : Int) := (s2 11 4 (by omega) (by omega) (by omega) (by omega)).trans hB
  have n5 : N 11 5 = (f : Int) := (s2 11 5 (by omega) (by omega) (by omega) (by omega)).trans hf
  obtain ⟨-, -, -, t6, tr⟩ := s4.2 s5
  by_cases a1 : a = -1
  · rw [if_pos a1] at hX
    have q := f_Finds_howManyTables 1998 M
    rw [s1, jz_bV] at q
    rw [show ja_x true 1999 156 [jr 93] M = _ from q, jz_bI] at hX
    obtain ⟨bb', N', -, r2, r3, r4⟩ := js_R_tables hHN hFN n3 n4 n5 hB1 hP1.2 (a := a) (b := b) (by omega) (Or.inl a1)
    rw [if_pos a1, ← t6] at r2
    exact ⟨N 93 6, N, N', hX, r2, hN.kp r3, s8.r r4 (r3 93 4 rfl)⟩
  rw [if_neg a1, js_hasBand 1998, jz_bI, jz_b0] at hX
  by_cases c1 : 0 ≤ b ∧ b < M 11 4
  case neg =>
    rw [if_neg c1] at hX
    refine ⟨-1, M, M, hX, ?_, hJ0, jrm.same (fun _ => rfl) rfl⟩
    by_cases c2 : a < -1
    · rw [if_pos c2] at hR
      exact hR
    · rw [if_neg c2, if_neg a1, js_isBand 1997 b hH, jz_bI, jz_b0, if_neg c1] at hR
      exact hR
  rw [if_pos c1] at hX
  have q := f_Finds_orderInTable 1998 a b M
  rw [s1, jz_bV] at q
  by_cases c2 : a < 0
  · rw [if_pos c2] at q
    rw [show ja_x true 1999 170 [jr 93, ji a, ji b] M = _ from q, jz_bI] at hX
    have hR2 := f_R_tables 1999 a b N
    rw [hHN.2.1.2.1, hHN.2.1.1, n3, n4, if_neg (by omega), if_neg (by omega), if_neg (by omega), if_pos (by omega)] at hR2
    exact ⟨-1, N, N, hX, hR2, hN, s8⟩
  rw [if_neg c2] at q
  obtain ⟨bb', N', r1, r2, r3, r4⟩ := js_R_tables hHN hFN n3 n4 n5 hB1 hP1.2 (a := a) (b := b) (by omega) (Or.inr ⟨c1.1, by omega⟩)
  have r1 := r1 a1
  rw [if_neg a1] at r2
  unfold tfnd at r2
  rw [Nat.zero_add, ← t6] at r2
  by_cases c3 : a < N 93 6
  · rw [if_pos c3, if_neg (by omega), if_pos (by omega), s6, if_neg (by decide), ja_w_id (x := a * 5) (by omega) (by omega), ja_w_id (x := a * 5 + b) (by omega) (by omega)] at q
    rw [if_neg (by decide), jz_ald172 s7 (by omega) (by omega)] at q
    rw [if_pos ⟨by omega, c3⟩] at r2
    have len : a.toNat < (jv_tables N).length := by omega
    have e1 : (jv_tables N)[a.toNat]? = some ((jv_tables N).getD a.toNat []) := by
      rw [List.getD_eq_getElem?_getD, List.getElem?_eq_getElem len]
      rfl
    have m : (jv_tables N).getD a.toNat [] ∈ sols P f (jv_left N) B := by
      rw [← tables_sols n3 n4 n5]
      exact List.mem_of_getElem? e1
    have len2 := (tabs_row m).1
    have e2 : ((jv_tables N).getD a.toNat [])[bb']? = some (((jv_tables N).getD a.toNat []).getD bb' []) := by
      rw [List.getD_eq_getElem?_getD (l := (jv_tables N).getD a.toNat []), List.getElem?_eq_getElem (by omega)]
      rfl
    have e3 := tr a.toNat bb' _ _ (by omega) e1 e2
    rw [show (a * 5 + b).toNat = 5 * a.toNat + bb' by omega, e3] at q
    rw [show ja_x true 1999 170 [jr 93, ji a, ji b] M = _ from q, jz_bI] at hX
    rw [Nat.sub_zero] at r2
    exact ⟨_, N, N', hX, r2, hN.kp r3, s8.r r4 (r3 93 4 rfl)⟩
  · rw [if_neg c3] at q
    rw [show ja_x true 1999 170 [jr 93, ji a, ji b] M = _ from q, jz_bI] at hX
    rw [if_neg (fun w => c3 w.2)] at r2
    exact ⟨-1, N, N', hX, r2, hN.kp r3, s8.r r4 (r3 93 4 rfl)⟩
