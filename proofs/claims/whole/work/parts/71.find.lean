/-! find -/
theorem jk_95kd : ∀ b, b < 6 → ja_kd (95 + b) = (100, 6) := by decide
theorem jv_left_new {M M' : ja_M} {n : Nat} (hn : M 93 3 = (n : Int)) (hn' : M' 93 3 = (n : Int) + 1) (e1 : ∀ k, k < n → M' 159 k = M 159 k) (e2 : ∀ k, k < n → M' 160 k = M 160 k) (e3 : ∀ k, k < n → M' 161 k = M 161 k) (e4 : ∀ k, k < n → M' 162 k = M 162 k) (b t p : Nat) : jv_left M' b t p = (jv_left M b t p && jv_okf M' b t p n) := by
  unfold jv_left
  rw [hn', hn, show ((n : Int) + 1).toNat = n + 1 by omega, show ((n : Int)).toNat = n from rfl, List.range_succ, List.all_append]
  have : (List.range n).all (jv_okf M' b t p) = (List.range n).all (jv_okf M b t p) := by
    rw [Bool.eq_iff_iff, List.all_eq_true, List.all_eq_true]
    constructor <;> intro h k hk <;> have := h k hk <;> have hk := List.mem_range.mp hk <;> unfold jv_okf at this ⊢
    · rw [e1 k hk, e2 k hk, e3 k hk, e4 k hk] at this
      exact this
    · rw [e1 k hk, e2 k hk, e3 k hk, e4 k hk]
      exact this
  rw [this]
  simp
theorem jy_p25 : jy_o25 := by
  intro a b c d ra rb rc rd M hJ
  have hJ0 := hJ
  obtain ⟨⟨hT, hH, hO⟩, ⟨hW, hP, hI⟩, hF, hL, hB⟩ := hJ
  have hb := hH.b
  have hX := f_X_find 1999 a b c d M
  have hR := fun N => f_R_find 1999 a b c d N
  rw [js_hasBand 1998, jz_bI, jz_b0] at hX
  by_cases h1 : 0 ≤ a ∧ a < M 11 4
  · rw [if_pos h1, js_hasPlace 1998, jz_bI, jz_b0] at hX
    by_cases h2 : 0 ≤ b ∧ b < M 11 3
    · rw [if_pos h2, js_hasPlace 1998, jz_bI, jz_b0] at hX
      by_cases h3 : 0 ≤ c ∧ c < M 11 3
      · rw [if_pos h3, f_Finds_hasRoom 1998] at hX
        obtain ⟨n, hn⟩ : ∃ n : Nat, M 93 3 = (n : Int) := ⟨(M 93 3).toNat, by have := hF.1; omega⟩
        by_cases h4 : M 93 3 < 20
        · rw [if_pos h4, jz_bI, if_neg (by decide)] at hX
          have hadd := f_Finds_add 1998 a b c d M
          obtain ⟨x, rfl⟩ := Int.eq_ofNat_of_zero_le h1.1
          obtain ⟨t, rfl⟩ := Int.eq_ofNat_of_zero_le h2.1
          obtain ⟨p, rfl⟩ := Int.eq_ofNat_of_zero_le h3.1
          have hold := hF.2.2.2 x t h1.2 h2.2
          have h64 := jv_set_64 (jv_left M x t) (n := (M 11 3).toNat) (by omega)
          have hkd := jk_95kd x (by omega)
          -- the new set of places
          have hnew : ∃ v : Int, (d = 0 → v = ((jv_set (fun q => jv_left M x t q && !(q == p)) (M 11 3).toNat : Nat) : Int)) ∧ (d = 1 → v = ((jv_set (fun q => jv_left M x t q && (q == p)) (M 11 3).toNat : Nat) : Int)) ∧ ja_x true 1999 150 [jr 93, ji (x : Int), ji (t : Int), ji (p : Int), ji d] M = some (some (ji (M 93 3 + 1)), ja_up (ja_up (ja_up M (95 + x) t v) 93 3 (M 93 3 + 1)) 93 5 0) := by
            rw [js_hasBand 1997, jz_bI, jz_b0, if_pos h1, js_hasPlace 1997, jz_bI, jz_b0, if_pos h2, if_pos (by omega), show 94 + 1 + ((x : Int)).toNat = 95 + x by omega, jz_ald (n := 6) hkd (by omega) (by omega) (by omega) (by omega), show ((t : Int)).toNat = t from rfl, hold, jx_shl1 (by omega), jx_less (by omega) (jx_p2 (by omega)), jv_set_less (by omega), jx_and (by omega) (jx_p2 (by omega))] at hadd
            have e2 : jv_set (jv_left M x t) (M 11 3).toNat &&& 2 ^ p = jv_set (fun q => jv_left M x t q && (q == p)) (M 11 3).toNat := jv_set_eq (fun i => by
              rw [Nat.testBit_and, jv_set_bit, Nat.testBit_two_pow]
              by_cases q : i = p
              · subst q
                simp
              · have q2 : ¬ p = i := fun e => q e.symm
                simp [q, q2])
            rw [e2] at hadd
            rcases rd with rfl | rfl
            · refine ⟨_, fun _ => rfl, fun q => by omega, hadd.trans ?_⟩
              rw [if_pos rfl, jz_ast (n := 6) hkd (by omega) (by omega) (by omega) (by omega), jb_up_nej (by decide), jb_up_eq, jb_up_ne (by omega), ja_w_id (by omega) (by omega)]
              rfl
            · refine ⟨_, fun q => by omega, fun _ => rfl, hadd.trans ?_⟩
              rw [if_neg (by decide), jz_ast (n := 6) hkd (by omega) (by omega) (by omega) (by omega), jb_up_nej (by decide), jb_up_eq, jb_up_ne (by omega), ja_w_id (by omega) (by omega)]
              rfl
          obtain ⟨v, hv0, hv1, hadd⟩ := hnew
          rw [hadd, jz_bI] at hX
          have gN : ∀ e i, e ≠ 93 → ¬ (e = 95 + x ∧ i = t) → ja_up (ja_up (ja_up M (95 + x) t v) 93 3 (M 93 3 + 1)) 93 5 0 e i = M e i := fun e i y z => by rw [jb_up_ne y, jb_up_ne y, jz_up, if_neg z]
          have gN93 : ∀ i, i ≠ 3 → i ≠ 5 → ja_up (ja_up (ja_up M (95 + x) t v) 93 3 (M 93 3 + 1)) 93 5 0 93 i = M 93 i := fun i y z => by rw [jb_up_nej z, jb_up_nej y, jb_up_ne (by omega)]
          have gN3 : ja_up (ja_up (ja_up M (95 + x) t v) 93 3 (M 93 3 + 1)) 93 5 0 93 3 = M 93 3 + 1 := by rw [jb_up_nej (by decide), jb_up_eq]
          have gN5 : ja_up (ja_up (ja_up M (95 + x) t v) 93 3 (M 93 3 + 1)) 93 5 0 93 5 = 0 := jb_up_eq
          have gNx : ja_up (ja_up (ja_up M (95 + x) t v) 93 3 (M 93 3 + 1)) 93 5 0 (95 + x) t = v := by rw [jb_up_ne (by omega), jb_up_ne (by omega), jb_up_eq]
          generalize ja_up (ja_up (ja_up M (95 + x) t v) 93 3 (M 93 3 + 1)) 93 5 0 = N at *
          have KH : jKs kH M N := fun e i q => gN e i (fun z => by rw [z] at q; cases q) (fun z => by
            have : kH (95 + x) i = false := by
              rcases x with _ | _ | _ | _ | _ | _ | x <;> first | rfl | omega
            rw [z.1, this] at q
            cases q)
          have hHN : jH N := hH.kp KH
          have hR := hR N
          have e43 : N 137 43 = (n : Int) := by rw [gN _ _ (by decide) (by omega), hF.2.1, hn]
          have x159 : ∀ (A : ja_M) (i : Nat) (w : Int), ja_up A 159 i w 137 43 = A 137 43 := fun A i w => jb_up_ne (by decide)
          have x160 : ∀ (A : ja_M) (i : Nat) (w : Int), ja_up A 160 i w 137 43 = A 137 43 := fun A i w => jb_up_ne (by decide)
          have x161 : ∀ (A : ja_M) (i : Nat) (w : Int), ja_up A 161 i w 137 43 = A 137 43 := fun A i w => jb_up_ne (by decide)
          have x162 : ∀ (A : ja_M) (i : Nat) (w : Int), ja_up A 162 i w 137 43 = A 137 43 := fun A i w => jb_up_ne (by decide)
          rw [js_isBand 1997 _ hHN, jz_bI, jz_b0, KH 11 4 rfl, if_pos h1, hHN.2.1.1, KH 11 3 rfl, ja_w_id (x := M 11 3 - 1) (by omega) (by omega), js_in 1998, jz_bI, jz_b0, if_pos (show 0 ≤ (t : Int) ∧ (t : Int) ≤ M 11 3 - 1 by omega), js_isPlace 1997 _ hHN, jz_bI, jz_b0, KH 11 3 rfl, if_pos h3] at hR
          simp only [x159, x160, x161, x162, e43] at hR
          have n20 : 0 ≤ (n : Int) ∧ (n : Int) < 20 := by omega
          rw [if_neg (by omega), if_pos n20, if_pos n20, if_pos n20, if_pos n20, jz_isB rd, cond_true, ja_w_id (by omega) (by omega), jb_up_eq, show ((n : Int)).toNat = n from rfl] at hR
          rw [hn] at hX
          have g : ∀ e i, e ≠ 159 → e ≠ 160 → e ≠ 161 → e ≠ 162 → ¬ (e = 137 ∧ i = 43) → ja_up (ja_up (ja_up (ja_up (ja_up N 159 n (x : Int)) 160 n (t : Int)) 161 n (p : Int)) 162 n d) 137 43 ((n : Int) + 1) e i = N e i := fun e i y1 y2 y3 y4 y5 => by rw [jz_up, if_neg y5, jb_up_ne y4, jb_up_ne y3, jb_up_ne y2, jb_up_ne y1]
          have g43 : ja_up (ja_up (ja_up (ja_up (ja_up N 159 n (x : Int)) 160 n (t : Int)) 161 n (p : Int)) 162 n d) 137 43 ((n : Int) + 1) 137 43 = (n : Int) + 1 := jb_up_eq
          have g159 : ∀ k, ja_up (ja_up (ja_up (ja_up (ja_up N 159 n (x : Int)) 160 n (t : Int)) 161 n (p : Int)) 162 n d) 137 43 ((n : Int) + 1) 159 k = if k = n then (x : Int) else M 159 k := fun k => by
            rw [jb_up_ne (by decide), jb_up_ne (by decide), jb_up_ne (by decide), jb_up_ne (by decide), jz_up]
            by_cases q : k = n
            · rw [if_pos ⟨rfl, q⟩, if_pos q]
            · rw [if_neg (fun z => q z.2), if_neg q, gN _ _ (by decide) (by omega)]
          have g160 : ∀ k, ja_up (ja_up (ja_up (ja_up (ja_up N 159 n (x : Int)) 160 n (t : Int)) 161 n (p : Int)) 162 n d) 137 43 ((n : Int) + 1) 160 k = if k = n then (t : Int) else M 160 k := fun k => by
            rw [jb_up_ne (by decide), jb_up_ne (by decide), jb_up_ne (by decide), jz_up]
            by_cases q : k = n
            · rw [if_pos ⟨rfl, q⟩, if_pos q]
            · rw [if_neg (fun z => q z.2), if_neg q, jb_up_ne (by decide), gN _ _ (by decide) (by omega)]
          have g161 : ∀ k, ja_up (ja_up (ja_up (ja_up (ja_up N 159 n (x : Int)) 160 n (t : Int)) 161 n (p : Int)) 162 n d) 137 43 ((n : Int) + 1) 161 k = if k = n then (p : Int) else M 161 k := fun k => by
            rw [jb_up_ne (by decide), jb_up_ne (by decide), jz_up]
            by_cases q : k = n
            · rw [if_pos ⟨rfl, q⟩, if_pos q]
            · rw [if_neg (fun z => q z.2), if_neg q, jb_up_ne (by decide), jb_up_ne (by decide), gN _ _ (by decide) (by omega)]
          have g162 : ∀ k, ja_up (ja_up (ja_up (ja_up (ja_up N 159 n (x : Int)) 160 n (t : Int)) 161 n (p : Int)) 162 n d) 137 43 ((n : Int) + 1) 162 k = if k = n then d else M 162 k := fun k => by
            rw [jb_up_ne (by decide), jz_up]
            by_cases q : k = n
            · rw [if_pos ⟨rfl, q⟩, if_pos q]
            · rw [if_neg (fun z => q z.2), if_neg q, jb_up_ne (by decide), jb_up_ne (by decide), jb_up_ne (by decide), gN _ _ (by decide) (by omega)]
          generalize ja_up (ja_up (ja_up (ja_up (ja_up N 159 n (x : Int)) 160 n (t : Int)) 161 n (p : Int)) 162 n d) 137 43 ((n : Int) + 1) = Q at *
          have gQ : ∀ e i, e ≠ 159 → e ≠ 160 → e ≠ 161 → e ≠ 162 → ¬ (e = 137 ∧ i = 43) → e ≠ 93 → ¬ (95 ≤ e ∧ e ≤ 100) → Q e i = M e i := fun e i y1 y2 y3 y4 y5 y6 y7 => by rw [g e i y1 y2 y3 y4 y5, gN e i y6 (by omega)]
          have K : ∀ κ : Nat → Nat → Bool, (∀ i, κ 159 i = false) → (∀ i, κ 160 i = false) → (∀ i, κ 161 i = false) → (∀ i, κ 162 i = false) → κ 137 43 = false → (∀ i, κ 93 i = false) → (∀ b i, b < 6 → κ (95 + b) i = false) → jKs κ M Q := fun κ a1 a2 a3 a4 a5 a6 a7 e i q => by
            refine gQ e i (fun z => ?_) (fun z => ?_) (fun z => ?_) (fun z => ?_) (fun z => ?_) (fun z => ?_) (fun z => ?_)
            · rw [z, a1] at q; cases q
            · rw [z, a2] at q; cases q
            · rw [z, a3] at q; cases q
            · rw [z, a4] at q; cases q
            · rw [z.1, z.2, a5] at q; cases q
            · rw [z, a6] at q; cases q
            · have := a7 (e - 95) i (by omega)
              rw [show 95 + (e - 95) = e by omega, q] at this
              cases this
          have r95 : ∀ κ : Nat → Nat → Bool, (∀ i, κ 95 i = false ∧ κ 96 i = false ∧ κ 97 i = false ∧ κ 98 i = false ∧ κ 99 i = false ∧ κ 100 i = false) → ∀ b i, b < 6 → κ (95 + b) i = false := fun κ h b i hb6 => by
            obtain ⟨a1, a2, a3, a4, a5, a6⟩ := h i
            rcases b with _ | _ | _ | _ | _ | _ | b
            · exact a1
            · exact a2
            · exact a3
            · exact a4
            · exact a5
            · exact a6
            · omega
          have n6 : ∀ i, Q 93 i = N 93 i := fun i => g 93 i (by decide) (by decide) (by decide) (by decide) (by omega)
          have KL : jKs kL M Q := fun e i q => by
            unfold kL at q
            split at q
            · rw [jz_bt q]
              exact gQ 0 0 (by decide) (by decide) (by decide) (by decide) (by decide) (by decide) (by decide)
            · rw [jz_bt q, n6, gN93 4 (by decide) (by decide)]
            · cases q
          refine ⟨_, _, _, hX, hR, ⟨⟨hT.kp (K kT (fun _ => rfl) (fun _ => rfl) (fun _ => rfl) (fun _ => rfl) rfl (fun _ => rfl) (r95 kT (fun _ => ⟨rfl, rfl, rfl, rfl, rfl, rfl⟩))), hH.kp (K kH (fun _ => rfl) (fun _ => rfl) (fun _ => rfl) (fun _ => rfl) rfl (fun _ => rfl) (r95 kH (fun _ => ⟨rfl, rfl, rfl, rfl, rfl, rfl⟩))), hO.kp hH (K kO (fun _ => rfl) (fun _ => rfl) (fun _ => rfl) (fun _ => rfl) rfl (fun _ => rfl) (r95 kO (fun _ => ⟨rfl, rfl, rfl, rfl, rfl, rfl⟩)))⟩, ⟨hW.kp (K kW (fun _ => rfl) (fun _ => rfl) (fun _ => rfl) (fun _ => rfl) rfl (fun _ => rfl) (r95 kW (fun _ => ⟨rfl, rfl, rfl, rfl, rfl, rfl⟩))), hP.kp (K kP (fun _ => rfl) (fun _ => rfl) (fun _ => rfl) (fun _ => rfl) rfl (fun _ => rfl) (r95 kP (fun _ => ⟨rfl, rfl, rfl, rfl, rfl, rfl⟩))), hI.kp (K kI (fun _ => rfl) (fun _ => rfl) (fun _ => rfl) (fun _ => rfl) rfl (fun _ => rfl) (r95 kI (fun _ => ⟨rfl, rfl, rfl, rfl, rfl, rfl⟩)))⟩, ?_, hL.kp KL, Or.inl ((n6 5).trans gN5), fun z => ?_⟩, jrm.same (fun i => gQ 0 i (by decide) (by decide) (by decide) (by decide) (by omega) (by decide) (by decide)) (KL 93 4 rfl)⟩
          · have q3 : Q 11 3 = M 11 3 := gQ 11 3 (by decide) (by decide) (by decide) (by decide) (by decide) (by decide) (by decide)
            have q4 : Q 11 4 = M 11 4 := gQ 11 4 (by decide) (by decide) (by decide) (by decide) (by decide) (by decide) (by decide)
            have q93 : Q 93 3 = (n : Int) + 1 := (n6 3).trans (gN3.trans (by rw [hn]))
            unfold jFi
            rw [q93, g43, q3, q4]
            refine ⟨by omega, rfl, fun k hk => ?_, fun b u hb4 hu => ?_⟩
            · rw [g159, g160, g161, g162]
              by_cases q : k = n
              · rw [if_pos q, if_pos q, if_pos q, if_pos q]
                exact ⟨h1, h2, h3, rd⟩
              · rw [if_neg q, if_neg q, if_neg q, if_neg q]
                exact hF.2.2.1 k (by omega)
            · have hl := jv_left_new (M := M) (M' := Q) hn q93 (fun k hk => by rw [g159, if_neg (by omega)]) (fun k hk => by rw [g160, if_neg (by omega)]) (fun k hk => by rw [g161, if_neg (by omega)]) (fun k hk => by rw [g162, if_neg (by omega)]) b u
              have hok : ∀ q, jv_okf Q b u q n = (!(decide ((x : Int) = (b : Int)) && decide ((t : Int) = (u : Int))) || (decide ((p : Int) = (q : Int)) == decide (d = 1))) := fun q => by
                unfold jv_okf
                rw [g159, g160, g161, g162, if_pos rfl, if_pos rfl, if_pos rfl, if_pos rfl]
              by_cases z : b = x ∧ u = t
              · obtain ⟨rfl, rfl⟩ := z
                rw [g _ _ (by omega) (by omega) (by omega) (by omega) (by omega), gNx]
                rcases rd with rfl | rfl
                · rw [hv0 rfl]
                  congr 1
                  refine jv_set_congr _ (fun q hq => ?_)
                  rw [hl q, hok q]
                  by_cases w : q = p
                  · subst w
                    simp
                  · rw [show decide ((p : Int) = (q : Int)) = false from decide_eq_false (by omega), show (q == p) = false from beq_false_of_ne w]
                    simp
                · rw [hv1 rfl]
                  congr 1
                  refine jv_set_congr _ (fun q hq => ?_)
                  rw [hl q, hok q]
                  by_cases w : q = p
                  · subst w
                    simp
                  · rw [show decide ((p : Int) = (q : Int)) = false from decide_eq_false (by omega), show (q == p) = false from beq_false_of_ne w]
                    simp
              · rw [g _ _ (by omega) (by omega) (by omega) (by omega) (by omega), gN _ _ (by omega) (by omega), hF.2.2.2 b u hb4 hu]
                congr 1
                refine jv_set_congr _ (fun q hq => ?_)
                rw [hl q, hok q]
                have w : ¬ (x = b ∧ t = u) := fun e => z ⟨e.1.symm, e.2.symm⟩
                by_cases w1 : x = b
                · rw [show decide ((t : Int) = (u : Int)) = false from decide_eq_false (fun e => w ⟨w1, by omega⟩)]
                  simp
                · rw [show decide ((x : Int) = (b : Int)) = false from decide_eq_false (fun e => w1 (by omega))]
                  simp
          · rw [n6 5, gN5] at z
            omega
        · rw [if_neg h4, jz_bI, if_pos rfl] at hX
          have hR := hR M
          rw [js_isBand 1997 _ hH, jz_bI, jz_b0, if_pos h1, hH.2.1.1, ja_w_id (x := M 11 3 - 1) (by omega) (by omega), js_in 1998, jz_bI, jz_b0, if_pos (show 0 ≤ b ∧ b ≤ M 11 3 - 1 by omega), js_isPlace 1997 _ hH, jz_bI, jz_b0, if_pos h3, if_pos (by have := hF.1; rw [hF.2.1]; omega)] at hR
          exact ⟨_, _, _, hX, hR, hJ0, jrm.same (fun _ => rfl) rfl⟩
      · rw [if_neg h3] at hX
        have hR := hR M
        rw [js_isBand 1997 _ hH, jz_bI, jz_b0, if_pos h1, hH.2.1.1, ja_w_id (x := M 11 3 - 1) (by omega) (by omega), js_in 1998, jz_bI, jz_b0, if_pos (show 0 ≤ b ∧ b ≤ M 11 3 - 1 by omega), js_isPlace 1997 _ hH, jz_bI, jz_b0, if_neg h3] at hR
        exact ⟨_, _, _, hX, hR, hJ0, jrm.same (fun _ => rfl) rfl⟩
    · rw [if_neg h2] at hX
      have hR := hR M
      rw [js_isBand 1997 _ hH, jz_bI, jz_b0, if_pos h1, hH.2.1.1, ja_w_id (x := M 11 3 - 1) (by omega) (by omega), js_in 1998, jz_bI, jz_b0, if_neg (show ¬ (0 ≤ b ∧ b ≤ M 11 3 - 1) by omega)] at hR
      exact ⟨_, _, _, hX, hR, hJ0, jrm.same (fun _ => rfl) rfl⟩
  · rw [if_neg h1] at hX
    have hR := hR M
    rw [js_isBand 1997 _ hH, jz_bI, jz_b0, if_neg h1] at hR
    exact ⟨_, _, _, hX, hR, hJ0, jrm.same (fun _ => rfl) rfl⟩
