/-! fault and text of hunts -/
theorem ja_cpy_in {A : ja_M} {s d j : Nat} (h : j < 6) : ja_cpy A s 0 d 0 6 d j = A s j := by
  unfold ja_cpy
  rw [if_pos ⟨rfl, Nat.zero_le _, by omega⟩, Nat.sub_zero, Nat.zero_add]
theorem ja_cpy_ne {A : ja_M} {s d c j : Nat} (h : c ≠ d) : ja_cpy A s 0 d 0 6 c j = A c j := if_neg (fun q => h q.1)
theorem hn_tr {M M1 : ja_M} (hT : jT M) (e2 : M1 137 2 = M 137 2) (e3 : ∀ i, M1 138 i = M 138 i) : tpR M1 (M 3) (M 2 1).toNat := by
  have h1 := hT.1
  exact ⟨by rw [e2, hT.2.1]; omega, fun i hi => by rw [e3, (hT.2.2 i (by omega)).1]⟩
theorem jy_fault0 : jOp (jy_E 19 [jr 1, ji 0]) (jy_E 205 [jr 137, ji 0]) := by
  refine jOp.read (fun M hJ => ?_)
  obtain ⟨⟨hT, hH, hO⟩, -⟩ := hJ
  obtain ⟨r, g1, g2, g3, g4⟩ := js_X_hunt 1992 hT
  have hX := f_X_fault 1999 0 M
  rw [if_pos rfl, show ja_x true 1999 20 [jr 4] M = _ from g1, jz_bI] at hX
  have kk := g2.k4 r
  obtain ⟨N', k1, k2, -⟩ := js_R_hunt 1993 hT (hn_tr hT (kk 137 2 rfl) (fun i => kk 138 i rfl))
  have hR := f_R_fault 1999 0 (atX (hn_res M).2 r)
  rw [if_pos rfl, show ja_x true 1999 206 [jr 137] (atX (hn_res M).2 r) = _ from k1, jz_bI] at hR
  refine ⟨_, _, hX, kk, fun i => ?_, N', hR, k2.K, fun i => k2 0 i (by omega) (by omega)⟩
  exact (jb_up_ne (by decide)).trans (g2 0 i (by decide))
theorem jy_text0 : jOp (jy_E 54 [jr 1, ji 0]) (jy_E 235 [jr 137, ji 0]) := by
  intro M hJ
  have hJ0 := hJ
  obtain ⟨⟨hT, hH, hO⟩, ⟨hW, hP, hI⟩, hF, hL, hB⟩ := hJ
  obtain ⟨r, g1, g2, g3, g4⟩ := js_X_hunt 1992 hT
  have hX := f_X_text 1999 0 M
  rw [if_pos rfl, show ja_x true 1999 20 [jr 4] M = _ from g1, jz_bI] at hX
  have kk := g2.k4 r
  by_cases ok : (hn_res M).1 = -1
  · obtain ⟨p2, p1⟩ := g4 ok
    generalize hres : (hn_res M).2 = D at hX kk g2 g3 p2 p1
    obtain ⟨d1, d2, d3, d4, d5, d6, -⟩ := g3
    obtain ⟨P, eP⟩ : ∃ P : Nat, D 5 3 = (P : Int) := ⟨(D 5 3).toNat, by omega⟩
    obtain ⟨B, eB⟩ : ∃ B : Nat, D 5 4 = (B : Int) := ⟨(D 5 4).toNat, by omega⟩
    have cut : ja_x true 1999 18 [jr 2, ji 0] (atX D r) = some (some (ji 1), ja_up (atX D r) 2 1 0) := by
      have e21 : (atX D r) 2 1 = M 2 1 := (jb_up_nej (by decide)).trans (g2 2 1 (by decide))
      have := hT.1
      rw [f_Tape_cut 1998, if_neg (by decide), e21, if_neg (by omega)]
    rw [if_pos ok, cut, jz_bI, f_HuntReader_draft 1998, jz_bR, jk_ck rfl rfl rfl, cond_true, f_Hunt_copyFrom_11 1998, if_pos (by decide), if_pos (by decide), if_pos (by decide), jz_bV] at hX
    -- the class's hunt
    have c3 : (ja_cpy (ja_cpy (ja_cpy (ja_up (ja_up (ja_up (ja_up (ja_up (atX D r) 2 1 0) 11 3 ((ja_up (atX D r) 2 1 0) 5 3)) 11 4 ((ja_up (ja_up (atX D r) 2 1 0) 11 3 ((ja_up (atX D r) 2 1 0) 5 3)) 5 4)) 11 5 ((ja_up (ja_up (ja_up (atX D r) 2 1 0) 11 3 ((ja_up (atX D r) 2 1 0) 5 3)) 11 4 ((ja_up (ja_up (atX D r) 2 1 0) 11 3 ((ja_up (atX D r) 2 1 0) 5 3)) 5 4)) 5 5)) 11 6 ((ja_up (ja_up (ja_up (ja_up (atX D r) 2 1 0) 11 3 ((ja_up (atX D r) 2 1 0) 5 3)) 11 4 ((ja_up (ja_up (atX D r) 2 1 0) 11 3 ((ja_up (atX D r) 2 1 0) 5 3)) 5 4)) 11 5 ((ja_up (ja_up (ja_up (atX D r) 2 1 0) 11 3 ((ja_up (atX D r) 2 1 0) 5 3)) 11 4 ((ja_up (ja_up (atX D r) 2 1 0) 11 3 ((ja_up (atX D r) 2 1 0) 5 3)) 5 4)) 5 5)) 5 6)) 6 0 12 0 6) 7 0 13 0 6) 8 0 14 0 6) = (ja_cpy (ja_cpy (ja_cpy (ja_up (ja_up (ja_up (ja_up (ja_up (atX D r) 2 1 0) 11 3 (D 5 3)) 11 4 (D 5 4)) 11 5 (D 5 5)) 11 6 (D 5 6)) 6 0 12 0 6) 7 0 13 0 6) 8 0 14 0 6) := rfl
    rw [c3] at hX
    have m3 : ∃ M3, M3 = (ja_cpy (ja_cpy (ja_cpy (ja_up (ja_up (ja_up (ja_up (ja_up (atX D r) 2 1 0) 11 3 (D 5 3)) 11 4 (D 5 4)) 11 5 (D 5 5)) 11 6 (D 5 6)) 6 0 12 0 6) 7 0 13 0 6) 8 0 14 0 6) ∧ (M3 11 3 = D 5 3 ∧ M3 11 4 = D 5 4 ∧ M3 11 5 = D 5 5 ∧ M3 11 6 = D 5 6) ∧ (∀ j, j < 6 → M3 12 j = D 6 j ∧ M3 13 j = D 7 j ∧ M3 14 j = D 8 j) ∧ M3 2 1 = 0 ∧ ∀ c i, c ≠ 2 → ¬ (11 ≤ c ∧ c ≤ 14) → M3 c i = D c i := by
      refine ⟨_, rfl, ⟨rfl, rfl, rfl, rfl⟩, fun j hj => ⟨?_, ?_, ?_⟩, rfl, fun c i h2 h11 => ?_⟩
      · rw [ja_cpy_ne (by decide), ja_cpy_ne (by decide), ja_cpy_in hj]
        rfl
      · rw [ja_cpy_ne (by decide), ja_cpy_in hj, ja_cpy_ne (by decide)]
        rfl
      · rw [ja_cpy_in hj, ja_cpy_ne (by decide), ja_cpy_ne (by decide)]
        rfl
      · rw [ja_cpy_ne (by omega), ja_cpy_ne (by omega), ja_cpy_ne (by omega), jb_up_ne (by omega), jb_up_ne (by omega), jb_up_ne (by omega), jb_up_ne (by omega), jb_up_ne h2]
        exact jb_up_ne h2
    obtain ⟨M3, e3, ⟨a3, a4, a5, a6⟩, ax, a21, af⟩ := m3
    rw [← e3] at hX
    clear e3 c3
    obtain ⟨M4, r1, r2, r3, r4⟩ := js_reset 1997 (a3.trans eP) (a4.trans eB) (by omega) (by omega)
    rw [show ja_x true 1999 57 [jr 24] M3 = _ from r1, jz_bV, f_Past_forget 1998, jz_bV] at hX
    have m5 : ∃ M5, M5 = ja_up (ja_up M4 33 4 0) 33 7 0 ∧ M5 33 4 = 0 ∧ M5 33 7 = 0 ∧ M5 33 3 = M4 33 3 ∧ ∀ c i, c ≠ 33 → M5 c i = M4 c i := ⟨_, rfl, rfl, rfl, rfl, fun c i h => (jb_up_ne h).trans (jb_up_ne h)⟩
    obtain ⟨M5, e5, b4, b7, b3, bf⟩ := m5
    rw [← e5] at hX
    clear e5
    have h53 : M5 11 3 = (P : Int) := ((bf 11 3 (by decide)).trans (r2 11 3 (by decide))).trans (a3.trans eP)
    have h54 : M5 11 4 = (B : Int) := ((bf 11 4 (by decide)).trans (r2 11 4 (by decide))).trans (a4.trans eB)
    obtain ⟨M6, f1, f2, f3, f4⟩ := js_fforget 1997 h53 h54 (by omega) (by omega)
    have h64 : M6 11 4 = (B : Int) := (f2 11 4 (by decide)).trans h54
    rw [show ja_x true 1999 61 [jr 93] M5 = _ from f1, jz_bV, js_bands 1998, jz_bI, h64] at hX
    -- cells that stay, up to here
    have fr : ∀ c i, c ≠ 2 → ¬ (4 ≤ c ∧ c ≤ 8) → ¬ (11 ≤ c ∧ c ≤ 14) → ¬ (26 ≤ c ∧ c ≤ 33) → ¬ (c = 93 ∨ (95 ≤ c ∧ c ≤ 100)) → M6 c i = M c i := fun c i h1 h2 h3 h4 h5 => by
      rw [f2 c i h5, bf c i (fun e => h4 (by omega)), r2 c i (fun e => h4 (by have : 26 ≤ c ∧ c ≤ 32 := e; omega)), af c i h1 h3]
      exact g2 c i h2
    -- the other side
    obtain ⟨N1, k1, k2, k3⟩ := js_R_hunt 1993 hT (hn_tr (M1 := M6) hT (fr 137 2 (by omega) (by omega) (by omega) (by omega) (by omega)) (fun i => fr 138 i (by omega) (by omega) (by omega) (by omega) (by omega)))
    have k3 := k3 ok
    rw [hres, eP, eB] at k3
    obtain ⟨⟨q1, q2, q3, q4⟩, q5, q6⟩ := k3
    obtain ⟨N2, w1, w2, ⟨w3, w4, w5, w6⟩, ⟨w7, w8, w9⟩, w10, w11, w12⟩ := js_takeHunt 1998 (M := ja_up N1 137 2 0) (P := P) q1 (by omega)
    have hR := f_R_text 1999 0 M6
    rw [if_pos rfl, show ja_x true 1999 206 [jr 137] M6 = _ from k1, jz_bI, if_pos ok, show ja_x true 1999 236 [jr 137] (ja_up N1 137 2 0) = _ from w1, jz_bI, show (ja_up N1 137 2 0) 137 21 = (B : Int) from q2] at hR
    have fin : ∀ c i, ¬ (148 ≤ c ∧ c ≤ 155) → c ≠ 137 → N2 c i = M6 c i := fun c i h1 h2 => by
      rw [w2 c i (fun e => h1 (by omega)) (fun e => h2 e.1), jb_up_ne h2]
      exact k2 c i (fun e => h1 (by omega)) (fun e => h2 e.1)
    have fin137 : ∀ i, ¬ (i = 2 ∨ i = 3 ∨ i = 4 ∨ (20 ≤ i ∧ i ≤ 23) ∨ (27 ≤ i ∧ i ≤ 30) ∨ i = 35 ∨ i = 43 ∨ i = 57) → N2 137 i = M 137 i := fun i h => by
      rw [w2 137 i (by omega) (fun e => h (by omega)), jb_up_nej (fun e => h (by omega)), k2 137 i (by omega) (fun e => h (by omega))]
      exact fr 137 i (by omega) (by omega) (by omega) (by omega) (by omega)
    have n3 : N2 11 3 = (P : Int) := (fin 11 3 (by omega) (by decide)).trans ((f2 11 3 (by decide)).trans h53)
    have n4 : N2 11 4 = (B : Int) := (fin 11 4 (by omega) (by decide)).trans h64
    have n11 : ∀ i, N2 11 i = M3 11 i := fun i => (fin 11 i (by omega) (by decide)).trans ((f2 11 i (by decide)).trans ((bf 11 i (by decide)).trans (r2 11 i (by decide))))
    have nxs : ∀ c i, (c = 12 ∨ c = 13 ∨ c = 14) → N2 c i = M3 c i := fun c i h => (fin c i (by omega) (by omega)).trans ((f2 c i (fun e => by have : c = 93 ∨ (95 ≤ c ∧ c ≤ 100) := e; omega)).trans ((bf c i (by omega)).trans (r2 c i (fun e => by have : 26 ≤ c ∧ c ≤ 32 := e; omega))))
    have n26 : ∀ c i, 26 ≤ c ∧ c ≤ 32 → N2 c i = M4 c i := fun c i h => (fin c i (by omega) (by omega)).trans ((f2 c i (fun e => by have : c = 93 ∨ (95 ≤ c ∧ c ≤ 100) := e; omega)).trans (bf c i (by omega)))
    have n33 : ∀ i, N2 33 i = M5 33 i := fun i => (fin 33 i (by omega) (by decide)).trans (f2 33 i (by decide))
    refine ⟨(B : Int), M6, N2, hX, hR, ⟨⟨?_, ?_, ?_⟩, ⟨?_, ?_, ?_⟩, ?_, ?_, ?_⟩, jrm.same (fun i => (fin 0 i (by omega) (by decide)).trans (fr 0 i (by omega) (by omega) (by omega) (by omega) (by omega))) ?_⟩
    · -- the tapes
      have e : N2 2 1 = 0 := (fin 2 1 (by omega) (by decide)).trans ((f2 2 1 (by decide)).trans ((bf 2 1 (by decide)).trans ((r2 2 1 (by decide)).trans a21)))
      have e2 : N2 137 2 = 0 := (w2 137 2 (by omega) (by omega)).trans jb_up_eq
      refine ⟨by rw [e]; omega, by rw [e, e2], fun j hj => ?_⟩
      rw [e] at hj
      omega
    · -- the hunt
      refine ⟨Or.inr ?_, ?_, fun j hj => ?_, fun j hj => ?_⟩
      · rw [n11, n11, n11, n11, a3, a4, a5, a6]
        omega
      · rw [w3, w4, w5, w6, n3, n4, n11, n11, a5, a6]
        exact ⟨q1, q2, q3, q4⟩
      · rw [n3] at hj
        obtain ⟨x1, x2, -⟩ := ax j (by omega)
        obtain ⟨y1, y2⟩ := w10 j (by omega)
        obtain ⟨z1, z2⟩ := q5 j (by omega)
        rw [y1, y2, nxs 12 j (by omega), nxs 13 j (by omega), x1, x2]
        exact ⟨⟨z1, z2⟩, d5 j (by omega)⟩
      · rw [n4] at hj
        obtain ⟨-, -, x3⟩ := ax j (by omega)
        rw [(w11 j (by omega)).1, nxs 14 j (by omega), x3]
        exact ⟨q6 j (by omega), d6 j (by omega)⟩
    · -- the orders
      refine ⟨fun b t hb ht => ?_, fun b t u hb ht hu => ?_, fun b hb => ?_⟩
      · rw [n4] at hb
        rw [n3] at ht
        rw [n26 (26 + b) t (by omega), r3 b t (by omega) (by omega), w12 b t (by omega) (by omega), n3]
        exact ⟨rfl, (hv_o_perm (P := P) (b := b) (by omega)).1 t ht⟩
      · rw [n4] at hb
        rw [n3] at ht hu
        rw [n26 (26 + b) t (by omega), r3 b t (by omega) (by omega), n26 (26 + b) u (by omega), r3 b u (by omega) (by omega)]
        exact (hv_o_perm (P := P) (b := b) (by omega)).2 t u ht hu
      · rw [n4] at hb
        rw [(w11 b (by omega)).2, n26 32 b (by omega), r4 b (by omega)]
        omega
    · -- the worths
      refine hW.kp (fun c i q => ?_)
      have bad : ∀ c, (c = 2 ∨ c = 4 ∨ c = 5 ∨ c = 6 ∨ c = 7 ∨ c = 8 ∨ c = 11 ∨ c = 12 ∨ c = 13 ∨ c = 14 ∨ c = 26 ∨ c = 27 ∨ c = 28 ∨ c = 29 ∨ c = 30 ∨ c = 31 ∨ c = 32 ∨ c = 33 ∨ c = 93 ∨ c = 95 ∨ c = 96 ∨ c = 97 ∨ c = 98 ∨ c = 99 ∨ c = 100 ∨ c = 148 ∨ c = 149 ∨ c = 150 ∨ c = 151 ∨ c = 152 ∨ c = 153 ∨ c = 154 ∨ c = 155) → kW c i = false := fun c h => by
        rcases h with rfl | rfl | rfl | rfl | rfl | rfl | rfl | rfl | rfl | rfl | rfl | rfl | rfl | rfl | rfl | rfl | rfl | rfl | rfl | rfl | rfl | rfl | rfl | rfl | rfl | rfl | rfl | rfl | rfl | rfl | rfl | rfl | rfl <;> rfl
      have nb : ¬ (c = 2 ∨ c = 4 ∨ c = 5 ∨ c = 6 ∨ c = 7 ∨ c = 8 ∨ c = 11 ∨ c = 12 ∨ c = 13 ∨ c = 14 ∨ c = 26 ∨ c = 27 ∨ c = 28 ∨ c = 29 ∨ c = 30 ∨ c = 31 ∨ c = 32 ∨ c = 33 ∨ c = 93 ∨ c = 95 ∨ c = 96 ∨ c = 97 ∨ c = 98 ∨ c = 99 ∨ c = 100 ∨ c = 148 ∨ c = 149 ∨ c = 150 ∨ c = 151 ∨ c = 152 ∨ c = 153 ∨ c = 154 ∨ c = 155) := fun h => by
        rw [bad c h] at q
        cases q
      by_cases z : c = 137
      · subst z
        refine fin137 i (fun h => ?_)
        have q : (Nat.beq i 13 || Nat.beq i 33) = true := q
        rw [Bool.or_eq_true] at q
        rcases q with q | q
        · have := Nat.eq_of_beq_eq_true q
          omega
        · have := Nat.eq_of_beq_eq_true q
          omega
      · rw [fin c i (by omega) z]
        exact fr c i (by omega) (by omega) (by omega) (by omega) (by omega)
    · -- the acts
      have e3 : N2 33 3 = M 33 3 := (n33 3).trans (b3.trans ((r2 33 3 (by decide)).trans ((af 33 3 (by decide) (by omega)).trans (g2 33 3 (by decide)))))
      have e4 : N2 33 4 = 0 := (n33 4).trans b4
      refine ⟨by rw [e3]; exact hP.1, by rw [e4]; omega, by rw [e4, w7], fun k b hk hb => ?_⟩
      rw [e4] at hk
      omega
    · -- the image
      have e7 : N2 33 7 = 0 := (n33 7).trans b7
      refine ⟨Or.inl e7, by rw [e7, w9], fun q => ?_⟩
      rw [e7] at q
      omega
    · -- the finds
      have e3 : N2 93 3 = 0 := (fin 93 3 (by omega) (by decide)).trans f3.1
      refine ⟨by rw [e3]; omega, by rw [e3, w8], fun k hk => ?_, fun b t hb ht => ?_⟩
      · rw [e3] at hk
        omega
      · rw [n4] at hb
        rw [n3] at ht
        rw [fin (95 + b) t (by omega) (by omega), f4 b t (by omega) (by omega), n3, show ((P : Int)).toNat = P from rfl, show jv_left N2 b t = fun _ => true from funext fun p => by
          unfold jv_left
          rw [e3]
          rfl, jv_set_true]
    · -- the tables' row
      unfold jFl
      rw [fin 93 4 (by omega) (by decide), f3.2.2, bf 93 4 (by decide), r2 93 4 (by decide), af 93 4 (by decide) (by omega), g2 93 4 (by decide), fin 0 0 (by omega) (by decide), fr 0 0 (by omega) (by omega) (by omega) (by omega) (by omega)]
      exact hL
    · -- known tables
      have e5 : N2 93 5 = 0 := (fin 93 5 (by omega) (by decide)).trans f3.2.1
      refine ⟨Or.inl e5, fun q => ?_⟩
      rw [e5] at q
      omega
    · rw [fin 93 4 (by omega) (by decide), f3.2.2, bf 93 4 (by decide), r2 93 4 (by decide), af 93 4 (by decide) (by omega), g2 93 4 (by decide)]
  · rw [if_neg ok, if_neg (by decide)] at hX
    obtain ⟨N', k1, k2, -⟩ := js_R_hunt 1993 hT (hn_tr hT (kk 137 2 rfl) (fun i => kk 138 i rfl))
    have hR := f_R_text 1999 0 (atX (hn_res M).2 r)
    rw [if_pos rfl, show ja_x true 1999 206 [jr 137] (atX (hn_res M).2 r) = _ from k1, jz_bI, if_neg ok, if_neg (by decide)] at hR
    exact ⟨-1, _, N', hX, hR, hJ0.kp (kk.tr k2.K), jrm.same (fun i => (k2 0 i (by omega) (by omega)).trans ((jb_up_ne (by decide)).trans (g2 0 i (by decide)))) ((kk.tr k2.K) 93 4 rfl)⟩
