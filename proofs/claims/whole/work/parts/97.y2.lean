/-! text of worths -/
theorem jk_ckC {M : ja_M} : ∀ k, k < 4 → ja_ckC true M 10 (16 + 1 + k) [] = true := by
  intro k hk
  rcases k with _ | _ | _ | _ | k
  · rfl
  · rfl
  · rfl
  · rfl
  · omega
theorem js_keep (dd : Nat) {M : ja_M} {k b : Nat} (hk : M 15 4 = (k : Int)) (h4 : k < 4) (hb : b ≤ 160) : ja_x true (dd + 1) 65 [jr 15, jr 10, ji (b : Int)] M = some (some (ji (k : Int)), ja_up (ja_up (ja_cpy M 10 0 (17 + k) 0 b) 21 k (b : Int)) 15 4 ((k : Int) + 1)) := by
  have e1 : (ja_cpy M 10 0 (17 + k) 0 b) 15 4 = (k : Int) := by
    unfold ja_cpy
    rw [if_neg (fun q => by omega)]
    exact hk
  have e2 : (ja_up (ja_cpy M 10 0 (17 + k) 0 b) 21 k (b : Int)) 15 4 = (k : Int) := (jb_up_ne (by decide)).trans e1
  have kd : ja_kd (17 + k) = (100, 160) := jk_17k k h4
  rw [f_Worths_keep, hk, if_pos (by omega), if_neg (by omega), jz_aln (n := 160) rfl (by decide) (by decide), if_neg (by omega), if_neg (by omega), if_pos (by omega), show ((k : Int)).toNat = k from rfl, jk_ckC k h4, cond_true, show 16 + 1 + k = 17 + k by omega, kd, show ((b : Int)).toNat = b from rfl, if_pos (by
    show 0 ≤ (b : Int) ∧ 0 ≤ (0 : Int) ∧ 0 ≤ (0 : Int) ∧ (0 : Int) + (b : Int) ≤ 160 ∧ (0 : Int) + (b : Int) ≤ 160
    omega), e1, if_pos (by omega), show ((k : Int)).toNat = k from rfl, e2, ja_w_id (x := (k : Int) + 1) (by omega) (by omega), jb_up_eq, ja_w_id (x := (k : Int) + 1 - 1) (by omega) (by omega), show (k : Int) + 1 - 1 = (k : Int) by omega]
theorem jy_text1 : jOp (jy_E 54 [jr 1, ji 1]) (jy_E 235 [jr 137, ji 1]) := by
  intro M hJ
  have hJ0 := hJ
  obtain ⟨⟨hT, hH, hO⟩, ⟨hW, hP, hI⟩, hF, hL, hB⟩ := hJ
  have hW0 := hW
  obtain ⟨hw1, hw2, hw3, hw4, hw5⟩ := hW
  have hT1 := hT.1
  have hX := f_X_text 1999 1 M
  have hRm : ∀ N, jy_E 235 [jr 137, ji 1] N = if N 137 13 < 4 then ja_bI (ja_x true 1999 217 [jr 137, ji (N 137 13)] N) (fun x8 M7 => if x8 = (-1) then some (some (ji (ja_w (((ja_up (ja_up M7 137 2 0) 137 13 (ja_w (((ja_up M7 137 2 0) 137 13) + 1))) 137 13) - 1))), ja_up (ja_up M7 137 2 0) 137 13 (ja_w (((ja_up M7 137 2 0) 137 13) + 1))) else some (some (ji (-1)), M7)) else some (some (ji (-1)), N) := fun N => by
    have := f_R_text 1999 1 N
    rw [if_neg (by decide), if_pos rfl] at this
    exact this
  rw [if_neg (by decide), if_pos rfl, f_Worths_hasRoom 1998] at hX
  obtain ⟨k, hk⟩ : ∃ k : Nat, M 15 4 = (k : Int) := ⟨(M 15 4).toNat, by omega⟩
  by_cases room : M 15 4 < 4
  · obtain ⟨ws, r, g1, g2⟩ := js_X_worth 1937 hT
    have h13 : M 137 13 = (k : Int) := hw2.trans hk
    rw [if_pos room, jz_bI, if_neg (by decide), show ja_x true 1999 39 [jr 9] M = _ from g1, jz_bI] at hX
    have fx : ∀ c i, c ≠ 2 → c ≠ 9 → c ≠ 10 → (atX (wM M ws) r) c i = M c i := fun c i a b d => wM_fr (fun e => a e.1) (fun e => b e.1) d
    cases e : (wr_res M).2 with
    | none =>
      have an : wr_ans (wr_res M) = ((wr_res M).1 : Int) := by
        unfold wr_ans
        rw [e]
      rw [an, if_neg (by omega)] at hX
      obtain ⟨N', k1, k2, -⟩ := js_R_worth 1937 (t := k) hT (hn_tr hT (fx 137 2 (by decide) (by decide) (by decide)) (fun i => fx 138 i (by decide) (by decide) (by decide))) (by omega)
      have m13 : (atX (wM M ws) r) 137 13 = (k : Int) := h13
      have hR := hRm (atX (wM M ws) r)
      rw [m13, if_pos (by omega), show ja_x true 1999 217 [jr 137, ji (k : Int)] (atX (wM M ws) r) = _ from k1, jz_bI, an, if_neg (by omega)] at hR
      have fr : ∀ c i, c ≠ 2 → c ≠ 9 → c ≠ 10 → ¬ (c = 137 ∧ (i = 3 ∨ i = 4 ∨ i = 5 ∨ i = 14)) → ¬ ((c = 139 ∨ c = 140) ∧ (340 * k ≤ i ∧ i < 340 * k + 340)) → ¬ ((c = 141 ∨ c = 142) ∧ i = k) → ¬ ((143 ≤ c ∧ c ≤ 145) ∧ (90 * k ≤ i ∧ i < 90 * k + 90)) → N' c i = M c i := fun c i a b d x1 x2 x3 x4 => (k2 c i x1 x2 x3 x4).trans (fx c i a b d)
      have e21 : N' 2 1 = M 2 1 := (k2 2 1 (by omega) (by omega) (by omega) (by omega)).trans (wM_fr (by omega) (by omega) (by decide))
      refine ⟨-1, _, N', hX, hR, jJ_tx hJ0 (fun c i a b => fr c i (by omega) (by omega) (by omega) (by omega) (by omega) (by omega) (by omega)) ?_ ?_, jrm.same (fun i => fr 0 i (by omega) (by omega) (by omega) (by omega) (by omega) (by omega) (by omega)) (fr 93 4 (by omega) (by omega) (by omega) (by omega) (by omega) (by omega) (by omega))⟩
      · refine ⟨by rw [e21]; exact hT.1, ?_, fun j hj => ?_⟩
        · rw [fr 137 2 (by omega) (by omega) (by omega) (by omega) (by omega) (by omega) (by omega), e21]
          exact hT.2.1
        · rw [e21] at hj
          rw [fr 138 j (by omega) (by omega) (by omega) (by omega) (by omega) (by omega) (by omega), fr 3 j (by omega) (by omega) (by omega) (by omega) (by omega) (by omega) (by omega)]
          exact hT.2.2 j hj
      · have q4 : N' 15 4 = M 15 4 := fr 15 4 (by omega) (by omega) (by omega) (by omega) (by omega) (by omega) (by omega)
        have q5 : N' 15 5 = M 15 5 := fr 15 5 (by omega) (by omega) (by omega) (by omega) (by omega) (by omega) (by omega)
        refine ⟨by rw [q4]; exact hw1, by rw [q4, fr 137 13 (by omega) (by omega) (by omega) (by omega) (by omega) (by omega) (by omega)]; exact hw2, by rw [q4, q5]; exact hw3, by rw [q5, fr 137 33 (by omega) (by omega) (by omega) (by omega) (by omega) (by omega) (by omega)]; exact hw4, fun j hj => ?_⟩
        rw [q4] at hj
        obtain ⟨cs, hc⟩ := hw5 j hj
        exact ⟨cs, jw_at_row (k := k) hc (by omega) (fun i hi => ⟨fr 139 i (by omega) (by omega) (by omega) (by omega) (by omega) (by omega) (by omega), fr 140 i (by omega) (by omega) (by omega) (by omega) (by omega) (by omega) (by omega)⟩) (fun i hi => ⟨fr 143 i (by omega) (by omega) (by omega) (by omega) (by omega) (by omega) (by omega), fr 144 i (by omega) (by omega) (by omega) (by omega) (by omega) (by omega) (by omega), fr 145 i (by omega) (by omega) (by omega) (by omega) (by omega) (by omega) (by omega)⟩) (fr 142 j (by omega) (by omega) (by omega) (by omega) (by omega) (by omega) (by omega)) (fr 21 j (by omega) (by omega) (by omega) (by omega) (by omega) (by omega) (by omega)) (fun i => fr (17 + j) i (by omega) (by omega) (by omega) (by omega) (by omega) (by omega) (by omega))⟩
    | some cs =>
      have an : wr_ans (wr_res M) = -1 := by
        unfold wr_ans
        rw [e]
      have ewords := g2 cs e
      have ok : wSok (M 2 1).toNat cs := (wr_text_ok (T := M 3) (n := (M 2 1).toNat) ((M 2 1).toNat + 1) 0 [] (Nat.zero_le _) wSok_0).2 cs e
      obtain ⟨o1, o2, o3, o4⟩ := ok
      have wl : ws.length ≤ 160 := by
        rw [ewords]
        omega
      have cut : ja_x true 1999 18 [jr 2, ji 0] (atX (wM M ws) r) = some (some (ji 1), ja_up (atX (wM M ws) r) 2 1 0) := by
        have e21 : (atX (wM M ws) r) 2 1 = M 2 1 := wM_fr (by omega) (by omega) (by decide)
        rw [f_Tape_cut 1998, if_neg (by decide), e21, if_neg (by omega)]
      have m92 : (ja_up (atX (wM M ws) r) 2 1 0) 9 2 = (ws.length : Int) := rfl
      have m154 : (ja_up (atX (wM M ws) r) 2 1 0) 15 4 = (k : Int) := hk
      rw [an, if_pos rfl, cut, jz_bI, f_WorthReader_code 1998, jz_bR, jk_ck rfl rfl rfl, cond_true, f_WorthReader_size 1998, jz_bI, m92, jk_ck rfl rfl rfl, cond_true, js_keep 1998 m154 (by omega) wl, jz_bI] at hX
      have m3 : ∃ M3, M3 = ja_up (ja_up (ja_cpy (ja_up (atX (wM M ws) r) 2 1 0) 10 0 (17 + k) 0 ws.length) 21 k (ws.length : Int)) 15 4 ((k : Int) + 1) ∧ M3 15 4 = (k : Int) + 1 ∧ M3 2 1 = 0 ∧ M3 21 k = (ws.length : Int) ∧ (∀ j, j ≠ k → M3 21 j = M 21 j) ∧ (∀ i, i < ws.length → M3 (17 + k) i = ws.getD i 0) ∧ (∀ j i, j < k → M3 (17 + j) i = M (17 + j) i) ∧ M3 15 5 = M 15 5 ∧ ∀ c i, c ≠ 2 → c ≠ 9 → c ≠ 10 → c ≠ 15 → c ≠ 21 → c ≠ 17 + k → M3 c i = M c i := by
        have base : ∀ c i, c ≠ 2 → c ≠ 9 → c ≠ 10 → c ≠ 15 → c ≠ 21 → c ≠ 17 + k → (ja_up (ja_up (ja_cpy (ja_up (atX (wM M ws) r) 2 1 0) 10 0 (17 + k) 0 ws.length) 21 k (ws.length : Int)) 15 4 ((k : Int) + 1)) c i = M c i := fun c i a b d x y z => by
          rw [jb_up_ne x, jb_up_ne y]
          unfold ja_cpy
          rw [if_neg (fun q => z q.1), jb_up_ne a]
          exact fx c i a b d
        refine ⟨_, rfl, jb_up_eq, ?_, ?_, fun j hj => ?_, fun i hi => ?_, fun j i hj => base (17 + j) i (by omega) (by omega) (by omega) (by omega) (by omega) (by omega), ?_, base⟩
        · rw [jb_up_ne (by decide), jb_up_ne (by decide)]
          unfold ja_cpy
          rw [if_neg (fun q => by omega), jb_up_eq]
        · rw [jb_up_ne (by decide), jb_up_eq]
        · rw [jb_up_ne (by decide), jb_up_nej hj]
          unfold ja_cpy
          rw [if_neg (fun q => by omega), jb_up_ne (by decide)]
          exact fx 21 j (by decide) (by decide) (by decide)
        · rw [jb_up_ne (by omega), jb_up_ne (by omega)]
          unfold ja_cpy
          rw [if_pos ⟨rfl, by omega, by omega⟩, Nat.sub_zero, Nat.zero_add, jb_up_ne (by decide)]
          show ja_up (wM M ws) 2 2 (r : Int) 10 i = _
          rw [jb_up_ne (by decide)]
          unfold wM
          rw [if_neg (fun q => by omega), if_pos ⟨rfl, hi⟩]
        · rw [jb_up_nej (by decide), jb_up_ne (by decide)]
          unfold ja_cpy
          rw [if_neg (fun q => by omega), jb_up_ne (by decide)]
          exact fx 15 5 (by decide) (by decide) (by decide)
      obtain ⟨M3, e3, a1, a2, a3, a4, a5, a6, a7, a8⟩ := m3
      rw [← e3] at hX
      clear e3
      obtain ⟨N', k1, k2, k3⟩ := js_R_worth 1937 (t := k) (M1 := M3) hT (hn_tr hT (a8 137 2 (by decide) (by decide) (by decide) (by decide) (by decide) (by omega)) (fun i => a8 138 i (by decide) (by decide) (by decide) (by decide) (by decide) (by omega))) (by omega)
      obtain ⟨N2, q, z1, z2, z3, z4⟩ := k3 cs e
      have m13 : M3 137 13 = (k : Int) := (a8 137 13 (by decide) (by decide) (by decide) (by decide) (by decide) (by omega)).trans h13
      have n13 : N' 137 13 = (k : Int) := (k2 137 13 (by omega) (by omega) (by omega) (by omega)).trans m13
      have hR := hRm M3
      have p13 : (ja_up N' 137 2 0) 137 13 = (k : Int) := (jb_up_nej (by decide)).trans n13
      rw [m13, if_pos (by omega), show ja_x true 1999 217 [jr 137, ji (k : Int)] M3 = _ from k1, jz_bI, an, if_pos rfl, p13, ja_w_id (x := (k : Int) + 1) (by omega) (by omega), jb_up_eq, ja_w_id (x := (k : Int) + 1 - 1) (by omega) (by omega), show (k : Int) + 1 - 1 = (k : Int) by omega] at hR
      have fin : ∀ c i, ¬ (c = 137 ∧ (i = 2 ∨ i = 3 ∨ i = 4 ∨ i = 5 ∨ i = 13 ∨ i = 14)) → ¬ ((c = 139 ∨ c = 140) ∧ (340 * k ≤ i ∧ i < 340 * k + 340)) → ¬ ((c = 141 ∨ c = 142) ∧ i = k) → ¬ ((143 ≤ c ∧ c ≤ 145) ∧ (90 * k ≤ i ∧ i < 90 * k + 90)) → (ja_up (ja_up N' 137 2 0) 137 13 ((k : Int) + 1)) c i = M3 c i := fun c i x1 x2 x3 x4 => by
        rw [jz_up, if_neg (fun e => x1 (by omega)), jz_up, if_neg (fun e => x1 (by omega))]
        exact k2 c i (fun e => x1 (by omega)) x2 x3 x4
      have ncell : ∀ c i, c ≠ 137 → (ja_up (ja_up N' 137 2 0) 137 13 ((k : Int) + 1)) c i = N' c i := fun c i h => (jb_up_ne h).trans (jb_up_ne h)
      have c2 : (ja_up (ja_up N' 137 2 0) 137 13 ((k : Int) + 1)) 137 2 = 0 := (jb_up_nej (by decide)).trans jb_up_eq
      have c13 : (ja_up (ja_up N' 137 2 0) 137 13 ((k : Int) + 1)) 137 13 = (k : Int) + 1 := jb_up_eq
      generalize (ja_up (ja_up N' 137 2 0) 137 13 ((k : Int) + 1)) = N3 at hR fin ncell c2 c13
      have e21 : N3 2 1 = 0 := (fin 2 1 (by omega) (by omega) (by omega) (by omega)).trans a2
      refine ⟨(k : Int), M3, N3, hX, hR, jJ_tx hJ0 (fun c i x y => (fin c i (fun e => y (by omega)) (by omega) (by omega) (by omega)).trans (a8 c i (by omega) (by omega) (by omega) (by omega) (by omega) (by omega))) ?_ ?_, jrm.same (fun i => (fin 0 i (by omega) (by omega) (by omega) (by omega)).trans (a8 0 i (by omega) (by omega) (by omega) (by omega) (by omega) (by omega))) ((fin 93 4 (by omega) (by omega) (by omega) (by omega)).trans (a8 93 4 (by omega) (by omega) (by omega) (by omega) (by omega) (by omega)))⟩
      · refine ⟨by rw [e21]; omega, by rw [e21, c2], fun j hj => ?_⟩
        rw [e21] at hj
        omega
      · have q4 : N3 15 4 = (k : Int) + 1 := (fin 15 4 (by omega) (by omega) (by omega) (by omega)).trans a1
        have q5 : N3 15 5 = M 15 5 := (fin 15 5 (by omega) (by omega) (by omega) (by omega)).trans a7
        have q33 : N3 137 33 = M 137 33 := (fin 137 33 (by omega) (by omega) (by omega) (by omega)).trans (a8 137 33 (by omega) (by omega) (by omega) (by omega) (by omega) (by omega))
        refine ⟨by rw [q4]; omega, by rw [q4, c13], by rw [q4, q5]; omega, by rw [q5, q33]; exact hw4, fun j hj => ?_⟩
        rw [q4] at hj
        by_cases z : j = k
        · subst z
          refine ⟨cs, ⟨o1, by omega, by omega⟩, ⟨?_, ?_⟩, ?_, by omega, fun i x hx => ?_⟩
          · rw [ncell 142 j (by decide), z1]
            show (ja_up (rM N2 j 0 (wflat cs)) 137 3 (q : Int)) 142 j = _
            rw [jb_up_ne (by decide)]
            unfold rM
            rw [if_neg (fun e => by omega), if_neg (fun e => by omega), if_neg (fun e => by omega), if_neg (fun e => by omega)]
            exact z2
          · have base := rM_mod (N := N2) (t := j) (d := 0) cs [] (wflat cs) 0 z3 rfl
            have sm : ∀ c i, c ≠ 137 → N3 c i = (rM N2 j 0 (wflat cs)) c i := fun c i h => by
              rw [ncell c i h, z1]
              exact jb_up_ne h
            exact jw_mod_congr cs 0 0 (fun i _ _ => ⟨sm _ _ (by decide), sm _ _ (by decide)⟩) (fun i _ _ => ⟨sm _ _ (by decide), sm _ _ (by decide), sm _ _ (by decide)⟩) base
          · rw [fin 21 j (by omega) (by omega) (by omega) (by omega), a3, ewords]
          · rw [fin (17 + j) i (by omega) (by omega) (by omega) (by omega)]
            have hi : i < ws.length := by
              rw [ewords]
              exact (List.getElem?_eq_some_iff.mp hx).1
            rw [a5 i hi, ewords, List.getD_eq_getElem?_getD, hx]
            rfl
        · obtain ⟨ds, hc⟩ := hw5 j (by omega)
          refine ⟨ds, jw_at_row (k := k) hc (by omega) (fun i hi => ⟨?_, ?_⟩) (fun i hi => ⟨?_, ?_, ?_⟩) ?_ ?_ (fun i => ?_)⟩
          · exact (fin 139 i (by omega) (by omega) (by omega) (by omega)).trans (a8 139 i (by omega) (by omega) (by omega) (by omega) (by omega) (by omega))
          · exact (fin 140 i (by omega) (by omega) (by omega) (by omega)).trans (a8 140 i (by omega) (by omega) (by omega) (by omega) (by omega) (by omega))
          · exact (fin 143 i (by omega) (by omega) (by omega) (by omega)).trans (a8 143 i (by omega) (by omega) (by omega) (by omega) (by omega) (by omega))
          · exact (fin 144 i (by omega) (by omega) (by omega) (by omega)).trans (a8 144 i (by omega) (by omega) (by omega) (by omega) (by omega) (by omega))
          · exact (fin 145 i (by omega) (by omega) (by omega) (by omega)).trans (a8 145 i (by omega) (by omega) (by omega) (by omega) (by omega) (by omega))
          · exact (fin 142 j (by omega) (by omega) (by omega) (by omega)).trans (a8 142 j (by omega) (by omega) (by omega) (by omega) (by omega) (by omega))
          · exact (fin 21 j (by omega) (by omega) (by omega) (by omega)).trans (a4 j z)
          · exact (fin (17 + j) i (by omega) (by omega) (by omega) (by omega)).trans (a6 j i (by omega))
  · rw [if_neg room, jz_bI, if_pos rfl] at hX
    have hR := hRm M
    rw [hw2, if_neg room] at hR
    exact ⟨-1, M, M, hX, hR, hJ0, jrm.same (fun _ => rfl) rfl⟩
theorem jy_p3 : jy_o3 := by
  intro a _
  by_cases h0 : a = 0
  · subst h0
    exact jy_text0
  · by_cases h1 : a = 1
    · subst h1
      exact jy_text1
    · refine jOp.pure (fun M _ => ⟨-1, ?_, ?_⟩)
      · have := f_X_text 1999 a M
        rw [if_neg h0, if_neg h1] at this
        exact this
      · have := f_R_text 1999 a M
        rw [if_neg h0, if_neg h1] at this
        exact this
