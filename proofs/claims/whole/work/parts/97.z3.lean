/-! tables: the other side's answer -/
theorem js_R_tables {M : ja_M} (hH : jH M) (hF : jFi M) {P B f : Nat} (hP : M 11 3 = (P : Int)) (hB : M 11 4 = (B : Int)) (hf : M 11 5 = (f : Int)) (hB1 : 1 ≤ B ∧ B ≤ 5) (hP5 : P ≤ 5) {a b : Int} (ha : -1 ≤ a) (hab : a = -1 ∨ (0 ≤ b ∧ b < M 11 4)) : ∃ (bb : Nat) (N' : ja_M), (a ≠ -1 → (bb : Int) = b) ∧ ja_x true 2000 288 [jr 137, ji a, ji b] M = some (some (ji (if a = -1 then ((min (jv_tables M).length 1000 : Nat) : Int) else tfnd a bb 0 (jv_tables M) (-1))), N') ∧ jK M N' ∧ ∀ i, N' 0 i = M 0 i := by
  have hb := hH.b
  obtain ⟨N1, y1, y2, y3, y4, y5⟩ := js_layOrders 1990 hH
  rw [show (M 11 3).toNat = P by omega] at y3 y4 y5
  have st := f_R_tables 1999 a b M
  rw [hH.2.1.2.1, hH.2.1.1, if_neg (by omega), if_neg (by omega), if_neg (by omega), if_neg (by omega)] at st
  have st2 : ja_x true 2000 288 [jr 137, ji a, ji b] M = ja_D true (ja_x true 1999) k_R_tables 29 [some (jr 137), some (ji a), some (ji b), some (ji 0)] [] N1 := by
    rw [show ja_x true 2000 288 [jr 137, ji a, ji b] M = _ from st]
    by_cases q : a = -1
    · rw [if_pos q, show ja_x true 1999 280 [jr 137] M = _ from y1, jz_bV]
    · have hbd : 0 ≤ b ∧ b < M 11 4 := by
        rcases hab with h | h
        · exact absurd h q
        · exact h
      rw [if_neg q, js_isBand 1997 b hH, jz_bI, jz_b0, if_pos hbd, show ja_x true 1999 280 [jr 137] M = _ from y1, jz_bV]
  -- the rows are kept
  have copy : ∀ (m j : Nat) (N : ja_M), j + m = 36 → (∀ c i, c ≠ 163 → N c i = N1 c i) → (∀ i, i < j → N 163 i = N1 154 i) → ∃ N', ja_D true (ja_x true 1999) k_R_tables 29 [some (jr 137), some (ji a), some (ji b), some (ji (j : Int))] [] N = ja_D true (ja_x true 1999) k_R_tables 29 [some (jr 137), some (ji a), some (ji b), some (ji 36)] [] N' ∧ (∀ c i, c ≠ 163 → N' c i = N1 c i) ∧ ∀ i, i < 36 → N' 163 i = N1 154 i := by
    intro m
    induction m with
    | zero =>
      intro j N e h1 h2
      have : j = 36 := by omega
      subst this
      exact ⟨N, rfl, h1, h2⟩
    | succ m ih =>
      intro j N e h1 h2
      obtain ⟨N', g1, g2⟩ := ih (j + 1) (ja_up N 163 j (N 154 j)) (by omega) (fun c i h => (jb_up_ne h).trans (h1 c i h)) (fun i hi => by
        by_cases z : i = j
        · rw [z, jb_up_eq]
          exact h1 154 j (by decide)
        · rw [jb_up_nej z]
          exact h2 i (by omega))
      refine ⟨N', ?_, g2⟩
      rw [e_R_tables_29, if_pos (by omega), if_pos (by omega), if_pos (by omega), show ((j : Int)).toNat = j from rfl, ja_w_id (by omega) (by omega)]
      exact g1
  obtain ⟨N2, c1, c2, c3⟩ := copy 36 0 N1 rfl (fun _ _ _ => rfl) (fun i hi => absurd hi (Nat.not_lt_zero _))
  have st3 := st2.trans c1
  -- the search
  have fr2 : ∀ c i, c ≠ 163 → c ≠ 158 → ¬ (c = 137 ∧ i = 38) → N2 c i = M c i := fun c i x y z => (c2 c i x).trans (y2 c i y z)
  obtain ⟨bb, hbb, hbe⟩ : ∃ bb : Nat, bb < B ∧ ((0 ≤ b ∧ b < M 11 4 → (bb : Int) = b) ∧ (¬ (0 ≤ b ∧ b < M 11 4) → bb = 0)) := by
    by_cases q : 0 ≤ b ∧ b < M 11 4
    · exact ⟨b.toNat, by omega, fun _ => by omega, fun w => absurd q w⟩
    · exact ⟨0, by omega, fun w => absurd w q, fun _ => rfl⟩
  have hHb : jH (ja_up (ja_up N2 137 44 0) 137 45 a) := hH.kp (fun c i q => by
    have h1 : ¬ (c = 137 ∧ (i = 44 ∨ i = 45 ∨ i = 38)) := fun e => by
      obtain ⟨rfl, e⟩ := e
      rcases e with rfl | rfl | rfl <;> cases q
    rw [jz_up, if_neg (fun e => h1 (by omega)), jz_up, if_neg (fun e => h1 (by omega))]
    exact fr2 c i (fun e => by subst e; cases q) (fun e => by subst e; cases q) (fun e => h1 (by omega)))
  have e4b : (ja_up (ja_up N2 137 44 0) 137 45 a) 11 4 = M 11 4 := fr2 11 4 (by decide) (by decide) (by omega)
  have st4 : ja_x true 2000 288 [jr 137, ji a, ji b] M = ja_bV (ja_x true 1999 289 [jr 137, ji 0] (ja_up (ja_up (ja_up (ja_up N2 137 44 0) 137 45 a) 137 46 (bb : Int)) 137 47 (-1))) (fun M3 => ja_D true (ja_x true 1999) k_R_tables 65 [some (jr 137), some (ji a), none, some (ji 0)] [] M3) := by
    rw [st3, e_R_tables_29, if_neg (by decide), js_isBand 1997 b hHb, jz_bI, jz_b0, e4b]
    by_cases q : 0 ≤ b ∧ b < M 11 4
    · rw [if_pos q, hbe.1 q]
    · rw [if_neg q, hbe.2 q]
      rfl
  have frb : ∀ c i, c ≠ 163 → c ≠ 158 → ¬ (c = 137 ∧ (i = 38 ∨ i = 44 ∨ i = 45 ∨ i = 46 ∨ i = 47)) → (ja_up (ja_up (ja_up (ja_up N2 137 44 0) 137 45 a) 137 46 (bb : Int)) 137 47 (-1)) c i = M c i := fun c i x y z => by
    rw [jz_up, if_neg (fun e => z (by omega)), jz_up, if_neg (fun e => z (by omega)), jz_up, if_neg (fun e => z (by omega)), jz_up, if_neg (fun e => z (by omega))]
    exact fr2 c i x y (fun e => z (by omega))
  have b44 : (ja_up (ja_up (ja_up (ja_up N2 137 44 0) 137 45 a) 137 46 (bb : Int)) 137 47 (-1)) 137 44 = ((0 : Nat) : Int) := rfl
  have b45 : (ja_up (ja_up (ja_up (ja_up N2 137 44 0) 137 45 a) 137 46 (bb : Int)) 137 47 (-1)) 137 45 = a := rfl
  have b46 : (ja_up (ja_up (ja_up (ja_up N2 137 44 0) 137 45 a) 137 46 (bb : Int)) 137 47 (-1)) 137 46 = (bb : Int) := rfl
  have b47 : (ja_up (ja_up (ja_up (ja_up N2 137 44 0) 137 45 a) 137 46 (bb : Int)) 137 47 (-1)) 137 47 = -1 := rfl
  have b38 : (ja_up (ja_up (ja_up (ja_up N2 137 44 0) 137 45 a) 137 46 (bb : Int)) 137 47 (-1)) 137 38 = (((jv_all P).length : Nat) : Int) := (c2 137 38 (by decide)).trans y3
  have b158 : ∀ i o, (jv_all P)[i]? = some o → (ja_up (ja_up (ja_up (ja_up N2 137 44 0) 137 45 a) 137 46 (bb : Int)) 137 47 (-1)) 158 i = jv_num o := fun i o h => (c2 158 i (by decide)).trans (y5 i o h)
  have b163 : ∀ i, i < 36 → (ja_up (ja_up (ja_up (ja_up N2 137 44 0) 137 45 a) 137 46 (bb : Int)) 137 47 (-1)) 163 i = M 154 i := fun i hi => (c3 i hi).trans (y2 154 i (by decide) (by omega))
  generalize (ja_up (ja_up (ja_up (ja_up N2 137 44 0) 137 45 a) 137 46 (bb : Int)) 137 47 (-1)) = Mb at st4 frb b44 b45 b46 b47 b38 b158 b163
  have kb : ∀ κ : Nat → Nat → Bool, (∀ i, κ 163 i = false) → (∀ i, κ 158 i = false) → (∀ i, (i = 38 ∨ i = 44 ∨ i = 45 ∨ i = 46 ∨ i = 47) → κ 137 i = false) → jKs κ M Mb := fun κ h1 h2 h3 c i q => frb c i (fun e => by
    subst e
    rw [h1] at q
    cases q) (fun e => by
    subst e
    rw [h2] at q
    cases q) (fun e => by
    obtain ⟨rfl, e⟩ := e
    rw [h3 i e] at q
    cases q)
  have kbH : jKs kH M Mb := kb kH (fun _ => rfl) (fun _ => rfl) (fun i e => by rcases e with rfl | rfl | rfl | rfl | rfl <;> rfl)
  have kbF : jKs kF M Mb := kb kF (fun _ => rfl) (fun _ => rfl) (fun i e => by rcases e with rfl | rfl | rfl | rfl | rfl <;> rfl)
  have kbB : jKs kB M Mb := kb kB (fun _ => rfl) (fun _ => rfl) (fun i e => by rcases e with rfl | rfl | rfl | rfl | rfl <;> rfl)
  have hHM := hH.kp kbH
  have hFM := hF.kp hH kbF
  have hPM : Mb 11 3 = (P : Int) := (kbH 11 3 rfl).trans hP
  have hBM : Mb 11 4 = (B : Int) := (kbH 11 4 rfl).trans hB
  have hfM : Mb 11 5 = (f : Int) := (kbH 11 5 rfl).trans hf
  obtain ⟨N3, k1, k2, k3, k4, k5⟩ := js_tablesFrom hHM hFM hPM hBM hfM hbb b45 b46 b38 b158 y4 (1995 - B) B [] Mb 0 (by rw [List.length_nil]; omega) (fun o ho => by cases ho) (fun _ _ _ _ => rfl) (fun i d h => by cases h) b44 (by omega)
  have eT : jv_tabs P f (jv_fit Mb P) B [].reverse = jv_tables M := by
    rw [← jv_tables_kp kbB]
    unfold jv_tables
    rw [hPM, hBM, hfM]
    rfl
  rw [eT, Nat.zero_add] at k4
  rw [eT, b47] at k5
  rw [show 1995 - B + 4 + B = 1999 by omega] at k1
  have k1 : ja_x true 1999 289 [jr 137, ji 0] Mb = some (none, N3) := k1
  rw [k1, jz_bV] at st4
  -- the rows come back
  have back : ∀ (m j : Nat) (N : ja_M), j + m = 36 → (∀ c i, ¬ (c = 154 ∧ i < 36) → N c i = N3 c i) → (∀ i, i < j → N 154 i = M 154 i) → ∃ N', ja_D true (ja_x true 1999) k_R_tables 65 [some (jr 137), some (ji a), none, some (ji (j : Int))] [] N = ja_D true (ja_x true 1999) k_R_tables 65 [some (jr 137), some (ji a), none, some (ji 36)] [] N' ∧ (∀ c i, ¬ (c = 154 ∧ i < 36) → N' c i = N3 c i) ∧ ∀ i, i < 36 → N' 154 i = M 154 i := by
    intro m
    induction m with
    | zero =>
      intro j N e h1 h2
      have : j = 36 := by omega
      subst this
      exact ⟨N, rfl, h1, h2⟩
    | succ m ih =>
      intro j N e h1 h2
      have e163 : N 163 j = M 154 j := (h1 163 j (by omega)).trans ((k2 163 j (by omega) (by omega)).trans (b163 j (by omega)))
      obtain ⟨N', g1, g2⟩ := ih (j + 1) (ja_up N 154 j (N 163 j)) (by omega) (fun c i h => by
        rw [jz_up, if_neg (fun e => h (by omega))]
        exact h1 c i h) (fun i hi => by
        by_cases z : i = j
        · rw [z, jb_up_eq]
          exact e163
        · rw [jb_up_nej z]
          exact h2 i (by omega))
      refine ⟨N', ?_, g2⟩
      rw [e_R_tables_65, if_pos (by omega), if_pos (by omega), if_pos (by omega), show ((j : Int)).toNat = j from rfl, ja_w_id (by omega) (by omega)]
      exact g1
  obtain ⟨N4, d1, d2, d3⟩ := back 36 0 N3 rfl (fun _ _ _ => rfl) (fun i hi => absurd hi (Nat.not_lt_zero _))
  have e44 : N4 137 44 = ((min (jv_tables M).length 1000 : Nat) : Int) := (d2 137 44 (by omega)).trans k4
  have e47 : N4 137 47 = tfnd a bb 0 (jv_tables M) (-1) := (d2 137 47 (by omega)).trans k5
  have d1 : ja_D true (ja_x true 1999) k_R_tables 65 [some (jr 137), some (ji a), none, some (ji 0)] [] N3 = _ := d1
  refine ⟨bb, N4, fun h => ?_, ?_, fun c i q => ?_, fun i => ?_⟩
  · rcases hab with w | w
    · exact absurd w h
    · exact hbe.1 w
  · rw [st4, d1, e_R_tables_65, if_neg (by decide), e44, e47]
    by_cases q : a = -1
    · rw [if_pos q, if_pos q]
    · rw [if_neg q, if_neg q]
  · by_cases z : c = 154 ∧ i < 36
    · rw [z.1]
      exact d3 i z.2
    · have n137 : ¬ (c = 137 ∧ (i = 38 ∨ i = 44 ∨ i = 45 ∨ i = 46 ∨ i = 47)) := fun e => by
        obtain ⟨rfl, e⟩ := e
        rcases e with rfl | rfl | rfl | rfl | rfl <;> cases q
      rw [d2 c i z, k2 c i z (fun e => n137 (by omega))]
      exact frb c i (fun e => by subst e; cases q) (fun e => by subst e; cases q) n137
  · rw [d2 0 i (by omega), k2 0 i (by omega) (by omega)]
    exact frb 0 i (by decide) (by decide) (by omega)
