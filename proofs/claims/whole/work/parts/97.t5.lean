/-! helpers: the other side's edges and count; the promise -/
theorem mt_ok_congr {E : Nat → Nat → Bool} {n : Nat} {m m' : Nat → Int} {L : List Nat} (h : mt_ok E n m L) (e : ∀ j, j < n → m' j = m j) : mt_ok E n m' L := by
  refine ⟨fun j hj => by rw [e j hj]; exact h.1 j hj, fun a ha => ?_, fun i j hi hj q q' => ?_⟩
  · obtain ⟨j, j1, j2⟩ := h.2.1 a ha
    exact ⟨j, j1, (e j j1).trans j2⟩
  · rw [e i hi, e j hj] at q
    rw [e i hi] at q'
    exact h.2.2 i j hi hj q q'
theorem js_R_edges (dd : Nat) {M : ja_M} {a : Int} {P : Nat} {ds : List (Nat × Nat)} {n : Nat} (hH : jH M) (hP : M 11 3 = (P : Int)) (hb : ∀ d ∈ ds, d.1 < P ∧ d.2 < P) (hn : ds.length = n) (hn36 : n ≤ 36) {N : ja_M} (hi : gd_iR M ds N) : ∃ N', ja_D true (ja_x true (dd + 2)) k_R_helpers 54 [some (jr 137), some (ji a), some (ji 0), none, none] [] N = ja_D true (ja_x true (dd + 2)) k_R_helpers 111 [some (jr 137), none, some (ji 0), some (ji 0), none] [] N' ∧ gd_iR M ds N' ∧ ∀ x y, x < n → y < n → (N' 166 (36 * x + y) = 0 ↔ gd_E (hp_A M a) P ds x y = false) := by
  have h0 := hH.b
  have entry : ∀ (x y : Nat) (N : ja_M), x < n → y < n → gd_iR M ds N → ja_D true (ja_x true (dd + 2)) k_R_helpers 60 [some (jr 137), some (ji a), some (ji (x : Int)), some (ji (y : Int)), none] [] N = ja_D true (ja_x true (dd + 2)) k_R_helpers 60 [some (jr 137), some (ji a), some (ji (x : Int)), some (ji ((y + 1 : Nat) : Int)), none] [] (ja_up N 166 (36 * x + y) (if gd_E (hp_A M a) P ds x y = true then 1 else 0)) := by
    intro x y N hx hy hi
    obtain ⟨i1, i2, i3⟩ := hi
    rw [hn] at i2
    have hHN := hH.kp (i1.K.of jk_H)
    have e3 : N 11 3 = (P : Int) := (i1.K.of jk_H 11 3 rfl).trans hP
    have eA : hp_A N a = hp_A M a := funext fun p => funext fun q => by
      unfold hp_A
      rw [show N 12 = M 12 from funext fun i => i1 12 i (by omega) (by omega), show N 13 = M 13 from funext fun i => i1 13 i (by omega) (by omega)]
    have ea := i3 x (by omega)
    have eb := i3 y (by omega)
    have ba := hb _ (gd_at_mem (ds := ds) (i := x) (by omega))
    have bb := hb _ (gd_at_mem (ds := ds) (i := y) (by omega))
    have st := e_R_helpers_60 (ja_x true (dd + 2)) a (x : Int) (y : Int) N
    rw [i2, if_pos (by omega), if_pos (by omega), if_pos (by omega), show ((x : Int)).toNat = x from rfl, show ((y : Int)).toNat = y from rfl, ea.1, ea.2, eb.1, ja_w_id (x := 36 * (x : Int)) (by omega) (by omega), ja_w_id (x := 36 * (x : Int) + (y : Int)) (by omega) (by omega), show (36 * (x : Int) + (y : Int)).toNat = 36 * x + y by omega, ja_w_id (x := (y : Int) + 1) (by omega) (by omega), show (y : Int) + 1 = ((y + 1 : Nat) : Int) by omega, if_pos (show 0 ≤ 36 * (x : Int) + (y : Int) ∧ 36 * (x : Int) + (y : Int) < 1296 by omega)] at st
    rw [st]
    have b2 := eb.2
    unfold gd_E
    generalize gd_at ds x = da at ba
    generalize gd_at ds y = db at bb b2
    obtain ⟨ta, pa⟩ := da
    obtain ⟨tb, pb⟩ := db
    have ba : ta < P ∧ pa < P := ba
    have bb : tb < P ∧ pb < P := bb
    have b2 : N 165 y = (pb : Int) := b2
    show (if 0 < ja_w ((tb : Int) - (ta : Int)) then _ else _) = ja_D true _ _ 60 [_, _, _, _, _] [] (ja_up N 166 (36 * x + y) (if (decide (ta < tb) && hp_rc (hp_A M a) P (tb - ta) pa pb) = true then 1 else 0))
    rw [ja_w_id (x := (tb : Int) - (ta : Int)) (by omega) (by omega)]
    by_cases z : ta < tb
    · rw [if_pos (by omega), if_pos (by omega)]
      have hp := js_R_hop dd (a := a) (f := fun q => q == pa) (d := tb - ta) hHN (by omega)
      rw [e3, show ((P : Int)).toNat = P from rfl, ← jv_set_one ba.2, eA] at hp
      show ja_bI (ja_x true (dd + 2) 293 [jr 137, ji (ja_shl 1 (pa : Int)), ji a, ji ((tb : Int) - (ta : Int))] N) _ = _
      rw [jx_shl1 (by omega), show (tb : Int) - (ta : Int) = ((tb - ta : Nat) : Int) by omega, hp, jz_bI, if_pos (by omega), b2, f_R_has]
      have h64 := jv_set_64 (hp_it (hp_A M a) P (fun q => q == pa) (tb - ta)) (n := P) (by omega)
      rw [jx_bit (by omega) (by omega), jv_set_bit, decide_eq_true bb.2, Bool.true_and, hp_eq ba.2 _ _ bb.2, decide_eq_true z, Bool.true_and]
      by_cases w : hp_rc (hp_A M a) P (tb - ta) pa pb = true
      · rw [if_pos w, if_pos rfl, jz_bI, if_neg (by decide), if_pos (by omega)]
      · rw [if_neg w, if_neg (by decide), jz_bI, if_pos rfl, if_pos (by omega)]
    · rw [if_neg (by omega), decide_eq_false z, Bool.false_and]
      rfl
  have keep : ∀ (x y : Nat) (v : Int) (N : ja_M), gd_iR M ds N → gd_iR M ds (ja_up N 166 (36 * x + y) v) := fun x y v N hi => ⟨fun c i p q => by
    rw [jb_up_ne (fun e => p (by omega))]
    exact hi.1 c i p q, by rw [jb_up_ne (by decide)]; exact hi.2.1, fun i h => by
    rw [jb_up_ne (by decide), jb_up_ne (by decide)]
    exact hi.2.2 i h⟩
  have inner : ∀ (x : Nat), x < n → ∀ (r y : Nat) (N : ja_M), y + r = n → gd_iR M ds N → (∀ x' y', x' < n → y' < n → (x' < x ∨ (x' = x ∧ y' < y)) → (N 166 (36 * x' + y') = 0 ↔ gd_E (hp_A M a) P ds x' y' = false)) → ∃ N', ja_D true (ja_x true (dd + 2)) k_R_helpers 60 [some (jr 137), some (ji a), some (ji (x : Int)), some (ji (y : Int)), none] [] N = ja_D true (ja_x true (dd + 2)) k_R_helpers 54 [some (jr 137), some (ji a), some (ji ((x + 1 : Nat) : Int)), none, none] [] N' ∧ gd_iR M ds N' ∧ ∀ x' y', x' < n → y' < n → x' < x + 1 → (N' 166 (36 * x' + y') = 0 ↔ gd_E (hp_A M a) P ds x' y' = false) := by
    intro x hx r
    induction r with
    | zero =>
      intro y N e hi hE
      refine ⟨N, ?_, hi, fun x' y' h1 h2 h3 => hE x' y' h1 h2 (by omega)⟩
      rw [e_R_helpers_60, hi.2.1, hn, if_neg (by omega), ja_w_id (x := (x : Int) + 1) (by omega) (by omega)]
      rfl
    | succ r ih =>
      intro y N e hi hE
      obtain ⟨N', g1, g2⟩ := ih (y + 1) _ (by omega) (keep x y (if gd_E (hp_A M a) P ds x y = true then 1 else 0) N hi) (fun x' y' h1 h2 h3 => by
        by_cases z : 36 * x' + y' = 36 * x + y
        · have zx : x' = x := by omega
          have zy : y' = y := by omega
          rw [zx, zy, jb_up_eq]
          cases gd_E (hp_A M a) P ds x y
          · simp
          · simp
        · rw [jb_up_nej z]
          exact hE x' y' h1 h2 (by
            by_cases w : x' = x
            · have : y' ≠ y := fun q => z (by rw [w, q])
              omega
            · omega))
      exact ⟨N', (entry x y N hx (by omega) hi).trans g1, g2⟩
  have outer : ∀ (r x : Nat) (N : ja_M), x + r = n → gd_iR M ds N → (∀ x' y', x' < n → y' < n → x' < x → (N 166 (36 * x' + y') = 0 ↔ gd_E (hp_A M a) P ds x' y' = false)) → ∃ N', ja_D true (ja_x true (dd + 2)) k_R_helpers 54 [some (jr 137), some (ji a), some (ji (x : Int)), none, none] [] N = ja_D true (ja_x true (dd + 2)) k_R_helpers 111 [some (jr 137), none, some (ji 0), some (ji 0), none] [] N' ∧ gd_iR M ds N' ∧ ∀ x y, x < n → y < n → (N' 166 (36 * x + y) = 0 ↔ gd_E (hp_A M a) P ds x y = false) := by
    intro r
    induction r with
    | zero =>
      intro x N e hi hE
      refine ⟨N, ?_, hi, fun x' y' h1 h2 => hE x' y' h1 h2 (by omega)⟩
      rw [e_R_helpers_54, hi.2.1, hn, if_neg (by omega)]
    | succ r ih =>
      intro x N e hi hE
      obtain ⟨N1, g1, g2, g3⟩ := inner x (by omega) n 0 N (by omega) hi (fun x' y' h1 h2 h3 => hE x' y' h1 h2 (by omega))
      obtain ⟨N', k1, k2⟩ := ih (x + 1) N1 (by omega) g2 g3
      refine ⟨N', ?_, k2⟩
      rw [e_R_helpers_54, hi.2.1, hn, if_pos (by omega)]
      exact g1.trans k1
  exact outer n 0 N (by omega) hi (fun x' y' _ _ h => absurd h (Nat.not_lt_zero _))
theorem js_R_pairs (dd : Nat) {E : Nat → Nat → Bool} {n : Nat} {N0 : ja_M} (hn : n ≤ 36) (hE : ∀ a j, a < n → j < n → (N0 166 (36 * a + j) = 0 ↔ E a j = false)) (h51 : N0 137 51 = (n : Int)) : ∃ N', ja_D true (ja_x true (dd + 37)) k_R_helpers 111 [some (jr 137), none, some (ji 0), some (ji 0), none] [] N0 = some (some (ji ((n : Int) - ((mt_J E n n).length : Int))), N') ∧ jF167 N0 N' := by
  have reset : ∀ (c k : Int) (r j : Nat) (N : ja_M), j + r = n → jF167 N0 N → (∀ i, i < j → N 168 i = 0) → ∃ N', ja_D true (ja_x true (dd + 37)) k_R_helpers 130 [some (jr 137), none, some (ji c), some (ji k), some (ji (j : Int))] [] N = ja_D true (ja_x true (dd + 37)) k_R_helpers 130 [some (jr 137), none, some (ji c), some (ji k), some (ji (n : Int))] [] N' ∧ jF167 N0 N' ∧ (∀ i, N' 167 i = N 167 i) ∧ ∀ i, i < n → N' 168 i = 0 := by
    intro c k r
    induction r with
    | zero =>
      intro j N e hf h
      have hj : j = n := by omega
      subst hj
      exact ⟨N, rfl, hf, fun _ => rfl, h⟩
    | succ r ih =>
      intro j N e hf h
      obtain ⟨N', g1, g2, g3, g4⟩ := ih (j + 1) (ja_up N 168 j 0) (by omega) (fun c i x y => by
        rw [jb_up_ne y]
        exact hf c i x y) (fun i hi => by
        by_cases z : i = j
        · rw [z, jb_up_eq]
        · rw [jb_up_nej z]
          exact h i (by omega))
      refine ⟨N', ?_, g2, fun i => (g3 i).trans (jb_up_ne (by decide)), g4⟩
      rw [e_R_helpers_130, hf 137 51 (by decide) (by decide), h51, if_pos (by omega), if_pos (by omega), show ((j : Int)).toNat = j from rfl, ja_w_id (x := (j : Int) + 1) (by omega) (by omega), show (j : Int) + 1 = ((j + 1 : Nat) : Int) by omega]
      exact g1
  have loop : ∀ (r k : Nat) (N : ja_M), k + r = n → jF167 N0 N → mt_ok E n (N 167) (mt_J E n k) → ∃ N', ja_D true (ja_x true (dd + 37)) k_R_helpers 124 [some (jr 137), none, some (ji ((mt_J E n k).length : Int)), some (ji (k : Int)), none] [] N = some (some (ji ((n : Int) - ((mt_J E n n).length : Int))), N') ∧ jF167 N0 N' := by
    intro r
    induction r with
    | zero =>
      intro k N e hf hok
      have hl := mt_J_len (E := E) (n := n) (k := k)
      have hk : k = n := by omega
      subst hk
      refine ⟨N, ?_, hf⟩
      rw [e_R_helpers_124, hf 137 51 (by decide) (by decide), h51, if_neg (by omega), ja_w_id (by omega) (by omega)]
    | succ r ih =>
      intro k N e hf hok
      have hl := mt_J_len (E := E) (n := n) (k := k)
      obtain ⟨N1, g1, g2, g3, g4⟩ := reset ((mt_J E n k).length : Int) (k : Int) n 0 N (by omega) hf (fun i hi => by omega)
      have kL : k ∉ mt_J E n k := fun h => Nat.lt_irrefl _ (mt_J_lt k k h)
      have hok1 : mt_ok E n (mt_mu N1 N1) (mt_J E n k) := mt_ok_congr hok (fun j hj => by rw [mt_mu0 (g4 j hj), g3])
      have cb := jv_cnt_b (fun j => decide (N1 168 j = 0)) n
      obtain ⟨v, N2, k1, k2, k3, k4⟩ := js_R_match hn hE h51 dd 36 k N1 (mt_J E n k) (by omega) kL (fun x hx => Nat.lt_trans (mt_J_lt k x hx) (by omega)) g2 (by omega) hok1
      have st := e_R_helpers_130 (ja_x true (dd + 37)) ((mt_J E n k).length : Int) (k : Int) (n : Int) N1
      rw [g2 137 51 (by decide) (by decide), h51, if_neg (by omega), show ja_x true (dd + 37) 294 [jr 137, ji (k : Int)] N1 = _ from k1, jz_bI, ja_w_id (x := (k : Int) + 1) (by omega) (by omega), show (k : Int) + 1 = ((k + 1 : Nat) : Int) by omega, ja_w_id (x := ((mt_J E n k).length : Int) + 0) (by omega) (by omega), ja_w_id (x := ((mt_J E n k).length : Int) + 1) (by omega) (by omega), Int.add_zero] at st
      have st2 := (e_R_helpers_124 (ja_x true (dd + 37)) ((mt_J E n k).length : Int) (k : Int) N)
      rw [hf 137 51 (by decide) (by decide), h51, if_pos (by omega)] at st2
      replace st2 := st2.trans (g1.trans st)
      rcases k4 with ⟨rfl, q⟩ | ⟨rfl, q1, q2, q3⟩
      · have q1 : mt_ok E n (N2 167) (k :: mt_J E n k) := mt_ok_congr q (fun j hj => (mt_mu0 (g4 j hj)).symm)
        have ej := mt_J_y (mt_ok_can q1)
        rw [← ej] at q1
        obtain ⟨N3, t1, t2⟩ := ih (k + 1) N2 (by omega) k2 q1
        refine ⟨N3, ?_, t2⟩
        rw [st2, if_neg (by decide), ← t1, ej, List.length_cons]
        rfl
      · have q4 : mt_ok E n (N2 167) (mt_J E n k) := mt_ok_congr hok (fun j hj => (q1 j).trans (g3 j))
        have mem : ∀ x, x ∈ (List.range n).filter (fun j => !(decide (N2 168 j = 0))) ↔ x < n ∧ N2 168 x ≠ 0 := fun x => by
          rw [List.mem_filter, List.mem_range]
          simp
        have nc : ¬ mt_can E n (k :: mt_J E n k) := by
          refine mt_fail (V := (List.range n).filter (fun j => !(decide (N2 168 j = 0)))) q4 kL (List.Pairwise.filter _ List.nodup_range) (fun j hj => ?_) (fun j hj ej => (mem j).mpr ⟨hj, q2 j hj ej⟩) (fun j hj i hi ej => ?_)
          · obtain ⟨j1, j2⟩ := (mem j).mp hj
            exact ⟨j1, by rw [q1 j]; exact (q3 j j1 (g4 j j1) j2).1⟩
          · obtain ⟨j1, j2⟩ := (mem j).mp hj
            rw [q1 j] at ej
            exact (mem i).mpr ⟨hi, (q3 j j1 (g4 j j1) j2).2 i hi ej⟩
        have ej := mt_J_n nc
        rw [← ej] at q4
        obtain ⟨N3, t1, t2⟩ := ih (k + 1) N2 (by omega) k2 q4
        refine ⟨N3, ?_, t2⟩
        rw [st2, if_pos rfl, ← t1, ej]
  have first : ∀ (r j : Nat) (N : ja_M), j + r = n → jF167 N0 N → (∀ i, i < j → N 167 i = -1) → ∃ N', ja_D true (ja_x true (dd + 37)) k_R_helpers 111 [some (jr 137), none, some (ji 0), some (ji (j : Int)), none] [] N = some (some (ji ((n : Int) - ((mt_J E n n).length : Int))), N') ∧ jF167 N0 N' := by
    intro r
    induction r with
    | zero =>
      intro j N e hf h
      obtain ⟨N', g1, g2⟩ := loop n 0 N (by omega) hf ⟨fun i hi => Or.inl (h i (by omega)), fun x hx => (by cases hx), fun i i' hi hi' _ q => absurd (h i (by omega)) q⟩
      refine ⟨N', ?_, g2⟩
      rw [e_R_helpers_111, hf 137 51 (by decide) (by decide), h51, if_neg (by omega)]
      exact g1
    | succ r ih =>
      intro j N e hf h
      obtain ⟨N', g1, g2⟩ := ih (j + 1) (ja_up N 167 j (-1)) (by omega) (fun c i x y => by
        rw [jb_up_ne x]
        exact hf c i x y) (fun i hi => by
        by_cases z : i = j
        · rw [z, jb_up_eq]
        · rw [jb_up_nej z]
          exact h i (by omega))
      refine ⟨N', ?_, g2⟩
      rw [e_R_helpers_111, hf 137 51 (by decide) (by decide), h51, if_pos (by omega), if_pos (by omega), show ((j : Int)).toNat = j from rfl, ja_w_id (x := (j : Int) + 1) (by omega) (by omega), show (j : Int) + 1 = ((j + 1 : Nat) : Int) by omega]
      exact g1
  exact first n 0 N0 (by omega) (fun _ _ _ _ => rfl) (fun i hi => by omega)
theorem jy_p29 : jy_o29 := by
  intro a _
  refine jOp.read (fun M hJ => ?_)
  obtain ⟨⟨hT, hH, hO⟩, -, hF, -⟩ := hJ
  have h0 := hH.b
  have hX := f_X_helpers 1999 a M
  rw [js_isTold 1998, jz_bI, jz_b0] at hX
  by_cases h1 : 0 < M 11 3
  · rw [if_pos h1] at hX
    by_cases h2 : 0 ≤ a ∧ a ≤ 40
    · obtain ⟨P, hP⟩ : ∃ P : Nat, M 11 3 = (P : Int) := ⟨(M 11 3).toNat, by omega⟩
      obtain ⟨N, g1, g2⟩ := js_fewest 1993 (a := a) hH hP (by omega) rfl rfl
      rw [if_neg (by omega), if_neg (by omega), show ja_x true 1999 174 [jr 123, ji a] M = _ from g1, jz_bI] at hX
      have kk := g2.k125
      have hHN := hH.kp (kk.of jk_H)
      have hON := hO.kp hH (kk.of jk_O)
      have e4 : N 11 4 = M 11 4 := kk.of jk_H 11 4 rfl
      have ef : gd_f N = gd_f M := funext fun t => funext fun p => by
        show decide (pv_at (N 11 4).toNat (oX N) t (p : Int) ≠ 0) = decide (pv_at (M 11 4).toNat (oX M) t (p : Int) ≠ 0)
        rw [e4, show pv_at (M 11 4).toNat (oX N) t (p : Int) = pv_at (M 11 4).toNat (oX M) t (p : Int) from jv_set_congr _ (fun b hb => by
          show decide (N (26 + b) t = (p : Int)) = decide (M (26 + b) t = (p : Int))
          rw [g2 (26 + b) t (fun x => by
            have x : 123 ≤ 26 + b ∧ 26 + b ≤ 136 := x
            omega)])]
      have eA : hp_A N a = hp_A M a := funext fun p => funext fun q => by
        unfold hp_A
        rw [show N 12 = M 12 from funext fun i => g2 12 i (by decide), show N 13 = M 13 from funext fun i => g2 13 i (by decide)]
      have hPN : N 11 3 = (P : Int) := (kk.of jk_H 11 3 rfl).trans hP
      obtain ⟨N1, k1, k2⟩ := js_R_duties 1997 (a := a) hHN hON hPN
      rw [ef] at k2
      have bd := gd_all_b (gd_f M) P P
      have l6 : P * P ≤ 6 * 6 := Nat.mul_le_mul (by omega) (by omega)
      obtain ⟨N2, w1, w2, w3⟩ := js_R_edges 1997 (a := a) hHN hPN bd.2 rfl (by omega) k2
      rw [eA] at w3
      obtain ⟨N3, y1, y2⟩ := js_R_pairs 1962 (by omega) w3 w2.2.1
      have hR := f_R_helpers 1999 a N
      rw [hHN.2.1.2.1, if_neg (by omega), js_in 1998, jz_bI, jz_b0, if_pos (show 0 ≤ a ∧ a ≤ 40 from h2)] at hR
      have fr : jF164 N N3 := fun c i x y => (y2 c i (fun e => x (by omega)) (fun e => x (by omega))).trans (w2.1 c i x y)
      exact ⟨_, N, hX, kk, fun i => g2 0 i (by decide), N3, hR.trans (k1.trans (w1.trans y1)), fr.K, fun i => fr 0 i (by decide) (by omega)⟩
    · have hX2 : jy_E 173 [jr 1, ji a] M = some (some (ji (-1)), M) := by
        rw [show jy_E 173 [jr 1, ji a] M = _ from hX]
        by_cases z : a < 0
        · rw [if_pos z]
        · rw [if_neg z, if_pos (by omega)]
      have hR := f_R_helpers 1999 a M
      rw [hH.2.1.2.1, if_neg (by omega), js_in 1998, jz_bI, jz_b0, if_neg h2] at hR
      exact ⟨_, M, hX2, jKs.rf M, fun _ => rfl, M, hR, jKs.rf M, fun _ => rfl⟩
  · rw [if_neg h1] at hX
    have hR := f_R_helpers 1999 a M
    rw [hH.2.1.2.1, if_pos (by omega)] at hR
    exact ⟨_, M, hX, jKs.rf M, fun _ => rfl, M, hR, jKs.rf M, fun _ => rfl⟩
