/-! fits: the other side -/
theorem js_agrees (dd : Nat) {b P : Nat} {o : List Nat} {M N : ja_M} (hH : jH M) (hF : jFi M) (kk : jK M N) (hP : M 11 3 = (P : Int)) (ol : o.length = P) (op : ∀ p ∈ o, p < P) : ja_x true (dd + 3) 287 [jr 137, ji (b : Int), ji (jv_num o)] N = some (some (ji (if alw (jv_left M b) 0 o = true then 1 else 0)), N) := by
  have h0 := hH.b
  have hn0 := hF.1
  obtain ⟨n, hn⟩ : ∃ n : Nat, M 93 3 = (n : Int) := ⟨(M 93 3).toNat, by omega⟩
  have kh := kk.of jk_H
  have kf := kk.of jk_F
  have hHN := hH.kp kh
  have e43 : N 137 43 = (n : Int) := (kf 137 43 rfl).trans (hF.2.1.trans hn)
  have e3 : N 11 3 = (P : Int) := (kh 11 3 rfl).trans hP
  have g159 : ∀ k, N 159 k = M 159 k := fun k => kf 159 k rfl
  have g160 : ∀ k, N 160 k = M 160 k := fun k => kf 160 k rfl
  have g161 : ∀ k, N 161 k = M 161 k := fun k => kf 161 k rfl
  have g162 : ∀ k, N 162 k = M 162 k := fun k => kf 162 k rfl
  have hnum := jv_num_lt (a := o) (fun p hp => by have := op p hp; omega) (by omega)
  -- the finds from k on
  have hfind : ∀ k : Nat, k < n → (0 ≤ M 159 k ∧ M 159 k < M 11 4) ∧ (0 ≤ M 160 k ∧ M 160 k < M 11 3) ∧ (0 ≤ M 161 k ∧ M 161 k < M 11 3) ∧ (M 162 k = 0 ∨ M 162 k = 1) := fun k hk => hF.2.2.1 k (by omega)
  have good : (alw (jv_left M b) 0 o = true) ↔ ∀ k, k < n → M 159 k = (b : Int) → (ofn o (M 160 k).toNat = M 161 k ↔ M 162 k = 1) := by
    rw [alw_iff]
    have eo : ∀ t k, jv_okf M b t (jv_nth o t) k = true ↔ (M 159 k = (b : Int) → M 160 k = (t : Int) → (ofn o t = M 161 k ↔ M 162 k = 1)) := fun t k => by
      unfold jv_okf
      have eq : decide (M 161 k = ((jv_nth o t : Nat) : Int)) = decide (ofn o t = M 161 k) := decide_eq_decide.mpr ⟨Eq.symm, Eq.symm⟩
      rw [eq]
      by_cases a1 : M 159 k = (b : Int)
      · by_cases a2 : M 160 k = (t : Int)
        · by_cases a3 : ofn o t = M 161 k
          · by_cases a4 : M 162 k = 1
            · simp [a1, a2, a3, a4]
            · simp [a1, a2, a3, a4]
          · by_cases a4 : M 162 k = 1
            · simp [a1, a2, a3, a4]
            · simp [a1, a2, a3, a4]
        · simp [a1, a2]
      · simp [a1]
    have el : ∀ t, (jv_left M b t (jv_nth o t) = true) ↔ ∀ k, k < n → jv_okf M b t (jv_nth o t) k = true := fun t => by
      unfold jv_left
      rw [hn, show ((n : Int)).toNat = n from rfl, List.all_eq_true]
      exact ⟨fun h k hk => h k (List.mem_range.mpr hk), fun h k hk => h k (List.mem_range.mp hk)⟩
    constructor
    · intro h k hk a1
      have hk2 := hfind k hk
      have := h (M 160 k).toNat (by omega)
      rw [Nat.zero_add] at this
      exact (eo _ k).mp ((el _).mp this k hk) a1 (by omega)
    · intro h t ht
      rw [Nat.zero_add]
      refine (el t).mpr (fun k hk => (eo t k).mpr (fun a1 a2 => ?_))
      have := h k hk a1
      rw [a2, show ((t : Int)).toNat = t from rfl] at this
      exact this
  have loop : ∀ (m k : Nat), k + m = n → (∀ j, j < k → M 159 j = (b : Int) → (ofn o (M 160 j).toNat = M 161 j ↔ M 162 j = 1)) → ja_D true (ja_x true (dd + 2)) k_R_agrees 2 [some (jr 137), some (ji (b : Int)), some (ji (jv_num o)), some (ji (k : Int))] [] N = some (some (ji (if alw (jv_left M b) 0 o = true then 1 else 0)), N) := by
    intro m
    induction m with
    | zero =>
      intro k e h
      rw [e_R_agrees_2, e43, if_neg (by omega), if_pos (good.mpr (fun j hj => h j (by omega)))]
    | succ m ih =>
      intro k e h
      obtain ⟨c1, c2, c3, c4⟩ := hfind k (by omega)
      obtain ⟨t, ht⟩ := Int.eq_ofNat_of_zero_le c2.1
      have b20 : 0 ≤ (k : Int) ∧ (k : Int) < 20 := by omega
      have hst := e_R_agrees_2 (ja_x true (dd + 2)) (b : Int) (jv_num o) (k : Int) N
      have hnth := js_nth dd (x := jv_num o) (t := t) hHN (by rw [e3]; omega) (by omega)
      have hdig : jv_nthd P (jv_num o) t = ofn o t := by
        rw [jv_num_digs, ol]
        exact jv_nthd_digs P t (by omega) (fun u hu => by
          have : jv_nth o u < P := jv_nth_lt op (by omega)
          show 0 ≤ ((jv_nth o u : Nat) : Int) ∧ ((jv_nth o u : Nat) : Int) ≤ 9
          omega)
      rw [e3, show ((P : Int)).toNat = P from rfl, hdig] at hnth
      rw [e43, if_pos (by omega), if_pos b20, if_pos b20, show ((k : Int)).toNat = k from rfl, g159, g160, ht, hnth, jz_bI, if_pos b20, if_pos b20, if_pos b20, g161, g162, ja_w_id (x := (k : Int) + 1) (by omega) (by omega), show (k : Int) + 1 = ((k + 1 : Nat) : Int) by omega] at hst
      have next : (M 159 k = (b : Int) → (ofn o t = M 161 k ↔ M 162 k = 1)) → ja_D true (ja_x true (dd + 2)) k_R_agrees 2 [some (jr 137), some (ji (b : Int)), some (ji (jv_num o)), some (ji ((k + 1 : Nat) : Int))] [] N = some (some (ji (if alw (jv_left M b) 0 o = true then 1 else 0)), N) := fun h2 => ih (k + 1) (by omega) (fun j hj a1 => by
        by_cases z : j = k
        · subst z
          rw [ht, show ((t : Int)).toNat = t from rfl]
          exact h2 a1
        · exact h j (by omega) a1)
      have stop : M 159 k = (b : Int) → ¬ (ofn o t = M 161 k ↔ M 162 k = 1) → some (some (ji 0), N) = some (some (ji (if alw (jv_left M b) 0 o = true then 1 else 0)), N) := fun a1 h2 => by
        rw [if_neg (fun w => h2 (by
          have := good.mp w k (by omega) a1
          rw [ht, show ((t : Int)).toNat = t from rfl] at this
          exact this))]
      rw [hst]
      by_cases a1 : M 159 k = (b : Int)
      · rw [if_pos a1]
        by_cases a2 : ofn o t = M 161 k
        · rw [if_pos a2]
          by_cases a3 : M 162 k = 1
          · rw [if_pos a3.symm]
            exact next (fun _ => ⟨fun _ => a3, fun _ => a2⟩)
          · rw [if_neg (fun z => a3 z.symm)]
            exact stop a1 (fun z => a3 (z.mp a2))
        · rw [if_neg a2]
          by_cases a3 : M 162 k = 1
          · rw [if_neg (by omega)]
            exact stop a1 (fun z => a2 (z.mpr a3))
          · rw [if_pos (by omega)]
            exact next (fun _ => ⟨fun z => absurd z a2, fun z => absurd z a3⟩)
      · rw [if_neg a1]
        exact next (fun z => absurd z a1)
  exact (f_R_agrees _ _ _ _).trans (loop n 0 (by omega) (fun j hj => by omega))
theorem jy_p26 : jy_o26 := by
  intro a _
  refine jOp.read (fun M hJ => ?_)
  obtain ⟨⟨hT, hH, hO⟩, -, hF, -⟩ := hJ
  have h0 := hH.b
  have hX := f_X_fits 1999 a M
  rw [js_hasBand 1998, jz_bI, jz_b0] at hX
  by_cases h1 : 0 ≤ a ∧ a < M 11 4
  · obtain ⟨b, rfl⟩ := Int.eq_ofNat_of_zero_le h1.1
    obtain ⟨P, hP⟩ : ∃ P : Nat, M 11 3 = (P : Int) := ⟨(M 11 3).toNat, by omega⟩
    obtain ⟨N, g1, g2⟩ := js_ways 1996 hH hF h1.2
    rw [show (M 11 3).toNat = P by omega] at g1
    rw [if_pos h1, f_Finds_fittingOrders 1998, js_hasBand 1997, jz_bI, jz_b0, if_pos h1, if_pos (by omega), show ((b : Int)).toNat = b from rfl, show 94 + 1 + b = 95 + b by omega, jk_ck rfl rfl (by rw [jk_rSs (jk_rf (by omega))]; rfl), cond_true, g1, jz_bI, jz_bI] at hX
    have kk := g2.k101
    have hHN := hH.kp (kk.of jk_H)
    obtain ⟨N2, y1, y2, y3, y4, y5⟩ := js_layOrders 1990 hHN
    rw [show N 11 3 = (P : Int) from (kk.of jk_H 11 3 rfl).trans hP, show ((P : Int)).toNat = P from rfl] at y3 y4 y5
    have kk2 : jK M N2 := kk.tr y2.K
    have rows : ∀ (rest : List (List Nat)) (i : Nat) (acc : Nat), (jv_all P).drop i = rest → acc ≤ i → ja_D true (ja_x true 1999) k_R_fits 12 [some (jr 137), some (ji (b : Int)), some (ji (acc : Int)), some (ji (i : Int))] [] N2 = some (some (ji ((acc + rest.countP (alw (jv_left M b) 0) : Nat) : Int)), N2) := by
      intro rest
      induction rest with
      | nil =>
        intro i acc hd ha
        have hlen : (jv_all P).length ≤ i := List.drop_eq_nil_iff.mp hd
        rw [e_R_fits_12, y3, if_neg (by omega)]
        rfl
      | cons o rest ih =>
        intro i acc hd ha
        have hi : i < (jv_all P).length := by
          by_cases q : i < (jv_all P).length
          · exact q
          · rw [List.drop_eq_nil_iff.mpr (by omega)] at hd
            cases hd
        have hoi : (jv_all P)[i]? = some o := by
          have := List.getElem?_drop (xs := jv_all P) (i := i) (j := 0)
          rw [hd] at this
          exact this.symm
        have hd' : (jv_all P).drop (i + 1) = rest := by
          rw [← List.drop_drop, hd]
          rfl
        obtain ⟨ol, op⟩ := jv_all_mem (List.mem_of_getElem? hoi)
        have ag := js_agrees 1996 (b := b) hH hF kk2 hP ol op
        rw [e_R_fits_12, y3, if_pos (by omega), if_pos (by omega), show ((i : Int)).toNat = i from rfl, y5 i o hoi, show ja_x true 1999 287 [jr 137, ji (b : Int), ji (jv_num o)] N2 = _ from ag, jz_bI, jz_b0, ja_w_id (x := (i : Int) + 1) (by omega) (by omega), show (i : Int) + 1 = ((i + 1 : Nat) : Int) by omega, ja_w_id (x := (acc : Int) + 1) (by omega) (by omega), ja_w_id (x := (acc : Int) + 0) (by omega) (by omega), List.countP_cons]
        by_cases z : alw (jv_left M b) 0 o = true
        · rw [if_pos z, if_pos z]
          have := ih (i + 1) (acc + 1) hd' (by omega)
          rw [show acc + (rest.countP (alw (jv_left M b) 0) + 1) = acc + 1 + rest.countP (alw (jv_left M b) 0) by omega]
          exact this
        · rw [if_neg z, if_neg z, Int.add_zero, Nat.add_zero]
          exact ih (i + 1) acc hd' (by omega)
    have r0 := rows (jv_all P) 0 0 rfl (Nat.le_refl _)
    rw [Nat.zero_add, show (((jv_all P).countP (alw (jv_left M b) 0) : Nat) : Int) = ft (jv_left M b) P 0 P (fun _ => true) from ft_cnt P 0 _] at r0
    have hR := f_R_fits 1999 (b : Int) N
    rw [js_isBand 1997 (b : Int) hHN, jz_bI, jz_b0, show N 11 4 = M 11 4 from kk.of jk_H 11 4 rfl, if_pos h1, show ja_x true 1999 280 [jr 137] N = _ from y1, jz_bV] at hR
    exact ⟨_, N, hX, kk, fun i => g2 0 i (by decide), N2, hR.trans r0, y2.K, fun i => y2 0 i (by decide) (by omega)⟩
  · rw [if_neg h1] at hX
    have hR := f_R_fits 1999 a M
    rw [js_isBand 1997 a hH, jz_bI, jz_b0, if_neg h1] at hR
    exact ⟨_, M, hX, jKs.rf M, fun _ => rfl, M, hR, jKs.rf M, fun _ => rfl⟩
