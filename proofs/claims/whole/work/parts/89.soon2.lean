/-! soonest: the class's search -/
theorem jv_nth_lt0 {l : List Nat} {t n : Nat} (h : ∀ p ∈ l, p < n) (hn : 0 < n) : jv_nth l t < n := by
  by_cases q : t < l.length
  · exact jv_nth_lt h q
  · unfold jv_nth
    rw [List.getD_eq_getElem?_getD, List.getElem?_eq_none (by omega)]
    exact hn
theorem pv_ao_eq (M : ja_M) (b : Nat) (pre r : List Nat) (p : Nat) : pv_ao M b (pre ++ p :: r) pre.length = pv_lo M b pre pre.length + pv_st (M 12) (M 13) (pv_prev (ofn pre) pre.length) (p : Int) * M 14 b := by
  have e : ∀ u, u < pre.length → ofn (pre ++ p :: r) u = ofn pre u := fun u hu => by
    show ((jv_nth (pre ++ p :: r) u : Nat) : Int) = ((jv_nth pre u : Nat) : Int)
    rw [jv_nth_l hu]
  obtain ⟨a, c⟩ := pv_lv_congr (X := M 12) (Y := M 13) (s := M 32 b) (k := M 14 b) (y := M 11 6) pre.length e
  show pv_lv (M 12) (M 13) (M 32 b) (M 14 b) (M 11 6) (ofn (pre ++ p :: r)) pre.length + pv_st (M 12) (M 13) (pv_prev (ofn (pre ++ p :: r)) pre.length) ((jv_nth (pre ++ p :: r) pre.length : Nat) : Int) * M 14 b = _
  rw [a, c, jv_nth_m]
theorem sn_ok_s {M : ja_M} {b p : Nat} {pre : List Nat} (h : sn_ok M b pre) (hp : ¬ pv_hit M b (p : Int) (pv_ao M b (pre ++ [p]) pre.length)) : sn_ok M b (pre ++ [p]) := fun t ht => by
  rw [List.length_append, List.length_cons, List.length_nil] at ht
  by_cases z : t = pre.length
  · subst z
    rw [show ofn (pre ++ [p]) pre.length = (p : Int) from congrArg Nat.cast (jv_nth_m (a := pre) (b := []) (p := p))]
    exact hp
  · have e : ∀ u, u ≤ t → ofn (pre ++ [p]) u = ofn pre u := fun u hu => congrArg Nat.cast (jv_nth_l (by omega))
    rw [e t (Nat.le_refl _), show pv_ao M b (pre ++ [p]) t = pv_ao M b pre t from pv_arr_congr e]
    exact h t (by omega)
theorem js_goSoon {M N0 : ja_M} {P b : Nat} (hH : jH M) (hO : jO M) (kk0 : jK M N0) (hc : ∀ b t : Nat, (b : Int) < M 11 4 → (t : Int) < M 11 3 → N0 (79 + b) (oX M b t).toNat = aX M b t) (hP : M 11 3 = (P : Int)) (hb : (b : Int) < M 11 4) (dd : Nat) : ∀ (m : Nat) (left : Nat → Bool) (pre : List Nat) (N : ja_M) (st : Option (Int × Int)), pre.length + m = P → jv_cnt left P = (m : Int) → (∀ p ∈ pre, p < P) → jFr s91 N0 N → N 91 5 = (b : Int) → sn_enc N st → sn_ok M b pre → ∃ N', ja_x true (dd + 6 + m) 139 [jr 91, ji (pre.length : Int), ji (pv_prev (ofn pre) pre.length), ji (pv_lo M b pre pre.length), ji ((jv_set (fun q => !(left q)) P : Nat) : Int), ji (jv_num pre)] N = some (none, N') ∧ jFr s91 N0 N' ∧ N' 91 5 = (b : Int) ∧ sn_enc N' (((jv_ords P m left).map (fun o => pre ++ o)).foldl (sn M b) st) := by
  have h0 := hH.b
  have hP0 : 0 < P := by omega
  have hk := (hH.2.2.2 b hb).2
  have hs := (hO.2.2 b hb).2
  have kkN : ∀ N : ja_M, jFr s91 N0 N → jK M N := fun N hf => kk0.tr (hf.K (fun c x => Or.inl ⟨by have : c = 91 := x; omega, by have : c = 91 := x; omega⟩))
  have hvl : ∀ l : List Nat, (∀ p ∈ l, p < P) → ∀ u : Nat, (u : Int) < M 11 3 → 0 ≤ ofn l u ∧ ofn l u < M 11 3 := fun l h u _ => by
    have : jv_nth l u < P := jv_nth_lt0 h hP0
    show 0 ≤ ((jv_nth l u : Nat) : Int) ∧ ((jv_nth l u : Nat) : Int) < M 11 3
    omega
  have way : ∀ (N : ja_M) (d : Nat) (x z : Int), jFr s91 N0 N → pv_pl (M 11 3) x → pv_pl (M 11 3) z → ja_x true (d + 4) 112 [jr 77, ji (b : Int), ji x, ji z] N = some (some (ji (pv_st (M 12) (M 13) x z * M 14 b)), N) := fun N d x z hf hx hz => by
    have kk := (kkN N hf).of jk_H
    have := js_wayOf d (hH.kp kk) (b := b) (p := x) (q := z) (by rw [kk 11 4 rfl]; exact hb) (by rw [kk 11 3 rfl]; exact hx) (by rw [kk 11 3 rfl]; exact hz)
    rw [show N 12 = M 12 from funext fun i => kk 12 i rfl, show N 13 = M 13 from funext fun i => kk 13 i rfl, kk 14 b rfl] at this
    exact this
  intro m
  induction m with
  | zero =>
    intro left pre N st hl hcn hp hf h5 hst hok
    have hl : pre.length = P := by omega
    obtain ⟨Q, hQ⟩ : ∃ Q, P = Q + 1 := ⟨P - 1, by omega⟩
    have hv := hvl pre hp
    have lb : 0 ≤ pv_lo M b pre P ∧ pv_lo M b pre P ≤ 99 + 230 * (P : Int) := pv_lv_b hH hv hs hk P (by omega)
    have hlast := hv Q (by omega)
    have wy := pv_way_b (pv_st_b hH (p := ofn pre Q) (q := -1) (Or.inr hlast) (Or.inl rfl)) hk
    have ev : sn_val M b pre = pv_lo M b pre P + pv_st (M 12) (M 13) (ofn pre Q) (-1) * M 14 b := by
      show pv_home _ _ _ _ _ _ (M 11 3).toNat = _
      rw [show (M 11 3).toNat = Q + 1 by omega, pv_home_eq, hQ]
    have efold : ((jv_ords P 0 left).map (fun o => pre ++ o)).foldl (sn M b) st = sn M b st pre := by
      show sn M b st (pre ++ []) = _
      rw [List.append_nil]
    rw [efold]
    have a3 : N 11 3 = (P : Int) := ((kkN N hf).of jk_H 11 3 rfl).trans hP
    rw [show dd + 6 + 0 = dd + 5 + 1 from rfl, f_OrderSearch_goSoon, js_places, jz_bI, if_neg (by omega), h5, hl, show pv_prev (ofn pre) P = ofn pre Q by rw [hQ]; rfl, way N (dd + 1) _ _ hf (Or.inr hlast) (Or.inl rfl), jz_bI, ja_w_id (x := pv_lo M b pre P + _) (by omega) (by omega), ← ev, f_OrderSearch_keep, jz_bV]
    have fin : (∀ x, st = some x → sn_val M b pre < x.1) → ∃ N', some (none, ja_up (ja_up (ja_up N 91 6 1) 91 7 (jv_num pre)) 91 8 (sn_val M b pre)) = some ((none : Option ja_V), N') ∧ jFr s91 N0 N' ∧ N' 91 5 = (b : Int) ∧ sn_enc N' (sn M b st pre) := fun h => by
      refine ⟨_, rfl, ((hf.up rfl).up rfl).up rfl, ?_, ?_⟩
      · rw [jb_up_nej (by decide), jb_up_nej (by decide), jb_up_nej (by decide)]
        exact h5
      · rw [show sn M b st pre = some (sn_val M b pre, jv_num pre) from bs_p ⟨h, hok⟩]
        exact ⟨rfl, rfl, rfl⟩
    cases st with
    | none =>
      rw [if_pos (show N 91 6 = 0 from hst)]
      exact fin (fun x hx => by cases hx)
    | some x =>
      rw [show N 91 6 = 1 from hst.1, show N 91 8 = x.1 from hst.2.2, if_neg (by decide)]
      by_cases z : sn_val M b pre < x.1
      · rw [if_pos z]
        exact fin (fun y hy => by cases hy; exact z)
      · rw [if_neg z, show sn M b (some x) pre = some x from bs_n (fun w => z (w.1 x rfl))]
        exact ⟨N, rfl, hf, h5, hst⟩
  | succ m ih =>
    intro left pre N st hl hcn hp hf h5 hst hok
    have hv := hvl pre hp
    have lb := pv_lv_b hH hv hs hk pre.length (by omega)
    have hprev := pv_prev_pl hv (t := pre.length) (by omega)
    have hnum := jv_num_lt (a := pre) (fun p h => by have := hp p h; omega) (by omega)
    have h64 := jv_set_64 (fun q => !(left q)) (n := P) (by omega)
    have loop : ∀ (k p : Nat) (N : ja_M) (s : Option (Int × Int)), p + k = P → jFr s91 N0 N → N 91 5 = (b : Int) → sn_enc N s → ∃ N', ja_D true (ja_x true (dd + 6 + m)) k_OrderSearch_goSoon 29 [some (jr 91), some (ji (pre.length : Int)), some (ji (pv_prev (ofn pre) pre.length)), some (ji (pv_lo M b pre pre.length)), some (ji ((jv_set (fun q => !(left q)) P : Nat) : Int)), some (ji (jv_num pre)), some (ji (p : Int)), none, none] [] N = some (none, N') ∧ jFr s91 N0 N' ∧ N' 91 5 = (b : Int) ∧ sn_enc N' ((((List.range' p k).flatMap (jv_g P m left)).map (fun o => pre ++ o)).foldl (sn M b) s) := by
      intro k
      induction k with
      | zero =>
        intro p N s e hf h5 hs'
        refine ⟨N, ?_, hf, h5, hs'⟩
        have pl := js_places (dd + 5 + m) N
        rw [show dd + 5 + m + 1 = dd + 6 + m by omega, (kkN N hf).of jk_H 11 3 rfl, hP] at pl
        rw [e_OrderSearch_goSoon_29, pl, jz_bI, if_neg (by omega)]
      | succ k ihk =>
        intro p N s e hf h5 hs'
        rw [show List.range' p (k + 1) = p :: List.range' (p + 1) k from rfl, List.flatMap_cons, List.map_append, List.foldl_append]
        have kk := kkN N hf
        have pl := js_places (dd + 5 + m) N
        rw [show dd + 5 + m + 1 = dd + 6 + m by omega, kk.of jk_H 11 3 rfl, hP] at pl
        have sy := f_Hunt_stay_11 (dd + 5 + m) N
        rw [show dd + 5 + m + 1 = dd + 6 + m by omega, kk.of jk_H 11 6 rfl] at sy
        have hpp : 0 ≤ (p : Int) ∧ (p : Int) < M 11 3 := by omega
        have wy := way N (dd + 2 + m) (pv_prev (ofn pre) pre.length) (p : Int) hf hprev (Or.inr hpp)
        rw [show dd + 2 + m + 4 = dd + 6 + m by omega] at wy
        have wb := pv_way_b (pv_st_b hH hprev (Or.inr hpp)) hk
        have hA : ∀ r, pv_ao M b (pre ++ p :: r) pre.length = pv_lo M b pre pre.length + pv_st (M 12) (M 13) (pv_prev (ofn pre) pre.length) (p : Int) * M 14 b := fun r => pv_ao_eq M b pre r p
        have lb : 0 ≤ pv_lo M b pre pre.length ∧ pv_lo M b pre pre.length ≤ 99 + 230 * (pre.length : Int) := lb
        obtain ⟨r, t1, t2⟩ := js_there (dd + 3 + m) (b := b) (q := (p : Int)) (v := pv_lo M b pre pre.length + pv_st (M 12) (M 13) (pv_prev (ofn pre) pre.length) (p : Int) * M 14 b) hH hO kk (fun c t hc' ht' => (hf (79 + c) _ (fun z => by have : 79 + c = 91 := z; omega)).trans (hc c t hc' ht')) hpp (by omega)
        rw [show dd + 3 + m + 3 = dd + 6 + m by omega] at t1
        have hbit : (jv_set (fun q => !(left q)) P).testBit p = !(left p) := by
          rw [jv_set_bit]
          simp [show p < P by omega]
        have hst2 := e_OrderSearch_goSoon_29 (ja_x true (dd + 6 + m)) (pre.length : Int) (pv_prev (ofn pre) pre.length) (pv_lo M b pre pre.length) ((jv_set (fun q => !(left q)) P : Nat) : Int) (jv_num pre) (p : Int) N
        rw [pl, jz_bI, if_pos (by omega), h5, wy, jz_bI, ja_w_id (x := pv_lo M b pre pre.length + pv_st (M 12) (M 13) (pv_prev (ofn pre) pre.length) (p : Int) * M 14 b) (by omega) (by omega)] at hst2
        simp only [sy, jz_bI] at hst2
        rw [h5, t1] at hst2
        simp only [jz_bI, sy] at hst2
        rw [jx_bit (by omega) (by omega), hbit] at hst2
        rw [ja_w_id (x := (p : Int) + 1) (by omega) (by omega), show (p : Int) + 1 = ((p + 1 : Nat) : Int) by omega] at hst2
        generalize hAd : pv_lo M b pre pre.length + pv_st (M 12) (M 13) (pv_prev (ofn pre) pre.length) (p : Int) * M 14 b = A at hst2 t1 t2 hA
        have hAb : 0 ≤ A ∧ A ≤ 3000 := by omega
        rw [ja_w_id (x := A + M 11 6) (by omega) (by omega), ja_w_id (x := (pre.length : Int) + 1) (by omega) (by omega), ja_w_id (x := jv_num pre * 10) (by omega) (by omega), ja_w_id (x := jv_num pre * 10 + (p : Int)) (by omega) (by omega), jx_shl1 (by omega), jx_or (by omega) (jx_p2 (by omega)), jv_used (show p < P by omega)] at hst2
        -- what is left out is not better
        have skip : ((jv_g P m left p).map (fun o => pre ++ o)).foldl (sn M b) s = s → ja_D true (ja_x true (dd + 6 + m)) k_OrderSearch_goSoon 29 [some (jr 91), some (ji (pre.length : Int)), some (ji (pv_prev (ofn pre) pre.length)), some (ji (pv_lo M b pre pre.length)), some (ji ((jv_set (fun q => !(left q)) P : Nat) : Int)), some (ji (jv_num pre)), some (ji (p : Int)), none, none] [] N = ja_D true (ja_x true (dd + 6 + m)) k_OrderSearch_goSoon 29 [some (jr 91), some (ji (pre.length : Int)), some (ji (pv_prev (ofn pre) pre.length)), some (ji (pv_lo M b pre pre.length)), some (ji ((jv_set (fun q => !(left q)) P : Nat) : Int)), some (ji (jv_num pre)), some (ji ((p + 1 : Nat) : Int)), none, none] [] N → ∃ N', ja_D true (ja_x true (dd + 6 + m)) k_OrderSearch_goSoon 29 [some (jr 91), some (ji (pre.length : Int)), some (ji (pv_prev (ofn pre) pre.length)), some (ji (pv_lo M b pre pre.length)), some (ji ((jv_set (fun q => !(left q)) P : Nat) : Int)), some (ji (jv_num pre)), some (ji (p : Int)), none, none] [] N = some (none, N') ∧ jFr s91 N0 N' ∧ N' 91 5 = (b : Int) ∧ sn_enc N' ((((List.range' (p + 1) k).flatMap (jv_g P m left)).map (fun o => pre ++ o)).foldl (sn M b) (((jv_g P m left p).map (fun o => pre ++ o)).foldl (sn M b) s)) := by
          intro c1 c2
          rw [c1]
          obtain ⟨N', g1, g2⟩ := ihk (p + 1) N s (by omega) hf h5 hs'
          exact ⟨N', c2.trans g1, g2⟩
        by_cases z : left p = true
        · have eg : (jv_g P m left p).map (fun o => pre ++ o) = (jv_ords P m (jv_rest left p)).map (fun o => (pre ++ [p]) ++ o) := by
            unfold jv_g
            rw [if_pos z, jv_blk]
          have e01 : (if (!(left p)) = true then (1 : Int) else 0) = 0 := by simp [z]
          rw [e01] at hst2
          have hp' : ∀ q ∈ pre ++ [p], q < P := fun q hq => by
            rcases List.mem_append.mp hq with y | y
            · exact hp q y
            · rw [List.mem_singleton.mp y]
              omega
          have elo : pv_lo M b (pre ++ [p]) (pre.length + 1) = A + M 11 6 := by
            have := hA []
            show pv_ao M b (pre ++ [p]) pre.length + M 11 6 = _
            rw [this]
          have blk1 : pv_hit M b (p : Int) A → ((jv_g P m left p).map (fun o => pre ++ o)).foldl (sn M b) s = s := fun hh => by
            rw [eg]
            refine bs_cut (fun l hl' w => ?_)
            obtain ⟨o, ho, rfl⟩ := List.mem_map.mp hl'
            have hw : sn_ok M b ((pre ++ [p]) ++ o) := w.2
            rw [List.append_assoc] at hw
            have hw2 := hw pre.length (by rw [List.length_append, List.length_append, List.length_cons]; omega)
            rw [show ofn (pre ++ ([p] ++ o)) pre.length = (p : Int) from congrArg Nat.cast (jv_nth_m (a := pre) (b := o) (p := p)), show pv_ao M b (pre ++ ([p] ++ o)) pre.length = A from hA o] at hw2
            exact hw2 hh
          have blk2 : ∀ x, s = some x → ¬ A + M 11 6 < x.1 → ((jv_g P m left p).map (fun o => pre ++ o)).foldl (sn M b) s = s := fun x hx hlt => by
            rw [eg]
            refine bs_cut (fun l hl' w => ?_)
            obtain ⟨o, ho, rfl⟩ := List.mem_map.mp hl'
            have hw : sn_val M b ((pre ++ [p]) ++ o) < x.1 := w.1 x hx
            obtain ⟨o1, o2⟩ := jv_ords_mem m _ o ho
            have hvo := hvl ((pre ++ [p]) ++ o) (fun q hq => by
              rcases List.mem_append.mp hq with y | y
              · exact hp' q y
              · exact (o2 q y).1)
            have mono := pv_lv_mono hH (s := M 32 b) hvo hk (pre.length + 1) m (by omega)
            have eqlo := (pv_lv_congr (X := M 12) (Y := M 13) (s := M 32 b) (k := M 14 b) (y := M 11 6) (o := ofn ((pre ++ [p]) ++ o)) (o' := ofn (pre ++ [p])) (pre.length + 1) (fun u hu => congrArg Nat.cast (jv_nth_l (by rw [List.length_append, List.length_cons, List.length_nil]; omega)))).1
            obtain ⟨Q, hQ⟩ : ∃ Q, P = Q + 1 := ⟨P - 1, by omega⟩
            have hq1 := hvo Q (by omega)
            have wz := pv_way_b (pv_st_b hH (q := -1) (Or.inr hq1) (Or.inl rfl)) hk
            have ev : sn_val M b ((pre ++ [p]) ++ o) = pv_lv (M 12) (M 13) (M 32 b) (M 14 b) (M 11 6) (ofn ((pre ++ [p]) ++ o)) (Q + 1) + pv_st (M 12) (M 13) (ofn ((pre ++ [p]) ++ o) Q) (-1) * M 14 b := by
              show pv_home _ _ _ _ _ _ (M 11 3).toNat = _
              rw [show (M 11 3).toNat = Q + 1 by omega, pv_home_eq]
            rw [show pre.length + 1 + m = Q + 1 by omega, eqlo] at mono
            have elo' : pv_lv (M 12) (M 13) (M 32 b) (M 14 b) (M 11 6) (ofn (pre ++ [p])) (pre.length + 1) = A + M 11 6 := elo
            omega
          have take : ¬ pv_hit M b (p : Int) A → ja_D true (ja_x true (dd + 6 + m)) k_OrderSearch_goSoon 29 [some (jr 91), some (ji (pre.length : Int)), some (ji (pv_prev (ofn pre) pre.length)), some (ji (pv_lo M b pre pre.length)), some (ji ((jv_set (fun q => !(left q)) P : Nat) : Int)), some (ji (jv_num pre)), some (ji (p : Int)), none, none] [] N = ja_bV (ja_x true (dd + 6 + m) 139 [jr 91, ji ((pre.length : Int) + 1), ji (p : Int), ji (A + M 11 6), ji ((jv_set (fun q => !(jv_rest left p q)) P : Nat) : Int), ji (jv_num pre * 10 + (p : Int))] N) (fun M9 => ja_D true (ja_x true (dd + 6 + m)) k_OrderSearch_goSoon 29 [some (jr 91), some (ji (pre.length : Int)), some (ji (pv_prev (ofn pre) pre.length)), some (ji (pv_lo M b pre pre.length)), some (ji ((jv_set (fun q => !(left q)) P : Nat) : Int)), some (ji (jv_num pre)), some (ji ((p + 1 : Nat) : Int)), none, none] [] M9) → ∃ N', ja_D true (ja_x true (dd + 6 + m)) k_OrderSearch_goSoon 29 [some (jr 91), some (ji (pre.length : Int)), some (ji (pv_prev (ofn pre) pre.length)), some (ji (pv_lo M b pre pre.length)), some (ji ((jv_set (fun q => !(left q)) P : Nat) : Int)), some (ji (jv_num pre)), some (ji (p : Int)), none, none] [] N = some (none, N') ∧ jFr s91 N0 N' ∧ N' 91 5 = (b : Int) ∧ sn_enc N' ((((List.range' (p + 1) k).flatMap (jv_g P m left)).map (fun o => pre ++ o)).foldl (sn M b) (((jv_g P m left p).map (fun o => pre ++ o)).foldl (sn M b) s)) := by
            intro c1 c2
            obtain ⟨N1, g1, g2, g3, g4⟩ := ih (jv_rest left p) (pre ++ [p]) N s (by rw [List.length_append, List.length_cons, List.length_nil]; omega) (by rw [jv_cnt_less z, hcn, if_pos (by omega)]; omega) hp' hf h5 hs' (sn_ok_s hok (by rw [show pv_ao M b (pre ++ [p]) pre.length = A from hA []]; exact c1))
            rw [show (pre ++ [p]).length = pre.length + 1 by rw [List.length_append, List.length_cons, List.length_nil], elo, show pv_prev (ofn (pre ++ [p])) (pre.length + 1) = (p : Int) from congrArg Nat.cast (jv_nth_m (a := pre) (b := []) (p := p)), jv_num_s, show ((pre.length + 1 : Nat) : Int) = (pre.length : Int) + 1 by omega] at g1
            obtain ⟨N', k1, k2⟩ := ihk (p + 1) N1 _ (by omega) g2 g3 g4
            rw [eg]
            refine ⟨N', ?_, k2⟩
            rw [c2, g1, jz_bV]
            exact k1
          cases s with
          | none =>
            rw [if_pos (show N 91 6 = 0 from hs'), if_pos rfl] at hst2
            rcases t2 with ⟨rfl, t2⟩ | ⟨rfl, t2⟩
            · rw [if_neg (by decide)] at hst2
              exact skip (blk1 t2) hst2
            · rw [if_pos rfl] at hst2
              exact take t2 hst2
          | some x =>
            rw [show N 91 6 = 1 from hs'.1, show N 91 8 = x.1 from hs'.2.2, if_neg (by decide)] at hst2
            by_cases w : A + M 11 6 < x.1
            · rw [if_pos w, if_pos rfl] at hst2
              rcases t2 with ⟨rfl, t2⟩ | ⟨rfl, t2⟩
              · rw [if_neg (by decide)] at hst2
                exact skip (blk1 t2) hst2
              · rw [if_pos rfl] at hst2
                exact take t2 hst2
            · rw [if_neg w, if_pos rfl] at hst2
              exact skip (blk2 x rfl w) hst2
        · have eg : ((jv_g P m left p).map (fun o => pre ++ o)).foldl (sn M b) s = s := by
            unfold jv_g
            rw [if_neg z]
            rfl
          have e01 : (if (!(left p)) = true then (1 : Int) else 0) = 1 := by simp [z]
          rw [e01] at hst2
          refine skip eg (hst2.trans ?_)
          cases s with
          | none => rw [if_pos (show N 91 6 = 0 from hs'), if_neg (by decide)]
          | some x =>
            rw [show N 91 6 = 1 from hs'.1, if_neg (by decide)]
            by_cases w : A + M 11 6 < N 91 8
            · rw [if_pos w, if_neg (by decide)]
            · rw [if_neg w, if_neg (by decide)]
    obtain ⟨N', k1, k2, k3, k4⟩ := loop P 0 N st (by omega) hf h5 hst
    have er : (List.range' 0 P).flatMap (jv_g P m left) = jv_ords P (m + 1) left := by
      rw [jv_ords_s, List.range_eq_range']
    rw [er] at k4
    refine ⟨N', ?_, k2, k3, k4⟩
    have pl := js_places (dd + 5 + m) N
    rw [show dd + 5 + m + 1 = dd + 6 + m by omega, (kkN N hf).of jk_H 11 3 rfl, hP] at pl
    rw [show dd + 6 + (m + 1) = dd + 6 + m + 1 by omega, f_OrderSearch_goSoon, pl, jz_bI, if_pos (by omega)]
    exact k1
