/-! rich: the class -/
def rc_met (M : ja_M) (b t : Nat) (q : Int) : Prop := ∃ c : Nat, (c : Int) < M 11 4 ∧ c ≠ b ∧ oX M c t = q
def rc_ok (M : ja_M) (b : Nat) (l : List Nat) : Prop := ∀ t, t < l.length → ¬ rc_met M b t (ofn l t)
def rc_T (M : ja_M) (b : Nat) (l : List Nat) (t : Nat) : Nat → Int := pw_L (t : Int) (ofn l t) (b : Int) (pv_ao M b l t) (pv_st (M 12) (M 13) (pv_prev (ofn l) t) (ofn l t))
def rc_val (W : (Nat → Int) → Int) (M : ja_M) (b : Nat) (l : List Nat) : Int := jv_sum (fun t => W (rc_T M b l t)) l.length
noncomputable abbrev rc (W : (Nat → Int) → Int) (M : ja_M) (b : Nat) : Option (Int × Int) → List Nat → Option (Int × Int) := bs (fun v x => x < v) (rc_val W M b) (rc_ok M b)
theorem rc_T_l (M : ja_M) (b : Nat) {pre : List Nat} (r : List Nat) {t : Nat} (h : t < pre.length) : rc_T M b (pre ++ r) t = rc_T M b pre t := by
  have e : ∀ u, u ≤ t → ofn (pre ++ r) u = ofn pre u := fun u hu => congrArg Nat.cast (jv_nth_l (by omega))
  have ep := (pv_lv_congr (X := M 12) (Y := M 13) (s := 0) (k := 0) (y := 0) t (fun u hu => e u (by omega))).2
  unfold rc_T
  rw [e t (Nat.le_refl _), ep, show pv_ao M b (pre ++ r) t = pv_ao M b pre t from pv_arr_congr e]
theorem rc_T_m (M : ja_M) (b : Nat) (pre r : List Nat) (p : Nat) : rc_T M b (pre ++ p :: r) pre.length = pw_L (pre.length : Int) (p : Int) (b : Int) (pv_lo M b pre pre.length + pv_st (M 12) (M 13) (pv_prev (ofn pre) pre.length) (p : Int) * M 14 b) (pv_st (M 12) (M 13) (pv_prev (ofn pre) pre.length) (p : Int)) := by
  have ep := (pv_lv_congr (X := M 12) (Y := M 13) (s := 0) (k := 0) (y := 0) (o := ofn (pre ++ p :: r)) (o' := ofn pre) pre.length (fun u hu => congrArg Nat.cast (jv_nth_l hu))).2
  unfold rc_T
  rw [pv_ao_eq, ep, show ofn (pre ++ p :: r) pre.length = (p : Int) from congrArg Nat.cast jv_nth_m]
theorem rc_val_s (W : (Nat → Int) → Int) (M : ja_M) (b : Nat) (pre : List Nat) (p : Nat) : rc_val W M b (pre ++ [p]) = rc_val W M b pre + W (pw_L (pre.length : Int) (p : Int) (b : Int) (pv_lo M b pre pre.length + pv_st (M 12) (M 13) (pv_prev (ofn pre) pre.length) (p : Int) * M 14 b) (pv_st (M 12) (M 13) (pv_prev (ofn pre) pre.length) (p : Int))) := by
  unfold rc_val
  rw [List.length_append, List.length_cons, List.length_nil]
  show jv_sum _ pre.length + W (rc_T M b (pre ++ [p]) pre.length) = _
  rw [rc_T_m, jv_sum_congr pre.length (fun t ht => congrArg W (rc_T_l M b [p] ht))]
theorem rc_ok_s {M : ja_M} {b p : Nat} {pre : List Nat} (h : rc_ok M b pre) (hp : ¬ rc_met M b pre.length (p : Int)) : rc_ok M b (pre ++ [p]) := fun t ht => by
  rw [List.length_append, List.length_cons, List.length_nil] at ht
  by_cases z : t = pre.length
  · subst z
    rw [show ofn (pre ++ [p]) pre.length = (p : Int) from congrArg Nat.cast (jv_nth_m (a := pre) (b := []) (p := p))]
    exact hp
  · rw [show ofn (pre ++ [p]) t = ofn pre t from congrArg Nat.cast (jv_nth_l (by omega))]
    exact h t (by omega)
theorem js_others (dd : Nat) {b t : Nat} {M N : ja_M} (hH : jH M) (hO : jO M) (kk : jK M N) (h5 : N 91 5 = (b : Int)) (ht : (t : Int) < M 11 3) : ∃ v : Nat, v < 64 ∧ ja_x true (dd + 3) 146 [jr 91, ji (t : Int)] N = some (some (ji (v : Int)), N) ∧ ∀ p : Nat, (v.testBit p = true ↔ rc_met M b t (p : Int)) := by
  have h0 := hH.b
  obtain ⟨B, hB⟩ : ∃ B : Nat, M 11 4 = (B : Int) := ⟨(M 11 4).toNat, by omega⟩
  have hHN := hH.kp (kk.of jk_H)
  have a3 : N 11 3 = M 11 3 := kk.of jk_H 11 3 rfl
  have a4 : N 11 4 = (B : Int) := (kk.of jk_H 11 4 rfl).trans hB
  have loop : ∀ (m c v : Nat), c + m = B → v < 2 ^ 6 → (∀ p : Nat, v.testBit p = true ↔ ∃ d : Nat, d < c ∧ d ≠ b ∧ oX M d t = (p : Int)) → ∃ v' : Nat, v' < 2 ^ 6 ∧ ja_D true (ja_x true (dd + 2)) k_OrderSearch_placesOfOthers 4 [some (jr 91), some (ji (t : Int)), some (ji (v : Int)), some (ji (c : Int))] [] N = some (some (ji (v' : Int)), N) ∧ ∀ p : Nat, (v'.testBit p = true ↔ rc_met M b t (p : Int)) := by
    intro m
    induction m with
    | zero =>
      intro c v e hv h
      refine ⟨v, hv, ?_, fun p => (h p).trans ⟨fun ⟨d, d1, d2, d3⟩ => ⟨d, by omega, d2, d3⟩, fun ⟨d, d1, d2, d3⟩ => ⟨d, by omega, d2, d3⟩⟩⟩
      rw [e_OrderSearch_placesOfOthers_4, js_bands, jz_bI, if_neg (by omega)]
    | succ m ih =>
      intro c v e hv h
      have h64 : (2 : Nat) ^ 6 = 64 := by decide
      have hst := e_OrderSearch_placesOfOthers_4 (ja_x true (dd + 2)) (t : Int) (v : Int) (c : Int) N
      rw [js_bands, jz_bI, if_pos (by omega), h5, ja_w_id (x := (c : Int) + 1) (by omega) (by omega), show (c : Int) + 1 = ((c + 1 : Nat) : Int) by omega] at hst
      by_cases z : c = b
      · rw [if_pos (by omega)] at hst
        obtain ⟨v', g1, g2, g3⟩ := ih (c + 1) v (by omega) hv (fun p => (h p).trans ⟨fun ⟨d, d1, d2⟩ => ⟨d, by omega, d2⟩, fun ⟨d, d1, d2⟩ => ⟨d, by have : d ≠ c := fun y => d2.1 (y.trans z); omega, d2⟩⟩)
        exact ⟨v', g1, hst.trans g2, g3⟩
      · have e70 := js_pl dd hHN (b := c) (t := t) (by omega) (by omega)
        have r := hO.v (b := c) (by omega) t ht
        obtain ⟨q, hq⟩ := Int.eq_ofNat_of_zero_le r.1
        rw [show oX N c t = oX M c t from kk.of jk_O (26 + c) t (jk_26 c (by omega) t), hq] at e70
        rw [if_neg (by omega), e70, jz_bI, jx_shl1 (by omega), jx_or (by omega) (jx_p2 (by omega))] at hst
        obtain ⟨v', g1, g2, g3⟩ := ih (c + 1) (v ||| 2 ^ q) (by omega) (Nat.or_lt_two_pow hv (Nat.pow_lt_pow_right (by decide) (by omega))) (fun p => by
          rw [Nat.testBit_or, Bool.or_eq_true, Nat.testBit_two_pow, decide_eq_true_iff, h p]
          constructor
          · rintro (⟨d, d1, d2⟩ | y)
            · exact ⟨d, by omega, d2⟩
            · exact ⟨c, by omega, z, by rw [hq, y]⟩
          · rintro ⟨d, d1, d2, d3⟩
            by_cases y : d = c
            · subst y
              exact Or.inr (by omega)
            · exact Or.inl ⟨d, by omega, d2, d3⟩)
        exact ⟨v', g1, hst.trans g2, g3⟩
  obtain ⟨v, g1, g2, g3⟩ := loop B 0 0 (by omega) (by decide) (fun p => by
    rw [Nat.zero_testBit]
    exact ⟨fun y => absurd y (by decide), fun ⟨d, d1, _⟩ => absurd d1 (by omega)⟩)
  exact ⟨v, g1, (f_OrderSearch_placesOfOthers _ _ _).trans g2, g3⟩
abbrev s912 : Nat → Prop := fun c => c = 91 ∨ (22 ≤ c ∧ c ≤ 23)
theorem jFr.k912 {A B : ja_M} (h : jFr s912 A B) : jK A B := h.K (fun c x => by
  have : c = 91 ∨ (22 ≤ c ∧ c ≤ 23) := x
  omega)
theorem js_goRich {M N0 : ja_M} {P b : Nat} {W : (Nat → Int) → Int} (hH : jH M) (hO : jO M) (hW : jW M) (kk0 : jK M N0) (hw : ∀ L, pw_h M L (W L)) (h92 : ∀ t : Nat, t < P → ∃ v : Nat, v < 64 ∧ N0 92 t = (v : Int) ∧ ∀ p : Nat, (v.testBit p = true ↔ rc_met M b t (p : Int))) (hP : M 11 3 = (P : Int)) (hb : (b : Int) < M 11 4) (dd : Nat) : ∀ (m : Nat) (left : Nat → Bool) (pre : List Nat) (N : ja_M) (st : Option (Int × Int)), pre.length + m = P → jv_cnt left P = (m : Int) → (∀ p ∈ pre, p < P) → jFr s912 N0 N → N 91 5 = (b : Int) → sn_enc N st → rc_ok M b pre → (-1000000 * (pre.length : Int) ≤ rc_val W M b pre ∧ rc_val W M b pre ≤ 1000000 * (pre.length : Int)) → ∃ N', ja_x true (dd + 6 + m) 147 [jr 91, ji (pre.length : Int), ji (pv_prev (ofn pre) pre.length), ji (pv_lo M b pre pre.length), ji ((jv_set (fun q => !(left q)) P : Nat) : Int), ji (jv_num pre), ji (rc_val W M b pre)] N = some (none, N') ∧ jFr s912 N0 N' ∧ N' 91 5 = (b : Int) ∧ sn_enc N' (((jv_ords P m left).map (fun o => pre ++ o)).foldl (rc W M b) st) := by
  have h0 := hH.b
  have hP0 : 0 < P := by omega
  have hk := (hH.2.2.2 b hb).2
  have hs := (hO.2.2 b hb).2
  have kkN : ∀ N : ja_M, jFr s912 N0 N → jK M N := fun N hf => kk0.tr hf.k912
  have hvl : ∀ l : List Nat, (∀ p ∈ l, p < P) → ∀ u : Nat, (u : Int) < M 11 3 → 0 ≤ ofn l u ∧ ofn l u < M 11 3 := fun l h u _ => by
    have : jv_nth l u < P := jv_nth_lt0 h hP0
    show 0 ≤ ((jv_nth l u : Nat) : Int) ∧ ((jv_nth l u : Nat) : Int) < M 11 3
    omega
  intro m
  induction m with
  | zero =>
    intro left pre N st hl hcn hp hf h5 hst hok hvb
    have hl : pre.length = P := by omega
    have efold : ((jv_ords P 0 left).map (fun o => pre ++ o)).foldl (rc W M b) st = rc W M b st pre := by
      show rc W M b st (pre ++ []) = _
      rw [List.append_nil]
    rw [efold]
    have a3 : N 11 3 = (P : Int) := ((kkN N hf).of jk_H 11 3 rfl).trans hP
    rw [show dd + 6 + 0 = dd + 5 + 1 from rfl, f_OrderSearch_goRich, js_places, jz_bI, if_neg (by omega), f_OrderSearch_keep, jz_bV]
    have fin : (∀ x, st = some x → x.1 < rc_val W M b pre) → ∃ N', some (none, ja_up (ja_up (ja_up N 91 6 1) 91 7 (jv_num pre)) 91 8 (rc_val W M b pre)) = some ((none : Option ja_V), N') ∧ jFr s912 N0 N' ∧ N' 91 5 = (b : Int) ∧ sn_enc N' (rc W M b st pre) := fun h => by
      refine ⟨_, rfl, ((hf.up (Or.inl rfl)).up (Or.inl rfl)).up (Or.inl rfl), ?_, ?_⟩
      · rw [jb_up_nej (by decide), jb_up_nej (by decide), jb_up_nej (by decide)]
        exact h5
      · rw [show rc W M b st pre = some (rc_val W M b pre, jv_num pre) from bs_p ⟨h, hok⟩]
        exact ⟨rfl, rfl, rfl⟩
    cases st with
    | none =>
      rw [if_pos (show N 91 6 = 0 from hst)]
      exact fin (fun x hx => by cases hx)
    | some x =>
      rw [show N 91 6 = 1 from hst.1, show N 91 8 = x.1 from hst.2.2, if_neg (by decide)]
      by_cases z : x.1 < rc_val W M b pre
      · rw [if_pos z]
        exact fin (fun y hy => by cases hy; exact z)
      · rw [if_neg z, show rc W M b (some x) pre = some x from bs_n (fun w => z (w.1 x rfl))]
        exact ⟨N, rfl, hf, h5, hst⟩
  | succ m ih =>
    intro left pre N st hl hcn hp hf h5 hst hok hvb
    have hv := hvl pre hp
    have lb : 0 ≤ pv_lo M b pre pre.length ∧ pv_lo M b pre pre.length ≤ 99 + 230 * (pre.length : Int) := pv_lv_b hH hv hs hk pre.length (by omega)
    have hprev := pv_prev_pl hv (t := pre.length) (by omega)
    have hnum := jv_num_lt (a := pre) (fun p h => by have := hp p h; omega) (by omega)
    have h64 := jv_set_64 (fun q => !(left q)) (n := P) (by omega)
    obtain ⟨mk, mk1, mk2, mk3⟩ := h92 pre.length (by omega)
    have h64' : jv_set (fun q => !(left q)) P ||| mk < 2 ^ 6 := Nat.or_lt_two_pow (n := 6) h64 mk1
    have e64 : (2 : Nat) ^ 6 = 64 := by decide
    have loop : ∀ (k p : Nat) (N : ja_M) (s : Option (Int × Int)), p + k = P → jFr s912 N0 N → N 91 5 = (b : Int) → sn_enc N s → ∃ N', ja_D true (ja_x true (dd + 6 + m)) k_OrderSearch_goRich 29 [some (jr 91), some (ji (pre.length : Int)), some (ji (pv_prev (ofn pre) pre.length)), some (ji (pv_lo M b pre pre.length)), some (ji ((jv_set (fun q => !(left q)) P : Nat) : Int)), some (ji (jv_num pre)), some (ji (rc_val W M b pre)), some (ji ((jv_set (fun q => !(left q)) P ||| mk : Nat) : Int)), some (ji (p : Int)), none, none, none] [] N = some (none, N') ∧ jFr s912 N0 N' ∧ N' 91 5 = (b : Int) ∧ sn_enc N' ((((List.range' p k).flatMap (jv_g P m left)).map (fun o => pre ++ o)).foldl (rc W M b) s) := by
      intro k
      induction k with
      | zero =>
        intro p N s e hf h5 hs'
        refine ⟨N, ?_, hf, h5, hs'⟩
        have pl := js_places (dd + 5 + m) N
        rw [show dd + 5 + m + 1 = dd + 6 + m by omega, (kkN N hf).of jk_H 11 3 rfl, hP] at pl
        rw [e_OrderSearch_goRich_29, pl, jz_bI, if_neg (by omega)]
      | succ k ihk =>
        intro p N s e hf h5 hs'
        rw [show List.range' p (k + 1) = p :: List.range' (p + 1) k from rfl, List.flatMap_cons, List.map_append, List.foldl_append]
        have kk := kkN N hf
        have kh := kk.of jk_H
        have hHN := hH.kp kh
        have pl := js_places (dd + 5 + m) N
        rw [show dd + 5 + m + 1 = dd + 6 + m by omega, kh 11 3 rfl, hP] at pl
        have hbit : (jv_set (fun q => !(left q)) P ||| mk).testBit p = (!(left p) || mk.testBit p) := by
          rw [Nat.testBit_or, jv_set_bit]
          simp [show p < P by omega]
        have hst2 := e_OrderSearch_goRich_29 (ja_x true (dd + 6 + m)) (pre.length : Int) (pv_prev (ofn pre) pre.length) (pv_lo M b pre pre.length) ((jv_set (fun q => !(left q)) P : Nat) : Int) (jv_num pre) (rc_val W M b pre) ((jv_set (fun q => !(left q)) P ||| mk : Nat) : Int) (p : Int) N
        rw [pl, jz_bI, if_pos (by omega), jx_bit (by omega) (by omega), hbit, jz_b0, ja_w_id (x := (p : Int) + 1) (by omega) (by omega), show (p : Int) + 1 = ((p + 1 : Nat) : Int) by omega] at hst2
        have skip : ((jv_g P m left p).map (fun o => pre ++ o)).foldl (rc W M b) s = s → ja_D true (ja_x true (dd + 6 + m)) k_OrderSearch_goRich 29 [some (jr 91), some (ji (pre.length : Int)), some (ji (pv_prev (ofn pre) pre.length)), some (ji (pv_lo M b pre pre.length)), some (ji ((jv_set (fun q => !(left q)) P : Nat) : Int)), some (ji (jv_num pre)), some (ji (rc_val W M b pre)), some (ji ((jv_set (fun q => !(left q)) P ||| mk : Nat) : Int)), some (ji (p : Int)), none, none, none] [] N = ja_D true (ja_x true (dd + 6 + m)) k_OrderSearch_goRich 29 [some (jr 91), some (ji (pre.length : Int)), some (ji (pv_prev (ofn pre) pre.length)), some (ji (pv_lo M b pre pre.length)), some (ji ((jv_set (fun q => !(left q)) P : Nat) : Int)), some (ji (jv_num pre)), some (ji (rc_val W M b pre)), some (ji ((jv_set (fun q => !(left q)) P ||| mk : Nat) : Int)), some (ji ((p + 1 : Nat) : Int)), none, none, none] [] N → ∃ N', ja_D true (ja_x true (dd + 6 + m)) k_OrderSearch_goRich 29 [some (jr 91), some (ji (pre.length : Int)), some (ji (pv_prev (ofn pre) pre.length)), some (ji (pv_lo M b pre pre.length)), some (ji ((jv_set (fun q => !(left q)) P : Nat) : Int)), some (ji (jv_num pre)), some (ji (rc_val W M b pre)), some (ji ((jv_set (fun q => !(left q)) P ||| mk : Nat) : Int)), some (ji (p : Int)), none, none, none] [] N = some (none, N') ∧ jFr s912 N0 N' ∧ N' 91 5 = (b : Int) ∧ sn_enc N' ((((List.range' (p + 1) k).flatMap (jv_g P m left)).map (fun o => pre ++ o)).foldl (rc W M b) (((jv_g P m left p).map (fun o => pre ++ o)).foldl (rc W M b) s)) := by
          intro c1 c2
          rw [c1]
          obtain ⟨N', g1, g2⟩ := ihk (p + 1) N s (by omega) hf h5 hs'
          exact ⟨N', c2.trans g1, g2⟩
        by_cases z : left p = true
        · have eg : (jv_g P m left p).map (fun o => pre ++ o) = (jv_ords P m (jv_rest left p)).map (fun o => (pre ++ [p]) ++ o) := by
            unfold jv_g
            rw [if_pos z, jv_blk]
          by_cases y : mk.testBit p = true
          · rw [if_pos (by rw [y, Bool.or_true])] at hst2
            refine skip ?_ hst2
            rw [eg]
            refine bs_cut (fun l hl' w => ?_)
            obtain ⟨o, ho, rfl⟩ := List.mem_map.mp hl'
            have hw2 : rc_ok M b ((pre ++ [p]) ++ o) := w.2
            rw [List.append_assoc] at hw2
            have hw3 := hw2 pre.length (by rw [List.length_append, List.length_append, List.length_cons]; omega)
            rw [show ofn (pre ++ ([p] ++ o)) pre.length = (p : Int) from congrArg Nat.cast (jv_nth_m (a := pre) (b := o) (p := p))] at hw3
            exact hw3 ((mk3 p).mp y)
          · rw [if_neg (by rw [z]; simp [y])] at hst2
            have hpp : 0 ≤ (p : Int) ∧ (p : Int) < M 11 3 := by omega
            have sb := pv_st_b hH hprev (Or.inr hpp)
            have wb := pv_way_b sb hk
            have st1 := js_steps (dd + 3 + m) hHN (p := pv_prev (ofn pre) pre.length) (q := (p : Int)) (by rw [kh 11 3 rfl]; exact hprev) (Or.inr (by rw [kh 11 3 rfl]; exact hpp))
            rw [show dd + 3 + m + 3 = dd + 6 + m by omega, show N 12 = M 12 from funext fun i => kh 12 i rfl, show N 13 = M 13 from funext fun i => kh 13 i rfl] at st1
            have sl := js_slow (dd + 4 + m) (b := (b : Int)) hHN ⟨by omega, by rw [kh 11 4 rfl]; exact hb⟩
            rw [show dd + 4 + m + 2 = dd + 6 + m by omega, show ((b : Int)).toNat = b from rfl, kh 14 b rfl] at sl
            have hA : pv_st (M 12) (M 13) (pv_prev (ofn pre) pre.length) (p : Int) * M 14 b ≤ 200 ∧ 0 ≤ pv_st (M 12) (M 13) (pv_prev (ofn pre) pre.length) (p : Int) * M 14 b := ⟨wb.2, wb.1⟩
            obtain ⟨N1, v1, v2, v3⟩ := js_valueOf (dd + 1 + m) (a := (pre.length : Int)) (b := (p : Int)) (c := (b : Int)) (d := pv_lo M b pre pre.length + pv_st (M 12) (M 13) (pv_prev (ofn pre) pre.length) (p : Int) * M 14 b) (e := pv_st (M 12) (M 13) (pv_prev (ofn pre) pre.length) (p : Int)) (M := N) (hW.kp (kk.of jk_W)) (fun i hi => by
              have : i = 0 ∨ i = 1 ∨ i = 2 ∨ i = 3 ∨ i = 4 := by omega
              rcases this with rfl | rfl | rfl | rfl | rfl
              · show -1000000 ≤ (pre.length : Int) ∧ (pre.length : Int) ≤ 1000000
                omega
              · show -1000000 ≤ (p : Int) ∧ (p : Int) ≤ 1000000
                omega
              · show -1000000 ≤ (b : Int) ∧ (b : Int) ≤ 1000000
                omega
              · show -1000000 ≤ pv_lo M b pre pre.length + pv_st (M 12) (M 13) (pv_prev (ofn pre) pre.length) (p : Int) * M 14 b ∧ pv_lo M b pre pre.length + pv_st (M 12) (M 13) (pv_prev (ofn pre) pre.length) (p : Int) * M 14 b ≤ 1000000
                omega
              · show -1000000 ≤ pv_st (M 12) (M 13) (pv_prev (ofn pre) pre.length) (p : Int) ∧ pv_st (M 12) (M 13) (pv_prev (ofn pre) pre.length) (p : Int) ≤ 1000000
                omega) (pw_h_kp hW (hw _) kk)
            rw [show dd + 1 + m + 5 = dd + 6 + m by omega] at v1
            have hf1 : jFr s912 N0 N1 := hf.tr (v2.wk (fun c x => Or.inr x))
            have sy := f_Hunt_stay_11 (dd + 5 + m) N1
            rw [show dd + 5 + m + 1 = dd + 6 + m by omega, (kkN N1 hf1).of jk_H 11 6 rfl] at sy
            have h51 : N1 91 5 = (b : Int) := (v2 91 5 (fun z => by have := z.2; omega)).trans h5
            have hs1 : sn_enc N1 s := by
              have ee : ∀ i, N1 91 i = N 91 i := fun i => v2 91 i (fun z => by have := z.2; omega)
              cases s with
              | none => exact (ee 6).trans hs'
              | some x => exact ⟨(ee 6).trans hs'.1, (ee 7).trans hs'.2.1, (ee 8).trans hs'.2.2⟩
            rw [st1, jz_bI, h5, sl, jz_bI, ja_w_id (x := pv_st (M 12) (M 13) (pv_prev (ofn pre) pre.length) (p : Int) * M 14 b) (by omega) (by omega), ja_w_id (x := pv_lo M b pre pre.length + pv_st (M 12) (M 13) (pv_prev (ofn pre) pre.length) (p : Int) * M 14 b) (by omega) (by omega), h5, v1, jz_bI, sy, jz_bI, ja_w_id (x := pv_lo M b pre pre.length + pv_st (M 12) (M 13) (pv_prev (ofn pre) pre.length) (p : Int) * M 14 b + M 11 6) (by omega) (by omega), ja_w_id (x := (pre.length : Int) + 1) (by omega) (by omega), ja_w_id (x := jv_num pre * 10) (by omega) (by omega), ja_w_id (x := jv_num pre * 10 + (p : Int)) (by omega) (by omega), jx_shl1 (by omega), jx_or (by omega) (jx_p2 (by omega)), jv_used (show p < P by omega), ja_w_id (x := rc_val W M b pre + _) (by omega) (by omega)] at hst2
            have elo : pv_lo M b (pre ++ [p]) (pre.length + 1) = pv_lo M b pre pre.length + pv_st (M 12) (M 13) (pv_prev (ofn pre) pre.length) (p : Int) * M 14 b + M 11 6 := by
              show pv_ao M b (pre ++ [p]) pre.length + M 11 6 = _
              rw [pv_ao_eq]
            have evs := rc_val_s W M b pre p
            obtain ⟨N2, g1, g2, g3, g4⟩ := ih (jv_rest left p) (pre ++ [p]) N1 s (by rw [List.length_append, List.length_cons, List.length_nil]; omega) (by rw [jv_cnt_less z, hcn, if_pos (by omega)]; omega) (fun q hq => by
              rcases List.mem_append.mp hq with y | y
              · exact hp q y
              · rw [List.mem_singleton.mp y]
                omega) hf1 h51 hs1 (rc_ok_s hok (fun q => y ((mk3 p).mpr q))) (by
              rw [evs, List.length_append, List.length_cons, List.length_nil]
              omega)
            rw [evs, show (pre ++ [p]).length = pre.length + 1 by rw [List.length_append, List.length_cons, List.length_nil], elo, show pv_prev (ofn (pre ++ [p])) (pre.length + 1) = (p : Int) from congrArg Nat.cast (jv_nth_m (a := pre) (b := []) (p := p)), jv_num_s, show ((pre.length + 1 : Nat) : Int) = (pre.length : Int) + 1 by omega] at g1
            obtain ⟨N', k1, k2⟩ := ihk (p + 1) N2 _ (by omega) g2 g3 g4
            rw [eg]
            refine ⟨N', ?_, k2⟩
            rw [hst2, g1, jz_bV]
            exact k1
        · rw [if_pos (by rw [Bool.eq_false_iff.mpr z]; rfl)] at hst2
          refine skip ?_ hst2
          unfold jv_g
          rw [if_neg z]
          rfl
    obtain ⟨N', k1, k2, k3, k4⟩ := loop P 0 N st (by omega) hf h5 hst
    have er : (List.range' 0 P).flatMap (jv_g P m left) = jv_ords P (m + 1) left := by
      rw [jv_ords_s, List.range_eq_range']
    rw [er] at k4
    refine ⟨N', ?_, k2, k3, k4⟩
    have pl := js_places (dd + 5 + m) N
    rw [show dd + 5 + m + 1 = dd + 6 + m by omega, (kkN N hf).of jk_H 11 3 rfl, hP] at pl
    have e92 : N 92 pre.length = (mk : Int) := (hf 92 _ (fun z => by have : 92 = 91 ∨ (22 ≤ 92 ∧ 92 ≤ 23) := z; omega)).trans mk2
    rw [show dd + 6 + (m + 1) = dd + 6 + m + 1 by omega, f_OrderSearch_goRich, pl, jz_bI, if_pos (by omega), if_pos (by omega), if_pos (by omega), show ((pre.length : Int)).toNat = pre.length from rfl, e92, jx_or (by omega) (by omega)]
    exact k1
