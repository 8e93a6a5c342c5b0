/-! soonest: both sides -/
theorem jv_digs_take (l : List Nat) : ∀ n, n ≤ l.length → jv_digs (ofn l) n = jv_num (l.take n)
  | 0, _ => rfl
  | n + 1, h => by
    show jv_digs (ofn l) n * 10 + ofn l n = _
    rw [jv_digs_take l n (by omega), List.take_add_one, List.getElem?_eq_getElem (by omega)]
    show _ = jv_num (l.take n ++ [l[n]])
    rw [jv_num_s]
    have e : jv_nth l n = l[n] := by
      unfold jv_nth
      rw [List.getD_eq_getElem?_getD, List.getElem?_eq_getElem (by omega)]
      rfl
    show _ + ((jv_nth l n : Nat) : Int) = _
    rw [e]
theorem jv_num_digs {l : List Nat} : jv_num l = jv_digs (ofn l) l.length := by
  rw [jv_digs_take l l.length (Nat.le_refl _), List.take_length]
theorem jv_all_mem {n : Nat} {o : List Nat} (h : o ∈ jv_all n) : o.length = n ∧ ∀ p ∈ o, p < n := by
  obtain ⟨a, b⟩ := jv_ords_mem n _ o h
  exact ⟨a, fun p hp => (b p hp).1⟩
theorem pv_home_congr {X Y : Nat → Int} {s k y : Int} {o o' : Nat → Int} {P : Nat} (hP : 0 < P) (h : ∀ u, u < P → o u = o' u) : pv_home X Y s k y o P = pv_home X Y s k y o' P := by
  unfold pv_home
  rw [pv_arr_congr (o' := o') (fun u hu => h u (by omega)), h (P - 1) (by omega)]
theorem js_seekSoonest (dd : Nat) {M : ja_M} {b : Nat} (hH : jH M) (hO : jO M) (hb : (b : Int) < M 11 4) : ∃ N, ja_x true (dd + 13) 138 [jr 91, ji (b : Int)] M = some (some (ji (N 91 6)), N) ∧ jK M N ∧ (∀ i, N 0 i = M 0 i) ∧ sn_enc N ((jv_all (M 11 3).toNat).foldl (sn M b) none) := by
  have h0 := hH.b
  obtain ⟨P, hP⟩ : ∃ P : Nat, M 11 3 = (P : Int) := ⟨(M 11 3).toNat, by omega⟩
  rw [show (M 11 3).toNat = P by omega]
  have k1 : jFr s91 M (ja_up (ja_up M 91 5 (b : Int)) 91 6 0) := jFr.up (S := s91) (jFr.up (S := s91) (jFr.rf M) rfl) rfl
  have kk1 : jK M (ja_up (ja_up M 91 5 (b : Int)) 91 6 0) := k1.K (fun c x => Or.inl ⟨by have : c = 91 := x; omega, by have : c = 91 := x; omega⟩)
  have c5 : (ja_up (ja_up M 91 5 (b : Int)) 91 6 0) 91 5 = (b : Int) := rfl
  have c6 : (ja_up (ja_up M 91 5 (b : Int)) 91 6 0) 91 6 = 0 := rfl
  have hX := f_OrderSearch_seekSoonest (dd + 12) (b : Int) M
  generalize ja_up (ja_up M 91 5 (b : Int)) 91 6 0 = M1 at k1 kk1 c5 c6 hX
  have hH1 := hH.kp (kk1.of jk_H)
  have hO1 := hO.kp hH (kk1.of jk_O)
  obtain ⟨N1, l1, l2, l3⟩ := js_look (dd + 7) hH1 hO1
  rw [show dd + 7 + 5 = dd + 12 from rfl] at l1
  have kk2 : jK M N1 := kk1.tr l2.kC
  have a3 : M1 11 3 = M 11 3 := kk1.of jk_H 11 3 rfl
  have a4 : M1 11 4 = M 11 4 := kk1.of jk_H 11 4 rfl
  have times : ∀ c t : Nat, (c : Int) < M 11 4 → (t : Int) < M 11 3 → N1 (79 + c) (oX M c t).toNat = aX M c t := fun c t hc ht => by
    have := l3 c t (by omega) (by omega)
    rw [show oX M1 c t = oX M c t from kk1.of jk_O (26 + c) t (jk_26 c (by omega) t), show aX M1 c t = aX M c t from congrFun (pw_T_kp hH hc kk1 t) 3] at this
    exact this
  have hcnt : ∀ n, jv_cnt (fun _ => true) n = (n : Int) := by
    intro n
    induction n with
    | zero => rfl
    | succ n ih =>
      show jv_cnt (fun _ => true) n + 1 = _
      rw [ih]
      omega
  have n5 : N1 91 5 = (b : Int) := (l2 91 5 (fun z => by have := z.2; omega)).trans c5
  have n6 : N1 91 6 = 0 := (l2 91 6 (fun z => by have := z.2; omega)).trans c6
  obtain ⟨N, g1, g2, g3, g4⟩ := js_goSoon hH hO kk2 times hP hb (dd + 6 - P) P (fun _ => true) [] N1 none (by rw [List.length_nil]; omega) (hcnt P) (fun p hp => by cases hp) (jFr.rf N1) n5 n6 (fun t ht => by cases ht)
  have e0 : jv_set (fun q => !((fun _ => true) q)) P = 0 := jv_set_0 (jv_cnt_none P (fun _ _ => rfl))
  rw [show dd + 6 - P + 6 + P = dd + 12 by omega, e0] at g1
  have em : (jv_ords P P (fun _ => true)).map (fun o => [] ++ o) = jv_all P := by
    show (jv_ords P P (fun _ => true)).map (fun o => o) = _
    exact List.map_id' _
  rw [em] at g4
  have st : ja_x true (dd + 12) 72 [jr 24, ji (b : Int)] N1 = some (some (ji (M 32 b)), N1) := by
    have := js_startOf (dd + 10) (b := (b : Int)) (hH.kp (kk2.of jk_H)) ⟨by omega, by rw [kk2.of jk_H 11 4 rfl]; exact hb⟩
    rw [show ((b : Int)).toNat = b from rfl, kk2.of jk_O 32 b rfl] at this
    exact this
  have isB : ja_isB (N 91 6) = true := by
    revert g4
    cases (jv_all P).foldl (sn M b) none with
    | none =>
      intro g4
      exact jz_isB (Or.inl g4)
    | some x =>
      intro g4
      exact jz_isB (Or.inr g4.1)
  refine ⟨N, ?_, kk2.tr (g2.K (fun c x => Or.inl ⟨by have : c = 91 := x; omega, by have : c = 91 := x; omega⟩)), fun i => ?_, g4⟩
  · rw [show dd + 13 = dd + 12 + 1 from rfl, hX, l1, jz_bV, st, jz_bI, show ja_x true (dd + 12) 139 [jr 91, ji 0, ji (-1), ji (M 32 b), ji 0, ji 0] N1 = some (none, N) from g1, jz_bV, isB, cond_true]
  · exact (g2 0 i (by decide)).trans ((l2 0 i (fun z => by have := z.1; omega)).trans (k1 0 i (by decide)))
/-- only one band's row of orders changes -/
def jF154 (b P : Nat) (M N : ja_M) : Prop := ∀ d j, ¬ (d = 154 ∧ 6 * b ≤ j ∧ j < 6 * b + P) → N d j = M d j
theorem jF154.kH {b P : Nat} {M N : ja_M} (h : jF154 b P M N) : jKs kH M N := fun c i q => h c i (fun z => by rw [z.1] at q; cases q)
/-- an order, laid -/
theorem js_lay (dd : Nat) {b P : Nat} {f : Nat → Int} {x : Int} {N2 N : ja_M} (hH : jH N2) (hP : N2 11 3 = (P : Int)) (hb : (b : Int) < N2 11 4) (hf : jF154 b P N2 N) (hx : x = jv_digs f P) (hv : ∀ t, t < P → 0 ≤ f t ∧ f t ≤ 9) : ∃ N3, ja_x true (dd + 3) 248 [jr 137, ji (b : Int), ji x] N = some (none, N3) ∧ jF154 b P N2 N3 ∧ ∀ t, t < P → N3 154 (6 * b + t) = f t := by
  have h0 := hH.b
  have kh := hf.kH
  have a3 : N 11 3 = (P : Int) := (kh 11 3 rfl).trans hP
  have hdb := jv_digs_b P hv
  have hp10 : (10 : Int) ^ P ≤ 1000000 := by
    have : P = 0 ∨ P = 1 ∨ P = 2 ∨ P = 3 ∨ P = 4 ∨ P = 5 ∨ P = 6 := by omega
    rcases this with rfl | rfl | rfl | rfl | rfl | rfl | rfl <;> decide
  have w := js_write dd (b := (b : Int)) (x := x) (hH.kp kh) ⟨by omega, by rw [kh 11 4 rfl]; exact hb⟩ (by omega)
  rw [a3, show ((P : Int)).toNat = P from rfl, show ((b : Int)).toNat = b from rfl] at w
  refine ⟨_, w, fun d j z => ?_, fun t ht => ?_⟩
  · by_cases y : d = 154
    · subst y
      rw [ja_seg_out (by omega)]
      exact hf 154 j z
    · rw [ja_seg_ne y]
      exact hf d j z
  · rw [ja_seg_in ht, hx]
    exact jv_nthd_digs P t ht hv
theorem js_doesClash (dd : Nat) {b P : Nat} {o : List Nat} {M N : ja_M} (hH : jH M) (hO : jO M) (hP : M 11 3 = (P : Int)) (hb : (b : Int) < M 11 4) (kh : jKs kH M N) (h55 : ∀ c : Nat, (c : Int) < M 11 4 → N 155 c = M 32 c) (hoc : ∀ c t : Nat, (c : Int) < M 11 4 → c ≠ b → t < P → oR N c t = oX M c t) (hob : ∀ t, t < P → oR N b t = ofn o t) (hol : o.length = P) (hop : ∀ p ∈ o, p < P) : ∃ v : Int, ja_x true (dd + 5) 282 [jr 137, ji (b : Int)] N = some (some (ji v), N) ∧ ((v = 1 ∧ ¬ sn_ok M b o) ∨ (v = 0 ∧ sn_ok M b o)) := by
  have h0 := hH.b
  obtain ⟨B, hB⟩ : ∃ B : Nat, M 11 4 = (B : Int) := ⟨(M 11 4).toNat, by omega⟩
  have hHN := hH.kp kh
  have a3 : N 11 3 = M 11 3 := kh 11 3 rfl
  have a4 : N 11 4 = M 11 4 := kh 11 4 rfl
  have a6 : N 11 6 = M 11 6 := kh 11 6 rfl
  have a28 : N 137 28 = (B : Int) := (kh 137 28 rfl).trans (hH.2.1.2.1.trans hB)
  have a12 : N 12 = M 12 := funext fun i => kh 12 i rfl
  have a13 : N 13 = M 13 := funext fun i => kh 13 i rfl
  have vb : ∀ u : Nat, (u : Int) < M 11 3 → 0 ≤ oR N b u ∧ oR N b u < M 11 3 := fun u hu => by
    rw [hob u (by omega)]
    have : jv_nth o u < P := jv_nth_lt hop (by omega)
    show 0 ≤ ((jv_nth o u : Nat) : Int) ∧ ((jv_nth o u : Nat) : Int) < M 11 3
    omega
  have vc : ∀ c : Nat, (c : Int) < M 11 4 → ∀ u : Nat, (u : Int) < M 11 3 → 0 ≤ oR N c u ∧ oR N c u < M 11 3 := fun c hc u hu => by
    by_cases z : c = b
    · subst z
      exact vb u hu
    · rw [hoc c u hc z (by omega)]
      exact hO.v hc u hu
  have hs : ∀ c : Nat, (c : Int) < M 11 4 → 0 ≤ N 155 c ∧ N 155 c ≤ 99 := fun c hc => by
    rw [h55 c hc]
    exact (hO.2.2 c hc).2
  have ab : ∀ t : Nat, t < P → aR N b t = pv_ao M b o t := fun t ht => by
    show pv_arr (N 12) (N 13) (N 155 b) (N 14 b) (N 11 6) (oR N b) t = _
    rw [a12, a13, h55 b hb, kh 14 b rfl, a6]
    exact pv_arr_congr (fun u hu => hob u (by omega))
  have ac : ∀ c t : Nat, (c : Int) < M 11 4 → c ≠ b → t < P → aR N c t = aX M c t := fun c t hc z ht => by
    show pv_arr (N 12) (N 13) (N 155 c) (N 14 c) (N 11 6) (oR N c) t = _
    rw [a12, a13, h55 c hc, kh 14 c rfl, a6]
    exact pv_arr_congr (fun u hu => hoc c u hc z (by omega))
  have hcr : ∀ c : Nat, (c : Int) < M 11 4 → c ≠ b → (pv_cl (pv_C (N 11 3).toNat (N 11 6) (aR N b) (aR N c) (oR N b) (oR N c)) = -1 ↔ ∀ t u : Nat, t < P → u < P → oX M c u = ofn o t → ¬ pv_ab (aX M c u - pv_ao M b o t) < M 11 6) := fun c hc z => by
    have hc0 : ∀ v, pv_C (N 11 3).toNat (N 11 6) (aR N b) (aR N c) (oR N b) (oR N c) v → 0 ≤ v := fun v => pv_C_0 (fun t ht => (pv_arr_b hHN (fun u hu => by rw [a3]; exact vb u (by omega)) (hs b hb) (hHN.2.2.2 b (by omega)).2 (t := t) (by omega)).1) v
    rw [pv_cl_none hc0, a3]
    rw [show pv_C (M 11 3).toNat (N 11 6) = pv_C (M 11 3).toNat (M 11 6) by rw [a6], show (M 11 3).toNat = P by omega]
    constructor
    · intro h t u ht hu e1 e2
      refine h _ ⟨t, u, ⟨ht, hu⟩, ?_, ?_, rfl⟩
      · rw [hob t ht, hoc c u hc z hu]
        exact e1.symm
      · rw [ab t ht, ac c u hc z hu, pv_ab_sy]
        exact e2
    · rintro h v ⟨t, u, ⟨ht, hu⟩, e1, e2, -⟩
      rw [hob t ht, hoc c u hc z hu] at e1
      rw [ab t ht, ac c u hc z hu, pv_ab_sy] at e2
      exact h t u ht hu e1.symm e2
  have loop : ∀ (m c : Nat), c + m = B → (∀ d : Nat, d < c → d ≠ b → ∀ t u : Nat, t < P → u < P → oX M d u = ofn o t → ¬ pv_ab (aX M d u - pv_ao M b o t) < M 11 6) → ∃ v : Int, ja_D true (ja_x true (dd + 4)) k_R_doesClash 2 [some (jr 137), some (ji (b : Int)), some (ji (c : Int))] [] N = some (some (ji v), N) ∧ ((v = 1 ∧ ¬ sn_ok M b o) ∨ (v = 0 ∧ sn_ok M b o)) := by
    intro m
    induction m with
    | zero =>
      intro c e h
      refine ⟨0, ?_, Or.inr ⟨rfl, fun t ht ⟨d, d1, d2, u, u1, u2, u3⟩ => h d (by omega) d2 t u (by omega) (by omega) u2 u3⟩⟩
      rw [e_R_doesClash_2, a28, if_neg (by omega)]
    | succ m ih =>
      intro c e h
      have hcB : (c : Int) < M 11 4 := by omega
      have hst := e_R_doesClash_2 (ja_x true (dd + 4)) (b : Int) (c : Int) N
      rw [a28, if_pos (by omega), ja_w_id (x := (c : Int) + 1) (by omega) (by omega), show (c : Int) + 1 = ((c + 1 : Nat) : Int) by omega] at hst
      by_cases z : c = b
      · rw [if_pos (by omega)] at hst
        obtain ⟨v, g1, g2⟩ := ih (c + 1) (by omega) (fun d hd dn => h d (by omega) dn)
        exact ⟨v, hst.trans g1, g2⟩
      · rw [if_neg (by omega), js_R_clashOf dd hHN (by omega) (by omega) (fun u hu => by rw [a3]; exact vb u (by omega)) (hs b hb) (fun u hu => by rw [a3]; exact vc c hcB u (by omega)) (hs c hcB), jz_bI] at hst
        by_cases y : pv_cl (pv_C (N 11 3).toNat (N 11 6) (aR N b) (aR N c) (oR N b) (oR N c)) = -1
        · rw [if_pos y] at hst
          obtain ⟨v, g1, g2⟩ := ih (c + 1) (by omega) (fun d hd dn => by
            by_cases w : d = c
            · subst w
              exact (hcr d hcB z).mp y
            · exact h d (by omega) dn)
          exact ⟨v, hst.trans g1, g2⟩
        · rw [if_neg y] at hst
          refine ⟨1, hst, Or.inl ⟨rfl, fun ok => y ((hcr c hcB z).mpr (fun t u ht hu e1 e2 => ?_))⟩⟩
          exact ok t (by omega) ⟨c, hcB, z, u, by omega, e1, e2⟩
  obtain ⟨v, g1, g2⟩ := loop B 0 (by omega) (fun d hd => by omega)
  exact ⟨v, (f_R_doesClash _ _ _).trans g1, g2⟩
def sn_enc2 (l4 l5 : Int) (st : Option (Int × Int)) : Prop := match st with
  | none => l4 = -1
  | some x => l4 = x.2 ∧ l5 = x.1 ∧ 0 ≤ x.2
theorem js_R_soonest (dd : Nat) {b P : Nat} {w : Int} {M N1 : ja_M} (hH : jH M) (hO : jO M) (kk : jK M N1) (hP : M 11 3 = (P : Int)) (hb : (b : Int) < M 11 4) : ∃ (l4 l5 : Int) (N : ja_M), ja_bV (ja_x true (dd + 9) 280 [jr 137] N1) (fun M5 => ja_bI (ja_x true (dd + 9) 241 [jr 137, ji (b : Int)] M5) (fun x7 M6 => ja_D true (ja_x true (dd + 9)) k_R_soonest 23 [some (jr 137), some (ji (b : Int)), some (ji w), some (ji x7), some (ji (-1)), some (ji 0), some (ji 0), none] [] M6)) = some (some (ji (if l4 = -1 then l4 else if w = 0 then l4 else l5)), N) ∧ sn_enc2 l4 l5 ((jv_all P).foldl (sn M b) none) ∧ jK N1 N ∧ (∀ i, N 0 i = N1 0 i) := by
  have h0 := hH.b
  have hH1 := hH.kp (kk.of jk_H)
  obtain ⟨N2, y1, y2, y3, y4, y5⟩ := js_layOrders dd hH1
  rw [show N1 11 3 = (P : Int) from (kk.of jk_H 11 3 rfl).trans hP, show ((P : Int)).toNat = P from rfl] at y3 y4 y5
  have kk2 : jK M N2 := kk.tr y2.K
  have hH2 := hH.kp (kk2.of jk_H)
  have hO2 := hO.kp hH (kk2.of jk_O)
  have b3 : N2 11 3 = (P : Int) := (kk2.of jk_H 11 3 rfl).trans hP
  have b4 : N2 11 4 = M 11 4 := kk2.of jk_H 11 4 rfl
  have eo := js_orderOf (dd + 6) (b := (b : Int)) hH2 hO2 ⟨by omega, by omega⟩
  rw [show dd + 6 + 3 = dd + 9 from rfl] at eo
  have ed : jv_dig N2 (b : Int) = jv_digs (fun t => N2 (26 + b) t) P := by
    rw [jv_dig_eq, b3]
    rfl
  have x154 : ∀ c t : Nat, (c : Int) < M 11 4 → t < P → N2 154 (6 * c + t) = oX M c t := fun c t hc ht => by
    have e1 : N2 154 (6 * c + t) = M 154 (6 * c + t) := kk2.of jk_O 154 _ rfl
    rw [e1]
    exact hO.eq (by omega) (by omega)
  have rows : ∀ (rest : List (List Nat)) (i : Nat) (N : ja_M) (l4 l5 : Int) (st : Option (Int × Int)), (jv_all P).drop i = rest → jF154 b P N2 N → sn_enc2 l4 l5 st → ∃ (l4' l5' : Int) (N' : ja_M), ja_D true (ja_x true (dd + 9)) k_R_soonest 23 [some (jr 137), some (ji (b : Int)), some (ji w), some (ji (jv_dig N2 (b : Int))), some (ji l4), some (ji l5), some (ji (i : Int)), none] [] N = some (some (ji (if l4' = -1 then l4' else if w = 0 then l4' else l5')), N') ∧ sn_enc2 l4' l5' (rest.foldl (sn M b) st) ∧ ∀ d j, N' d j = N2 d j := by
    intro rest
    induction rest with
    | nil =>
      intro i N l4 l5 st hd hf he
      have hlen : (jv_all P).length ≤ i := List.drop_eq_nil_iff.mp hd
      obtain ⟨N3, w1, w2, w3⟩ := js_lay (dd + 6) (x := jv_dig N2 (b : Int)) (f := fun t => N2 (26 + b) t) hH2 b3 (by omega) hf ed (fun t ht => by
        have := (hO2.1 b t (by omega) (by omega)).2
        show 0 ≤ N2 (26 + b) t ∧ N2 (26 + b) t ≤ 9
        omega)
      rw [show dd + 6 + 3 = dd + 9 from rfl] at w1
      refine ⟨l4, l5, N3, ?_, he, fun d j => ?_⟩
      · have e38 : N 137 38 = (((jv_all P).length : Nat) : Int) := (hf 137 38 (by omega)).trans y3
        rw [e_R_soonest_23, e38, if_neg (by omega), w1, jz_bV]
        by_cases a : l4 = -1
        · rw [if_pos a, if_pos a]
        · rw [if_neg a, if_neg a]
          by_cases b : w = 0
          · rw [if_pos b, if_pos b]
          · rw [if_neg b, if_neg b]
      · by_cases z : d = 154 ∧ 6 * b ≤ j ∧ j < 6 * b + P
        · obtain ⟨rfl, z1, z2⟩ := z
          obtain ⟨t, rfl⟩ : ∃ t, j = 6 * b + t := ⟨j - 6 * b, by omega⟩
          rw [w3 t (by omega), (hO2.1 b t (by omega) (by omega)).1]
        · exact w2 d j z
    | cons o rest ih =>
      intro i N l4 l5 st hd hf he
      have hi : i < (jv_all P).length := by
        by_cases q : i < (jv_all P).length
        · exact q
        · rw [List.drop_eq_nil_iff.mpr (by omega)] at hd
          cases hd
      have hoi : (jv_all P)[i]? = some o := by
        have := List.getElem?_drop (xs := jv_all P) (i := i) (j := 0)
        rw [hd] at this
        exact this.symm
      have hd' : (jv_all P).drop (i + 1) = rest := by
        rw [← List.drop_drop, hd]
        rfl
      obtain ⟨ol, op⟩ := jv_all_mem (List.mem_of_getElem? hoi)
      have e158 : N 158 i = jv_num o := (hf 158 i (by omega)).trans (y5 i o hoi)
      obtain ⟨N3, w1, w2, w3⟩ := js_lay (dd + 6) (x := jv_num o) (f := ofn o) hH2 b3 (by omega) hf (by rw [jv_num_digs, ol]) (fun t ht => by
        have : jv_nth o t < P := jv_nth_lt op (by omega)
        show 0 ≤ ((jv_nth o t : Nat) : Int) ∧ ((jv_nth o t : Nat) : Int) ≤ 9
        omega)
      rw [show dd + 6 + 3 = dd + 9 from rfl] at w1
      have kh3 : jKs kH M N3 := (kk2.of jk_H).tr w2.kH
      have hH3 := hH.kp kh3
      have c3 : N3 11 3 = M 11 3 := kh3 11 3 rfl
      have c4 : N3 11 4 = M 11 4 := kh3 11 4 rfl
      have x155 : ∀ c : Nat, (c : Int) < M 11 4 → N3 155 c = M 32 c := fun c hc => by
        rw [w2 155 c (by omega), show N2 155 c = M 155 c from kk2.of jk_O 155 c rfl]
        exact (hO.2.2 c hc).1
      have hoc : ∀ c t : Nat, (c : Int) < M 11 4 → c ≠ b → t < P → oR N3 c t = oX M c t := fun c t hc z ht => (w2 154 (6 * c + t) (by omega)).trans (x154 c t hc ht)
      have hov : ∀ u : Nat, (u : Int) < M 11 3 → 0 ≤ oR N3 b u ∧ oR N3 b u < M 11 3 := fun u hu => by
        have : jv_nth o u < P := jv_nth_lt op (by omega)
        rw [show oR N3 b u = ((jv_nth o u : Nat) : Int) from w3 u (by omega)]
        omega
      have hhome := js_homeOf (dd + 5) (b := b) hH3 (by omega) (fun u hu => by rw [c3]; exact hov u (by omega)) (by rw [x155 b hb]; exact (hO.2.2 b hb).2)
      rw [show dd + 5 + 4 = dd + 9 from rfl, show N3 12 = M 12 from funext fun i => kh3 12 i rfl, show N3 13 = M 13 from funext fun i => kh3 13 i rfl, x155 b hb, kh3 14 b rfl, kh3 11 6 rfl, c3, pv_home_congr (o' := ofn o) (by omega) (fun u hu => w3 u (by omega))] at hhome
      obtain ⟨v, v1, v2⟩ := js_doesClash (dd + 4) (o := o) hH hO hP hb kh3 x155 hoc w3 ol op
      rw [show dd + 4 + 5 = dd + 9 from rfl] at v1
      have e38 : N 137 38 = (((jv_all P).length : Nat) : Int) := (hf 137 38 (by omega)).trans y3
      have e158' : N3 158 i = jv_num o := (w2 158 i (by omega)).trans (y5 i o hoi)
      have hst := e_R_soonest_23 (ja_x true (dd + 9)) (b : Int) w (jv_dig N2 (b : Int)) l4 l5 (i : Int) N
      rw [e38, if_pos (by omega), if_pos (by omega), show ((i : Int)).toNat = i from rfl, e158, w1, jz_bV, hhome, jz_bI, v1, jz_bI, if_pos (show 0 ≤ (i : Int) ∧ (i : Int) < 720 by omega), e158', ja_w_id (x := (i : Int) + 1) (by omega) (by omega), show (i : Int) + 1 = ((i + 1 : Nat) : Int) by omega] at hst
      have hn := jv_num_lt (a := o) (fun p hp => by have := op p hp; omega) (by omega)
      rw [List.foldl_cons]
      have yes : (∀ x, st = some x → sn_val M b o < x.1) → sn_ok M b o → ja_D true (ja_x true (dd + 9)) k_R_soonest 23 [some (jr 137), some (ji (b : Int)), some (ji w), some (ji (jv_dig N2 (b : Int))), some (ji l4), some (ji l5), some (ji (i : Int)), none] [] N = ja_D true (ja_x true (dd + 9)) k_R_soonest 23 [some (jr 137), some (ji (b : Int)), some (ji w), some (ji (jv_dig N2 (b : Int))), some (ji (jv_num o)), some (ji (sn_val M b o)), some (ji ((i + 1 : Nat) : Int)), none] [] N3 → ∃ (l4' l5' : Int) (N' : ja_M), ja_D true (ja_x true (dd + 9)) k_R_soonest 23 [some (jr 137), some (ji (b : Int)), some (ji w), some (ji (jv_dig N2 (b : Int))), some (ji l4), some (ji l5), some (ji (i : Int)), none] [] N = some (some (ji (if l4' = -1 then l4' else if w = 0 then l4' else l5')), N') ∧ sn_enc2 l4' l5' (rest.foldl (sn M b) (sn M b st o)) ∧ ∀ d j, N' d j = N2 d j := by
        intro a1 a2 a3
        rw [show sn M b st o = some (sn_val M b o, jv_num o) from bs_p ⟨a1, a2⟩]
        obtain ⟨z4, z5, N', z1, z2⟩ := ih (i + 1) N3 _ _ (some (sn_val M b o, jv_num o)) hd' w2 ⟨rfl, rfl, hn.1⟩
        exact ⟨z4, z5, N', a3.trans z1, z2⟩
      have no : ¬ ((∀ x, st = some x → sn_val M b o < x.1) ∧ sn_ok M b o) → ja_D true (ja_x true (dd + 9)) k_R_soonest 23 [some (jr 137), some (ji (b : Int)), some (ji w), some (ji (jv_dig N2 (b : Int))), some (ji l4), some (ji l5), some (ji (i : Int)), none] [] N = ja_D true (ja_x true (dd + 9)) k_R_soonest 23 [some (jr 137), some (ji (b : Int)), some (ji w), some (ji (jv_dig N2 (b : Int))), some (ji l4), some (ji l5), some (ji ((i + 1 : Nat) : Int)), none] [] N3 → ∃ (l4' l5' : Int) (N' : ja_M), ja_D true (ja_x true (dd + 9)) k_R_soonest 23 [some (jr 137), some (ji (b : Int)), some (ji w), some (ji (jv_dig N2 (b : Int))), some (ji l4), some (ji l5), some (ji (i : Int)), none] [] N = some (some (ji (if l4' = -1 then l4' else if w = 0 then l4' else l5')), N') ∧ sn_enc2 l4' l5' (rest.foldl (sn M b) (sn M b st o)) ∧ ∀ d j, N' d j = N2 d j := by
        intro a1 a3
        rw [show sn M b st o = st from bs_n a1]
        obtain ⟨z4, z5, N', z1, z2⟩ := ih (i + 1) N3 l4 l5 st hd' w2 he
        exact ⟨z4, z5, N', a3.trans z1, z2⟩
      cases st with
      | none =>
        rw [if_pos (show l4 = -1 from he)] at hst
        rcases v2 with ⟨rfl, v2⟩ | ⟨rfl, v2⟩
        · rw [if_neg (by decide)] at hst
          exact no (fun z => v2 z.2) hst
        · rw [if_pos rfl] at hst
          exact yes (fun x hx => by cases hx) v2 hst
      | some x =>
        obtain ⟨he4, he5, he6⟩ : l4 = x.2 ∧ l5 = x.1 ∧ 0 ≤ x.2 := he
        rw [if_neg (by omega)] at hst
        by_cases q : sn_val M b o < x.1
        · rw [if_pos (show pv_home _ _ _ _ _ _ _ < l5 by rw [he5]; exact q)] at hst
          rcases v2 with ⟨rfl, v2⟩ | ⟨rfl, v2⟩
          · rw [if_neg (by decide)] at hst
            exact no (fun z => v2 z.2) hst
          · rw [if_pos rfl] at hst
            exact yes (fun y hy => by cases hy; exact q) v2 hst
        · rw [if_neg (show ¬ pv_home _ _ _ _ _ _ _ < l5 by rw [he5]; exact q)] at hst
          exact no (fun z => q (z.1 x rfl)) hst
  obtain ⟨l4, l5, N, r1, r2, r3⟩ := rows (jv_all P) 0 N2 (-1) 0 none rfl (fun _ _ _ => rfl) rfl
  refine ⟨l4, l5, N, ?_, r2, fun c i q => (r3 c i).trans (y2.K c i q), fun i => (r3 0 i).trans (y2 0 i (by decide) (by omega))⟩
  rw [y1, jz_bV, eo, jz_bI]
  exact r1
theorem jy_p23 : jy_o23 := by
  intro a w _ _
  refine jOp.read (fun M hJ => ?_)
  obtain ⟨⟨hT, hH, hO⟩, -⟩ := hJ
  have h0 := hH.b
  have hX := f_X_soonest 1999 a w M
  rw [js_hasBand 1998, jz_bI, jz_b0] at hX
  have RR : ∀ N : ja_M, jK M N → jy_E 279 [jr 137, ji a, ji w] N = if 0 ≤ a ∧ a < M 11 4 then if 0 ≤ w ∧ w ≤ 1 then ja_bV (ja_x true 1999 280 [jr 137] N) (fun M5 => ja_bI (ja_x true 1999 241 [jr 137, ji a] M5) (fun x7 M6 => ja_D true (ja_x true 1999) k_R_soonest 23 [some (jr 137), some (ji a), some (ji w), some (ji x7), some (ji (-1)), some (ji 0), some (ji 0), none] [] M6)) else some (some (ji (-1)), N) else some (some (ji (-1)), N) := fun N kk => by
    have hHN := hH.kp (kk.of jk_H)
    have hR := f_R_soonest 1999 a w N
    rw [js_isBand 1997 a hHN, jz_bI, jz_b0, kk.of jk_H 11 4 rfl, js_in 1998, jz_bI, jz_b0] at hR
    exact hR
  have RM := RR M (jKs.rf M)
  have pure : ∀ v, jy_E 137 [jr 1, ji a, ji w] M = some (some (ji v), M) → jy_E 279 [jr 137, ji a, ji w] M = some (some (ji v), M) → ∃ v M1, jy_E 137 [jr 1, ji a, ji w] M = some (some (ji v), M1) ∧ jK M M1 ∧ (∀ i, M1 0 i = M 0 i) ∧ ∃ M2, jy_E 279 [jr 137, ji a, ji w] M1 = some (some (ji v), M2) ∧ jK M1 M2 ∧ (∀ i, M2 0 i = M1 0 i) := fun v h1 h2 => ⟨v, M, h1, jKs.rf M, fun _ => rfl, M, h2, jKs.rf M, fun _ => rfl⟩
  by_cases h1 : 0 ≤ a ∧ a < M 11 4
  · rw [if_pos h1] at hX RM
    by_cases h2 : 0 ≤ w ∧ w ≤ 1
    · rw [if_neg (by omega), if_neg (by omega)] at hX
      obtain ⟨b, rfl⟩ := Int.eq_ofNat_of_zero_le h1.1
      obtain ⟨P, hP⟩ : ∃ P : Nat, M 11 3 = (P : Int) := ⟨(M 11 3).toNat, by omega⟩
      obtain ⟨N, g1, g2, g3, g4⟩ := js_seekSoonest 1986 hH hO h1.2
      rw [show (M 11 3).toNat = P by omega] at g4
      obtain ⟨l4, l5, N', k1, k2, k3, k4⟩ := js_R_soonest 1990 (w := w) hH hO g2 hP h1.2
      have RN := RR N g2
      rw [if_pos h1, if_pos h2] at RN
      refine ⟨if l4 = -1 then l4 else if w = 0 then l4 else l5, N, ?_, g2, g3, N', RN.trans k1, k3, k4⟩
      refine hX.trans ?_
      rw [g1, jz_bI, f_OrderSearch_bestOrder, f_OrderSearch_bestValue, jz_bI, jz_bI]
      revert g4 k2
      cases (jv_all P).foldl (sn M b) none with
      | none =>
        intro g4 k2
        have k2 : l4 = -1 := k2
        rw [if_pos (show N 91 6 = 0 from g4), if_pos k2, k2]
      | some x =>
        intro g4 k2
        obtain ⟨e1, e2, e3⟩ : N 91 6 = 1 ∧ N 91 7 = x.2 ∧ N 91 8 = x.1 := g4
        obtain ⟨e4, e5, e6⟩ : l4 = x.2 ∧ l5 = x.1 ∧ 0 ≤ x.2 := k2
        rw [e1, e2, e3, if_neg (by decide), e4, e5, if_neg (show ¬ x.2 = -1 by omega)]
        by_cases z : w = 0
        · rw [if_pos z, if_pos z]
        · rw [if_neg z, if_neg z]
    · rw [if_neg h2] at RM
      refine pure _ (hX.trans ?_) RM
      by_cases z : w < 0
      · rw [if_pos z]
      · rw [if_neg z, if_pos (by omega)]
  · rw [if_neg h1] at hX RM
    exact pure _ hX RM
