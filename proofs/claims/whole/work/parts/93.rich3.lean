/-! rich: the other side's orders -/
theorem js_meetsAny (dd : Nat) {b P : Nat} {o : List Nat} {M N : ja_M} (hH : jH M) (hP : M 11 3 = (P : Int)) (hb : (b : Int) < M 11 4) (kh : jKs kH M N) (hoc : ∀ c t : Nat, (c : Int) < M 11 4 → c ≠ b → t < P → oR N c t = oX M c t) (hob : ∀ t, t < P → oR N b t = ofn o t) (hol : o.length = P) : ∃ v : Int, ja_x true (dd + 3) 284 [jr 137, ji (b : Int)] N = some (some (ji v), N) ∧ ((v = 1 ∧ ¬ rc_ok M b o) ∨ (v = 0 ∧ rc_ok M b o)) := by
  have h0 := hH.b
  obtain ⟨B, hB⟩ : ∃ B : Nat, M 11 4 = (B : Int) := ⟨(M 11 4).toNat, by omega⟩
  have hHN := hH.kp kh
  have a3 : N 11 3 = (P : Int) := (kh 11 3 rfl).trans hP
  have a4 : N 11 4 = M 11 4 := kh 11 4 rfl
  have a28 : N 137 28 = (B : Int) := (kh 137 28 rfl).trans (hH.2.1.2.1.trans hB)
  have loop : ∀ (m c : Nat), c + m = B → (∀ d : Nat, d < c → d ≠ b → ∀ t, t < P → oX M d t ≠ ofn o t) → ∃ v : Int, ja_D true (ja_x true (dd + 2)) k_R_meetsAny 2 [some (jr 137), some (ji (b : Int)), some (ji (c : Int))] [] N = some (some (ji v), N) ∧ ((v = 1 ∧ ¬ rc_ok M b o) ∨ (v = 0 ∧ rc_ok M b o)) := by
    intro m
    induction m with
    | zero =>
      intro c e h
      refine ⟨0, ?_, Or.inr ⟨rfl, fun t ht ⟨d, d1, d2, d3⟩ => h d (by omega) d2 t (by omega) d3⟩⟩
      rw [e_R_meetsAny_2, a28, if_neg (by omega)]
    | succ m ih =>
      intro c e h
      have hcB : (c : Int) < M 11 4 := by omega
      have hst := e_R_meetsAny_2 (ja_x true (dd + 2)) (b : Int) (c : Int) N
      rw [a28, if_pos (by omega), ja_w_id (x := (c : Int) + 1) (by omega) (by omega), show (c : Int) + 1 = ((c + 1 : Nat) : Int) by omega] at hst
      by_cases z : c = b
      · rw [if_pos (by omega)] at hst
        obtain ⟨v, g1, g2⟩ := ih (c + 1) (by omega) (fun d hd dn => h d (by omega) dn)
        exact ⟨v, hst.trans g1, g2⟩
      · rw [if_neg (by omega), js_R_doMeet dd hHN (by omega) (by omega), jz_bI, a3, show ((P : Int)).toNat = P from rfl] at hst
        by_cases y : pv_met P (oR N) b c
        · rw [jv_b1 y, if_neg (by decide)] at hst
          refine ⟨1, hst, Or.inl ⟨rfl, fun ok => ?_⟩⟩
          obtain ⟨t, ht, et⟩ := y
          exact ok t (by omega) ⟨c, hcB, z, by rw [← hoc c t hcB z ht, ← hob t ht]; exact et.symm⟩
        · rw [jv_b0 y, if_pos rfl] at hst
          obtain ⟨v, g1, g2⟩ := ih (c + 1) (by omega) (fun d hd dn t ht => by
            by_cases w : d = c
            · subst w
              exact fun q => y ⟨t, ht, by rw [hob t ht, hoc d t hcB z ht]; exact q.symm⟩
            · exact h d (by omega) dn t ht)
          exact ⟨v, hst.trans g1, g2⟩
  obtain ⟨v, g1, g2⟩ := loop B 0 (by omega) (fun d hd => by omega)
  exact ⟨v, (f_R_meetsAny _ _ _).trans g1, g2⟩
/-- the held worth, as a value of letters -/
def rc_W (M : ja_M) (W : (Nat → Int) → Int) : Prop := (M 15 5 = -1 ∧ W = fun _ => 0) ∨ ∃ (k : Nat) (cs : jw_S), M 15 5 = (k : Int) ∧ (k : Int) < M 15 4 ∧ jw_at M k cs ∧ W = fun L => pw_val L cs
theorem js_R_pts (dd : Nat) {b P : Nat} {o : List Nat} {W : (Nat → Int) → Int} {M N : ja_M} (hH : jH M) (hO : jO M) (hW : jW M) (hw : rc_W M W) (hP : M 11 3 = (P : Int)) (hb : (b : Int) < M 11 4) (kh : jKs kH M N) (kw : jKs kW M N) (h55 : N 155 b = M 32 b) (hob : ∀ t, t < P → oR N b t = ofn o t) (hol : o.length = P) (hop : ∀ p ∈ o, p < P) : ∃ N', ja_x true (dd + 5) 271 [jr 137, ji (b : Int)] N = some (some (ji (rc_val W M b o)), N') ∧ jFr s146 N N' := by
  have h0 := hH.b
  have hHN := hH.kp kh
  have a3 : N 11 3 = (P : Int) := (kh 11 3 rfl).trans hP
  have a4 : N 11 4 = M 11 4 := kh 11 4 rfl
  rcases hw with ⟨w1, rfl⟩ | ⟨k, cs, w1, w2, w3, rfl⟩
  · have a33 : N 137 33 = -1 := (kw 137 33 rfl).trans (hW.2.2.2.1.trans w1)
    refine ⟨N, ?_, jFr.rf N⟩
    rw [f_R_pointsOf, e_R_pointsOf_4, a33, if_pos rfl]
    unfold rc_val
    rw [jv_sum_zero]
    split <;> rfl
  · have w0 := hW.1
    have hv : ∀ u : Nat, (u : Int) < N 11 3 → 0 ≤ oR N b u ∧ oR N b u < N 11 3 := fun u hu => by
      have : jv_nth o u < P := jv_nth_lt hop (by omega)
      rw [hob u (by omega), a3]
      show 0 ≤ ((jv_nth o u : Nat) : Int) ∧ ((jv_nth o u : Nat) : Int) < (P : Int)
      omega
    obtain ⟨N', g1, g2⟩ := js_R_pointsR dd (b := b) (k := k) (cs := cs) hHN (hW.kp kw) (by omega) ((kw 15 5 rfl).trans w1) (by rw [kw 15 4 rfl]; exact w2) (jw_at_kp (by omega) w3 kw) hv (by rw [h55]; exact (hO.2.2 b hb).2)
    refine ⟨N', g1.trans ?_, g2⟩
    have e : jv_sum (fun t => pw_val (pw_R N b t) cs) (N 11 3).toNat = rc_val (fun L => pw_val L cs) M b o := by
      unfold rc_val
      rw [hol, a3, show ((P : Int)).toNat = P from rfl]
      refine jv_sum_congr P (fun t ht => ?_)
      have e1 : pw_R N b t = rc_T M b o t := by
        unfold pw_R rc_T
        have ea : aR N b t = pv_ao M b o t := by
          show pv_arr (N 12) (N 13) (N 155 b) (N 14 b) (N 11 6) (oR N b) t = _
          rw [show N 12 = M 12 from funext fun i => kh 12 i rfl, show N 13 = M 13 from funext fun i => kh 13 i rfl, h55, kh 14 b rfl, kh 11 6 rfl]
          exact pv_arr_congr (fun u hu => hob u (by omega))
        have ep := (pv_lv_congr (X := M 12) (Y := M 13) (s := 0) (k := 0) (y := 0) (o := oR N b) (o' := ofn o) t (fun u hu => hob u (by omega))).2
        rw [ea, ep, hob t ht, show N 12 = M 12 from funext fun i => kh 12 i rfl, show N 13 = M 13 from funext fun i => kh 13 i rfl]
      show pw_val (pw_R N b t) cs = pw_val (rc_T M b o t) cs
      rw [e1]
    rw [e]
/-- a band's row of orders changes, and what counts points -/
def jFx (b P : Nat) (M N : ja_M) : Prop := ∀ d j, ¬ (d = 154 ∧ 6 * b ≤ j ∧ j < 6 * b + P) → ¬ (146 ≤ d ∧ d ≤ 147) → N d j = M d j
theorem js_R_rich (dd : Nat) {b P : Nat} {w : Int} {W : (Nat → Int) → Int} {M N1 : ja_M} (hH : jH M) (hO : jO M) (hW : jW M) (hw : rc_W M W) (kk : jK M N1) (hP : M 11 3 = (P : Int)) (hb : (b : Int) < M 11 4) : ∃ (l4 l5 : Int) (N : ja_M), ja_bV (ja_x true (dd + 9) 280 [jr 137] N1) (fun M5 => ja_bI (ja_x true (dd + 9) 241 [jr 137, ji (b : Int)] M5) (fun x7 M6 => ja_D true (ja_x true (dd + 9)) k_R_rich 23 [some (jr 137), some (ji (b : Int)), some (ji w), some (ji x7), some (ji (-1)), some (ji 0), some (ji 0), none] [] M6)) = some (some (ji (if l4 = -1 then -1000000 else if w = 0 then l4 else l5)), N) ∧ sn_enc2 l4 l5 ((jv_all P).foldl (rc W M b) none) ∧ jK N1 N ∧ (∀ i, N 0 i = N1 0 i) := by
  have h0 := hH.b
  have hH1 := hH.kp (kk.of jk_H)
  obtain ⟨N2, y1, y2, y3, y4, y5⟩ := js_layOrders dd hH1
  rw [show N1 11 3 = (P : Int) from (kk.of jk_H 11 3 rfl).trans hP, show ((P : Int)).toNat = P from rfl] at y3 y4 y5
  have kk2 : jK M N2 := kk.tr y2.K
  have hH2 := hH.kp (kk2.of jk_H)
  have hO2 := hO.kp hH (kk2.of jk_O)
  have b3 : N2 11 3 = (P : Int) := (kk2.of jk_H 11 3 rfl).trans hP
  have b4 : N2 11 4 = M 11 4 := kk2.of jk_H 11 4 rfl
  have eo := js_orderOf (dd + 6) (b := (b : Int)) hH2 hO2 ⟨by omega, by omega⟩
  rw [show dd + 6 + 3 = dd + 9 from rfl] at eo
  have ed : jv_dig N2 (b : Int) = jv_digs (fun t => N2 (26 + b) t) P := by
    rw [jv_dig_eq, b3]
    rfl
  have x154 : ∀ c t : Nat, (c : Int) < M 11 4 → t < P → N2 154 (6 * c + t) = oX M c t := fun c t hc ht => by
    have e1 : N2 154 (6 * c + t) = M 154 (6 * c + t) := kk2.of jk_O 154 _ rfl
    rw [e1]
    exact hO.eq (by omega) (by omega)
  have fH : ∀ N : ja_M, jFx b P N2 N → jKs kH M N ∧ jKs kW M N := fun N hf => ⟨fun c i q => by
      have c1 : c ≠ 154 := fun z => by rw [z] at q; cases q
      have c2 : ¬ (146 ≤ c ∧ c ≤ 147) := fun z => by
        have := jk_scr2 (i := i) z
        rw [jk_H c i q] at this
        cases this
      exact (hf c i (fun z => c1 z.1) c2).trans (kk2.of jk_H c i q), fun c i q => by
      have c1 : c ≠ 154 := fun z => by rw [z] at q; cases q
      have c2 : ¬ (146 ≤ c ∧ c ≤ 147) := fun z => by
        have := jk_scr2 (i := i) z
        rw [jk_W c i q] at this
        cases this
      exact (hf c i (fun z => c1 z.1) c2).trans (kk2.of jk_W c i q)⟩
  have rows : ∀ (rest : List (List Nat)) (i : Nat) (N : ja_M) (l4 l5 : Int) (st : Option (Int × Int)), (jv_all P).drop i = rest → jFx b P N2 N → sn_enc2 l4 l5 st → ∃ (l4' l5' : Int) (N' : ja_M), ja_D true (ja_x true (dd + 9)) k_R_rich 23 [some (jr 137), some (ji (b : Int)), some (ji w), some (ji (jv_dig N2 (b : Int))), some (ji l4), some (ji l5), some (ji (i : Int)), none] [] N = some (some (ji (if l4' = -1 then -1000000 else if w = 0 then l4' else l5')), N') ∧ sn_enc2 l4' l5' (rest.foldl (rc W M b) st) ∧ ∀ d j, ¬ (146 ≤ d ∧ d ≤ 147) → N' d j = N2 d j := by
    intro rest
    induction rest with
    | nil =>
      intro i N l4 l5 st hd hf he
      have hlen : (jv_all P).length ≤ i := List.drop_eq_nil_iff.mp hd
      obtain ⟨khN, kwN⟩ := fH N hf
      obtain ⟨N3, w1, w2, w3⟩ := js_lay (dd + 6) (b := b) (P := P) (x := jv_dig N2 (b : Int)) (f := fun t => N2 (26 + b) t) (N2 := N) (N := N) (hH.kp khN) ((khN 11 3 rfl).trans hP) (by rw [khN 11 4 rfl]; exact hb) (fun _ _ _ => rfl) ed (fun t ht => by
        have := (hO2.1 b t (by omega) (by omega)).2
        show 0 ≤ N2 (26 + b) t ∧ N2 (26 + b) t ≤ 9
        omega)
      rw [show dd + 6 + 3 = dd + 9 from rfl] at w1
      refine ⟨l4, l5, N3, ?_, he, fun d j hdj => ?_⟩
      · have e38 : N 137 38 = (((jv_all P).length : Nat) : Int) := (hf 137 38 (by omega) (by omega)).trans y3
        rw [e_R_rich_23, e38, if_neg (by omega), w1, jz_bV]
        by_cases a : l4 = -1
        · rw [if_pos a, if_pos a]
        · rw [if_neg a, if_neg a]
          by_cases b : w = 0
          · rw [if_pos b, if_pos b]
          · rw [if_neg b, if_neg b]
      · by_cases z : d = 154 ∧ 6 * b ≤ j ∧ j < 6 * b + P
        · obtain ⟨rfl, z1, z2⟩ := z
          obtain ⟨t, rfl⟩ : ∃ t, j = 6 * b + t := ⟨j - 6 * b, by omega⟩
          rw [w3 t (by omega), (hO2.1 b t (by omega) (by omega)).1]
        · exact (w2 d j z).trans (hf d j z hdj)
    | cons o rest ih =>
      intro i N l4 l5 st hd hf he
      have hi : i < (jv_all P).length := by
        by_cases q : i < (jv_all P).length
        · exact q
        · rw [List.drop_eq_nil_iff.mpr (by omega)] at hd
          cases hd
      have hoi : (jv_all P)[i]? = some o := by
        have := List.getElem?_drop (xs := jv_all P) (i := i) (j := 0)
        rw [hd] at this
        exact this.symm
      have hd' : (jv_all P).drop (i + 1) = rest := by
        rw [← List.drop_drop, hd]
        rfl
      obtain ⟨ol, op⟩ := jv_all_mem (List.mem_of_getElem? hoi)
      obtain ⟨khN, kwN⟩ := fH N hf
      have e158 : N 158 i = jv_num o := (hf 158 i (by omega) (by omega)).trans (y5 i o hoi)
      obtain ⟨N3, w1, w2, w3⟩ := js_lay (dd + 6) (b := b) (P := P) (x := jv_num o) (f := ofn o) (N2 := N) (N := N) (hH.kp khN) ((khN 11 3 rfl).trans hP) (by rw [khN 11 4 rfl]; exact hb) (fun _ _ _ => rfl) (by rw [jv_num_digs, ol]) (fun t ht => by
        have : jv_nth o t < P := jv_nth_lt op (by omega)
        show 0 ≤ ((jv_nth o t : Nat) : Int) ∧ ((jv_nth o t : Nat) : Int) ≤ 9
        omega)
      rw [show dd + 6 + 3 = dd + 9 from rfl] at w1
      have hf3 : jFx b P N2 N3 := fun d j z1 z2 => (w2 d j z1).trans (hf d j z1 z2)
      obtain ⟨kh3, kw3⟩ := fH N3 hf3
      have x55 : N3 155 b = M 32 b := by
        rw [hf3 155 b (by omega) (by omega), show N2 155 b = M 155 b from kk2.of jk_O 155 b rfl]
        exact (hO.2.2 b hb).1
      obtain ⟨N4, p1, p2⟩ := js_R_pts (dd + 4) hH hO hW hw hP hb kh3 kw3 x55 w3 ol op
      rw [show dd + 4 + 5 = dd + 9 from rfl] at p1
      have hf4 : jFx b P N2 N4 := fun d j z1 z2 => (p2 d j z2).trans (hf3 d j z1 z2)
      obtain ⟨kh4, kw4⟩ := fH N4 hf4
      have hoc : ∀ c t : Nat, (c : Int) < M 11 4 → c ≠ b → t < P → oR N4 c t = oX M c t := fun c t hc z ht => (hf4 154 (6 * c + t) (by omega) (by omega)).trans (x154 c t hc ht)
      have hob : ∀ t, t < P → oR N4 b t = ofn o t := fun t ht => (p2 154 (6 * b + t) (fun z => by have := z.2; omega)).trans (w3 t ht)
      obtain ⟨v, v1, v2⟩ := js_meetsAny (dd + 6) (o := o) hH hP hb kh4 hoc hob ol
      rw [show dd + 6 + 3 = dd + 9 from rfl] at v1
      have e38 : N 137 38 = (((jv_all P).length : Nat) : Int) := (hf 137 38 (by omega) (by omega)).trans y3
      have e158' : N4 158 i = jv_num o := (hf4 158 i (by omega) (by omega)).trans (y5 i o hoi)
      have hst := e_R_rich_23 (ja_x true (dd + 9)) (b : Int) w (jv_dig N2 (b : Int)) l4 l5 (i : Int) N
      rw [e38, if_pos (by omega), if_pos (by omega), show ((i : Int)).toNat = i from rfl, e158, w1, jz_bV, p1, jz_bI, v1, jz_bI, if_pos (show 0 ≤ (i : Int) ∧ (i : Int) < 720 by omega), e158', ja_w_id (x := (i : Int) + 1) (by omega) (by omega), show (i : Int) + 1 = ((i + 1 : Nat) : Int) by omega] at hst
      have hn := jv_num_lt (a := o) (fun p hp => by have := op p hp; omega) (by omega)
      rw [List.foldl_cons]
      have yes : (∀ x, st = some x → x.1 < rc_val W M b o) → rc_ok M b o → ja_D true (ja_x true (dd + 9)) k_R_rich 23 [some (jr 137), some (ji (b : Int)), some (ji w), some (ji (jv_dig N2 (b : Int))), some (ji l4), some (ji l5), some (ji (i : Int)), none] [] N = ja_D true (ja_x true (dd + 9)) k_R_rich 23 [some (jr 137), some (ji (b : Int)), some (ji w), some (ji (jv_dig N2 (b : Int))), some (ji (jv_num o)), some (ji (rc_val W M b o)), some (ji ((i + 1 : Nat) : Int)), none] [] N4 → ∃ (l4' l5' : Int) (N' : ja_M), ja_D true (ja_x true (dd + 9)) k_R_rich 23 [some (jr 137), some (ji (b : Int)), some (ji w), some (ji (jv_dig N2 (b : Int))), some (ji l4), some (ji l5), some (ji (i : Int)), none] [] N = some (some (ji (if l4' = -1 then -1000000 else if w = 0 then l4' else l5')), N') ∧ sn_enc2 l4' l5' (rest.foldl (rc W M b) (rc W M b st o)) ∧ ∀ d j, ¬ (146 ≤ d ∧ d ≤ 147) → N' d j = N2 d j := by
        intro a1 a2 a3
        rw [show rc W M b st o = some (rc_val W M b o, jv_num o) from bs_p ⟨a1, a2⟩]
        obtain ⟨z4, z5, N', z1, z2⟩ := ih (i + 1) N4 _ _ (some (rc_val W M b o, jv_num o)) hd' hf4 ⟨rfl, rfl, hn.1⟩
        exact ⟨z4, z5, N', a3.trans z1, z2⟩
      have no : ¬ ((∀ x, st = some x → x.1 < rc_val W M b o) ∧ rc_ok M b o) → ja_D true (ja_x true (dd + 9)) k_R_rich 23 [some (jr 137), some (ji (b : Int)), some (ji w), some (ji (jv_dig N2 (b : Int))), some (ji l4), some (ji l5), some (ji (i : Int)), none] [] N = ja_D true (ja_x true (dd + 9)) k_R_rich 23 [some (jr 137), some (ji (b : Int)), some (ji w), some (ji (jv_dig N2 (b : Int))), some (ji l4), some (ji l5), some (ji ((i + 1 : Nat) : Int)), none] [] N4 → ∃ (l4' l5' : Int) (N' : ja_M), ja_D true (ja_x true (dd + 9)) k_R_rich 23 [some (jr 137), some (ji (b : Int)), some (ji w), some (ji (jv_dig N2 (b : Int))), some (ji l4), some (ji l5), some (ji (i : Int)), none] [] N = some (some (ji (if l4' = -1 then -1000000 else if w = 0 then l4' else l5')), N') ∧ sn_enc2 l4' l5' (rest.foldl (rc W M b) (rc W M b st o)) ∧ ∀ d j, ¬ (146 ≤ d ∧ d ≤ 147) → N' d j = N2 d j := by
        intro a1 a3
        rw [show rc W M b st o = st from bs_n a1]
        obtain ⟨z4, z5, N', z1, z2⟩ := ih (i + 1) N4 l4 l5 st hd' hf4 he
        exact ⟨z4, z5, N', a3.trans z1, z2⟩
      cases st with
      | none =>
        rw [if_pos (show l4 = -1 from he)] at hst
        rcases v2 with ⟨rfl, v2⟩ | ⟨rfl, v2⟩
        · rw [if_neg (by decide)] at hst
          exact no (fun z => v2 z.2) hst
        · rw [if_pos rfl] at hst
          exact yes (fun x hx => by cases hx) v2 hst
      | some x =>
        obtain ⟨he4, he5, he6⟩ : l4 = x.2 ∧ l5 = x.1 ∧ 0 ≤ x.2 := he
        rw [if_neg (by omega)] at hst
        by_cases q : x.1 < rc_val W M b o
        · rw [if_pos (by rw [he5]; exact q)] at hst
          rcases v2 with ⟨rfl, v2⟩ | ⟨rfl, v2⟩
          · rw [if_neg (by decide)] at hst
            exact no (fun z => v2 z.2) hst
          · rw [if_pos rfl] at hst
            exact yes (fun y hy => by cases hy; exact q) v2 hst
        · rw [if_neg (by rw [he5]; exact q)] at hst
          exact no (fun z => q (z.1 x rfl)) hst
  obtain ⟨l4, l5, N, r1, r2, r3⟩ := rows (jv_all P) 0 N2 (-1) 0 none rfl (fun _ _ _ _ => rfl) rfl
  refine ⟨l4, l5, N, ?_, r2, fun c i q => (r3 c i (fun z => by rw [jk_scr2 z] at q; cases q)).trans (y2.K c i q), fun i => (r3 0 i (by omega)).trans (y2 0 i (by decide) (by omega))⟩
  rw [y1, jz_bV, eo, jz_bI]
  exact r1
theorem jy_p24 : jy_o24 := by
  intro a w _ _
  refine jOp.read (fun M hJ => ?_)
  obtain ⟨⟨hT, hH, hO⟩, ⟨hW, hPs, hIm⟩, -⟩ := hJ
  have h0 := hH.b
  have hX := f_X_rich 1999 a w M
  rw [js_hasBand 1998, jz_bI, jz_b0] at hX
  have RR : ∀ N : ja_M, jK M N → jy_E 283 [jr 137, ji a, ji w] N = if 0 ≤ a ∧ a < M 11 4 then if 0 ≤ w ∧ w ≤ 1 then ja_bV (ja_x true 1999 280 [jr 137] N) (fun M5 => ja_bI (ja_x true 1999 241 [jr 137, ji a] M5) (fun x7 M6 => ja_D true (ja_x true 1999) k_R_rich 23 [some (jr 137), some (ji a), some (ji w), some (ji x7), some (ji (-1)), some (ji 0), some (ji 0), none] [] M6)) else some (some (ji (-1000000)), N) else some (some (ji (-1000000)), N) := fun N kk => by
    have hHN := hH.kp (kk.of jk_H)
    have hR := f_R_rich 1999 a w N
    rw [js_isBand 1997 a hHN, jz_bI, jz_b0, kk.of jk_H 11 4 rfl, js_in 1998, jz_bI, jz_b0] at hR
    exact hR
  have RM := RR M (jKs.rf M)
  have pure : ∀ v, jy_E 144 [jr 1, ji a, ji w] M = some (some (ji v), M) → jy_E 283 [jr 137, ji a, ji w] M = some (some (ji v), M) → ∃ v M1, jy_E 144 [jr 1, ji a, ji w] M = some (some (ji v), M1) ∧ jK M M1 ∧ (∀ i, M1 0 i = M 0 i) ∧ ∃ M2, jy_E 283 [jr 137, ji a, ji w] M1 = some (some (ji v), M2) ∧ jK M1 M2 ∧ (∀ i, M2 0 i = M1 0 i) := fun v h1 h2 => ⟨v, M, h1, jKs.rf M, fun _ => rfl, M, h2, jKs.rf M, fun _ => rfl⟩
  have hWx : ∃ W, rc_W M W ∧ ∀ L, pw_h M L (W L) := by
    by_cases h5 : M 15 5 = -1
    · exact ⟨fun _ => 0, Or.inl ⟨h5, rfl⟩, fun L => Or.inl ⟨h5, rfl⟩⟩
    · have hw := hW.2.2.1
      obtain ⟨k, hk⟩ := Int.eq_ofNat_of_zero_le (show 0 ≤ M 15 5 by omega)
      obtain ⟨cs, hcs⟩ := hW.2.2.2.2 k (by omega)
      exact ⟨fun L => pw_val L cs, Or.inr ⟨k, cs, hk, by omega, hcs, rfl⟩, fun L => Or.inr ⟨k, cs, hk, by omega, hcs, rfl⟩⟩
  obtain ⟨W, hWW, hWh⟩ := hWx
  by_cases h1 : 0 ≤ a ∧ a < M 11 4
  · rw [if_pos h1] at hX RM
    by_cases h2 : 0 ≤ w ∧ w ≤ 1
    · rw [if_neg (by omega), if_neg (by omega)] at hX
      obtain ⟨b, rfl⟩ := Int.eq_ofNat_of_zero_le h1.1
      obtain ⟨P, hP⟩ : ∃ P : Nat, M 11 3 = (P : Int) := ⟨(M 11 3).toNat, by omega⟩
      obtain ⟨N, g1, g2, g3, g4⟩ := js_seekRichest 1986 hH hO hW hWh h1.2
      rw [show (M 11 3).toNat = P by omega] at g4
      obtain ⟨l4, l5, N', k1, k2, k3, k4⟩ := js_R_rich 1990 (w := w) hH hO hW hWW g2 hP h1.2
      have RN := RR N g2
      rw [if_pos h1, if_pos h2] at RN
      refine ⟨if l4 = -1 then -1000000 else if w = 0 then l4 else l5, N, ?_, g2, g3, N', RN.trans k1, k3, k4⟩
      refine hX.trans ?_
      rw [g1, jz_bI, f_OrderSearch_bestOrder, f_OrderSearch_bestValue, jz_bI, jz_bI]
      revert g4 k2
      cases (jv_all P).foldl (rc W M b) none with
      | none =>
        intro g4 k2
        have k2 : l4 = -1 := k2
        rw [if_pos (show N 91 6 = 0 from g4), if_pos k2]
      | some x =>
        intro g4 k2
        obtain ⟨e1, e2, e3⟩ : N 91 6 = 1 ∧ N 91 7 = x.2 ∧ N 91 8 = x.1 := g4
        obtain ⟨e4, e5, e6⟩ : l4 = x.2 ∧ l5 = x.1 ∧ 0 ≤ x.2 := k2
        rw [e1, e2, e3, if_neg (by decide), e4, e5, if_neg (show ¬ x.2 = -1 by omega)]
        by_cases z : w = 0
        · rw [if_pos z, if_pos z]
        · rw [if_neg z, if_neg z]
    · rw [if_neg h2] at RM
      refine pure _ (hX.trans ?_) RM
      by_cases z : w < 0
      · rw [if_pos z]
      · rw [if_neg z, if_pos (by omega)]
  · rw [if_neg h1] at hX RM
    exact pure _ hX RM
