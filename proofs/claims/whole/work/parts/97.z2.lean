/-! tables: the other side's search -/
theorem jv_tabs_s (n f : Nat) (fit : Nat → List Nat → Bool) (m : Nat) (done : List (List Nat)) : jv_tabs n f fit (m + 1) done = (jv_all n).flatMap (fun o => if fit done.length o && done.all (fun d => jv_with n f o d) then jv_tabs n f fit m (o :: done) else []) := rfl
theorem jv_fit_alw {M : ja_M} {P b : Nat} {o : List Nat} (ol : o.length = P) : jv_fit M P b o = alw (jv_left M b) 0 o := by
  rw [Bool.eq_iff_iff, alw_iff, ol]
  unfold jv_fit
  rw [List.all_eq_true]
  exact ⟨fun h t ht => by rw [Nat.zero_add]; exact h t (List.mem_range.mpr ht), fun h t ht => by
    have := h t (List.mem_range.mp ht)
    rw [Nat.zero_add] at this
    exact this⟩
theorem js_tablesFrom {M : ja_M} (hH : jH M) (hF : jFi M) {P B f : Nat} (hP : M 11 3 = (P : Int)) (hB : M 11 4 = (B : Int)) (hf : M 11 5 = (f : Int)) {a : Int} {bb : Nat} (hbb : bb < B) (h45 : M 137 45 = a) (h46 : M 137 46 = (bb : Int)) (h38 : M 137 38 = (((jv_all P).length : Nat) : Int)) (h158 : ∀ i o, (jv_all P)[i]? = some o → M 158 i = jv_num o) (hlen : (jv_all P).length ≤ 720) (dd : Nat) : ∀ (m : Nat) (dn : List (List Nat)) (N : ja_M) (c : Nat), dn.length + m = B → (∀ o ∈ dn, o ∈ jv_all P) → jF4 M N → (∀ i d, dn[i]? = some d → rwR N P i d) → N 137 44 = (c : Int) → c < 1000 → ∃ N', ja_x true (dd + 4 + m) 289 [jr 137, ji (dn.length : Int)] N = some (none, N') ∧ jF4 M N' ∧ (∀ i d, dn[i]? = some d → rwR N' P i d) ∧ N' 137 44 = ((min (c + (jv_tabs P f (jv_fit M P) m dn.reverse).length) 1000 : Nat) : Int) ∧ N' 137 47 = tfnd a bb c (jv_tabs P f (jv_fit M P) m dn.reverse) (N 137 47) := by
  have hb := hH.b
  intro m
  induction m with
  | zero =>
    intro dn N c hl hall hF4 hr hc hc1
    have hHN := hH.kp hF4.kH
    have eP : N 11 3 = (P : Int) := (hF4.kH 11 3 rfl).trans hP
    have e28 : N 137 28 = (B : Int) := (hF4 137 28 (by omega) (by omega)).trans (hH.2.1.2.1.trans hB)
    have e45 : N 137 45 = a := (hF4 137 45 (by omega) (by omega)).trans h45
    have e46 : N 137 46 = (bb : Int) := (hF4 137 46 (by omega) (by omega)).trans h46
    have hL : jv_tabs P f (jv_fit M P) 0 dn.reverse = [dn] := by
      show [dn.reverse.reverse] = [dn]
      rw [List.reverse_reverse]
    rw [hL]
    have st := f_R_tablesFrom (dd + 3) (dn.length : Int) N
    rw [e28, if_pos (by omega), e45, e46, hc] at st
    have lg : ([dn] : List (List (List Nat))).length = 1 := rfl
    by_cases q : (c : Int) = a
    · obtain ⟨o, ho⟩ : ∃ o, dn[bb]? = some o := ⟨dn[bb]'(by omega), List.getElem?_eq_getElem (by omega)⟩
      obtain ⟨ol, op⟩ := jv_all_mem (hall o (List.mem_of_getElem? ho))
      have e44 : (ja_up N 137 47 (jv_num o)) 137 44 = (c : Int) := (jb_up_nej (by decide)).trans hc
      rw [if_pos q, js_R_ordOf dd hHN eP (by rw [hF4.kH 11 4 rfl, hB]; omega) ol op (hr bb o ho), jz_bI, e44, ja_w_id (by omega) (by omega)] at st
      refine ⟨_, st, fun d i x y => ?_, fun i d h t ht => ?_, ?_, ?_⟩
      · rw [jz_up, if_neg (fun e => y (by omega)), jz_up, if_neg (fun e => y (by omega))]
        exact hF4 d i x y
      · rw [jb_up_ne (by decide), jb_up_ne (by decide)]
        exact hr i d h t ht
      · rw [jb_up_eq]
        omega
      · rw [jb_up_nej (by decide), jb_up_eq]
        unfold tfnd
        rw [if_pos (by omega), show a.toNat - c = 0 by omega]
        show jv_num o = jv_num (dn.getD bb [])
        rw [List.getD_eq_getElem?_getD, ho]
        rfl
    · have e44 : (ja_up N 137 47 (N 137 47)) 137 44 = (c : Int) := (jb_up_nej (by decide)).trans hc
      rw [if_neg q, e44, ja_w_id (by omega) (by omega), ja_up_self (c := 137) (i := 47) rfl] at st
      refine ⟨_, st, fun d i x y => ?_, fun i d h t ht => ?_, ?_, ?_⟩
      · rw [jz_up, if_neg (fun e => y (by omega))]
        exact hF4 d i x y
      · rw [jb_up_ne (by decide)]
        exact hr i d h t ht
      · rw [jb_up_eq]
        omega
      · rw [jb_up_nej (by decide)]
        unfold tfnd
        rw [if_neg (by omega)]
  | succ m ih =>
    intro dn N c hl hall hF4 hr hc hc1
    have e28 : N 137 28 = (B : Int) := (hF4 137 28 (by omega) (by omega)).trans (hH.2.1.2.1.trans hB)
    have loop : ∀ (rest : List (List Nat)) (i : Nat) (N : ja_M) (c : Nat), (jv_all P).drop i = rest → jF4 M N → (∀ i d, dn[i]? = some d → rwR N P i d) → N 137 44 = (c : Int) → c ≤ 1000 → ∃ N', ja_D true (ja_x true (dd + 4 + m)) k_R_tablesFrom 27 [some (jr 137), some (ji (dn.length : Int)), some (ji (i : Int))] [] N = some (none, N') ∧ jF4 M N' ∧ (∀ i d, dn[i]? = some d → rwR N' P i d) ∧ N' 137 44 = ((min (c + (rest.flatMap (fun o => if jv_fit M P dn.reverse.length o && dn.reverse.all (fun d => jv_with P f o d) then jv_tabs P f (jv_fit M P) m (o :: dn.reverse) else [])).length) 1000 : Nat) : Int) ∧ N' 137 47 = tfnd a bb c (rest.flatMap (fun o => if jv_fit M P dn.reverse.length o && dn.reverse.all (fun d => jv_with P f o d) then jv_tabs P f (jv_fit M P) m (o :: dn.reverse) else [])) (N 137 47) := by
      intro rest
      induction rest with
      | nil =>
        intro i N c hd hF4 hr hc hc1
        have hlen2 : (jv_all P).length ≤ i := List.drop_eq_nil_iff.mp hd
        refine ⟨N, ?_, hF4, hr, ?_, ?_⟩
        · rw [e_R_tablesFrom_27, hF4 137 38 (by omega) (by omega), h38, if_neg (by omega)]
        · show N 137 44 = ((min (c + 0) 1000 : Nat) : Int)
          omega
        · show N 137 47 = tfnd a bb c [] (N 137 47)
          rw [tfnd_nil a bb c _ hc1]
      | cons o rest ihr =>
        intro i N c hd hF4 hr hc hc1
        have hi : i < (jv_all P).length := by
          by_cases q : i < (jv_all P).length
          · exact q
          · rw [List.drop_eq_nil_iff.mpr (by omega)] at hd
            cases hd
        have hoi : (jv_all P)[i]? = some o := by
          have := List.getElem?_drop (xs := jv_all P) (i := i) (j := 0)
          rw [hd] at this
          exact this.symm
        have hd' : (jv_all P).drop (i + 1) = rest := by
          rw [← List.drop_drop, hd]
          rfl
        have st := e_R_tablesFrom_27 (ja_x true (dd + 4 + m)) (dn.length : Int) (i : Int) N
        rw [hF4 137 38 (by omega) (by omega), h38, if_pos (by omega), hc] at st
        rw [List.flatMap_cons]
        by_cases full : c < 1000
        · obtain ⟨ol, op⟩ := jv_all_mem (List.mem_of_getElem? hoi)
          have hHN := hH.kp hF4.kH
          have hFN := hF.kp hH hF4.kF
          have eP : N 11 3 = (P : Int) := (hF4.kH 11 3 rfl).trans hP
          have eB : N 11 4 = (B : Int) := (hF4.kH 11 4 rfl).trans hB
          have ef : N 11 5 = (f : Int) := (hF4.kH 11 5 rfl).trans hf
          have el : jv_left N = jv_left M := jv_left_kp (hF4.kF 93 3 rfl) (funext fun i => hF4.kF 159 i rfl) (funext fun i => hF4.kF 160 i rfl) (funext fun i => hF4.kF 161 i rfl) (funext fun i => hF4.kF 162 i rfl)
          have ag := js_agrees (dd + 1 + m) (b := dn.length) (o := o) hHN hFN (jKs.rf N) eP ol op
          rw [el, show dd + 1 + m + 3 = dd + 4 + m by omega] at ag
          have en : N 158 i = jv_num o := (hF4 158 i (by omega) (by omega)).trans (h158 i o hoi)
          rw [if_pos (by omega), if_pos (by omega), show ((i : Int)).toNat = i from rfl, en, ag, jz_bI, jz_b0, ja_w_id (x := (i : Int) + 1) (by omega) (by omega), show (i : Int) + 1 = ((i + 1 : Nat) : Int) by omega] at st
          have efit : jv_fit M P dn.reverse.length o = alw (jv_left M dn.length) 0 o := by
            rw [List.length_reverse, jv_fit_alw ol]
          rw [efit]
          by_cases fit : alw (jv_left M dn.length) 0 o = true
          · rw [if_pos fit, if_pos (by omega), en] at st
            obtain ⟨N3, l1, l2, l3⟩ := js_lay (dd + 1 + m) (b := dn.length) (P := P) (f := ofn o) (x := jv_num o) (N2 := N) (N := N) hHN eP (by rw [eB]; omega) (fun _ _ _ => rfl) (by rw [jv_num_digs, ol]) (fun t ht => by
              have := jv_nth_lt (t := t) op (by omega)
              show 0 ≤ ((jv_nth o t : Nat) : Int) ∧ ((jv_nth o t : Nat) : Int) ≤ 9
              omega)
            rw [show dd + 1 + m + 3 = dd + 4 + m by omega] at l1
            have F3 : jF4 M N3 := fun c i x y => (l2 c i (fun e => x ⟨e.1, by omega⟩)).trans (hF4 c i x y)
            have r3 : ∀ i d, dn[i]? = some d → rwR N3 P i d := fun i d h t ht => by
              have : i < dn.length := (List.getElem?_eq_some_iff.mp h).1
              rw [l2 154 (6 * i + t) (fun e => by omega)]
              exact hr i d h t ht
            have h3H := hH.kp F3.kH
            have gw := js_goesWith (dd + 1 + m) (f := f) (o := o) (dn := dn) h3H ((F3.kH 11 3 rfl).trans hP) ((F3.kH 11 5 rfl).trans hf) (by rw [F3.kH 11 4 rfl, hB]; omega) rfl l3 r3
            rw [show dd + 1 + m + 3 = dd + 4 + m by omega] at gw
            rw [l1, jz_bV, gw, jz_bI, jz_b0, ja_w_id (x := (dn.length : Int) + 1) (by omega) (by omega)] at st
            have c44 : N3 137 44 = (c : Int) := (l2 137 44 (fun e => by omega)).trans hc
            have c47 : N3 137 47 = N 137 47 := l2 137 47 (fun e => by omega)
            rw [fit, Bool.true_and, List.all_reverse]
            by_cases al : dn.all (fun d => jv_with P f o d) = true
            · rw [if_pos al] at st
              obtain ⟨N4, k1, k2, k3, k4, k5⟩ := ih (dn ++ [o]) N3 c (by rw [List.length_append, List.length_singleton]; omega) (fun x hx => by
                rcases List.mem_append.mp hx with hx | hx
                · exact hall x hx
                · rw [List.mem_singleton.mp hx]
                  exact List.mem_of_getElem? hoi) F3 (fun i d h => by
                by_cases z : i < dn.length
                · rw [List.getElem?_append_left z] at h
                  exact r3 i d h
                · have zi : i = dn.length := by
                    have := (List.getElem?_eq_some_iff.mp h).1
                    rw [List.length_append, List.length_singleton] at this
                    omega
                  subst zi
                  rw [List.getElem?_append_right (Nat.le_refl _), Nat.sub_self] at h
                  have h : some o = some d := h
                  cases h
                  exact l3) c44 full
              rw [List.length_append, List.length_singleton] at k1
              rw [List.reverse_append, show [o].reverse ++ dn.reverse = o :: dn.reverse from rfl] at k4 k5
              have k1 : ja_x true (dd + 4 + m) 289 [jr 137, ji ((dn.length : Int) + 1)] N3 = some (none, N4) := k1
              rw [k1, jz_bV] at st
              obtain ⟨N5, y1, y2, y3, y4, y5⟩ := ihr (i + 1) N4 _ hd' k2 (fun i d h => k3 i d (by rw [List.getElem?_append_left (List.getElem?_eq_some_iff.mp h).1]; exact h)) k4 (by omega)
              refine ⟨N5, st.trans y1, y2, y3, ?_, ?_⟩
              · rw [y4, if_pos al, List.length_append]
                omega
              · rw [y5, k5, c47, if_pos al, tfnd_app a bb c _ _ _ hc1]
            · rw [if_neg al] at st
              obtain ⟨N5, y1, y2, y3, y4, y5⟩ := ihr (i + 1) N3 c hd' F3 r3 c44 hc1
              rw [if_neg al]
              refine ⟨N5, st.trans y1, y2, y3, y4, ?_⟩
              rw [y5, c47]
              rfl
          · rw [if_neg fit] at st
            obtain ⟨N5, y1, y2, y3, y4, y5⟩ := ihr (i + 1) N c hd' hF4 hr hc hc1
            have ff : alw (jv_left M dn.length) 0 o = false := Bool.eq_false_iff.mpr fit
            rw [ff, Bool.false_and]
            exact ⟨N5, st.trans y1, y2, y3, y4, y5⟩
        · rw [if_neg (by omega)] at st
          have hc0 : c = 1000 := by omega
          refine ⟨N, st, hF4, hr, ?_, ?_⟩
          · omega
          · unfold tfnd
            rw [if_neg (fun q => by omega)]
    have st := f_R_tablesFrom (dd + 4 + m) (dn.length : Int) N
    rw [e28, if_neg (by omega)] at st
    obtain ⟨N', k1, k2⟩ := loop (jv_all P) 0 N c rfl hF4 hr hc (by omega)
    refine ⟨N', ?_, k2⟩
    rw [show dd + 4 + (m + 1) = dd + 4 + m + 1 by omega]
    exact st.trans k1
