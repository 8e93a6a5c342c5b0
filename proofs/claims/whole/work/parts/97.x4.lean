/-! reading: worths, the other side's conditions -/
theorem wr_opC_sr {T : Nat → Int} {n p : Nat} : wr_opC (sr T n p) = wr_opC (sg T n p) := by
  unfold sr sg
  by_cases q : p < n
  · rw [if_pos q, if_pos q]
  · rw [if_neg q, if_neg q]
    rfl
theorem js_R_isSign (dd : Nat) (c : Int) (M : ja_M) : ja_x true (dd + 1) 231 [ji c] M = some (some (ji (if (wr_opC c).isSome = true then 1 else 0)), M) := by
  rw [f_R_isSign]
  unfold wr_opC
  by_cases h1 : c = 61
  · rw [if_pos h1, if_pos h1]
    rfl
  · rw [if_neg h1, if_neg h1]
    by_cases h2 : c = 60
    · rw [if_pos h2, if_pos h2]
      rfl
    · rw [if_neg h2, if_neg h2]
      by_cases h3 : c = 62
      · rw [if_pos h3, if_pos h3]
        rfl
      · rw [if_neg h3, if_neg h3]
        rfl
theorem rw_cmp {T : Nat → Int} {n t : Nat} (ht : tpok T n) (k d dd : Nat) (hd : d + k = 6) : iR T n t d (fun M => ja_x true (dd + 7 + 3 * k) 230 [jr 137] M) (wr_cmp T n k) (4 + 2 * k) := by
  have hn := ht.1
  intro N p cs hb hp hl
  obtain ⟨e, he⟩ : ∃ e, dd + 6 + 3 * k = e + 3 := ⟨dd + 3 + 3 * k, by omega⟩
  have hs := sk_b (T := T) hp
  have hi := rw_sum (t := t) ht k d dd hd
  show (∀ c, (wr_cmp T n k p).2 = some c → ja_x true (dd + 7 + 3 * k) 230 [jr 137] (atR (rM N t d cs) p) = _) ∧ ((wr_cmp T n k p).2 = none → ∃ N', ja_x true (dd + 7 + 3 * k) 230 [jr 137] (atR (rM N t d cs) p) = _ ∧ _)
  rw [show dd + 7 + 3 * k = e + 3 + 1 by omega]
  rw [he] at hi
  have e4 : (atR (rM N t d cs) p) 137 4 = -1 := hb.2.1
  have st := f_R_compare (e + 3) (atR (rM N t d cs) p)
  rw [e4, if_pos rfl, js_R_look (e + 1) (rM_tp hb.1) hn hp, jz_bI, js_R_isSign (e + 2), jz_bI, jz_b0, wr_opC_sr] at st
  cases ec : wr_opC (sg T n (sk T n p)) with
  | none =>
    rw [ec, if_neg (by decide), js_R_bad (e + 2) (N := rM N t d cs) hb.2.1, jz_bV] at st
    rw [wr_cmp_n ec]
    exact ⟨fun c hc => (by cases hc), fun _ => ⟨_, st, (rM_f (K := 160) hb (by omega) (by omega)).mono (by omega)⟩⟩
  | some o =>
    obtain ⟨⟨o0, o1⟩, o2, o3⟩ := wr_opC_i ec
    have sq := sg_lt o0
    have e3 : (atR (rM N t d cs) (sk T n p)) 137 3 = (sk T n p : Int) := rfl
    have es : sr T n (sk T n p) = sg T n (sk T n p) := by
      unfold sr sg
      rw [if_pos sq, if_pos sq]
    obtain ⟨⟨f1, f2⟩, f3⟩ := (wr_sum_ok (T := T) (n := n) k).1 (sk T n p + 1) sq
    obtain ⟨i1, i2⟩ := hi N (sk T n p + 1) cs hb sq (by omega)
    rw [ec, if_pos (show (some o).isSome = true from rfl), e3, ja_w_id (by omega) (by omega), ja_up_up, es] at st
    rw [wr_cmp_s ec]
    have put : ∀ M6 : ja_M, (if sg T n (sk T n p) = 61 then ja_bV (ja_x true (e + 3) 223 [jr 137, ji 6, ji 0] M6) (fun M7 => some (none, M7)) else if sg T n (sk T n p) = 60 then ja_bV (ja_x true (e + 3) 223 [jr 137, ji 7, ji 0] M6) (fun M8 => some (none, M8)) else ja_bV (ja_x true (e + 3) 223 [jr 137, ji 8, ji 0] M6) (fun M9 => some (none, M9))) = ja_bV (ja_x true (e + 3) 223 [jr 137, ji (o : Int), ji 0] M6) (fun M7 => some (none, M7)) := fun M6 => by
      have : o = 6 ∨ o = 7 ∨ o = 8 := by omega
      rcases this with rfl | rfl | rfl
      · have o2 : sg T n (sk T n p) = 61 := o2
        rw [if_pos o2]
        rfl
      · have o2 : sg T n (sk T n p) = 60 := o2
        rw [if_neg (by omega), if_pos o2]
        rfl
      · have o2 : sg T n (sk T n p) = 62 := o2
        rw [if_neg (by omega), if_neg (by omega)]
        rfl
    cases ef : (wr_sum T n k (sk T n p + 1)).2 with
    | none =>
      obtain ⟨N', k1, k2⟩ := i2 ef
      have k1 : ja_x true (e + 3) 225 [jr 137] (ja_up (rM N t d cs) 137 3 ((sk T n p : Int) + 1)) = _ := k1
      obtain ⟨N2, k3, k4⟩ := js_R_putF (e + 2) (a := (o : Int)) (b := 0) k2 hb.2.2.2 (by omega)
      rw [k1, jz_bV, put, k3, jz_bV] at st
      rw [wq_n ef]
      exact ⟨fun c hc => (by cases hc), fun _ => ⟨N2, st, k4.mono (by omega)⟩⟩
    | some c0 =>
      obtain ⟨f4, f5⟩ := f3 c0 ef
      have k1 := i1 c0 ef
      have k1 : ja_x true (e + 3) 225 [jr 137] (ja_up (rM N t d cs) 137 3 ((sk T n p : Int) + 1)) = _ := k1
      rw [k1, jz_bV, put, js_R_putO (e + 2) hb (by rw [List.length_append]; omega), jz_bV] at st
      rw [wq_s ef]
      refine ⟨fun c hc => ?_, fun h => by cases h⟩
      cases hc
      rw [← List.append_assoc]
      exact st
theorem ja_bV_as (x : Option ja_R) (f g : ja_M → Option ja_R) : ja_bV (ja_bV x f) g = ja_bV x (fun M => ja_bV (f M) g) := by
  rcases x with _ | ⟨_ | v, M⟩ <;> rfl
theorem rw_and (ℓ dd : Nat) {T : Nat → Int} {n t d K : Nat} {u : wP} (ht : tpok T n) (hK : K ≤ 100) (hg : wGd n u) (hu : ∀ dd, iR T n t d (fun M => ja_x true (dd + (ℓ + 2)) 221 [jr 137] M) u K) : lR T n t d (fun M => ja_x true (dd + (ℓ + 2) + 1) 232 [jr 137] M) u wr_opA (K + 1) := by
  have hn := ht.1
  have eq : ∀ M, ja_x true (dd + (ℓ + 2) + 1) 232 [jr 137] M = ja_D true (ja_x true (dd + (ℓ + 2))) k_R_goOnAnd 0 [some (jr 137)] [] M := fun M => (f_R_goOnAnd (dd + (ℓ + 2)) M).trans (e_R_goOnAnd (ja_x true (dd + (ℓ + 2))) M).symm
  have g0 : ∀ M : ja_M, M 137 4 ≠ -1 → ja_D true (ja_x true (dd + (ℓ + 2))) k_R_goOnAnd 0 [some (jr 137)] [] M = some (none, M) := fun M h => by
    rw [e_R_goOnAnd, if_neg h]
  refine ⟨fun M h => (eq M).trans (g0 M h), fun N p cs acc hb hp hl => ?_⟩
  have := rw_loop (T := T) (t := t) (d := d) (dw := dd + (ℓ + 1)) (G := fun M => ja_D true (ja_x true (dd + (ℓ + 2))) k_R_goOnAnd 0 [some (jr 137)] [] M) (op := wr_opA) hn hK hg (fun c o h => (wOpA c o h).1) (hu dd) g0 (fun N p cs hb hp e => by
    have e4 : (atR (rM N t d cs) p) 137 4 = -1 := hb.2.1
    show ja_D true (ja_x true (dd + (ℓ + 2))) k_R_goOnAnd 0 [some (jr 137)] [] _ = _
    rw [e_R_goOnAnd, e4, if_pos rfl, show ja_x true (dd + (ℓ + 2)) 207 [jr 137] (atR (rM N t d cs) p) = _ from js_R_look (dd + ℓ) (rM_tp hb.1) hn hp, jz_bI]
    rcases wr_opA_i (c := sg T n (sk T n p)) with ⟨-, q1⟩ | ⟨q, -⟩
    · rw [if_neg (fun w => q1 ((sr_sg ht 38 (by decide)).mp w))]
    · rw [q] at e
      cases e) (fun N p cs o hb hp e => by
    have e4 : (atR (rM N t d cs) p) 137 4 = -1 := hb.2.1
    have sq := sg_lt (wOpA _ o e).1
    have e3 : (atR (rM N t d cs) (sk T n p)) 137 3 = (sk T n p : Int) := rfl
    show ja_D true (ja_x true (dd + (ℓ + 2))) k_R_goOnAnd 0 [some (jr 137)] [] _ = _
    rw [e_R_goOnAnd, e4, if_pos rfl, show ja_x true (dd + (ℓ + 2)) 207 [jr 137] (atR (rM N t d cs) p) = _ from js_R_look (dd + ℓ) (rM_tp hb.1) hn hp, jz_bI, e3, ja_w_id (by omega) (by omega), ja_up_up]
    rcases wr_opA_i (c := sg T n (sk T n p)) with ⟨q, -⟩ | ⟨q, q1⟩
    · rw [q] at e
      cases e
    · rw [q] at e
      cases e
      rw [if_pos ((sr_sg ht 38 (by decide)).mpr q1)]
      rfl) (n + 1) p cs acc N (by omega) hp hl hb
  refine ⟨fun c hc => (eq _).trans (this.1 c hc), fun h => ?_⟩
  obtain ⟨N', k1, k2⟩ := this.2 h
  exact ⟨N', (eq _).trans k1, k2⟩
theorem rw_truth (ℓ dd : Nat) {T : Nat → Int} {n t d K : Nat} {u : wP} (ht : tpok T n) (hK : K ≤ 100) (hg : wGd n u) (hu : ∀ dd, iR T n t d (fun M => ja_x true (dd + (ℓ + 2)) 221 [jr 137] M) u K) : iR T n t d (fun M => ja_bV (ja_x true (dd + (ℓ + 2) + 1) 221 [jr 137] M) (fun M3 => ja_x true (dd + (ℓ + 2) + 1) 232 [jr 137] M3)) (wr_truth T n u) (K + 1) := by
  have h1 := hu (dd + 1)
  rw [show dd + 1 + (ℓ + 2) = dd + (ℓ + 2) + 1 by omega] at h1
  exact rw_seq hg h1 (rw_and ℓ dd ht hK hg hu)
theorem rw_or (ℓ dd : Nat) {T : Nat → Int} {n t d K : Nat} {u : wP} (ht : tpok T n) (hK : K ≤ 99) (hg : wGd n u) (hg2 : wGd n (wr_truth T n u)) (hu : ∀ dd, iR T n t d (fun M => ja_x true (dd + (ℓ + 2)) 221 [jr 137] M) u K) : lR T n t d (fun M => ja_x true (dd + (ℓ + 2) + 2) 233 [jr 137] M) (wr_truth T n u) wr_opO (K + 1 + 1) := by
  have hn := ht.1
  have eq : ∀ M, ja_x true (dd + (ℓ + 2) + 2) 233 [jr 137] M = ja_D true (ja_x true (dd + (ℓ + 2) + 1)) k_R_goOnOr 0 [some (jr 137)] [] M := fun M => (f_R_goOnOr (dd + (ℓ + 2) + 1) M).trans (e_R_goOnOr (ja_x true (dd + (ℓ + 2) + 1)) M).symm
  have g0 : ∀ M : ja_M, M 137 4 ≠ -1 → ja_D true (ja_x true (dd + (ℓ + 2) + 1)) k_R_goOnOr 0 [some (jr 137)] [] M = some (none, M) := fun M h => by
    rw [e_R_goOnOr, if_neg h]
  refine ⟨fun M h => (eq M).trans (g0 M h), fun N p cs acc hb hp hl => ?_⟩
  have := rw_loop (T := T) (t := t) (d := d) (dw := dd + (ℓ + 2)) (G := fun M => ja_D true (ja_x true (dd + (ℓ + 2) + 1)) k_R_goOnOr 0 [some (jr 137)] [] M) (op := wr_opO) hn (by omega) hg2 (fun c o h => (wOpO c o h).1) (rw_truth ℓ dd ht (by omega) hg hu) g0 (fun N p cs hb hp e => by
    have e4 : (atR (rM N t d cs) p) 137 4 = -1 := hb.2.1
    show ja_D true (ja_x true (dd + (ℓ + 2) + 1)) k_R_goOnOr 0 [some (jr 137)] [] _ = _
    rw [e_R_goOnOr, e4, if_pos rfl, show ja_x true (dd + (ℓ + 2) + 1) 207 [jr 137] (atR (rM N t d cs) p) = _ from js_R_look (dd + ℓ + 1) (rM_tp hb.1) hn hp, jz_bI]
    rcases wr_opO_i (c := sg T n (sk T n p)) with ⟨-, q1⟩ | ⟨q, -⟩
    · rw [if_neg (fun w => q1 ((sr_sg ht 124 (by decide)).mp w))]
    · rw [q] at e
      cases e) (fun N p cs o hb hp e => by
    have e4 : (atR (rM N t d cs) p) 137 4 = -1 := hb.2.1
    have sq := sg_lt (wOpO _ o e).1
    have e3 : (atR (rM N t d cs) (sk T n p)) 137 3 = (sk T n p : Int) := rfl
    show ja_D true (ja_x true (dd + (ℓ + 2) + 1)) k_R_goOnOr 0 [some (jr 137)] [] _ = ja_bV (ja_bV _ _) _
    rw [e_R_goOnOr, e4, if_pos rfl, show ja_x true (dd + (ℓ + 2) + 1) 207 [jr 137] (atR (rM N t d cs) p) = _ from js_R_look (dd + ℓ + 1) (rM_tp hb.1) hn hp, jz_bI, e3, ja_w_id (by omega) (by omega), ja_up_up, ja_bV_as]
    rcases wr_opO_i (c := sg T n (sk T n p)) with ⟨q, -⟩ | ⟨q, q1⟩
    · rw [q] at e
      cases e
    · rw [q] at e
      cases e
      rw [if_pos ((sr_sg ht 124 (by decide)).mpr q1)]
      rfl) (n + 1) p cs acc N (by omega) hp hl hb
  refine ⟨fun c hc => (eq _).trans (this.1 c hc), fun h => ?_⟩
  obtain ⟨N', k1, k2⟩ := this.2 h
  exact ⟨N', (eq _).trans k1, k2⟩
theorem rw_cond (ℓ dd : Nat) {T : Nat → Int} {n t d K : Nat} {u : wP} (ht : tpok T n) (hK : K ≤ 99) (hg : wGd n u) (hg2 : wGd n (wr_truth T n u)) (hu : ∀ dd, iR T n t d (fun M => ja_x true (dd + (ℓ + 2)) 221 [jr 137] M) u K) : iR T n t d (fun M => ja_x true (dd + (ℓ + 2) + 3) 220 [jr 137] M) (wr_cond T n u) (K + 2) := by
  have i1 := rw_truth ℓ (dd + 1) (t := t) (d := d) ht (by omega) hg hu
  rw [show dd + 1 + (ℓ + 2) + 1 = dd + (ℓ + 2) + 2 by omega] at i1
  have i2 := rw_seq hg2 i1 (rw_or ℓ dd ht hK hg hg2 hu)
  intro N p cs h1 h2 h3
  obtain ⟨g1, g2⟩ := i2 N p cs h1 h2 h3
  have eq : ∀ M M', ja_bV (ja_bV (ja_x true (dd + (ℓ + 2) + 2) 221 [jr 137] M) (fun M3 => ja_x true (dd + (ℓ + 2) + 2) 232 [jr 137] M3)) (fun M => ja_x true (dd + (ℓ + 2) + 2) 233 [jr 137] M) = some (none, M') → ja_x true (dd + (ℓ + 2) + 3) 220 [jr 137] M = some (none, M') := fun M M' h => by
    rw [f_R_condition]
    have w : ∀ x : Option ja_R, ja_bV (ja_bV x (fun M1 => ja_x true (dd + (ℓ + 2) + 2) 232 [jr 137] M1)) (fun M2 => ja_bV (ja_x true (dd + (ℓ + 2) + 2) 233 [jr 137] M2) (fun M3 => some (none, M3))) = ja_bV (ja_bV (ja_bV x (fun M1 => ja_x true (dd + (ℓ + 2) + 2) 232 [jr 137] M1)) (fun M2 => ja_x true (dd + (ℓ + 2) + 2) 233 [jr 137] M2)) (fun M3 => some (none, M3)) := fun x => by rw [ja_bV_as (ja_bV x _)]
    rw [← ja_bV_as, w, h, jz_bV]
  refine ⟨fun c hc => eq _ _ (g1 c hc), fun h => ?_⟩
  obtain ⟨N', k1, k2⟩ := g2 h
  exact ⟨N', eq _ _ k1, k2⟩
