/-! soonest: the best of all orders -/
abbrev ofn (l : List Nat) : Nat → Int := fun t => (jv_nth l t : Int)
noncomputable def bs (bet : Int → Int → Prop) (val : List Nat → Int) (ok : List Nat → Prop) (st : Option (Int × Int)) (o : List Nat) : Option (Int × Int) := @ite _ ((∀ x, st = some x → bet (val o) x.1) ∧ ok o) (Classical.propDecidable _) (some (val o, jv_num o)) st
theorem bs_p {bet : Int → Int → Prop} {val : List Nat → Int} {ok : List Nat → Prop} {st : Option (Int × Int)} {o : List Nat} (h : (∀ x, st = some x → bet (val o) x.1) ∧ ok o) : bs bet val ok st o = some (val o, jv_num o) := by
  unfold bs
  rw [if_pos h]
theorem bs_n {bet : Int → Int → Prop} {val : List Nat → Int} {ok : List Nat → Prop} {st : Option (Int × Int)} {o : List Nat} (h : ¬ ((∀ x, st = some x → bet (val o) x.1) ∧ ok o)) : bs bet val ok st o = st := by
  unfold bs
  rw [if_neg h]
theorem bs_cut {bet : Int → Int → Prop} {val : List Nat → Int} {ok : List Nat → Prop} {st : Option (Int × Int)} : ∀ {l : List (List Nat)}, (∀ o ∈ l, ¬ ((∀ x, st = some x → bet (val o) x.1) ∧ ok o)) → l.foldl (bs bet val ok) st = st
  | [], _ => rfl
  | o :: l, h => by
    rw [List.foldl_cons, bs_n (h o (List.mem_cons_self ..))]
    exact bs_cut (fun x hx => h x (List.mem_cons_of_mem _ hx))
theorem jv_ords_mem {n : Nat} : ∀ (m : Nat) (left : Nat → Bool) (o : List Nat), o ∈ jv_ords n m left → o.length = m ∧ (∀ p ∈ o, p < n ∧ left p = true)
  | 0, _, o, h => by
    have : o = [] := List.mem_singleton.mp h
    subst this
    exact ⟨rfl, fun p hp => by cases hp⟩
  | m + 1, left, o, h => by
    rw [jv_ords_s] at h
    obtain ⟨p, hp, h⟩ := List.mem_flatMap.mp h
    unfold jv_g at h
    by_cases z : left p = true
    · rw [if_pos z] at h
      obtain ⟨o', ho', rfl⟩ := List.mem_map.mp h
      obtain ⟨a, b⟩ := jv_ords_mem m _ o' ho'
      refine ⟨by rw [List.length_cons, a], fun q hq => ?_⟩
      rcases List.mem_cons.mp hq with rfl | hq
      · exact ⟨List.mem_range.mp hp, z⟩
      · have := b q hq
        exact ⟨this.1, (Bool.and_eq_true _ _ ▸ this.2).1⟩
    · rw [if_neg z] at h
      cases h
theorem jv_nth_l {a b : List Nat} {t : Nat} (h : t < a.length) : jv_nth (a ++ b) t = jv_nth a t := by
  unfold jv_nth
  rw [List.getD_eq_getElem?_getD, List.getD_eq_getElem?_getD, List.getElem?_append_left h]
theorem jv_nth_m {a b : List Nat} {p : Nat} : jv_nth (a ++ p :: b) a.length = p := by
  unfold jv_nth
  rw [List.getD_eq_getElem?_getD, List.getElem?_append_right (Nat.le_refl _), Nat.sub_self]
  rfl
theorem jv_nth_lt {l : List Nat} {t n : Nat} (h : ∀ p ∈ l, p < n) (ht : t < l.length) : jv_nth l t < n := by
  unfold jv_nth
  rw [List.getD_eq_getElem?_getD, List.getElem?_eq_getElem ht]
  exact h _ (List.getElem_mem ht)
theorem pv_lv_congr {X Y : Nat → Int} {s k y : Int} {o o' : Nat → Int} : ∀ t, (∀ u, u < t → o u = o' u) → pv_lv X Y s k y o t = pv_lv X Y s k y o' t ∧ pv_prev o t = pv_prev o' t
  | 0, _ => ⟨rfl, rfl⟩
  | t + 1, h => by
    obtain ⟨a, b⟩ := pv_lv_congr (X := X) (Y := Y) (s := s) (k := k) (y := y) t (fun u hu => h u (by omega))
    refine ⟨?_, h t (by omega)⟩
    show pv_lv X Y s k y o t + pv_st X Y (pv_prev o t) (o t) * k + y = pv_lv X Y s k y o' t + pv_st X Y (pv_prev o' t) (o' t) * k + y
    rw [a, b, h t (by omega)]
theorem pv_lv_mono {M : ja_M} (hH : jH M) {s k : Int} {o : Nat → Int} (hv : ∀ u : Nat, (u : Int) < M 11 3 → 0 ≤ o u ∧ o u < M 11 3) (hk : 1 ≤ k ∧ k ≤ 5) (t : Nat) : ∀ n : Nat, ((t + n : Nat) : Int) ≤ M 11 3 → pv_lv (M 12) (M 13) s k (M 11 6) o t ≤ pv_lv (M 12) (M 13) s k (M 11 6) o (t + n)
  | 0, _ => Int.le_refl _
  | n + 1, h => by
    have h0 := hH.b
    have a := pv_lv_mono hH (s := s) hv hk t n (by omega)
    have b := pv_way_b (pv_st_b hH (pv_prev_pl hv (t := t + n) (by omega)) (Or.inr (hv (t + n) (by omega)))) hk
    show _ ≤ pv_lv (M 12) (M 13) s k (M 11 6) o (t + n) + pv_st (M 12) (M 13) (pv_prev o (t + n)) (o (t + n)) * k + M 11 6
    omega
/-- home, from the last place -/
theorem pv_home_eq (X Y : Nat → Int) (s k y : Int) (o : Nat → Int) (Q : Nat) : pv_home X Y s k y o (Q + 1) = pv_lv X Y s k y o (Q + 1) + pv_st X Y (o Q) (-1) * k := by
  show pv_lv X Y s k y o Q + pv_st X Y (pv_prev o Q) (o Q) * k + y + pv_st X Y (-1) (o Q) * k = pv_lv X Y s k y o Q + pv_st X Y (pv_prev o Q) (o Q) * k + y + pv_st X Y (o Q) (-1) * k
  rw [pv_st_sy X Y (-1)]
/-- someone else is there then -/
def pv_hit (M : ja_M) (b : Nat) (q v : Int) : Prop := ∃ c : Nat, (c : Int) < M 11 4 ∧ c ≠ b ∧ ∃ u : Nat, (u : Int) < M 11 3 ∧ oX M c u = q ∧ pv_ab (aX M c u - v) < M 11 6
abbrev pv_ao (M : ja_M) (b : Nat) (l : List Nat) : Nat → Int := pv_arr (M 12) (M 13) (M 32 b) (M 14 b) (M 11 6) (ofn l)
abbrev pv_lo (M : ja_M) (b : Nat) (l : List Nat) : Nat → Int := pv_lv (M 12) (M 13) (M 32 b) (M 14 b) (M 11 6) (ofn l)
def sn_ok (M : ja_M) (b : Nat) (l : List Nat) : Prop := ∀ t, t < l.length → ¬ pv_hit M b (ofn l t) (pv_ao M b l t)
abbrev sn_val (M : ja_M) (b : Nat) (l : List Nat) : Int := pv_home (M 12) (M 13) (M 32 b) (M 14 b) (M 11 6) (ofn l) (M 11 3).toNat
noncomputable abbrev sn (M : ja_M) (b : Nat) : Option (Int × Int) → List Nat → Option (Int × Int) := bs (fun v x => v < x) (sn_val M b) (sn_ok M b)
theorem js_there (dd : Nat) {b : Nat} {q v : Int} {M N : ja_M} (hH : jH M) (hO : jO M) (kk : jK M N) (hc : ∀ b t : Nat, (b : Int) < M 11 4 → (t : Int) < M 11 3 → N (79 + b) (oX M b t).toNat = aX M b t) (hq : 0 ≤ q ∧ q < M 11 3) (hv : 0 ≤ v ∧ v ≤ 10000) : ∃ r : Int, ja_x true (dd + 3) 141 [jr 77, ji (b : Int), ji q, ji v] N = some (some (ji r), N) ∧ ((r = 1 ∧ pv_hit M b q v) ∨ (r = 0 ∧ ¬ pv_hit M b q v)) := by
  have h0 := hH.b
  obtain ⟨B, hB⟩ : ∃ B : Nat, M 11 4 = (B : Int) := ⟨(M 11 4).toNat, by omega⟩
  have a3 : N 11 3 = M 11 3 := kk.of jk_H 11 3 rfl
  have a4 : N 11 4 = (B : Int) := (kk.of jk_H 11 4 rfl).trans hB
  have a6 : N 11 6 = M 11 6 := kk.of jk_H 11 6 rfl
  have tm : ∀ c : Nat, c < B → ∃ u : Nat, (u : Int) < M 11 3 ∧ oX M c u = q ∧ N (79 + c) q.toNat = aX M c u ∧ (0 ≤ aX M c u ∧ aX M c u ≤ 1700) ∧ ∀ u' : Nat, (u' : Int) < M 11 3 → oX M c u' = q → u' = u := fun c hcB => by
    obtain ⟨u, hu, e⟩ := jv_perm_surj (hO.perm (b := c) (by omega)) (by omega) (p := q) hq
    have e : oX M c u = q := e
    have := hc c u (by omega) hu
    rw [e] at this
    exact ⟨u, hu, e, this, pv_arr_b hH (hO.v (by omega)) (hO.2.2 c (by omega)).2 (hH.2.2.2 c (by omega)).2 hu, fun u' hu' e' => (hO.2.1 c u' u (by omega) hu' hu (e'.trans e.symm))⟩
  have loop : ∀ (m c : Nat), c + m = B → (∀ d : Nat, d < c → d ≠ b → ∀ u : Nat, (u : Int) < M 11 3 → oX M d u = q → ¬ pv_ab (aX M d u - v) < M 11 6) → ∃ r : Int, ja_D true (ja_x true (dd + 2)) k_Clock_clashesThere 2 [some (jr 77), some (ji (b : Int)), some (ji q), some (ji v), some (ji (c : Int))] [] N = some (some (ji r), N) ∧ ((r = 1 ∧ pv_hit M b q v) ∨ (r = 0 ∧ ¬ pv_hit M b q v)) := by
    intro m
    induction m with
    | zero =>
      intro c e h
      refine ⟨0, ?_, Or.inr ⟨rfl, fun ⟨d, d1, d2, u, u1, u2, u3⟩ => h d (by omega) d2 u u1 u2 u3⟩⟩
      rw [e_Clock_clashesThere_2, js_bands, jz_bI, if_neg (by omega)]
    | succ m ih =>
      intro c e h
      obtain ⟨u, u1, u2, u3, u4, u5⟩ := tm c (by omega)
      have hst := e_Clock_clashesThere_2 (ja_x true (dd + 2)) (b : Int) q v (c : Int) N
      rw [js_bands, jz_bI, if_pos (by omega), js_hasPlace, jz_bI, jz_b0, a3, if_pos hq, ja_w_id (x := (c : Int) + 1) (by omega) (by omega), show (c : Int) + 1 = ((c + 1 : Nat) : Int) by omega] at hst
      by_cases z : c = b
      · rw [if_pos (by omega)] at hst
        obtain ⟨r, g1, g2⟩ := ih (c + 1) (by omega) (fun d hd dn => h d (by omega) dn)
        exact ⟨r, hst.trans g1, g2⟩
      · rw [if_neg (by omega), if_pos (by omega), show ((c : Int)).toNat = c from rfl, show 78 + 1 + c = 79 + c by omega, jz_ald (n := 6) (jk_79 c (by omega)) (by omega) (by omega) (by omega) (by omega), f_Hunt_stay_11, jz_bI, u3, ja_w_id (x := aX M c u - v) (by omega) (by omega), jx_abs (by omega), a6] at hst
        by_cases y : pv_ab (aX M c u - v) < M 11 6
        · rw [if_pos y] at hst
          exact ⟨1, hst, Or.inl ⟨rfl, c, by omega, z, u, u1, u2, y⟩⟩
        · rw [if_neg y] at hst
          obtain ⟨r, g1, g2⟩ := ih (c + 1) (by omega) (fun d hd dn u' hu' e' => by
            by_cases w : d = c
            · subst w
              rw [u5 u' hu' e']
              exact y
            · exact h d (by omega) dn u' hu' e')
          exact ⟨r, hst.trans g1, g2⟩
  obtain ⟨r, g1, g2⟩ := loop B 0 (by omega) (fun d hd => by omega)
  exact ⟨r, (f_Clock_clashesThere _ _ _ _ _).trans g1, g2⟩
def sn_enc (N : ja_M) (st : Option (Int × Int)) : Prop := match st with
  | none => N 91 6 = 0
  | some x => N 91 6 = 1 ∧ N 91 7 = x.2 ∧ N 91 8 = x.1
abbrev s91 : Nat → Prop := fun c => c = 91
theorem jv_used {left : Nat → Bool} {p n : Nat} (hp : p < n) : jv_set (fun q => !(left q)) n ||| 2 ^ p = jv_set (fun q => !(jv_rest left p q)) n := jv_set_eq (fun i => by
  rw [Nat.testBit_or, jv_set_bit, Nat.testBit_two_pow]
  by_cases z : i = p
  · subst z
    simp [hp, jv_rest]
  · have z2 : ¬ p = i := fun e => z e.symm
    by_cases q : i < n
    · simp [q, z, z2, jv_rest]
    · simp [q, z2])
theorem jv_blk (pre : List Nat) (p : Nat) (l : List (List Nat)) : (l.map (fun o => p :: o)).map (fun o => pre ++ o) = l.map (fun o => (pre ++ [p]) ++ o) := by
  rw [List.map_map]
  exact List.map_congr_left (fun o _ => (List.append_assoc pre [p] o).symm)
