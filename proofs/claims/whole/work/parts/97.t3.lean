/-! helpers: the duties, and who can be joined to whom -/
def gd_row (f : Nat → Nat → Bool) (t : Nat) : Nat → List (Nat × Nat)
  | 0 => []
  | p + 1 => gd_row f t p ++ (if f t p = true then [(t, p)] else [])
def gd_all (f : Nat → Nat → Bool) (P : Nat) : Nat → List (Nat × Nat)
  | 0 => []
  | t + 1 => gd_all f P t ++ gd_row f t P
theorem gd_row_b (f : Nat → Nat → Bool) (t : Nat) : ∀ p, (gd_row f t p).length ≤ p ∧ ∀ d ∈ gd_row f t p, d.1 = t ∧ d.2 < p
  | 0 => ⟨Nat.le_refl _, fun d h => by cases h⟩
  | p + 1 => by
    obtain ⟨h1, h2⟩ := gd_row_b f t p
    unfold gd_row
    rw [List.length_append]
    refine ⟨by split <;> simp <;> omega, fun d h => ?_⟩
    rcases List.mem_append.mp h with h | h
    · exact ⟨(h2 d h).1, Nat.lt_succ_of_lt (h2 d h).2⟩
    · by_cases z : f t p = true
      · rw [if_pos z] at h
        have : d = (t, p) := List.mem_singleton.mp h
        rw [this]
        exact ⟨rfl, Nat.lt_succ_self _⟩
      · rw [if_neg z] at h
        cases h
theorem gd_all_b (f : Nat → Nat → Bool) (P : Nat) : ∀ t, (gd_all f P t).length ≤ t * P ∧ ∀ d ∈ gd_all f P t, d.1 < t ∧ d.2 < P
  | 0 => ⟨Nat.zero_le _, fun d h => by cases h⟩
  | t + 1 => by
    obtain ⟨h1, h2⟩ := gd_all_b f P t
    obtain ⟨r1, r2⟩ := gd_row_b f t P
    unfold gd_all
    rw [List.length_append, Nat.succ_mul]
    refine ⟨by omega, fun d h => ?_⟩
    rcases List.mem_append.mp h with h | h
    · exact ⟨Nat.lt_succ_of_lt (h2 d h).1, (h2 d h).2⟩
    · have := r2 d h
      exact ⟨by omega, this.2⟩
abbrev gd_at (ds : List (Nat × Nat)) (i : Nat) : Nat × Nat := ds.getD i (0, 0)
theorem gd_at_l {ds es : List (Nat × Nat)} {i : Nat} (h : i < ds.length) : gd_at (ds ++ es) i = gd_at ds i := by
  unfold gd_at
  rw [List.getD_eq_getElem?_getD, List.getD_eq_getElem?_getD, List.getElem?_append_left h]
theorem gd_at_n {ds : List (Nat × Nat)} {d : Nat × Nat} : gd_at (ds ++ [d]) ds.length = d := by
  unfold gd_at
  rw [List.getD_eq_getElem?_getD, List.getElem?_append_right (Nat.le_refl _), Nat.sub_self]
  rfl
theorem gd_at_mem {ds : List (Nat × Nat)} {i : Nat} (h : i < ds.length) : gd_at ds i ∈ ds := by
  unfold gd_at
  rw [List.getD_eq_getElem?_getD, List.getElem?_eq_getElem h]
  exact List.getElem_mem h
def gd_hd (c1 c2 : Nat) (N : ja_M) (ds : List (Nat × Nat)) : Prop := ∀ i, i < ds.length → N c1 i = ((gd_at ds i).1 : Int) ∧ N c2 i = ((gd_at ds i).2 : Int)
def gd_E (A : Nat → Nat → Bool) (P : Nat) (ds : List (Nat × Nat)) (a b : Nat) : Bool := decide ((gd_at ds a).1 < (gd_at ds b).1) && hp_rc A P ((gd_at ds b).1 - (gd_at ds a).1) (gd_at ds a).2 (gd_at ds b).2
theorem gd_hd_push {c1 c2 : Nat} {N N' : ja_M} {ds : List (Nat × Nat)} {t p : Nat} (h : gd_hd c1 c2 N ds) (h1 : ∀ i, N' c1 i = if i = ds.length then (t : Int) else N c1 i) (h2 : ∀ i, N' c2 i = if i = ds.length then (p : Int) else N c2 i) : gd_hd c1 c2 N' (ds ++ [(t, p)]) := by
  intro i hi
  rw [List.length_append] at hi
  rw [h1, h2]
  by_cases z : i = ds.length
  · rw [if_pos z, if_pos z, z, gd_at_n]
    exact ⟨rfl, rfl⟩
  · have hi : i < ds.length := by
      have : [(t, p)].length = 1 := rfl
      omega
    rw [if_neg z, if_neg z, gd_at_l hi]
    exact h i hi
abbrev s131 : Nat → Prop := fun c => c = 123 ∨ (131 ≤ c ∧ c ≤ 134)
def gd_iX (M : ja_M) (ds : List (Nat × Nat)) (N : ja_M) : Prop := jFr s131 M N ∧ N 123 9 = (ds.length : Int) ∧ gd_hd 131 132 N ds ∧ ∀ i, i < ds.length → N 133 i = -1 ∧ N 134 i = -1
abbrev gd_f (M : ja_M) : Nat → Nat → Bool := fun t p => decide (pv_at (M 11 4).toNat (oX M) t (p : Int) ≠ 0)
theorem gd_fr {M N : ja_M} (h : jFr s131 M N) : jFr s125 M N := h.wk (fun c x => by
  have x : c = 123 ∨ (131 ≤ c ∧ c ≤ 134) := x
  show 123 ≤ c ∧ c ≤ 136
  omega)
theorem js_gather (dd : Nat) {M : ja_M} {P : Nat} (hH : jH M) (hP : M 11 3 = (P : Int)) : ∃ N, ja_x true (dd + 4) 177 [jr 123] M = some (none, N) ∧ gd_iX M (gd_all (gd_f M) P P) N := by
  have h0 := hH.b
  have a3 : ∀ N : ja_M, jFr s131 M N → N 11 3 = (P : Int) := fun N hf => ((gd_fr hf).k125.of jk_H 11 3 rfl).trans hP
  have inner : ∀ (t : Nat), t < P → ∀ (r p : Nat) (N : ja_M), p + r = P → gd_iX M (gd_all (gd_f M) P t ++ gd_row (gd_f M) t p) N → ∃ N', ja_D true (ja_x true (dd + 3)) k_HelperCount_gatherDuties 12 [some (jr 123), some (ji (t : Int)), some (ji (p : Int))] [] N = ja_D true (ja_x true (dd + 3)) k_HelperCount_gatherDuties 5 [some (jr 123), some (ji ((t + 1 : Nat) : Int)), none] [] N' ∧ gd_iX M (gd_all (gd_f M) P (t + 1)) N' := by
    intro t ht r
    induction r with
    | zero =>
      intro p N e hi
      have hp : p = P := by omega
      subst hp
      refine ⟨N, ?_, hi⟩
      rw [e_HelperCount_gatherDuties_12, js_places, jz_bI, a3 N hi.1, if_neg (by omega), ja_w_id (x := (t : Int) + 1) (by omega) (by omega)]
      rfl
    | succ r ih =>
      intro p N e hi
      have hHN := hH.kp ((gd_fr hi.1).k125.of jk_H)
      have l1 := (gd_all_b (gd_f M) P t).1
      have l2 := (gd_row_b (gd_f M) t p).1
      have l3 : t * P ≤ 5 * P := Nat.mul_le_mul_right P (by omega)
      have hl : (gd_all (gd_f M) P t ++ gd_row (gd_f M) t p).length < 36 := by
        rw [List.length_append]
        omega
      have e4 : N 11 4 = M 11 4 := (gd_fr hi.1).k125.of jk_H 11 4 rfl
      have ba := js_bandsAt dd (t := t) (p := (p : Int)) hHN (by rw [a3 N hi.1]; omega)
      rw [e4, show pv_at (M 11 4).toNat (oX N) t (p : Int) = pv_at (M 11 4).toNat (oX M) t (p : Int) from jv_set_congr _ (fun b hb => by
        show decide (N (26 + b) t = (p : Int)) = decide (M (26 + b) t = (p : Int))
        rw [hi.1 (26 + b) t (fun x => by
          have x : 26 + b = 123 ∨ (131 ≤ 26 + b ∧ 26 + b ≤ 134) := x
          omega)])] at ba
      have st := e_HelperCount_gatherDuties_12 (ja_x true (dd + 3)) (t : Int) (p : Int) N
      rw [js_places, jz_bI, a3 N hi.1, if_pos (by omega), ba, jz_bI, ja_w_id (x := (p : Int) + 1) (by omega) (by omega), show (p : Int) + 1 = ((p + 1 : Nat) : Int) by omega] at st
      by_cases z : pv_at (M 11 4).toNat (oX M) t (p : Int) = 0
      · rw [if_pos (by omega)] at st
        obtain ⟨N', g1, g2⟩ := ih (p + 1) N (by omega) (by
          unfold gd_row
          rw [if_neg (by rw [decide_eq_true_eq]; exact fun w => w z), List.append_nil]
          exact hi)
        exact ⟨N', st.trans g1, g2⟩
      · obtain ⟨i1, i2, i3, i4⟩ := hi
        generalize hds : gd_all (gd_f M) P t ++ gd_row (gd_f M) t p = ds at hl i2 i3 i4
        have t1 : (ja_up N 131 ds.length (t : Int)) 123 9 = (ds.length : Int) := (jb_up_ne (by decide)).trans i2
        have t2 : (ja_up (ja_up N 131 ds.length (t : Int)) 132 ds.length (p : Int)) 123 9 = (ds.length : Int) := (jb_up_ne (by decide)).trans t1
        have t3 : (ja_up (ja_up (ja_up N 131 ds.length (t : Int)) 132 ds.length (p : Int)) 133 ds.length (-1)) 123 9 = (ds.length : Int) := (jb_up_ne (by decide)).trans t2
        have t4 : (ja_up (ja_up (ja_up (ja_up N 131 ds.length (t : Int)) 132 ds.length (p : Int)) 133 ds.length (-1)) 134 ds.length (-1)) 123 9 = (ds.length : Int) := (jb_up_ne (by decide)).trans t3
        rw [if_neg (by omega), i2, if_pos (by omega), if_pos (by omega), show ((ds.length : Int)).toNat = ds.length from rfl, t1, if_pos (by omega), show ((ds.length : Int)).toNat = ds.length from rfl, t2, if_pos (by omega), show ((ds.length : Int)).toNat = ds.length from rfl, t3, if_pos (by omega), show ((ds.length : Int)).toNat = ds.length from rfl, t4, ja_w_id (x := (ds.length : Int) + 1) (by omega) (by omega)] at st
        have c1 : ∀ i, (ja_up (ja_up (ja_up (ja_up (ja_up N 131 ds.length (t : Int)) 132 ds.length (p : Int)) 133 ds.length (-1)) 134 ds.length (-1)) 123 9 ((ds.length : Int) + 1)) 131 i = if i = ds.length then (t : Int) else N 131 i := fun i => by
          rw [jb_up_ne (by decide), jb_up_ne (by decide), jb_up_ne (by decide), jb_up_ne (by decide)]
          by_cases w : i = ds.length
          · rw [w, jb_up_eq, if_pos rfl]
          · rw [jb_up_nej w, if_neg w]
        have c2 : ∀ i, (ja_up (ja_up (ja_up (ja_up (ja_up N 131 ds.length (t : Int)) 132 ds.length (p : Int)) 133 ds.length (-1)) 134 ds.length (-1)) 123 9 ((ds.length : Int) + 1)) 132 i = if i = ds.length then (p : Int) else N 132 i := fun i => by
          rw [jb_up_ne (by decide), jb_up_ne (by decide), jb_up_ne (by decide)]
          by_cases w : i = ds.length
          · rw [w, jb_up_eq, if_pos rfl]
          · rw [jb_up_nej w, jb_up_ne (by decide), if_neg w]
        have c3 : ∀ i, (ja_up (ja_up (ja_up (ja_up (ja_up N 131 ds.length (t : Int)) 132 ds.length (p : Int)) 133 ds.length (-1)) 134 ds.length (-1)) 123 9 ((ds.length : Int) + 1)) 133 i = if i = ds.length then -1 else N 133 i := fun i => by
          rw [jb_up_ne (by decide), jb_up_ne (by decide)]
          by_cases w : i = ds.length
          · rw [w, jb_up_eq, if_pos rfl]
          · rw [jb_up_nej w, jb_up_ne (by decide), jb_up_ne (by decide), if_neg w]
        have c4 : ∀ i, (ja_up (ja_up (ja_up (ja_up (ja_up N 131 ds.length (t : Int)) 132 ds.length (p : Int)) 133 ds.length (-1)) 134 ds.length (-1)) 123 9 ((ds.length : Int) + 1)) 134 i = if i = ds.length then -1 else N 134 i := fun i => by
          rw [jb_up_ne (by decide)]
          by_cases w : i = ds.length
          · rw [w, jb_up_eq, if_pos rfl]
          · rw [jb_up_nej w, jb_up_ne (by decide), jb_up_ne (by decide), jb_up_ne (by decide), if_neg w]
        have c9 : (ja_up (ja_up (ja_up (ja_up (ja_up N 131 ds.length (t : Int)) 132 ds.length (p : Int)) 133 ds.length (-1)) 134 ds.length (-1)) 123 9 ((ds.length : Int) + 1)) 123 9 = (ds.length : Int) + 1 := jb_up_eq
        have cf : jFr s131 M (ja_up (ja_up (ja_up (ja_up (ja_up N 131 ds.length (t : Int)) 132 ds.length (p : Int)) 133 ds.length (-1)) 134 ds.length (-1)) 123 9 ((ds.length : Int) + 1)) := ((((i1.up (Or.inr (by decide))).up (Or.inr (by decide))).up (Or.inr (by decide))).up (Or.inr (by decide))).up (Or.inl rfl)
        generalize (ja_up (ja_up (ja_up (ja_up (ja_up N 131 ds.length (t : Int)) 132 ds.length (p : Int)) 133 ds.length (-1)) 134 ds.length (-1)) 123 9 ((ds.length : Int) + 1)) = N2 at st c1 c2 c3 c4 c9 cf
        obtain ⟨N', g1, g2⟩ := ih (p + 1) N2 (by omega) (by
          unfold gd_row
          rw [if_pos (decide_eq_true z), ← List.append_assoc, hds]
          refine ⟨cf, ?_, gd_hd_push i3 c1 c2, fun i hi => ?_⟩
          · rw [c9, List.length_append]
            show _ = ((ds.length + 1 : Nat) : Int)
            omega
          · rw [List.length_append] at hi
            rw [c3, c4]
            by_cases w : i = ds.length
            · rw [if_pos w, if_pos w]
              exact ⟨rfl, rfl⟩
            · have : [(t, p)].length = 1 := rfl
              rw [if_neg w, if_neg w]
              exact i4 i (by omega))
        exact ⟨N', st.trans g1, g2⟩
  have outer : ∀ (r t : Nat) (N : ja_M), t + r = P → gd_iX M (gd_all (gd_f M) P t) N → ∃ N', ja_D true (ja_x true (dd + 3)) k_HelperCount_gatherDuties 5 [some (jr 123), some (ji (t : Int)), none] [] N = some (none, N') ∧ gd_iX M (gd_all (gd_f M) P P) N' := by
    intro r
    induction r with
    | zero =>
      intro t N e hi
      have ht : t = P := by omega
      subst ht
      refine ⟨N, ?_, hi⟩
      rw [e_HelperCount_gatherDuties_5, js_places, jz_bI, a3 N hi.1, if_neg (by omega)]
    | succ r ih =>
      intro t N e hi
      obtain ⟨N1, g1, g2⟩ := inner t (by omega) P 0 N (by omega) (by
        show gd_iX M (gd_all (gd_f M) P t ++ []) N
        rw [List.append_nil]
        exact hi)
      obtain ⟨N', k1, k2⟩ := ih (t + 1) N1 (by omega) g2
      refine ⟨N', ?_, k2⟩
      rw [e_HelperCount_gatherDuties_5, js_places, jz_bI, a3 N hi.1, if_pos (by omega)]
      exact g1.trans k1
  obtain ⟨N', g1, g2⟩ := outer P 0 (ja_up M 123 9 0) (by omega) ⟨(jFr.rf M).up (Or.inl rfl), jb_up_eq, fun i hi => absurd hi (Nat.not_lt_zero _), fun i hi => absurd hi (Nat.not_lt_zero _)⟩
  exact ⟨N', (f_HelperCount_gatherDuties _ _).trans g1, g2⟩
theorem js_canJoin (dd : Nat) {N : ja_M} {A : Nat → Nat → Bool} {P : Nat} {ds : List (Nat × Nat)} (hP : P ≤ 6) (h3 : N 11 3 = (P : Int)) (hr : ∀ d p, d < P → p < P → N (125 + d) p = ((jv_set (hp_rc A P d p) P : Nat) : Int)) (hh : gd_hd 131 132 N ds) (hb : ∀ d ∈ ds, d.1 < P ∧ d.2 < P) (hl : ds.length ≤ 36) {a b : Nat} (ha : a < ds.length) (hb' : b < ds.length) : ja_x true (dd + 2) 180 [jr 123, ji (a : Int), ji (b : Int)] N = some (some (ji (if gd_E A P ds a b = true then 1 else 0)), N) := by
  have ea := hh a ha
  have eb := hh b hb'
  have ba := hb _ (gd_at_mem ha)
  have bb := hb _ (gd_at_mem hb')
  rw [f_HelperCount_canJoin, if_pos (by omega), if_pos (by omega), show ((a : Int)).toNat = a from rfl, show ((b : Int)).toNat = b from rfl, ea.1, ea.2, eb.1]
  unfold gd_E
  generalize gd_at ds a = da at ba ea
  generalize gd_at ds b = db at bb eb
  obtain ⟨ta, pa⟩ := da
  obtain ⟨tb, pb⟩ := db
  have ba : ta < P ∧ pa < P := ba
  have bb : tb < P ∧ pb < P := bb
  have ea : N 131 a = (ta : Int) ∧ N 132 a = (pa : Int) := ea
  have eb : N 131 b = (tb : Int) ∧ N 132 b = (pb : Int) := eb
  show (if 0 < ja_w ((tb : Int) - (ta : Int)) then _ else _) = some (some (ji (if (decide (ta < tb) && hp_rc A P (tb - ta) pa pb) = true then 1 else 0)), N)
  rw [ja_w_id (x := (tb : Int) - (ta : Int)) (by omega) (by omega)]
  by_cases z : ta < tb
  · have hpl : 0 ≤ (pa : Int) ∧ (pa : Int) < N 11 3 := by omega
    rw [if_pos (by omega), if_pos (by omega), if_pos (by omega)]
    show ja_bI ((ja_x true (dd + 1)) 71 [jr 11, ji (pa : Int)] N) _ = _
    rw [js_hasPlace, jz_bI, jz_b0, if_pos hpl, if_pos (by omega), if_pos (by omega), show 124 + 1 + ((tb : Int) - (ta : Int)).toNat = 125 + (tb - ta) by omega, ea.2]
    show ja_ald true N (125 + (tb - ta)) (pa : Int) _ = _
    rw [jz_ald (n := 6) (jk_125 (tb - ta) (by omega)) (by omega) (by omega) (by omega) (by omega), show ((pa : Int)).toNat = pa from rfl, hr (tb - ta) pa (by omega) (by omega), if_pos (by omega), eb.2]
    have h64 := jv_set_64 (hp_rc A P (tb - ta) pa) (n := P) (by omega)
    show (if ja_and (ja_shr ((jv_set (hp_rc A P (tb - ta) pa) P : Nat) : Int) (pb : Int)) 1 = 1 then _ else _) = _
    rw [jx_bit (by omega) (by omega), jv_set_bit, decide_eq_true bb.2, Bool.true_and, decide_eq_true z, Bool.true_and]
    by_cases y : hp_rc A P (tb - ta) pa pb = true
    · rw [if_pos y, if_pos rfl]
    · rw [if_neg y, if_neg (by decide)]
  · rw [if_neg (by omega), decide_eq_false z, Bool.false_and]
    rfl
