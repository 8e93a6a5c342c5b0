/-! tables: the whole search -/
theorem fI.mv {P B : Nat} {N N' : ja_M} {ρ : Nat → Int} {g : Nat → Nat → Option Nat} (hP5 : P ≤ 5) (hB5 : B ≤ 5) (h : fI P B N ρ g) (e : ∀ d i, 108 ≤ d → d ≤ 122 → N' d i = N d i) : fI P B N' ρ g := by
  obtain ⟨h1, h2, h3, h4, h5⟩ := h
  refine ⟨fun b hb => (e 108 b (by omega) (by omega)).trans (h1 b hb), fun b hb => (e 109 b (by omega) (by omega)).trans (h2 b hb), fun t ht => (e 110 t (by omega) (by omega)).trans (h3 t ht), fun t p ht hp => ?_, fun x y hx hy => (e (118 + x) y (by omega) (by omega)).trans (h5 x y hx hy)⟩
  rw [e (112 + t) p (by omega) (by omega)]
  exact h4 t p ht hp
theorem js_fillK (dd : Nat) {P B f most : Nat} {op : Nat → Nat → Nat → Bool} {D : List (List Nat)} (hP5 : P ≤ 5) (hB5 : B ≤ 5) (hm : most ≤ 1000) (hD : D.length = B) : tS (dd + 2) P B f most op D [] [D.reverse] := by
  intro N c hc hC h6 hI
  obtain ⟨N', e1, e2, e3, e4⟩ := js_keepTb dd (N := N) (c := c) (by omega) hC.2.2.2.1 hC.2.2.2.2.1 h6
  refine ⟨N', ?_, fun d i a1 a2 a3 => e4 d i (fun q => a2 q.1) a3, hI.mv hP5 hB5 (fun d i a1 a2 => e4 d i (fun q => by omega) (fun q => by omega)), ?_, fun i b tb o a1 a2 a3 a4 => ?_, fun i hi => e4 172 i (fun q => by omega) (fun q => by omega)⟩
  · rw [f_Finds_fill, f_Hunt_bands_11, hC.2.1, jz_bI, if_neg (by omega), e1, jz_bV]
  · rw [e2]
    show _ = ((min (c + 1) most : Nat) : Int)
    omega
  · cases i with
    | zero =>
      have a1 : some D.reverse = some tb := a1
      cases a1
      rw [Nat.add_zero, e3 b a3, hI.1 b a3]
      obtain ⟨q, -⟩ := List.getElem?_eq_some_iff.mp a4
      rw [List.length_reverse] at q
      unfold rh
      rw [if_pos q, List.getD_eq_getElem?_getD, a4]
      rfl
    | succ i => cases a1
theorem js_fillR (dd : Nat) {P B f most : Nat} {op : Nat → Nat → Nat → Bool} (hP5 : P ≤ 5) (hB5 : B ≤ 5) (hm : most ≤ 1000) {m : Nat} {D : List (List Nat)} (hD : D.length + (m + 1) = B) (ih : ∀ pre, fOk P B f op (pre :: D) [] → tS (dd + 2) P B f most op (pre :: D) [] (jv_tabs P f (fitO op P) m (pre :: D))) : ∀ (k : Nat) (pre : List Nat), fOk P B f op D pre → pre.length + k = P → tS (dd + 2 + 1 + k) P B f most op D pre (fl P f op D pre m)
  | 0, pre, hok, hl => by
    intro N c hc hC h6 hI
    obtain ⟨f1, f2⟩ := hok.full (by omega) (by omega) m
    rw [← rh_cons, ← Gd_cons] at hI
    obtain ⟨N', e1, e2, e3, e4⟩ := ih pre f2 N c hc hC h6 hI
    rw [rh_cons, Gd_cons] at e3
    refine ⟨N', ?_, e2, e3, by rw [f1]; exact e4⟩
    have e1 : ja_x true (dd + 2) 163 [jr 93, ji ((D.length + 1 : Nat) : Int), ji 0] N = some (none, N') := e1
    rw [show dd + 2 + 1 + 0 = dd + 2 + 1 from rfl, f_Finds_fill, f_Hunt_bands_11, hC.2.1, jz_bI, if_pos (by omega), f_Hunt_places_11, hC.1, jz_bI, if_neg (by omega), ja_w_id (by omega) (by omega), show ((D.length : Int) + 1) = ((D.length + 1 : Nat) : Int) from rfl, e1, jz_bV]
  | k + 1, pre, hok, hl => by
    intro N c hc hC h6 hI
    obtain ⟨N', e1, e2, e3, e4⟩ := fl_loop (dd + 1 + k) (m := m) hP5 hB5 hok (by omega) (by omega) (fun p hp h2 => by
      rw [show dd + 1 + k + 2 = dd + 2 + 1 + k by omega]
      exact js_fillR dd hP5 hB5 hm hD ih k (pre ++ [p]) h2 (by rw [List.length_append]; show pre.length + 1 + k = P; omega)) P 0 N c (by omega) (by omega) hC h6 hI
    refine ⟨N', ?_, e2, e3, ?_⟩
    · have o1 := hC.2.2.2.2.2.2 D.length pre.length (by omega) (by omega)
      have o2 := hI.2.1 D.length (by omega)
      have o3 := hI.2.2.1 pre.length (by omega)
      rw [show dd + 2 + 1 + (k + 1) = (dd + 1 + k + 2) + 1 by omega, f_Finds_fill, f_Hunt_bands_11, hC.2.1, jz_bI, if_pos (by omega), f_Hunt_places_11, hC.1, jz_bI, if_pos (by omega), if_pos (by omega), show ((D.length : Int)).toNat = D.length from rfl, show 102 + 1 + D.length = 103 + D.length by omega, jz_ald (n := 5) (jk_op5 D.length (by omega)) (by omega) (by omega) (by omega) (by omega), if_pos (by omega), if_pos (by omega), show ((pre.length : Int)).toNat = pre.length from rfl, o1, o2, o3, jx_less (Nat.lt_of_lt_of_le (jv_set_64 _ (by omega)) (by decide)) (Nat.lt_of_lt_of_le (jv_set_64 _ (by omega)) (by decide)), jv_set_diff (by omega), jx_less (Nat.lt_of_lt_of_le (jv_set_64 _ (by omega)) (by decide)) (Nat.lt_of_lt_of_le (jv_set_64 _ (by omega)) (by decide)), jv_set_diff (by omega)]
      exact e1
    · rw [fl_s (by omega), List.range_eq_range']
      exact e4
theorem js_fillA (dd : Nat) {P B f most : Nat} {op : Nat → Nat → Nat → Bool} (hP5 : P ≤ 5) (hB5 : B ≤ 5) (hm : most ≤ 1000) : ∀ (m : Nat) (D : List (List Nat)), D.length + m = B → fOk P B f op D [] → tS (dd + 2 + m * (P + 1)) P B f most op D [] (jv_tabs P f (fitO op P) m D)
  | 0, D, hD, _ => by
    rw [Nat.zero_mul]
    exact js_fillK dd hP5 hB5 hm hD
  | m + 1, D, hD, hok => by
    have := js_fillR (dd + m * (P + 1)) (f := f) (op := op) hP5 hB5 hm hD (fun pre h => by
      rw [show dd + m * (P + 1) + 2 = dd + 2 + m * (P + 1) by omega]
      exact js_fillA dd hP5 hB5 hm m (pre :: D) (by rw [List.length_cons]; omega) h) P [] hok (Nat.zero_add P)
    rw [fl_nil] at this
    rw [show dd + 2 + (m + 1) * (P + 1) = dd + m * (P + 1) + 2 + 1 + P by rw [Nat.succ_mul]; omega]
    exact this
theorem gcnt_none {P : Nat} {g : Nat → Nat → Option Nat} (h : ∀ x t, g x t = none) (x y : Nat) : gcnt P g x y = 0 := jv_cnt_none _ (fun u _ => by
  rw [h y u]
  rfl)
theorem Gd_none (x t : Nat) : Gd [] [] x t = none := by
  cases x with
  | zero => rfl
  | succ x => rfl
theorem fOk_0 (P B f : Nat) (op : Nat → Nat → Nat → Bool) : fOk P B f op [] [] := ⟨(fun d hd => by cases hd), ⟨List.nodup_nil, (fun q hq => by cases hq), Nat.zero_le _⟩, (fun t ht => by cases ht), (fun x y t p _ _ e => by
  rw [Gd_none] at e
  cases e), fun x y _ _ => by
  rw [gcnt_none Gd_none]
  omega⟩
/-- fill (0, 0) -/
theorem js_fill0 (dd : Nat) {P B f most : Nat} {op : Nat → Nat → Nat → Bool} {N : ja_M} (hP5 : P ≤ 5) (hB5 : B ≤ 5) (hm : most ≤ 1000) (h1 : 0 < most) (hC : tC P B f most op N) (h6 : N 93 6 = 0) (hI : fI P B N (fun _ => 0) (fun _ _ => none)) : ∃ N', ja_x true (dd + 2 + B * (P + 1)) 163 [jr 93, ji 0, ji 0] N = some (none, N') ∧ tF N N' ∧ fI P B N' (fun _ => 0) (fun _ _ => none) ∧ fW most 0 (sols P f op B) N N' := by
  have e1 : rh [] [] = fun _ => (0 : Int) := by
    funext x
    cases x with
    | zero => rfl
    | succ x => rfl
  have e2 : Gd [] [] = fun _ _ => none := by
    funext x t
    exact Gd_none x t
  have := js_fillA dd (f := f) (op := op) hP5 hB5 hm B [] (Nat.zero_add B) (fOk_0 P B f op) N 0 h1 hC h6
  rw [e1, e2] at this
  exact this hI
