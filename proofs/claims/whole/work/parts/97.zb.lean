/-! tables: those behind a part of one -/
theorem jv_cnt_mono {p q : Nat → Bool} : ∀ n, (∀ k, k < n → p k = true → q k = true) → jv_cnt p n ≤ jv_cnt q n
  | 0, _ => Int.le_refl _
  | n + 1, h => by
    have ih := jv_cnt_mono n (fun k hk => h k (by omega))
    rw [jv_cnt_sum, jv_cnt_sum] at ih ⊢
    show jv_sum _ n + (if p n = true then (1 : Int) else 0) ≤ jv_sum _ n + (if q n = true then (1 : Int) else 0)
    by_cases c : p n = true
    · rw [if_pos c, if_pos (h n (by omega) c)]
      omega
    · rw [if_neg c]
      by_cases c2 : q n = true
      · rw [if_pos c2]
        omega
      · rw [if_neg c2]
        omega
def Gd (D : List (List Nat)) (pre : List Nat) (x t : Nat) : Option Nat := if x < D.length then (D.reverse.getD x [])[t]? else if x = D.length then pre[t]? else none
def rh (D : List (List Nat)) (pre : List Nat) (x : Nat) : Int := if x < D.length then jv_num (D.reverse.getD x []) else if x = D.length then jv_num pre else 0
theorem Gd_at {D : List (List Nat)} {pre : List Nat} {t : Nat} : Gd D pre D.length t = pre[t]? := by
  unfold Gd
  rw [if_neg (Nat.lt_irrefl _), if_pos rfl]
theorem Gd_lt {D : List (List Nat)} {pre : List Nat} {x t : Nat} (h : x < D.length) : Gd D pre x t = (D.reverse.getD x [])[t]? := if_pos h
theorem Gd_gt {D : List (List Nat)} {pre : List Nat} {x t : Nat} (h : D.length < x) : Gd D pre x t = none := by
  unfold Gd
  rw [if_neg (by omega), if_neg (by omega)]
theorem rh_at {D : List (List Nat)} {pre : List Nat} : rh D pre D.length = jv_num pre := by
  unfold rh
  rw [if_neg (Nat.lt_irrefl _), if_pos rfl]
theorem rev_lt {D : List (List Nat)} {o : List Nat} {x : Nat} (h : x < D.length) : (o :: D).reverse.getD x [] = D.reverse.getD x [] := by
  rw [List.reverse_cons, List.getD_eq_getElem?_getD, List.getD_eq_getElem?_getD, List.getElem?_append_left (by rw [List.length_reverse]; exact h)]
theorem rev_at {D : List (List Nat)} {o : List Nat} : (o :: D).reverse.getD D.length [] = o := by
  rw [List.reverse_cons, List.getD_eq_getElem?_getD, List.getElem?_append_right (by rw [List.length_reverse]; exact Nat.le_refl _), List.length_reverse, Nat.sub_self]
  rfl
theorem rev_in {D : List (List Nat)} {x : Nat} (h : x < D.length) : D.reverse.getD x [] ∈ D := by
  rw [List.getD_eq_getElem?_getD, List.getElem?_eq_getElem (by rw [List.length_reverse]; exact h)]
  exact List.mem_reverse.mp (List.getElem_mem _)
theorem rev_of {D : List (List Nat)} {d : List Nat} (h : d ∈ D) : ∃ x, x < D.length ∧ D.reverse.getD x [] = d := by
  obtain ⟨x, hx, e⟩ := List.getElem_of_mem (List.mem_reverse.mpr h)
  rw [List.length_reverse] at hx
  refine ⟨x, hx, ?_⟩
  rw [List.getD_eq_getElem?_getD, List.getElem?_eq_getElem (by rw [List.length_reverse]; exact hx)]
  exact e
theorem Gd_cons (D : List (List Nat)) (pre : List Nat) : Gd (pre :: D) [] = Gd D pre := by
  funext x t
  rcases Nat.lt_trichotomy x D.length with h | h | h
  · rw [Gd_lt h, Gd_lt (by rw [List.length_cons]; omega), rev_lt h]
  · subst h
    rw [Gd_at, Gd_lt (by rw [List.length_cons]; omega), rev_at]
  · rw [Gd_gt h]
    by_cases z : x = (pre :: D).length
    · rw [z, Gd_at]
      rfl
    · rw [Gd_gt (by rw [List.length_cons] at z ⊢; omega)]
theorem rh_cons (D : List (List Nat)) (pre : List Nat) : rh (pre :: D) [] = rh D pre := by
  funext x
  unfold rh
  rw [List.length_cons]
  rcases Nat.lt_trichotomy x D.length with h | h | h
  · rw [if_pos (by omega), if_pos h, rev_lt h]
  · subst h
    rw [if_pos (by omega), if_neg (Nat.lt_irrefl _), if_pos rfl, rev_at]
  · rw [if_neg (c := x < D.length + 1) (by omega), if_neg (c := x < D.length) (by omega), if_neg (c := x = D.length) (by omega)]
    by_cases z : x = D.length + 1
    · rw [if_pos z]
      rfl
    · rw [if_neg z]
theorem Gd_snoc (D : List (List Nat)) (pre : List Nat) (p : Nat) : gup (Gd D pre) D.length pre.length (some p) = Gd D (pre ++ [p]) := by
  funext x t
  by_cases z : x = D.length
  · subst z
    rw [Gd_at]
    rcases Nat.lt_trichotomy t pre.length with h | h | h
    · rw [show gup (Gd D pre) D.length pre.length (some p) D.length t = Gd D pre D.length t from if_neg (fun q => by omega), Gd_at, List.getElem?_append_left h]
    · rw [show gup (Gd D pre) D.length pre.length (some p) D.length t = some p from if_pos ⟨rfl, h⟩, h, List.getElem?_append_right (Nat.le_refl _), Nat.sub_self]
      rfl
    · rw [show gup (Gd D pre) D.length pre.length (some p) D.length t = Gd D pre D.length t from if_neg (fun q => by omega), Gd_at, List.getElem?_eq_none (by omega), List.getElem?_eq_none (by rw [List.length_append]; show pre.length + 1 ≤ t; omega)]
  · rw [show gup (Gd D pre) D.length pre.length (some p) x t = Gd D pre x t from if_neg (fun q => z q.1)]
    unfold Gd
    rw [if_neg z, if_neg z]
theorem rh_snoc (D : List (List Nat)) (pre : List Nat) (p : Nat) : rup (rh D pre) D.length (rh D pre D.length * 10 + (p : Int)) = rh D (pre ++ [p]) := by
  funext x
  show (if x = D.length then _ else rh D pre x) = _
  by_cases z : x = D.length
  · rw [if_pos z, z, rh_at, rh_at, jv_num_s]
  · rw [if_neg z]
    unfold rh
    rw [if_neg z, if_neg z]
theorem rh_back (D : List (List Nat)) (pre pre' : List Nat) : rup (rh D pre') D.length (rh D pre D.length) = rh D pre := by
  funext x
  show (if x = D.length then _ else rh D pre' x) = _
  by_cases z : x = D.length
  · rw [if_pos z, z]
  · rw [if_neg z]
    unfold rh
    rw [if_neg z, if_neg z]
def flc (P f : Nat) (op : Nat → Nat → Nat → Bool) (D : List (List Nat)) (m : Nat) (o : List Nat) : List (List (List Nat)) := if fitO op P D.length o && D.all (fun d => jv_with P f o d) then jv_tabs P f (fitO op P) m (o :: D) else []
def fl (P f : Nat) (op : Nat → Nat → Nat → Bool) (D : List (List Nat)) (pre : List Nat) (m : Nat) : List (List (List Nat)) := (jv_ords P (P - pre.length) (fun q => !(pre.contains q))).flatMap (fun o => flc P f op D m (pre ++ o))
theorem fl_nil (P f : Nat) (op : Nat → Nat → Nat → Bool) (D : List (List Nat)) (m : Nat) : fl P f op D [] m = jv_tabs P f (fitO op P) (m + 1) D := rfl
theorem fl_s {P f : Nat} {op : Nat → Nat → Nat → Bool} {D : List (List Nat)} {pre : List Nat} {m : Nat} (h : pre.length < P) : fl P f op D pre m = (List.range P).flatMap (fun p => if pre.contains p = true then [] else fl P f op D (pre ++ [p]) m) := by
  obtain ⟨k, hk⟩ : ∃ k, P - pre.length = k + 1 := ⟨P - pre.length - 1, by omega⟩
  unfold fl
  rw [hk, jv_ords_s, List.flatMap_assoc]
  congr 1
  funext p
  unfold jv_g
  by_cases c : pre.contains p = true
  · rw [if_pos c, if_neg (by show ¬ (!(pre.contains p)) = true; rw [c]; decide)]
    rfl
  · have cf : pre.contains p = false := Bool.eq_false_iff.mpr c
    rw [if_neg c, if_pos (by show (!(pre.contains p)) = true; rw [cf]; rfl), List.flatMap_map]
    have e1 : P - (pre ++ [p]).length = k := by
      rw [List.length_append]
      show P - (pre.length + 1) = k
      omega
    have e2 : jv_rest (fun q => !(pre.contains q)) p = fun q => !((pre ++ [p]).contains q) := by
      funext q
      unfold jv_rest
      simp [Bool.not_or]
      by_cases z : q = p
      · simp [z]
      · simp [z, (beq_eq_false_iff_ne.mpr z : (q == p) = false)]
    rw [e1, e2]
    congr 1
    funext o
    rw [List.append_assoc]
    rfl
theorem fl_full {P f : Nat} {op : Nat → Nat → Nat → Bool} {D : List (List Nat)} {pre : List Nat} {m : Nat} (h : pre.length = P) : fl P f op D pre m = flc P f op D m pre := by
  unfold fl
  rw [h, Nat.sub_self]
  show flc P f op D m (pre ++ []) ++ [] = _
  rw [List.append_nil, List.append_nil]
theorem nth_of {o : List Nat} {t v : Nat} (h : o[t]? = some v) : jv_nth o t = v := by
  unfold jv_nth
  rw [List.getD_eq_getElem?_getD, h]
  rfl
theorem of_nth {o : List Nat} {t : Nat} (h : t < o.length) : o[t]? = some (jv_nth o t) := by
  unfold jv_nth
  rw [List.getD_eq_getElem?_getD, List.getElem?_eq_getElem h]
  rfl
theorem app_of {o o' : List Nat} {t v : Nat} (h : o[t]? = some v) : (o ++ o')[t]? = some v := by
  obtain ⟨q, -⟩ := List.getElem?_eq_some_iff.mp h
  rw [List.getElem?_append_left q]
  exact h
theorem cnt_le1 {P x : Nat} {D : List (List Nat)} {pre : List Nat} (o' : List Nat) (hx : x < D.length) : gcnt P (Gd D pre) D.length x ≤ ((jv_folO P (pre ++ o') (D.reverse.getD x []) : Nat) : Int) := by
  unfold jv_folO gcnt
  rw [jc_cp]
  refine jv_cnt_mono _ (fun u hu h => ?_)
  rw [Bool.and_eq_true, beq_iff_eq, Gd_at, Gd_lt hx] at h
  obtain ⟨v, hv⟩ := Option.isSome_iff_exists.mp h.1
  rw [beq_iff_eq, nth_of hv, nth_of (app_of (h.2.trans hv))]
theorem cnt_le2 {P x : Nat} {D : List (List Nat)} {pre : List Nat} (o' : List Nat) (hx : x < D.length) : gcnt P (Gd D pre) x D.length ≤ ((jv_folO P (D.reverse.getD x []) (pre ++ o') : Nat) : Int) := by
  unfold jv_folO gcnt
  rw [jc_cp]
  refine jv_cnt_mono _ (fun u hu h => ?_)
  rw [Bool.and_eq_true, beq_iff_eq, Gd_at, Gd_lt hx] at h
  obtain ⟨v, hv⟩ := Option.isSome_iff_exists.mp h.1
  rw [beq_iff_eq, nth_of (h.2.trans hv), nth_of (app_of hv)]
theorem cnt_ge1 {P x : Nat} {D : List (List Nat)} {pre : List Nat} (hx : x < D.length) (hl : pre.length = P) (hd : (D.reverse.getD x []).length = P) : ((jv_folO P pre (D.reverse.getD x []) : Nat) : Int) ≤ gcnt P (Gd D pre) D.length x := by
  unfold jv_folO gcnt
  rw [jc_cp]
  refine jv_cnt_mono _ (fun u hu h => ?_)
  rw [beq_iff_eq] at h
  rw [Gd_at, Gd_lt hx, of_nth (o := pre) (t := u + 1) (by omega), of_nth (o := D.reverse.getD x []) (t := u) (by omega), h]
  simp
theorem cnt_ge2 {P x : Nat} {D : List (List Nat)} {pre : List Nat} (hx : x < D.length) (hl : pre.length = P) (hd : (D.reverse.getD x []).length = P) : ((jv_folO P (D.reverse.getD x []) pre : Nat) : Int) ≤ gcnt P (Gd D pre) x D.length := by
  unfold jv_folO gcnt
  rw [jc_cp]
  refine jv_cnt_mono _ (fun u hu h => ?_)
  rw [beq_iff_eq] at h
  rw [Gd_at, Gd_lt hx, of_nth (o := pre) (t := u) (by omega), of_nth (o := D.reverse.getD x []) (t := u + 1) (by omega), h]
  simp
theorem with_iff {P f : Nat} {a b : List Nat} : jv_with P f a b = true ↔ (∀ t, t < P → jv_nth a t ≠ jv_nth b t) ∧ jv_folO P a b ≤ f ∧ jv_folO P b a ≤ f := by
  unfold jv_with jv_metO
  rw [Bool.and_eq_true, Bool.and_eq_true, decide_eq_true_iff, decide_eq_true_iff, Bool.not_eq_true', List.any_eq_false]
  constructor
  · rintro ⟨h1, h2⟩
    exact ⟨fun t ht e => h1 t (List.mem_range.mpr ht) (beq_iff_eq.mpr e), h2⟩
  · rintro ⟨h1, h2⟩
    exact ⟨fun t ht e => h1 t (List.mem_range.mp ht) (beq_iff_eq.mp e), h2⟩
def fOk (P B f : Nat) (op : Nat → Nat → Nat → Bool) (D : List (List Nat)) (pre : List Nat) : Prop := (∀ d ∈ D, d ∈ jv_all P) ∧ (pre.Nodup ∧ (∀ q ∈ pre, q < P) ∧ pre.length ≤ P) ∧ (∀ t, t < pre.length → op D.length t (jv_nth pre t) = true) ∧ gU B (Gd D pre) ∧ ∀ x y, x < B → y < B → gcnt P (Gd D pre) x y ≤ (f : Int)
theorem fl_no {P B f m p : Nat} {op : Nat → Nat → Nat → Bool} {D : List (List Nat)} {pre : List Nat} (ht : pre.length < P) (h : op D.length pre.length p = false ∨ (∃ x, x < D.length ∧ Gd D pre x pre.length = some p) ∨ (∃ y, y < D.length ∧ (f : Int) < gcnt P (Gd D (pre ++ [p])) D.length y) ∨ (∃ x, x < D.length ∧ (f : Int) < gcnt P (Gd D (pre ++ [p])) x D.length)) : fl P f op D (pre ++ [p]) m = [] := by
  unfold fl
  rw [List.flatMap_eq_nil_iff]
  intro o _
  unfold flc
  rw [if_neg]
  intro c
  rw [Bool.and_eq_true, List.all_eq_true] at c
  have np : jv_nth ((pre ++ [p]) ++ o) pre.length = p := nth_of (app_of (by
    rw [List.getElem?_append_right (Nat.le_refl _), Nat.sub_self]
    rfl))
  rcases h with h | ⟨x, hx, h⟩ | ⟨x, hx, h⟩ | ⟨x, hx, h⟩
  · have := fitO_iff.mp c.1 pre.length ht
    rw [np, h] at this
    cases this
  · rw [Gd_lt hx] at h
    exact (with_iff.mp (c.2 _ (rev_in hx))).1 pre.length ht (np.trans (nth_of h).symm)
  · have h1 := cnt_le1 (P := P) (pre := pre ++ [p]) o hx
    have h2 := (with_iff.mp (c.2 _ (rev_in hx))).2.1
    omega
  · have h1 := cnt_le2 (P := P) (pre := pre ++ [p]) o hx
    have h2 := (with_iff.mp (c.2 _ (rev_in hx))).2.2
    omega
theorem fOk.full {P B f : Nat} {op : Nat → Nat → Nat → Bool} {D : List (List Nat)} {pre : List Nat} (h : fOk P B f op D pre) (hb : D.length < B) (hl : pre.length = P) (m : Nat) : fl P f op D pre m = jv_tabs P f (fitO op P) m (pre :: D) ∧ fOk P B f op (pre :: D) [] := by
  obtain ⟨h1, h2, h3, h4, h5⟩ := h
  constructor
  · rw [fl_full hl]
    unfold flc
    rw [if_pos]
    rw [Bool.and_eq_true, List.all_eq_true]
    refine ⟨fitO_iff.mpr (fun t ht => h3 t (by omega)), fun d hd => ?_⟩
    obtain ⟨x, hx, rfl⟩ := rev_of hd
    have ld := (jv_all_iff.mp (h1 _ hd)).1
    refine with_iff.mpr ⟨fun t ht e => ?_, ?_, ?_⟩
    · have g1 : Gd D pre D.length t = some (jv_nth pre t) := Gd_at.trans (of_nth (by omega))
      have g2 : Gd D pre x t = some (jv_nth pre t) := (Gd_lt hx).trans ((of_nth (by omega)).trans (by rw [e]))
      have := h4 _ _ _ _ hb (by omega) g1 g2
      omega
    · have := cnt_ge1 (P := P) (pre := pre) hx hl ld
      have := h5 D.length x hb (by omega)
      omega
    · have := cnt_ge2 (P := P) (pre := pre) hx hl ld
      have := h5 x D.length (by omega) hb
      omega
  · refine ⟨fun d hd => ?_, ⟨List.nodup_nil, (fun q hq => by cases hq), Nat.zero_le _⟩, (fun t ht => by cases ht), ?_, ?_⟩
    · rcases List.mem_cons.mp hd with rfl | hd
      · exact jv_all_iff.mpr ⟨hl, h2.1, h2.2.1⟩
      · exact h1 d hd
    · rw [Gd_cons]
      exact h4
    · rw [Gd_cons]
      exact h5
theorem fOk.s {P B f p : Nat} {op : Nat → Nat → Nat → Bool} {D : List (List Nat)} {pre : List Nat} (h : fOk P B f op D pre) (hl : pre.length < P) (hp : p < P) (hn : ¬ p ∈ pre) (ho : op D.length pre.length p = true) (hm : ∀ x, x < B → Gd D pre x pre.length ≠ some p) (hc : ∀ x y, x < B → y < B → gcnt P (Gd D (pre ++ [p])) x y ≤ (f : Int)) : fOk P B f op D (pre ++ [p]) := by
  obtain ⟨h1, h2, h3, h4, h5⟩ := h
  refine ⟨h1, ⟨?_, fun q hq => ?_, by rw [List.length_append]; exact hl⟩, fun t ht => ?_, ?_, hc⟩
  · rw [List.nodup_append]
    refine ⟨h2.1, by simp, fun a ha b hb e => ?_⟩
    rw [List.mem_singleton.mp hb] at e
    exact hn (e ▸ ha)
  · rcases List.mem_append.mp hq with hq | hq
    · exact h2.2.1 q hq
    · rw [List.mem_singleton.mp hq]
      exact hp
  · rw [List.length_append] at ht
    have ht : t < pre.length + 1 := ht
    by_cases z : t = pre.length
    · rw [z, nth_of (o := pre ++ [p]) (t := pre.length) (v := p) (by
        rw [List.getElem?_append_right (Nat.le_refl _), Nat.sub_self]
        rfl)]
      exact ho
    · rw [nth_of (app_of (of_nth (o := pre) (t := t) (by omega)))]
      exact h3 t (by omega)
  · rw [← Gd_snoc]
    intro x y t q hx hy e1 e2
    by_cases zx : x = D.length ∧ t = pre.length
    · by_cases zy : y = D.length ∧ t = pre.length
      · exact zx.1.trans zy.1.symm
      · rw [show gup (Gd D pre) D.length pre.length (some p) x t = some p from if_pos zx] at e1
        rw [show gup (Gd D pre) D.length pre.length (some p) y t = Gd D pre y t from if_neg zy, zx.2] at e2
        cases e1
        exact absurd e2 (hm y hy)
    · rw [show gup (Gd D pre) D.length pre.length (some p) x t = Gd D pre x t from if_neg zx] at e1
      by_cases zy : y = D.length ∧ t = pre.length
      · rw [show gup (Gd D pre) D.length pre.length (some p) y t = some p from if_pos zy] at e2
        rw [zy.2] at e1
        cases e2
        exact absurd e1 (hm x hx)
      · rw [show gup (Gd D pre) D.length pre.length (some p) y t = Gd D pre y t from if_neg zy] at e2
        exact h4 x y t q hx hy e1 e2
