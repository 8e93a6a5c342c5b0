/-! tables: all of them, as lists -/
theorem jv_ords_iff {n : Nat} : ∀ (m : Nat) (left : Nat → Bool) (o : List Nat), o ∈ jv_ords n m left ↔ o.length = m ∧ o.Nodup ∧ ∀ p ∈ o, p < n ∧ left p = true
  | 0, left, o => by
    constructor
    · intro h
      have : o = [] := List.mem_singleton.mp h
      subst this
      exact ⟨rfl, List.nodup_nil, fun p hp => by cases hp⟩
    · rintro ⟨h, -, -⟩
      rw [List.length_eq_zero_iff.mp h]
      exact List.mem_singleton.mpr rfl
  | m + 1, left, o => by
    rw [jv_ords_s, List.mem_flatMap]
    constructor
    · rintro ⟨p, hp, ho⟩
      unfold jv_g at ho
      by_cases l : left p = true
      · rw [if_pos l] at ho
        obtain ⟨o', ho', rfl⟩ := List.mem_map.mp ho
        obtain ⟨h1, h2, h3⟩ := (jv_ords_iff m _ o').mp ho'
        refine ⟨by rw [List.length_cons, h1], ?_, fun q hq => ?_⟩
        · rw [List.nodup_cons]
          refine ⟨fun z => ?_, h2⟩
          have := (h3 p z).2
          rw [Bool.and_eq_true] at this
          have := this.2
          rw [beq_self_eq_true] at this
          cases this
        · rcases List.mem_cons.mp hq with rfl | hq
          · exact ⟨List.mem_range.mp hp, l⟩
          · have := h3 q hq
            rw [Bool.and_eq_true] at this
            exact ⟨this.1, this.2.1⟩
      · rw [if_neg l] at ho
        cases ho
    · rintro ⟨h1, h2, h3⟩
      cases o with
      | nil => cases h1
      | cons p o' =>
        rw [List.nodup_cons] at h2
        have hp := h3 p (List.mem_cons_self ..)
        refine ⟨p, List.mem_range.mpr hp.1, ?_⟩
        unfold jv_g
        rw [if_pos hp.2]
        refine List.mem_map.mpr ⟨o', (jv_ords_iff m _ o').mpr ⟨by rw [List.length_cons] at h1; omega, h2.2, fun q hq => ?_⟩, rfl⟩
        have := h3 q (List.mem_cons_of_mem _ hq)
        refine ⟨this.1, ?_⟩
        rw [Bool.and_eq_true]
        refine ⟨this.2, ?_⟩
        have : q ≠ p := fun e => h2.1 (e ▸ hq)
        simp [this]
theorem jv_all_iff {n : Nat} {o : List Nat} : o ∈ jv_all n ↔ o.length = n ∧ o.Nodup ∧ ∀ p ∈ o, p < n := by
  unfold jv_all
  rw [jv_ords_iff]
  exact ⟨fun ⟨h1, h2, h3⟩ => ⟨h1, h2, fun p hp => (h3 p hp).1⟩, fun ⟨h1, h2, h3⟩ => ⟨h1, h2, fun p hp => ⟨h3 p hp, rfl⟩⟩⟩
theorem jv_nth_in {o : List Nat} {t : Nat} (h : t < o.length) : jv_nth o t ∈ o := by
  unfold jv_nth
  rw [List.getD_eq_getElem?_getD, List.getElem?_eq_getElem h]
  exact List.getElem_mem h
theorem jv_nth_inj {o : List Nat} (h : o.Nodup) {t u : Nat} (ht : t < o.length) (hu : u < o.length) (e : jv_nth o t = jv_nth o u) : t = u := by
  unfold jv_nth at e
  rw [List.getD_eq_getElem?_getD, List.getD_eq_getElem?_getD, List.getElem?_eq_getElem ht, List.getElem?_eq_getElem hu] at e
  have h' := List.pairwise_iff_getElem.mp h
  rcases Nat.lt_trichotomy t u with q | q | q
  · exact absurd e (h' t u ht hu q)
  · exact q
  · exact absurd e.symm (h' u t hu ht q)
theorem jv_tabs_mem {n f : Nat} {fit : Nat → List Nat → Bool} : ∀ (m : Nat) (done tb : List (List Nat)), tb ∈ jv_tabs n f fit m done ↔ ∃ ext : List (List Nat), ext.length = m ∧ tb = done.reverse ++ ext ∧ ∀ i o, ext[i]? = some o → o ∈ jv_all n ∧ fit (done.length + i) o = true ∧ (∀ d ∈ done, jv_with n f o d = true) ∧ ∀ j o', j < i → ext[j]? = some o' → jv_with n f o o' = true
  | 0, done, tb => by
    constructor
    · intro h
      have : tb = done.reverse := List.mem_singleton.mp h
      exact ⟨[], rfl, by rw [this, List.append_nil], fun i o h => by cases h⟩
    · rintro ⟨ext, h1, h2, -⟩
      rw [List.length_eq_zero_iff.mp h1, List.append_nil] at h2
      exact List.mem_singleton.mpr h2
  | m + 1, done, tb => by
    rw [jv_tabs_s, List.mem_flatMap]
    constructor
    · rintro ⟨o, ho, h⟩
      by_cases c : (fit done.length o && done.all (fun d => jv_with n f o d)) = true
      · rw [if_pos c] at h
        rw [Bool.and_eq_true, List.all_eq_true] at c
        obtain ⟨ext, e1, e2, e3⟩ := (jv_tabs_mem m (o :: done) tb).mp h
        refine ⟨o :: ext, by rw [List.length_cons, e1], by rw [e2, List.reverse_cons, List.append_assoc]; rfl, fun i x hx => ?_⟩
        cases i with
        | zero =>
          have hx : some o = some x := hx
          cases hx
          exact ⟨ho, c.1, c.2, fun j o' hj => by omega⟩
        | succ i =>
          have hx : ext[i]? = some x := hx
          obtain ⟨x1, x2, x3, x4⟩ := e3 i x hx
          refine ⟨x1, by rw [List.length_cons] at x2; rw [show done.length + (i + 1) = done.length + 1 + i by omega]; exact x2, fun d hd => x3 d (List.mem_cons_of_mem _ hd), fun j o' hj hjo => ?_⟩
          cases j with
          | zero =>
            have hjo : some o = some o' := hjo
            cases hjo
            exact x3 o (List.mem_cons_self ..)
          | succ j => exact x4 j o' (by omega) hjo
      · rw [if_neg c] at h
        cases h
    · rintro ⟨ext, e1, e2, e3⟩
      cases ext with
      | nil => cases e1
      | cons o ext =>
        obtain ⟨x1, x2, x3, x4⟩ := e3 0 o rfl
        refine ⟨o, x1, ?_⟩
        have c : (fit done.length o && done.all (fun d => jv_with n f o d)) = true := by
          rw [Bool.and_eq_true, List.all_eq_true]
          exact ⟨x2, x3⟩
        rw [if_pos c]
        refine (jv_tabs_mem m (o :: done) tb).mpr ⟨ext, by rw [List.length_cons] at e1; omega, by rw [e2, List.reverse_cons, List.append_assoc]; rfl, fun i x hx => ?_⟩
        obtain ⟨y1, y2, y3, y4⟩ := e3 (i + 1) x hx
        refine ⟨y1, by rw [List.length_cons, show done.length + 1 + i = done.length + (i + 1) by omega]; exact y2, fun d hd => ?_, fun j o' hj hjo => y4 (j + 1) o' (by omega) hjo⟩
        rcases List.mem_cons.mp hd with rfl | hd
        · exact y4 0 d (by omega) rfl
        · exact y3 d hd
def tb_fits (fit : Nat → List Nat → Bool) (tb : List (List Nat)) (k m : Nat) : Bool := (List.range m).all (fun i => fit (k + i) (tb.getD (k + i) []))
theorem tb_fits_s (fit : Nat → List Nat → Bool) (tb : List (List Nat)) (k m : Nat) : tb_fits fit tb k (m + 1) = (fit k (tb.getD k []) && tb_fits fit tb (k + 1) m) := by
  rw [Bool.eq_iff_iff, Bool.and_eq_true]
  unfold tb_fits
  rw [List.all_eq_true, List.all_eq_true]
  constructor
  · intro h
    refine ⟨h 0 (List.mem_range.mpr (by omega)), fun i hi => ?_⟩
    have := h (i + 1) (List.mem_range.mpr (by have := List.mem_range.mp hi; omega))
    rw [show k + (i + 1) = k + 1 + i by omega] at this
    exact this
  · rintro ⟨h1, h2⟩ i hi
    cases i with
    | zero => exact h1
    | succ i =>
      have := h2 i (List.mem_range.mpr (by have := List.mem_range.mp hi; omega))
      rw [show k + 1 + i = k + (i + 1) by omega] at this
      exact this
theorem jv_tabs_filter {n f : Nat} {fit : Nat → List Nat → Bool} : ∀ (m : Nat) (done : List (List Nat)), jv_tabs n f fit m done = (jv_tabs n f (fun _ _ => true) m done).filter (fun tb => tb_fits fit tb done.length m)
  | 0, done => by
    show [done.reverse] = List.filter _ [done.reverse]
    rfl
  | m + 1, done => by
    rw [jv_tabs_s, jv_tabs_s, List.filter_flatMap]
    congr 1
    funext o
    by_cases c : done.all (fun d => jv_with n f o d) = true
    · rw [c, Bool.and_true, Bool.and_true, if_pos rfl]
      have key : (jv_tabs n f (fun _ _ => true) m (o :: done)).filter (fun tb => tb_fits fit tb done.length (m + 1)) = (jv_tabs n f (fun _ _ => true) m (o :: done)).filter (fun tb => fit done.length o && tb_fits fit tb (done.length + 1) m) := by
        refine List.filter_congr (fun tb htb => ?_)
        obtain ⟨ext, -, e2, -⟩ := (jv_tabs_mem m (o :: done) tb).mp htb
        rw [tb_fits_s]
        have : tb.getD done.length [] = o := by
          rw [e2, List.reverse_cons, List.append_assoc, List.getD_eq_getElem?_getD, List.getElem?_append_right (by rw [List.length_reverse]; omega), List.length_reverse, Nat.sub_self]
          rfl
        rw [this]
      rw [key]
      by_cases q : fit done.length o = true
      · rw [if_pos q, jv_tabs_filter m (o :: done), List.length_cons]
        refine List.filter_congr (fun tb _ => ?_)
        rw [q, Bool.true_and]
      · have qf : fit done.length o = false := Bool.eq_false_iff.mpr q
        rw [if_neg q]
        symm
        rw [List.filter_eq_nil_iff]
        intro tb _
        rw [qf, Bool.false_and]
        decide
    · have cf : done.all (fun d => jv_with n f o d) = false := Bool.eq_false_iff.mpr c
      rw [cf, Bool.and_false, Bool.and_false]
      rfl
def fitO (op : Nat → Nat → Nat → Bool) (P b : Nat) (o : List Nat) : Bool := (List.range P).all (fun t => op b t (jv_nth o t))
theorem fitO_iff {op : Nat → Nat → Nat → Bool} {P b : Nat} {o : List Nat} : fitO op P b o = true ↔ ∀ t, t < P → op b t (jv_nth o t) = true := by
  unfold fitO
  rw [List.all_eq_true]
  exact ⟨fun h t ht => h t (List.mem_range.mpr ht), fun h t ht => h t (List.mem_range.mp ht)⟩
abbrev sols (P f : Nat) (op : Nat → Nat → Nat → Bool) (B : Nat) : List (List (List Nat)) := jv_tabs P f (fitO op P) B []
/-- a table that fits -/
def tbOk (P B : Nat) (op : Nat → Nat → Nat → Bool) (tb : List (List Nat)) : Prop := ∀ b t, b < B → t < P → op b t (jv_nth (tb.getD b []) t) = true
theorem tb_fits_iff {op : Nat → Nat → Nat → Bool} {P B : Nat} {tb : List (List Nat)} : tb_fits (fitO op P) tb 0 B = true ↔ tbOk P B op tb := by
  unfold tb_fits
  rw [List.all_eq_true]
  constructor
  · intro h b t hb ht
    have := h b (List.mem_range.mpr hb)
    rw [Nat.zero_add] at this
    exact fitO_iff.mp this t ht
  · intro h b hb
    rw [Nat.zero_add]
    exact fitO_iff.mpr (fun t ht => h b t (List.mem_range.mp hb) ht)
theorem sols_eq {P f B : Nat} {op op' : Nat → Nat → Nat → Bool} (h : ∀ tb ∈ jv_tabs P f (fun _ _ => true) B [], tbOk P B op tb ↔ tbOk P B op' tb) : sols P f op B = sols P f op' B := by
  show jv_tabs P f (fitO op P) B [] = jv_tabs P f (fitO op' P) B []
  rw [jv_tabs_filter, jv_tabs_filter (fit := fitO op' P)]
  refine List.filter_congr (fun tb htb => ?_)
  rw [Bool.eq_iff_iff]
  show tb_fits (fitO op P) tb 0 B = true ↔ tb_fits (fitO op' P) tb 0 B = true
  rw [tb_fits_iff, tb_fits_iff]
  exact h tb htb
/-- what all lawful tables are like -/
theorem tabs_row {P f B : Nat} {fit : Nat → List Nat → Bool} {tb : List (List Nat)} (h : tb ∈ jv_tabs P f fit B []) : tb.length = B ∧ (∀ b, b < B → tb.getD b [] ∈ jv_all P ∧ fit b (tb.getD b []) = true) ∧ ∀ b b', b < B → b' < b → jv_with P f (tb.getD b []) (tb.getD b' []) = true := by
  obtain ⟨ext, e1, e2, e3⟩ := (jv_tabs_mem B [] tb).mp h
  have e2 : tb = ext := e2
  subst e2
  have g : ∀ b, b < B → tb[b]? = some (tb.getD b []) := fun b hb => by
    rw [List.getD_eq_getElem?_getD, List.getElem?_eq_getElem (by omega)]
    rfl
  refine ⟨e1, fun b hb => ?_, fun b b' hb hb' => ?_⟩
  · obtain ⟨x1, x2, -⟩ := e3 b _ (g b hb)
    rw [show ([] : List (List Nat)).length + b = b from Nat.zero_add b] at x2
    exact ⟨x1, x2⟩
  · exact (e3 b _ (g b hb)).2.2.2 b' _ hb' (g b' (by omega))
