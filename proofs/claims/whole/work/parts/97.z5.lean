/-! tables: places renamed; what must be -/
theorem jv_nth_map {o : List Nat} {π : Nat → Nat} {t : Nat} (h : t < o.length) : jv_nth (o.map π) t = π (jv_nth o t) := by
  unfold jv_nth
  rw [List.getD_eq_getElem?_getD, List.getD_eq_getElem?_getD, List.getElem?_map, List.getElem?_eq_getElem h]
  rfl
theorem jv_with_map {P f : Nat} {π : Nat → Nat} (hπ : ∀ p q, p < P → q < P → π p = π q → p = q) {a b : List Nat} (ha : a ∈ jv_all P) (hb : b ∈ jv_all P) : jv_with P f (a.map π) (b.map π) = jv_with P f a b := by
  obtain ⟨a1, a2, a3⟩ := jv_all_iff.mp ha
  obtain ⟨b1, b2, b3⟩ := jv_all_iff.mp hb
  have key : ∀ (x y : List Nat), x.length = P → y.length = P → (∀ p ∈ x, p < P) → (∀ p ∈ y, p < P) → ∀ t u, t < P → u < P → (jv_nth (x.map π) t == jv_nth (y.map π) u) = (jv_nth x t == jv_nth y u) := fun x y hx hy x3 y3 t u ht hu => by
    rw [jv_nth_map (by omega), jv_nth_map (by omega), Bool.eq_iff_iff, beq_iff_eq, beq_iff_eq]
    exact ⟨fun h => hπ _ _ (x3 _ (jv_nth_in (by omega))) (y3 _ (jv_nth_in (by omega))) h, fun h => by rw [h]⟩
  have met : jv_metO P (a.map π) (b.map π) = jv_metO P a b := by
    rw [Bool.eq_iff_iff]
    unfold jv_metO
    rw [jv_any_iff, jv_any_iff]
    exact ⟨fun ⟨t, h1, h2⟩ => ⟨t, h1, by rw [← key a b a1 b1 a3 b3 t t h1 h1]; exact h2⟩, fun ⟨t, h1, h2⟩ => ⟨t, h1, by rw [key a b a1 b1 a3 b3 t t h1 h1]; exact h2⟩⟩
  have fol : ∀ (x y : List Nat), x.length = P → y.length = P → (∀ p ∈ x, p < P) → (∀ p ∈ y, p < P) → jv_folO P (x.map π) (y.map π) = jv_folO P x y := fun x y hx hy x3 y3 => by
    unfold jv_folO
    refine List.countP_congr (fun t ht => ?_)
    have := List.mem_range.mp ht
    rw [key x y hx hy x3 y3 (t + 1) t (by omega) (by omega)]
  unfold jv_with
  rw [met, fol a b a1 b1 a3 b3, fol b a b1 a1 b3 a3]
theorem tabs_relabel {P f B : Nat} (hB : 1 ≤ B) {tb : List (List Nat)} (h : tb ∈ jv_tabs P f (fun _ _ => true) B []) : ∃ tb', tb' ∈ sols P f (fun b t p => if b = 0 then p == t else true) B := by
  obtain ⟨hl, hr, hw⟩ := tabs_row h
  obtain ⟨o1, o2, o3⟩ := jv_all_iff.mp (hr 0 (by omega)).1
  generalize ho : tb.getD 0 [] = o0 at o1 o2 o3
  have surj : ∀ p, p < P → ∃ t, t < P ∧ jv_nth o0 t = p := fun p hp => by
    have := jc_full o2 o3 o1 hp
    obtain ⟨t, ht⟩ := List.mem_iff_getElem?.mp this
    refine ⟨t, by have := (List.getElem?_eq_some_iff.mp ht).1; omega, ?_⟩
    unfold jv_nth
    rw [List.getD_eq_getElem?_getD, ht]
    rfl
  have hπ : ∀ p, p < P → (jv_fst (fun t => jv_nth o0 t == p) P).getD 0 < P ∧ jv_nth o0 ((jv_fst (fun t => jv_nth o0 t == p) P).getD 0) = p := fun p hp => by
    cases e : jv_fst (fun t => jv_nth o0 t == p) P with
    | none =>
      obtain ⟨t, t1, t2⟩ := surj p hp
      have := jv_fst_none e t1
      rw [t2] at this
      simp at this
    | some k =>
      obtain ⟨k1, k2⟩ := jv_fst_some e
      exact ⟨k1, beq_iff_eq.mp k2⟩
  generalize hπd : (fun p => (jv_fst (fun t => jv_nth o0 t == p) P).getD 0) = π
  have hπ : ∀ p, p < P → π p < P ∧ jv_nth o0 (π p) = p := fun p hp => by
    rw [← hπd]
    exact hπ p hp
  have inj : ∀ p q, p < P → q < P → π p = π q → p = q := fun p q hp hq e => by
    rw [← (hπ p hp).2, ← (hπ q hq).2, e]
  refine ⟨tb.map (fun o => o.map π), (jv_tabs_mem B [] _).mpr ⟨_, by rw [List.length_map, hl], rfl, fun i x hx => ?_⟩⟩
  rw [List.getElem?_map] at hx
  have row : ∀ j y, (tb[j]?).map (fun o : List Nat => o.map π) = some y → j < B ∧ y = (tb.getD j []).map π := fun j y hy => by
    cases e : tb[j]? with
    | none =>
      rw [e] at hy
      cases hy
    | some z =>
      rw [e] at hy
      cases hy
      refine ⟨by have := (List.getElem?_eq_some_iff.mp e).1; omega, ?_⟩
      rw [List.getD_eq_getElem?_getD, e]
      rfl
  obtain ⟨hi, rfl⟩ := row i x hx
  have mem := (hr i hi).1
  obtain ⟨m1, m2, m3⟩ := jv_all_iff.mp mem
  refine ⟨jv_all_iff.mpr ⟨by rw [List.length_map, m1], ?_, fun p hp => ?_⟩, ?_, fun d hd => (by cases hd), fun j o' hj hjo => ?_⟩
  · have : ∀ l : List Nat, l.Nodup → (∀ p ∈ l, p < P) → (l.map π).Nodup := by
      intro l
      induction l with
      | nil => exact fun _ _ => List.nodup_nil
      | cons x l ih =>
        intro h1 h2
        rw [List.nodup_cons] at h1
        rw [List.map_cons, List.nodup_cons]
        refine ⟨fun z => ?_, ih h1.2 (fun p hp => h2 p (List.mem_cons_of_mem _ hp))⟩
        obtain ⟨y, y1, y2⟩ := List.mem_map.mp z
        exact h1.1 (inj y x (h2 y (List.mem_cons_of_mem _ y1)) (h2 x (List.mem_cons_self ..)) y2 ▸ y1)
    exact this _ m2 m3
  · obtain ⟨q, q1, rfl⟩ := List.mem_map.mp hp
    exact (hπ q (m3 q q1)).1
  · rw [show ([] : List (List Nat)).length + i = i from Nat.zero_add i]
    refine fitO_iff.mpr (fun t ht => ?_)
    by_cases z : i = 0
    · subst z
      rw [if_pos rfl, ho, jv_nth_map (by omega), beq_iff_eq]
      have q := hπ (jv_nth o0 t) (o3 _ (jv_nth_in (by omega)))
      exact jv_nth_inj o2 (by omega) (by omega) q.2
    · rw [if_neg z]
  · rw [List.getElem?_map] at hjo
    obtain ⟨hj2, rfl⟩ := row j o' hjo
    rw [jv_with_map inj mem (hr j hj2).1]
    exact hw i j hi hj
/-! where one must be, no other is -/
def opS (op : Nat → Nat → Nat → Bool) (b t : Nat) : Nat → Nat → Nat → Bool := fun b' t' q => op b' t' q && !(((!(b' == b) && t' == t) || (b' == b && !(t' == t))) && op b t q)
def opE (P f B : Nat) (op op' : Nat → Nat → Nat → Bool) : Prop := ∀ tb ∈ jv_tabs P f (fun _ _ => true) B [], tbOk P B op tb ↔ tbOk P B op' tb
theorem opE.rf {P f B : Nat} (op : Nat → Nat → Nat → Bool) : opE P f B op op := fun _ _ => Iff.rfl
theorem opE.tr {P f B : Nat} {a b c : Nat → Nat → Nat → Bool} (h : opE P f B a b) (k : opE P f B b c) : opE P f B a c := fun tb ht => (h tb ht).trans (k tb ht)
theorem jv_with_n {P f : Nat} {a b : List Nat} (h : jv_with P f a b = true) {t : Nat} (ht : t < P) : jv_nth a t ≠ jv_nth b t := fun e => by
  unfold jv_with at h
  rw [Bool.and_eq_true] at h
  have : jv_metO P a b = true := by
    unfold jv_metO
    exact jv_any_iff.mpr ⟨t, ht, beq_iff_eq.mpr e⟩
  rw [this] at h
  cases h.1
theorem opS_E {P f B b t : Nat} {op : Nat → Nat → Nat → Bool} (hb : b < B) (ht : t < P) (h1 : jv_cnt (op b t) P ≤ 1) : opE P f B op (opS op b t) := by
  intro tb htb
  obtain ⟨hl, hr, hw⟩ := tabs_row htb
  refine ⟨fun h b' t' hb' ht' => ?_, fun h b' t' hb' ht' => ?_⟩
  · unfold opS
    rw [h b' t' hb' ht', Bool.true_and, Bool.not_eq_true']
    cases e : op b t (jv_nth (tb.getD b' []) t') with
    | false => rw [Bool.and_false]
    | true =>
      rw [Bool.and_true]
      obtain ⟨m1, m2, m3⟩ := jv_all_iff.mp (hr b hb).1
      obtain ⟨k1, k2, k3⟩ := jv_all_iff.mp (hr b' hb').1
      have u := (jv_cnt_1 (p := op b t) P).mp h1 _ _ (m3 _ (jv_nth_in (t := t) (by omega))) (k3 _ (jv_nth_in (t := t') (by omega))) (h b t hb ht) e
      by_cases z : b' = b
      · subst z
        have : t = t' := jv_nth_inj m2 (by omega) (by omega) u
        subst this
        simp
      · by_cases z2 : t' = t
        · subst z2
          exfalso
          rcases Nat.lt_or_ge b' b with q | q
          · exact jv_with_n (hw b b' hb q) ht u
          · exact jv_with_n (hw b' b hb' (by omega)) ht u.symm
        · simp [z, z2]
  · have := h b' t' hb' ht'
    unfold opS at this
    rw [Bool.and_eq_true] at this
    exact this.1
theorem sols_E {P f B : Nat} {op op' : Nat → Nat → Nat → Bool} (h : opE P f B op op') : sols P f op B = sols P f op' B := sols_eq h
/-- a band without an order -/
theorem sols_no {P f B b : Nat} {op : Nat → Nat → Nat → Bool} (hb : b < B) (h : ft (op b) P 0 P (fun _ => true) = 0) : sols P f op B = [] := by
  rw [List.eq_nil_iff_forall_not_mem]
  intro tb htb
  obtain ⟨-, hr, -⟩ := tabs_row htb
  obtain ⟨r1, r2⟩ := hr b hb
  have c := ft_cnt (A := op b) (P := P) P 0 (fun _ => true)
  rw [h] at c
  have c : (jv_all P).countP (alw (op b) 0) = 0 := by
    show (jv_ords P P (fun _ => true)).countP (alw (op b) 0) = 0
    omega
  rw [List.countP_eq_zero] at c
  refine c _ r1 ((alw_iff _ 0).mpr (fun t ht => ?_))
  rw [Nat.zero_add]
  exact fitO_iff.mp r2 t (by rw [(jv_all_iff.mp r1).1] at ht; exact ht)
