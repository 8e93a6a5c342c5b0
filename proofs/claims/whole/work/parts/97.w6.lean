/-! reading: worths, clauses -/
abbrev wC : Type := Nat × Option (jw_C × jw_C)
noncomputable def wr_plain (T : Nat → Int) (n p : Nat) : Option jw_C := if sg T n (sk T n p) = 33 then none else if sg T n (sk T n p) = 40 then none else match (wr_sum T n 6 p).2 with
  | none => none
  | some c => if wr_opC (sg T n (sk T n (wr_sum T n 6 p).1)) = none then some c else none
noncomputable def wr_tl (T : Nat → Int) (n : Nat) (r : wR) : wC := match r.2 with
  | none => (r.1, none)
  | some t => if sg T n (sk T n r.1) = 63 then ((wr_sum T n 6 (sk T n r.1 + 1)).1, (wr_sum T n 6 (sk T n r.1 + 1)).2.map (fun s => (t, s))) else (sk T n r.1, none)
theorem wr_tl_n {T : Nat → Int} {n : Nat} {r : wR} (h : r.2 = none) : wr_tl T n r = (r.1, none) := by
  unfold wr_tl
  rw [h]
theorem wr_tl_f {T : Nat → Int} {n : Nat} {r : wR} {t : jw_C} (h : r.2 = some t) (q : ¬ sg T n (sk T n r.1) = 63) : wr_tl T n r = (sk T n r.1, none) := by
  unfold wr_tl
  rw [h]
  exact if_neg q
theorem wr_tl_y {T : Nat → Int} {n : Nat} {r : wR} {t : jw_C} (h : r.2 = some t) (q : sg T n (sk T n r.1) = 63) : wr_tl T n r = ((wr_sum T n 6 (sk T n r.1 + 1)).1, (wr_sum T n 6 (sk T n r.1 + 1)).2.map (fun s => (t, s))) := by
  unfold wr_tl
  rw [h]
  exact if_pos q
noncomputable def wr_body (T : Nat → Int) (n p : Nat) : wC := match wr_plain T n p with
  | some c => (sk T n (wr_sum T n 6 p).1, some ([], c))
  | none => wr_tl T n (wr_cond T n (wr_unit T n 6) p)
theorem wr_body_n {T : Nat → Int} {n p : Nat} (h : wr_plain T n p = none) : wr_body T n p = wr_tl T n (wr_cond T n (wr_unit T n 6) p) := by
  unfold wr_body
  rw [h]
theorem wr_body_s {T : Nat → Int} {n p : Nat} {c : jw_C} (h : wr_plain T n p = some c) : wr_body T n p = (sk T n (wr_sum T n 6 p).1, some ([], c)) := by
  unfold wr_body
  rw [h]
noncomputable def wr_clause (T : Nat → Int) (n p : Nat) : wC := if sg T n (sk T n p) = 121 then (if sg T n (sk T n (sk T n p + 1)) = 58 then wr_body T n (sk T n (sk T n p + 1) + 1) else (sk T n (sk T n p + 1), none)) else (sk T n p, none)
noncomputable def wr_text (T : Nat → Int) (n : Nat) : Nat → Nat → jw_S → Nat × Option jw_S
  | 0, p, _ => (p, none)
  | m + 1, p, acc => match (wr_clause T n p).2 with
    | none => ((wr_clause T n p).1, none)
    | some x => if n ≤ sk T n (wr_clause T n p).1 then (n, some (acc ++ [x])) else if sg T n (sk T n (wr_clause T n p).1) = 59 then wr_text T n m (sk T n (wr_clause T n p).1 + 1) (acc ++ [x]) else (sk T n (wr_clause T n p).1, none)
theorem wr_text_n {T : Nat → Int} {n m p : Nat} {acc : jw_S} (h : (wr_clause T n p).2 = none) : wr_text T n (m + 1) p acc = ((wr_clause T n p).1, none) := by
  conv => lhs; unfold wr_text
  rw [h]
theorem wr_text_s {T : Nat → Int} {n m p : Nat} {acc : jw_S} {x : jw_C × jw_C} (h : (wr_clause T n p).2 = some x) : wr_text T n (m + 1) p acc = if n ≤ sk T n (wr_clause T n p).1 then (n, some (acc ++ [x])) else if sg T n (sk T n (wr_clause T n p).1) = 59 then wr_text T n m (sk T n (wr_clause T n p).1 + 1) (acc ++ [x]) else (sk T n (wr_clause T n p).1, none) := by
  conv => lhs; unfold wr_text
  rw [h]
/-! words of clauses -/
theorem jw_words_len : ∀ (off : Nat) (t s : jw_C), (jw_words off [(t, s)]).length = t.length + s.length + (if t = [] then 1 else 2)
  | off, [], s => by
    show (s.map jw_enc ++ 40000 :: []).length = _
    rw [List.length_append, List.length_map, if_pos rfl]
    show s.length + 1 = 0 + s.length + 1
    omega
  | off, x :: t, s => by
    show ((x :: t).map jw_enc ++ (30000 + ((off + t.length + s.length + 3 : Nat) : Int)) :: (s.map jw_enc ++ 40000 :: [])).length = _
    rw [List.length_append, List.length_map, List.length_cons, List.length_cons, List.length_append, List.length_map, if_neg (by simp)]
    show t.length + 1 + (s.length + 1 + 1) = t.length + 1 + s.length + 2
    omega
theorem jw_words_app : ∀ (cs : jw_S) (off : Nat) (x : jw_C × jw_C), jw_words off (cs ++ [x]) = jw_words off cs ++ jw_words (off + (jw_words off cs).length) [x]
  | [], off, x => rfl
  | ([], s) :: r, off, x => by
    show s.map jw_enc ++ 40000 :: jw_words (off + s.length + 1) (r ++ [x]) = (s.map jw_enc ++ 40000 :: jw_words (off + s.length + 1) r) ++ jw_words (off + (s.map jw_enc ++ 40000 :: jw_words (off + s.length + 1) r).length) [x]
    rw [jw_words_app r _ x, List.length_append, List.length_map, List.length_cons, List.append_assoc, List.cons_append, show off + s.length + 1 + (jw_words (off + s.length + 1) r).length = off + (s.length + ((jw_words (off + s.length + 1) r).length + 1)) by omega]
  | (y :: t, s) :: r, off, x => by
    show (y :: t).map jw_enc ++ (30000 + ((off + t.length + s.length + 3 : Nat) : Int)) :: (s.map jw_enc ++ 40000 :: jw_words (off + t.length + s.length + 3) (r ++ [x])) = ((y :: t).map jw_enc ++ (30000 + ((off + t.length + s.length + 3 : Nat) : Int)) :: (s.map jw_enc ++ 40000 :: jw_words (off + t.length + s.length + 3) r)) ++ jw_words (off + ((y :: t).map jw_enc ++ (30000 + ((off + t.length + s.length + 3 : Nat) : Int)) :: (s.map jw_enc ++ 40000 :: jw_words (off + t.length + s.length + 3) r)).length) [x]
    rw [jw_words_app r _ x, List.length_append, List.length_map, List.length_cons, List.length_cons, List.length_append, List.length_map, List.length_cons, List.append_assoc, List.cons_append, List.append_assoc, List.cons_append, show off + t.length + s.length + 3 + (jw_words (off + t.length + s.length + 3) r).length = off + (t.length + 1 + (s.length + ((jw_words (off + t.length + s.length + 3) r).length + 1) + 1)) by omega]
/-! clauses: bounds and kinds -/
def wCok (n p : Nat) (r : wC) : Prop := (p ≤ r.1 ∧ r.1 ≤ n) ∧ ∀ t s, r.2 = some (t, s) → p + (t.length + s.length + (if t = [] then 0 else 1)) ≤ r.1 ∧ p < r.1 ∧ (t = [] ∨ jw_ty [] t = some [true]) ∧ jw_ty [] s = some [false]
theorem wr_tl_ok {T : Nat → Int} {n p : Nat} (hp : p ≤ n) : wCok n p (wr_tl T n (wr_cond T n (wr_unit T n 6) p)) := by
  obtain ⟨u1, u2⟩ := wr_unit_ok (T := T) (n := n) 6
  obtain ⟨-, c1, c2⟩ := wr_cond_ok (T := T) u1 u2
  obtain ⟨⟨f1, f2⟩, f3⟩ := c1 p hp
  have hs := sk_b (T := T) f2
  cases e : (wr_cond T n (wr_unit T n 6) p).2 with
  | none =>
    rw [wr_tl_n e]
    exact ⟨⟨f1, f2⟩, fun t s h => by cases h⟩
  | some t =>
    obtain ⟨f4, f5⟩ := f3 t e
    by_cases q : sg T n (sk T n (wr_cond T n (wr_unit T n 6) p).1) = 63
    · rw [wr_tl_y e q]
      have sq := (sg_eq q (by decide)).1
      obtain ⟨g1, g2⟩ := wr_sum_ok (T := T) (n := n) 6
      obtain ⟨⟨k1, k2⟩, k3⟩ := g1 (sk T n (wr_cond T n (wr_unit T n 6) p).1 + 1) sq
      refine ⟨⟨by show p ≤ (wr_sum T n 6 (sk T n (wr_cond T n (wr_unit T n 6) p).1 + 1)).1; omega, k2⟩, fun t' s' h => ?_⟩
      cases es : (wr_sum T n 6 (sk T n (wr_cond T n (wr_unit T n 6) p).1 + 1)).2 with
      | none =>
        have h : (wr_sum T n 6 (sk T n (wr_cond T n (wr_unit T n 6) p).1 + 1)).2.map (fun s => (t, s)) = some (t', s') := h
        rw [es] at h
        cases h
      | some s =>
        have h : (wr_sum T n 6 (sk T n (wr_cond T n (wr_unit T n 6) p).1 + 1)).2.map (fun s => (t, s)) = some (t', s') := h
        rw [es] at h
        have h2 : t = t' ∧ s = s' := by
          cases h
          exact ⟨rfl, rfl⟩
        obtain ⟨rfl, rfl⟩ := h2
        obtain ⟨k4, k5⟩ := k3 s es
        have ty := c2 p t hp e [] (by show 0 + 18 ≤ 40; omega)
        refine ⟨?_, by show p < (wr_sum T n 6 (sk T n (wr_cond T n (wr_unit T n 6) p).1 + 1)).1; omega, Or.inr ty, g2 _ s sq es [] (by show 0 + 15 ≤ 40; omega)⟩
        show p + (t.length + s.length + _) ≤ (wr_sum T n 6 (sk T n (wr_cond T n (wr_unit T n 6) p).1 + 1)).1
        split <;> omega
    · rw [wr_tl_f e q]
      exact ⟨⟨by show p ≤ sk T n (wr_cond T n (wr_unit T n 6) p).1; omega, hs.2⟩, fun t s h => by cases h⟩
theorem wr_plain_i {T : Nat → Int} {n p : Nat} {c : jw_C} (h : wr_plain T n p = some c) : ¬ sg T n (sk T n p) = 33 ∧ ¬ sg T n (sk T n p) = 40 ∧ (wr_sum T n 6 p).2 = some c ∧ wr_opC (sg T n (sk T n (wr_sum T n 6 p).1)) = none := by
  unfold wr_plain at h
  by_cases h1 : sg T n (sk T n p) = 33
  · rw [if_pos h1] at h
    cases h
  · rw [if_neg h1] at h
    by_cases h2 : sg T n (sk T n p) = 40
    · rw [if_pos h2] at h
      cases h
    · rw [if_neg h2] at h
      cases e : (wr_sum T n 6 p).2 with
      | none =>
        rw [e] at h
        cases h
      | some d =>
        rw [e] at h
        have h : (if wr_opC (sg T n (sk T n (wr_sum T n 6 p).1)) = none then some d else none) = some c := h
        by_cases q : wr_opC (sg T n (sk T n (wr_sum T n 6 p).1)) = none
        · rw [if_pos q] at h
          exact ⟨h1, h2, h, q⟩
        · rw [if_neg q] at h
          cases h
theorem wr_body_ok {T : Nat → Int} {n p : Nat} (hp : p ≤ n) : wCok n p (wr_body T n p) := by
  cases e : wr_plain T n p with
  | none =>
    rw [wr_body_n e]
    exact wr_tl_ok hp
  | some c =>
    rw [wr_body_s e]
    obtain ⟨-, -, e2, -⟩ := wr_plain_i e
    obtain ⟨g1, g2⟩ := wr_sum_ok (T := T) (n := n) 6
    obtain ⟨⟨k1, k2⟩, k3⟩ := g1 p hp
    have hs := sk_b (T := T) k2
    obtain ⟨k4, k5⟩ := k3 c e2
    refine ⟨⟨by show p ≤ sk T n (wr_sum T n 6 p).1; omega, hs.2⟩, fun t s h => ?_⟩
    cases h
    refine ⟨?_, by show p < sk T n (wr_sum T n 6 p).1; omega, Or.inl rfl, g2 p c hp e2 [] (by show 0 + 15 ≤ 40; omega)⟩
    rw [if_pos rfl]
    show p + (0 + c.length + 0) ≤ sk T n (wr_sum T n 6 p).1
    omega
theorem wr_clause_ok {T : Nat → Int} {n p : Nat} (hp : p ≤ n) : ((p ≤ (wr_clause T n p).1 ∧ (wr_clause T n p).1 ≤ n) ∧ ∀ t s, (wr_clause T n p).2 = some (t, s) → p + (t.length + s.length + (if t = [] then 1 else 2)) ≤ (wr_clause T n p).1 ∧ p + 3 ≤ (wr_clause T n p).1 ∧ (t = [] ∨ jw_ty [] t = some [true]) ∧ jw_ty [] s = some [false]) := by
  have hs := sk_b (T := T) hp
  unfold wr_clause
  by_cases h1 : sg T n (sk T n p) = 121
  · rw [if_pos h1]
    have sq := (sg_eq h1 (by decide)).1
    have hs2 := sk_b (T := T) (n := n) (p := sk T n p + 1) sq
    by_cases h2 : sg T n (sk T n (sk T n p + 1)) = 58
    · rw [if_pos h2]
      have sq2 := (sg_eq h2 (by decide)).1
      obtain ⟨⟨b1, b2⟩, b3⟩ := wr_body_ok (T := T) (n := n) (p := sk T n (sk T n p + 1) + 1) sq2
      refine ⟨⟨by omega, b2⟩, fun t s h => ?_⟩
      obtain ⟨b4, b5, b6, b7⟩ := b3 t s h
      refine ⟨?_, by omega, b6, b7⟩
      by_cases z : t = []
      · rw [if_pos z] at b4 ⊢
        omega
      · rw [if_neg z] at b4 ⊢
        omega
    · rw [if_neg h2]
      exact ⟨⟨by show p ≤ sk T n (sk T n p + 1); omega, hs2.2⟩, fun t s h => by cases h⟩
  · rw [if_neg h1]
    exact ⟨hs, fun t s h => by cases h⟩
