/-! reading: worths, bounds and kinds -/
theorem wr_lt_b {c : Int} (h : wr_lt c ≠ -1) : (0 ≤ wr_lt c ∧ wr_lt c ≤ 4) ∧ c ≠ 0 := by
  unfold wr_lt at h ⊢
  by_cases h1 : c = 116
  · rw [if_pos h1]
    omega
  · rw [if_neg h1] at h ⊢
    by_cases h2 : c = 112
    · rw [if_pos h2]
      omega
    · rw [if_neg h2] at h ⊢
      by_cases h3 : c = 98
      · rw [if_pos h3]
        omega
      · rw [if_neg h3] at h ⊢
        by_cases h4 : c = 109
        · rw [if_pos h4]
          omega
        · rw [if_neg h4] at h ⊢
          by_cases h5 : c = 100
          · rw [if_pos h5]
            omega
          · rw [if_neg h5] at h
            exact absurd rfl h
theorem wr_close_n {T : Nat → Int} {n : Nat} {e : Int} {r : wR} (h : r.2 = none) : wr_close T n e r = (r.1, none) := wq_n h
theorem wr_close_y {T : Nat → Int} {n : Nat} {e : Int} {r : wR} {c : jw_C} (h : r.2 = some c) (q : sg T n (sk T n r.1) = e) : wr_close T n e r = (sk T n r.1 + 1, some c) := by
  unfold wr_close
  rw [wq_s h]
  exact if_pos q
theorem wr_close_f {T : Nat → Int} {n : Nat} {e : Int} {r : wR} {c : jw_C} (h : r.2 = some c) (q : ¬ sg T n (sk T n r.1) = e) : wr_close T n e r = (sk T n r.1, none) := by
  unfold wr_close
  rw [wq_s h]
  exact if_neg q
theorem wr_close_ok {T : Nat → Int} {n : Nat} {e : Int} {r : wR} (he : e ≠ 0) (h : r.1 ≤ n) : (r.1 ≤ (wr_close T n e r).1 ∧ (wr_close T n e r).1 ≤ n) ∧ ∀ c, (wr_close T n e r).2 = some c → r.2 = some c := by
  have hs := sk_b (T := T) h
  cases er : r.2 with
  | none =>
    rw [wr_close_n er]
    exact ⟨⟨Nat.le_refl _, h⟩, fun c hc => by cases hc⟩
  | some d =>
    by_cases q : sg T n (sk T n r.1) = e
    · rw [wr_close_y er q]
      have := (sg_eq q he).1
      refine ⟨⟨by show r.1 ≤ sk T n r.1 + 1; omega, this⟩, fun c hc => hc⟩
    · rw [wr_close_f er q]
      exact ⟨⟨hs.1, hs.2⟩, fun c hc => by cases hc⟩
theorem wr_atom_l {T : Nat → Int} {n : Nat} {inner : Option wP} {p : Nat} (h : wr_lt (sg T n (sk T n p)) ≠ -1) : wr_atom T n inner p = (sk T n p + 1, some [(1, wr_lt (sg T n (sk T n p)))]) := if_neg h
theorem wr_atom_b {T : Nat → Int} {n : Nat} {f : wP} {p : Nat} (h : sg T n (sk T n p) = 91) : wr_atom T n (some f) p = wr_close T n 93 (f (sk T n p + 1)) := by
  unfold wr_atom
  rw [h]
  rfl
theorem wr_atom_0 {T : Nat → Int} {n : Nat} {p : Nat} (h : sg T n (sk T n p) = 91) : wr_atom T n none p = (sk T n p, none) := by
  unfold wr_atom
  rw [h]
  rfl
theorem wr_atom_n {T : Nat → Int} {n : Nat} {inner : Option wP} {p : Nat} (h : wr_lt (sg T n (sk T n p)) = -1) (h2 : sg T n (sk T n p) ≠ 91) : wr_atom T n inner p = ((tk T n 4 p).1, (tk T n 4 p).2.map (fun v => [(0, v)])) := by
  unfold wr_atom
  rw [if_pos h, if_neg h2]
theorem wr_atom_ok {T : Nat → Int} {n : Nat} {inner : Option wP} {h : Nat} (h1 : 1 ≤ h) (hi : ∀ f, inner = some f → wGd n f ∧ wTy n f false h) : wGd n (wr_atom T n inner) ∧ wTy n (wr_atom T n inner) false h := by
  have key : ∀ p, p ≤ n → ((p ≤ (wr_atom T n inner p).1 ∧ (wr_atom T n inner p).1 ≤ n) ∧ ∀ c, (wr_atom T n inner p).2 = some c → (p + c.length ≤ (wr_atom T n inner p).1 ∧ p < (wr_atom T n inner p).1) ∧ ∀ σ : List Bool, σ.length + h ≤ 40 → jw_ty σ c = some (false :: σ)) := fun p hp => by
    have hs := sk_b (T := T) hp
    by_cases l : wr_lt (sg T n (sk T n p)) = -1
    · by_cases b : sg T n (sk T n p) = 91
      · cases inner with
        | none =>
          rw [wr_atom_0 b]
          exact ⟨hs, fun c hc => by cases hc⟩
        | some f =>
          rw [wr_atom_b b]
          obtain ⟨g1, g2⟩ := hi f rfl
          have sq := (sg_eq b (by decide)).1
          obtain ⟨⟨f1, f2⟩, f3⟩ := g1 (sk T n p + 1) sq
          obtain ⟨⟨k1, k2⟩, k3⟩ := wr_close_ok (T := T) (e := 93) (r := f (sk T n p + 1)) (by decide) f2
          refine ⟨⟨by omega, k2⟩, fun c hc => ?_⟩
          have e := k3 c hc
          obtain ⟨f4, f5⟩ := f3 c e
          exact ⟨⟨by omega, by omega⟩, g2 _ c sq e⟩
      · rw [wr_atom_n l b]
        have tb := tk_b (T := T) (n := n) (m := 4) hp (by decide)
        refine ⟨⟨tb.1, tb.2.1⟩, fun c hc => ?_⟩
        have hc : (tk T n 4 p).2.map (fun v => [(0, v)]) = some c := hc
        cases e : (tk T n 4 p).2 with
        | none =>
          rw [e] at hc
          cases hc
        | some v =>
          rw [e] at hc
          cases hc
          have ts := tk_s (T := T) (n := n) (m := 3) hp (by decide) e
          have ts : p < (tk T n 4 p).1 := ts
          have hv := tb.2.2 v e
          refine ⟨⟨ts, ts⟩, fun σ hσ => ?_⟩
          rw [jw_ty_0 (by omega)]
          rfl
    · rw [wr_atom_l l]
      obtain ⟨l1, l2⟩ := wr_lt_b l
      have sq := sg_lt l2
      refine ⟨⟨by show p ≤ sk T n p + 1; omega, sq⟩, fun c hc => ?_⟩
      cases hc
      refine ⟨⟨by show p + 1 ≤ sk T n p + 1; omega, by show p < sk T n p + 1; omega⟩, fun σ hσ => ?_⟩
      rw [jw_ty_1 (by omega)]
      rfl
  exact ⟨fun p hp => ⟨(key p hp).1, fun c hc => ((key p hp).2 c hc).1⟩, fun p c hp hc => ((key p hp).2 c hc).2⟩
theorem wr_term_ok {T : Nat → Int} {n : Nat} {inner : Option wP} {h : Nat} (h1 : 1 ≤ h) (hi : ∀ f, inner = some f → wGd n f ∧ wTy n f false h) : wGd n (wr_seq T n (wr_atom T n inner) wr_opT) ∧ wTy n (wr_seq T n (wr_atom T n inner) wr_opT) false (h + 1) := by
  obtain ⟨a1, a2⟩ := wr_atom_ok (T := T) h1 hi
  exact wr_seq_ok a1 a2 wOpT
theorem wr_sum_ok {T : Nat → Int} {n : Nat} : ∀ k, wGd n (wr_sum T n k) ∧ wTy n (wr_sum T n k) false (2 * k + 3)
  | 0 => by
    obtain ⟨a1, a2⟩ := wr_term_ok (T := T) (n := n) (inner := none) (h := 1) (by decide) (fun f hf => by cases hf)
    exact wr_seq_ok a1 a2 wOpS
  | k + 1 => by
    obtain ⟨a1, a2⟩ := wr_term_ok (T := T) (n := n) (inner := some (wr_sum T n k)) (h := 2 * k + 3) (by omega) (fun f hf => by
      cases hf
      exact wr_sum_ok k)
    exact wr_seq_ok a1 a2 wOpS
theorem wr_in_ok {T : Nat → Int} {n : Nat} (k : Nat) : ∀ f, wr_in T n k = some f → wGd n f ∧ wTy n f false (2 * k + 1) := by
  intro f hf
  cases k with
  | zero => cases hf
  | succ k =>
    cases hf
    exact wr_sum_ok k
theorem wr_cmp_ok {T : Nat → Int} {n k p : Nat} (hp : p ≤ n) : (p ≤ (wr_cmp T n k p).1 ∧ (wr_cmp T n k p).1 ≤ n) ∧ ∀ c, (wr_cmp T n k p).2 = some c → (p + c.length ≤ (wr_cmp T n k p).1 ∧ p < (wr_cmp T n k p).1) ∧ ∀ σ : List Bool, σ.length + (2 * k + 4) ≤ 40 → jw_ty (false :: σ) c = some (true :: σ) := by
  have hs := sk_b (T := T) hp
  cases e : wr_opC (sg T n (sk T n p)) with
  | none =>
    rw [wr_cmp_n e]
    exact ⟨hs, fun c hc => by cases hc⟩
  | some o =>
    obtain ⟨⟨o0, o1⟩, -⟩ := wr_opC_i e
    have sq := sg_lt o0
    rw [wr_cmp_s e]
    obtain ⟨g1, g2⟩ := wr_sum_ok (T := T) (n := n) k
    obtain ⟨⟨f1, f2⟩, f3⟩ := g1 (sk T n p + 1) sq
    cases ef : (wr_sum T n k (sk T n p + 1)).2 with
    | none =>
      rw [wq_n ef]
      exact ⟨⟨by show p ≤ (wr_sum T n k (sk T n p + 1)).1; omega, f2⟩, fun c hc => by cases hc⟩
    | some d =>
      rw [wq_s ef]
      obtain ⟨f4, f5⟩ := f3 d ef
      refine ⟨⟨by show p ≤ (wr_sum T n k (sk T n p + 1)).1; omega, f2⟩, fun c hc => ?_⟩
      cases hc
      rw [List.length_append, List.length_singleton]
      refine ⟨⟨by show p + (d.length + 1) ≤ (wr_sum T n k (sk T n p + 1)).1; omega, by show p < (wr_sum T n k (sk T n p + 1)).1; omega⟩, fun σ hσ => ?_⟩
      rw [jw_ty_app d _ (false :: σ) _ (g2 _ d sq ef (false :: σ) (by rw [List.length_cons]; omega)), jw_ty_n (by omega), decide_eq_true (by omega)]
      rfl
theorem wr_sc_ok {T : Nat → Int} {n : Nat} (k : Nat) : wGd n (wr_sc T n k) ∧ wTy n (wr_sc T n k) true (2 * k + 4) := by
  obtain ⟨g1, g2⟩ := wr_sum_ok (T := T) (n := n) k
  have key : ∀ p, p ≤ n → ((p ≤ (wr_sc T n k p).1 ∧ (wr_sc T n k p).1 ≤ n) ∧ ∀ c, (wr_sc T n k p).2 = some c → (p + c.length ≤ (wr_sc T n k p).1 ∧ p < (wr_sc T n k p).1) ∧ ∀ σ : List Bool, σ.length + (2 * k + 4) ≤ 40 → jw_ty σ c = some (true :: σ)) := fun p hp => by
    obtain ⟨⟨f1, f2⟩, f3⟩ := g1 p hp
    unfold wr_sc
    cases ef : (wr_sum T n k p).2 with
    | none =>
      rw [wq_n ef]
      exact ⟨⟨f1, f2⟩, fun c hc => by cases hc⟩
    | some d =>
      rw [wq_s ef]
      obtain ⟨f4, f5⟩ := f3 d ef
      obtain ⟨⟨c1, c2⟩, c3⟩ := wr_cmp_ok (T := T) (k := k) f2
      cases ec : (wr_cmp T n k (wr_sum T n k p).1).2 with
      | none =>
        rw [wq_n ec]
        exact ⟨⟨by show p ≤ (wr_cmp T n k (wr_sum T n k p).1).1; omega, c2⟩, fun c hc => by cases hc⟩
      | some e =>
        rw [wq_s ec]
        obtain ⟨⟨c4, c5⟩, c6⟩ := c3 e ec
        refine ⟨⟨by show p ≤ (wr_cmp T n k (wr_sum T n k p).1).1; omega, c2⟩, fun c hc => ?_⟩
        cases hc
        rw [List.length_append]
        refine ⟨⟨by show p + (d.length + e.length) ≤ (wr_cmp T n k (wr_sum T n k p).1).1; omega, by show p < (wr_cmp T n k (wr_sum T n k p).1).1; omega⟩, fun σ hσ => ?_⟩
        rw [jw_ty_app d _ σ _ (g2 p d hp ef σ (by omega))]
        exact c6 σ hσ
  exact ⟨fun p hp => ⟨(key p hp).1, fun c hc => ((key p hp).2 c hc).1⟩, fun p c hp hc => ((key p hp).2 c hc).2⟩
theorem wr_cond_ok {T : Nat → Int} {n : Nat} {u : wP} {h : Nat} (h1 : wGd n u) (h2 : wTy n u true h) : (wGd n (wr_truth T n u) ∧ wTy n (wr_truth T n u) true (h + 1)) ∧ wGd n (wr_cond T n u) ∧ wTy n (wr_cond T n u) true (h + 2) := by
  have a := wr_seq_ok (T := T) h1 h2 wOpA
  exact ⟨a, wr_seq_ok a.1 a.2 wOpO⟩
theorem wr_unit_n {T : Nat → Int} {n k p : Nat} (h : sg T n (sk T n p) = 33) : wr_unit T n (k + 1) p = wq (wr_unit T n k (sk T n p + 1)) (fun q c => (q, some (c ++ [(9, 0)]))) := if_pos h
theorem wr_unit_b {T : Nat → Int} {n k p : Nat} (h : sg T n (sk T n p) = 40) : wr_unit T n (k + 1) p = wr_close T n 41 (wr_cond T n (wr_unit T n k) (sk T n p + 1)) := by
  show (if sg T n (sk T n p) = 33 then _ else _) = _
  rw [if_neg (by omega), if_pos h]
theorem wr_unit_0 {T : Nat → Int} {n p : Nat} (h : sg T n (sk T n p) = 33 ∨ sg T n (sk T n p) = 40) : wr_unit T n 0 p = (sk T n p, none) := by
  show (if sg T n (sk T n p) = 33 then _ else _) = _
  rcases h with h | h
  · rw [if_pos h]
  · rw [if_neg (by omega), if_pos h]
theorem wr_unit_s {T : Nat → Int} {n k p : Nat} (h1 : ¬ sg T n (sk T n p) = 33) (h2 : ¬ sg T n (sk T n p) = 40) : wr_unit T n k p = wr_sc T n k p := by
  cases k with
  | zero =>
    show (if sg T n (sk T n p) = 33 then _ else _) = _
    rw [if_neg h1, if_neg h2]
  | succ k =>
    show (if sg T n (sk T n p) = 33 then _ else _) = _
    rw [if_neg h1, if_neg h2]
theorem wr_unit_ok {T : Nat → Int} {n : Nat} : ∀ k, wGd n (wr_unit T n k) ∧ wTy n (wr_unit T n k) true (2 * k + 4) := by
  intro k
  have mk : ∀ k, (∀ p, p ≤ n → ((p ≤ (wr_unit T n k p).1 ∧ (wr_unit T n k p).1 ≤ n) ∧ ∀ c, (wr_unit T n k p).2 = some c → (p + c.length ≤ (wr_unit T n k p).1 ∧ p < (wr_unit T n k p).1) ∧ ∀ σ : List Bool, σ.length + (2 * k + 4) ≤ 40 → jw_ty σ c = some (true :: σ))) → wGd n (wr_unit T n k) ∧ wTy n (wr_unit T n k) true (2 * k + 4) := fun k key => ⟨fun p hp => ⟨(key p hp).1, fun c hc => ((key p hp).2 c hc).1⟩, fun p c hp hc => ((key p hp).2 c hc).2⟩
  have sc : ∀ k p, p ≤ n → ¬ sg T n (sk T n p) = 33 → ¬ sg T n (sk T n p) = 40 → ((p ≤ (wr_unit T n k p).1 ∧ (wr_unit T n k p).1 ≤ n) ∧ ∀ c, (wr_unit T n k p).2 = some c → (p + c.length ≤ (wr_unit T n k p).1 ∧ p < (wr_unit T n k p).1) ∧ ∀ σ : List Bool, σ.length + (2 * k + 4) ≤ 40 → jw_ty σ c = some (true :: σ)) := fun k p hp h1 h2 => by
    rw [wr_unit_s h1 h2]
    obtain ⟨s1, s2⟩ := wr_sc_ok (T := T) (n := n) k
    exact ⟨(s1 p hp).1, fun c hc => ⟨(s1 p hp).2 c hc, s2 p c hp hc⟩⟩
  induction k with
  | zero =>
    refine mk 0 (fun p hp => ?_)
    have hs := sk_b (T := T) hp
    by_cases h1 : sg T n (sk T n p) = 33
    · rw [wr_unit_0 (Or.inl h1)]
      exact ⟨hs, fun c hc => by cases hc⟩
    · by_cases h2 : sg T n (sk T n p) = 40
      · rw [wr_unit_0 (Or.inr h2)]
        exact ⟨hs, fun c hc => by cases hc⟩
      · exact sc 0 p hp h1 h2
  | succ k ih =>
    refine mk (k + 1) (fun p hp => ?_)
    have hs := sk_b (T := T) hp
    by_cases h1 : sg T n (sk T n p) = 33
    · have sq := (sg_eq h1 (by decide)).1
      obtain ⟨⟨f1, f2⟩, f3⟩ := ih.1 (sk T n p + 1) sq
      rw [wr_unit_n h1]
      cases ef : (wr_unit T n k (sk T n p + 1)).2 with
      | none =>
        rw [wq_n ef]
        exact ⟨⟨by show p ≤ (wr_unit T n k (sk T n p + 1)).1; omega, f2⟩, fun c hc => by cases hc⟩
      | some d =>
        rw [wq_s ef]
        obtain ⟨f4, f5⟩ := f3 d ef
        refine ⟨⟨by show p ≤ (wr_unit T n k (sk T n p + 1)).1; omega, f2⟩, fun c hc => ?_⟩
        cases hc
        rw [List.length_append, List.length_singleton]
        refine ⟨⟨by show p + (d.length + 1) ≤ (wr_unit T n k (sk T n p + 1)).1; omega, by show p < (wr_unit T n k (sk T n p + 1)).1; omega⟩, fun σ hσ => ?_⟩
        rw [jw_ty_app d _ σ _ (ih.2 _ d sq ef σ (by omega)), jw_ty_9]
        rfl
    · by_cases h2 : sg T n (sk T n p) = 40
      · have sq := (sg_eq h2 (by decide)).1
        obtain ⟨-, c1, c2⟩ := wr_cond_ok (T := T) ih.1 ih.2
        obtain ⟨⟨f1, f2⟩, f3⟩ := c1 (sk T n p + 1) sq
        rw [wr_unit_b h2]
        obtain ⟨⟨k1, k2⟩, k3⟩ := wr_close_ok (T := T) (e := 41) (r := wr_cond T n (wr_unit T n k) (sk T n p + 1)) (by decide) f2
        refine ⟨⟨by omega, k2⟩, fun c hc => ?_⟩
        have e := k3 c hc
        obtain ⟨f4, f5⟩ := f3 c e
        exact ⟨⟨by omega, by omega⟩, fun σ hσ => c2 _ c sq e σ (by omega)⟩
      · exact sc (k + 1) p hp h1 h2
