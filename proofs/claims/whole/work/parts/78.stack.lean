/-! points: both stacks -/
def pw_st (M : ja_M) (c : Nat) : List Bool → List Int → Prop
  | [], [] => True
  | k :: σ, v :: s => (M c s.length = v ∧ pw_ok k v) ∧ pw_st M c σ s
  | _, _ => False
theorem pw_st_len {M : ja_M} {c : Nat} : ∀ {σ : List Bool} {s : List Int}, pw_st M c σ s → s.length = σ.length
  | [], [], _ => rfl
  | k :: σ, v :: s, h => by
    rw [List.length_cons, List.length_cons, pw_st_len h.2]
  | [], _ :: _, h => h.elim
  | _ :: _, [], h => h.elim
theorem pw_st_congr {M N : ja_M} {c : Nat} : ∀ {σ : List Bool} {s : List Int}, (∀ i, i < s.length → N c i = M c i) → pw_st M c σ s → pw_st N c σ s
  | [], [], _, _ => trivial
  | k :: σ, v :: s, e, h => ⟨⟨(e s.length (by rw [List.length_cons]; omega)).trans h.1.1, h.1.2⟩, pw_st_congr (fun i hi => e i (by rw [List.length_cons]; omega)) h.2⟩
  | [], _ :: _, _, h => h.elim
  | _ :: _, [], _, h => h.elim
/-- push -/
theorem pw_st_push {M : ja_M} {c : Nat} {σ : List Bool} {s : List Int} {k : Bool} {v : Int} (h : pw_st M c σ s) (hv : pw_ok k v) : pw_st (ja_up M c s.length v) c (k :: σ) (v :: s) := ⟨⟨jb_up_eq, hv⟩, pw_st_congr (fun i hi => jb_up_nej (by omega)) h⟩
theorem pw_st1 {M : ja_M} {c : Nat} {k : Bool} {s : List Int} (h : pw_st M c [k] s) : s.headD 0 = M c 0 ∧ pw_ok k (M c 0) := by
  match s, h with
  | [v], h => exact ⟨h.1.1.symm, by rw [show M c 0 = v from h.1.1]; exact h.1.2⟩
def pw_e1 (L : Nat → Int) (e : Nat × Int) (st : List Int) : List Int :=
  if e.1 = 0 then e.2 :: st else if e.1 = 1 then L e.2.toNat :: st else if e.1 = 9 then (match st with
    | x :: s => (1 - x) :: s
    | [] => []) else (match st with
    | c :: b :: s => pw_op e.1 b c :: s
    | _ => [])
def pw_ev (L : Nat → Int) : List Int → jw_C → List Int
  | st, [] => st
  | st, e :: r => pw_ev L (pw_e1 L e st) r
def pw_at (M : ja_M) (a : Nat) : Nat → List Int → Prop
  | _, [] => True
  | p, x :: r => M a p = x ∧ pw_at M a (p + 1) r
theorem pw_at_app {M : ja_M} {a : Nat} : ∀ {p : Nat} {u v : List Int}, pw_at M a p (u ++ v) → pw_at M a p u ∧ pw_at M a (p + u.length) v
  | p, [], v, h => ⟨trivial, h⟩
  | p, x :: u, v, h => by
    obtain ⟨h1, h2⟩ := pw_at_app (u := u) h.2
    rw [List.length_cons, show p + (u.length + 1) = p + 1 + u.length by omega]
    exact ⟨⟨h.1, h1⟩, h2⟩
theorem pw_at_congr {M N : ja_M} {a : Nat} (e : ∀ i, N a i = M a i) : ∀ {p : Nat} {u : List Int}, pw_at M a p u → pw_at N a p u
  | _, [], _ => trivial
  | p, _ :: _, h => ⟨(e p).trans h.1, pw_at_congr e h.2⟩
/-- what a code that has kinds begins with -/
theorem jw_ty_inv {σ τ : List Bool} {o : Nat} {v : Int} {r : jw_C} (h : jw_ty σ ((o, v) :: r) = some τ) :
    (o = 0 ∧ σ.length < 40 ∧ (0 ≤ v ∧ v ≤ 9999) ∧ jw_ty (false :: σ) r = some τ) ∨
    (o = 1 ∧ σ.length < 40 ∧ (0 ≤ v ∧ v ≤ 4) ∧ jw_ty (false :: σ) r = some τ) ∨
    (o = 9 ∧ ∃ σ', σ = true :: σ' ∧ jw_ty (true :: σ') r = some τ) ∨
    (∃ k σ', σ = k :: k :: σ' ∧ ((2 ≤ o ∧ o ≤ 8 ∧ k = false) ∨ ((o = 10 ∨ o = 11) ∧ k = true)) ∧ jw_ty (decide (6 ≤ o) :: σ') r = some τ) := by
  unfold jw_ty at h
  split at h
  · rename_i e
    cases e
  · rename_i e
    cases e
    split at h
    · rename_i q
      exact Or.inl ⟨rfl, q.1, q.2, h⟩
    · cases h
  · rename_i e
    cases e
    split at h
    · rename_i q
      exact Or.inr (Or.inl ⟨rfl, q.1, q.2, h⟩)
    · cases h
  · rename_i e
    cases e
    exact Or.inr (Or.inr (Or.inl ⟨rfl, _, rfl, h⟩))
  · rename_i e
    cases e
    split at h
    · rename_i q
      refine Or.inr (Or.inr (Or.inr ⟨false, _, rfl, Or.inl ⟨by omega, by omega, rfl⟩, ?_⟩))
      rw [decide_eq_false (by omega)]
      exact h
    · split at h
      · rename_i q1 q
        refine Or.inr (Or.inr (Or.inr ⟨false, _, rfl, Or.inl ⟨by omega, by omega, rfl⟩, ?_⟩))
        rw [decide_eq_true (by omega)]
        exact h
      · cases h
  · rename_i e
    cases e
    split at h
    · rename_i q
      refine Or.inr (Or.inr (Or.inr ⟨true, _, rfl, Or.inr ⟨by omega, rfl⟩, ?_⟩))
      rw [decide_eq_true (by omega)]
      exact h
    · cases h
  · cases h
