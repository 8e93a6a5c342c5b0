/-! reading: worths, what they say -/
abbrev wR : Type := Nat × Option jw_C
abbrev wP : Type := Nat → wR
def wq (r : wR) (k : Nat → jw_C → wR) : wR := match r.2 with
  | none => (r.1, none)
  | some c => k r.1 c
theorem wq_n {r : wR} {k : Nat → jw_C → wR} (h : r.2 = none) : wq r k = (r.1, none) := by
  unfold wq
  rw [h]
theorem wq_s {r : wR} {k : Nat → jw_C → wR} {c : jw_C} (h : r.2 = some c) : wq r k = k r.1 c := by
  unfold wq
  rw [h]
def wr_loop (T : Nat → Int) (n : Nat) (f : wP) (op : Int → Option Nat) : Nat → Nat → jw_C → wR
  | 0, p, acc => (p, some acc)
  | m + 1, p, acc => match op (sg T n (sk T n p)) with
    | none => (sk T n p, some acc)
    | some o => wq (f (sk T n p + 1)) (fun q c => wr_loop T n f op m q (acc ++ (c ++ [(o, 0)])))
theorem wr_loop_n {T : Nat → Int} {n : Nat} {f : wP} {op : Int → Option Nat} {m p : Nat} {acc : jw_C} (h : op (sg T n (sk T n p)) = none) : wr_loop T n f op (m + 1) p acc = (sk T n p, some acc) := by
  unfold wr_loop
  rw [h]
theorem wr_loop_s {T : Nat → Int} {n : Nat} {f : wP} {op : Int → Option Nat} {m p : Nat} {acc : jw_C} {o : Nat} (h : op (sg T n (sk T n p)) = some o) : wr_loop T n f op (m + 1) p acc = wq (f (sk T n p + 1)) (fun q c => wr_loop T n f op m q (acc ++ (c ++ [(o, 0)]))) := by
  conv => lhs; unfold wr_loop
  rw [h]
def wr_seq (T : Nat → Int) (n : Nat) (f : wP) (op : Int → Option Nat) : wP := fun p => wq (f p) (fun q c => wr_loop T n f op (n + 1) q c)
def wr_lt (c : Int) : Int := if c = 116 then 0 else if c = 112 then 1 else if c = 98 then 2 else if c = 109 then 3 else if c = 100 then 4 else -1
def wr_close (T : Nat → Int) (n : Nat) (e : Int) (r : wR) : wR := wq r (fun q c => if sg T n (sk T n q) = e then (sk T n q + 1, some c) else (sk T n q, none))
noncomputable def wr_atom (T : Nat → Int) (n : Nat) (inner : Option wP) : wP := fun p => if wr_lt (sg T n (sk T n p)) = -1 then (if sg T n (sk T n p) = 91 then (match inner with
    | none => (sk T n p, none)
    | some f => wr_close T n 93 (f (sk T n p + 1))) else ((tk T n 4 p).1, (tk T n 4 p).2.map (fun v => [(0, v)]))) else (sk T n p + 1, some [(1, wr_lt (sg T n (sk T n p)))])
def wr_opT (c : Int) : Option Nat := if c = 42 then some 4 else if c = 47 then some 5 else none
def wr_opS (c : Int) : Option Nat := if c = 43 then some 2 else if c = 45 then some 3 else none
def wr_opC (c : Int) : Option Nat := if c = 61 then some 6 else if c = 60 then some 7 else if c = 62 then some 8 else none
def wr_opA (c : Int) : Option Nat := if c = 38 then some 10 else none
def wr_opO (c : Int) : Option Nat := if c = 124 then some 11 else none
noncomputable def wr_sumI (T : Nat → Int) (n : Nat) (inner : Option wP) : wP := wr_seq T n (wr_seq T n (wr_atom T n inner) wr_opT) wr_opS
/-- a sum; so many brackets may still be opened -/
noncomputable def wr_sum (T : Nat → Int) (n : Nat) : Nat → wP
  | 0 => wr_sumI T n none
  | k + 1 => wr_sumI T n (some (wr_sum T n k))
noncomputable def wr_in (T : Nat → Int) (n : Nat) : Nat → Option wP
  | 0 => none
  | k + 1 => some (wr_sum T n k)
theorem wr_sum_in (T : Nat → Int) (n k : Nat) : wr_sum T n k = wr_sumI T n (wr_in T n k) := by cases k <;> rfl
noncomputable def wr_cmp (T : Nat → Int) (n k : Nat) : wP := fun p => match wr_opC (sg T n (sk T n p)) with
  | none => (sk T n p, none)
  | some o => wq (wr_sum T n k (sk T n p + 1)) (fun q c => (q, some (c ++ [(o, 0)])))
theorem wr_cmp_n {T : Nat → Int} {n k p : Nat} (h : wr_opC (sg T n (sk T n p)) = none) : wr_cmp T n k p = (sk T n p, none) := by
  unfold wr_cmp
  rw [h]
theorem wr_cmp_s {T : Nat → Int} {n k p o : Nat} (h : wr_opC (sg T n (sk T n p)) = some o) : wr_cmp T n k p = wq (wr_sum T n k (sk T n p + 1)) (fun q c => (q, some (c ++ [(o, 0)]))) := by
  unfold wr_cmp
  rw [h]
noncomputable def wr_sc (T : Nat → Int) (n k : Nat) : wP := fun p => wq (wr_sum T n k p) (fun q c => wq (wr_cmp T n k q) (fun r d => (r, some (c ++ d))))
noncomputable def wr_truth (T : Nat → Int) (n : Nat) (u : wP) : wP := wr_seq T n u wr_opA
noncomputable def wr_cond (T : Nat → Int) (n : Nat) (u : wP) : wP := wr_seq T n (wr_truth T n u) wr_opO
noncomputable def wr_unit (T : Nat → Int) (n : Nat) : Nat → wP
  | 0 => fun p => if sg T n (sk T n p) = 33 then (sk T n p, none) else if sg T n (sk T n p) = 40 then (sk T n p, none) else wr_sc T n 0 p
  | k + 1 => fun p => if sg T n (sk T n p) = 33 then wq (wr_unit T n k (sk T n p + 1)) (fun q c => (q, some (c ++ [(9, 0)]))) else if sg T n (sk T n p) = 40 then wr_close T n 41 (wr_cond T n (wr_unit T n k) (sk T n p + 1)) else wr_sc T n (k + 1) p
/-! kinds of codes -/
theorem jw_ty_0 {σ : List Bool} {v : Int} {r : jw_C} (h : σ.length < 40 ∧ 0 ≤ v ∧ v ≤ 9999) : jw_ty σ ((0, v) :: r) = jw_ty (false :: σ) r := by
  conv => lhs; unfold jw_ty
  exact if_pos h
theorem jw_ty_1 {σ : List Bool} {v : Int} {r : jw_C} (h : σ.length < 40 ∧ 0 ≤ v ∧ v ≤ 4) : jw_ty σ ((1, v) :: r) = jw_ty (false :: σ) r := by
  conv => lhs; unfold jw_ty
  exact if_pos h
theorem jw_ty_9 {σ : List Bool} {v : Int} {r : jw_C} : jw_ty (true :: σ) ((9, v) :: r) = jw_ty (true :: σ) r := by
  conv => lhs; unfold jw_ty
  cases σ <;> rfl
theorem jw_ty_n {σ : List Bool} {v : Int} {r : jw_C} {o : Nat} (h : 2 ≤ o ∧ o ≤ 8) : jw_ty (false :: false :: σ) ((o, v) :: r) = jw_ty (decide (6 ≤ o) :: σ) r := by
  have : o = 2 ∨ o = 3 ∨ o = 4 ∨ o = 5 ∨ o = 6 ∨ o = 7 ∨ o = 8 := by omega
  rcases this with rfl | rfl | rfl | rfl | rfl | rfl | rfl <;> (conv => lhs; unfold jw_ty) <;> rfl
theorem jw_ty_b {σ : List Bool} {v : Int} {r : jw_C} {o : Nat} (h : o = 10 ∨ o = 11) : jw_ty (true :: true :: σ) ((o, v) :: r) = jw_ty (true :: σ) r := by
  rcases h with rfl | rfl <;> (conv => lhs; unfold jw_ty) <;> rfl
theorem jw_ty_app : ∀ (a b : jw_C) (σ τ : List Bool), jw_ty σ a = some τ → jw_ty σ (a ++ b) = jw_ty τ b
  | [], b, σ, τ, h => by
    have : some σ = some τ := h
    cases this
    rfl
  | (o, v) :: a, b, σ, τ, h => by
    rcases jw_ty_inv h with ⟨rfl, h1, h2, h3⟩ | ⟨rfl, h1, h2, h3⟩ | ⟨rfl, σ', rfl, h3⟩ | ⟨k, σ', rfl, h1, h3⟩
    · rw [List.cons_append, jw_ty_0 ⟨h1, h2⟩]
      exact jw_ty_app a b _ τ h3
    · rw [List.cons_append, jw_ty_1 ⟨h1, h2⟩]
      exact jw_ty_app a b _ τ h3
    · rw [List.cons_append, jw_ty_9]
      exact jw_ty_app a b _ τ h3
    · rcases h1 with ⟨h1, h2, rfl⟩ | ⟨h1, rfl⟩
      · rw [List.cons_append, jw_ty_n ⟨h1, h2⟩]
        exact jw_ty_app a b _ τ h3
      · rw [List.cons_append, jw_ty_b h1]
        have : decide (6 ≤ o) = true := decide_eq_true (by omega)
        rw [this] at h3
        exact jw_ty_app a b _ τ h3
/-! what a reader keeps -/
def wGd (n : Nat) (f : wP) : Prop := ∀ p, p ≤ n → (p ≤ (f p).1 ∧ (f p).1 ≤ n) ∧ ∀ c, (f p).2 = some c → p + c.length ≤ (f p).1 ∧ p < (f p).1
def wTy (n : Nat) (f : wP) (b : Bool) (h : Nat) : Prop := ∀ p c, p ≤ n → (f p).2 = some c → ∀ σ : List Bool, σ.length + h ≤ 40 → jw_ty σ c = some (b :: σ)
def wOp (op : Int → Option Nat) (b : Bool) : Prop := ∀ c o, op c = some o → c ≠ 0 ∧ ∀ (σ : List Bool) (r : jw_C), jw_ty (b :: b :: σ) ((o, 0) :: r) = jw_ty (b :: σ) r
theorem wOpT : wOp wr_opT false := fun c o h => by
  unfold wr_opT at h
  by_cases h1 : c = 42
  · rw [if_pos h1] at h
    cases h
    exact ⟨by omega, fun σ r => jw_ty_n (by omega)⟩
  · rw [if_neg h1] at h
    by_cases h2 : c = 47
    · rw [if_pos h2] at h
      cases h
      exact ⟨by omega, fun σ r => jw_ty_n (by omega)⟩
    · rw [if_neg h2] at h
      cases h
theorem wOpS : wOp wr_opS false := fun c o h => by
  unfold wr_opS at h
  by_cases h1 : c = 43
  · rw [if_pos h1] at h
    cases h
    exact ⟨by omega, fun σ r => jw_ty_n (by omega)⟩
  · rw [if_neg h1] at h
    by_cases h2 : c = 45
    · rw [if_pos h2] at h
      cases h
      exact ⟨by omega, fun σ r => jw_ty_n (by omega)⟩
    · rw [if_neg h2] at h
      cases h
theorem wOpA : wOp wr_opA true := fun c o h => by
  unfold wr_opA at h
  by_cases h1 : c = 38
  · rw [if_pos h1] at h
    cases h
    exact ⟨by omega, fun σ r => jw_ty_b (by omega)⟩
  · rw [if_neg h1] at h
    cases h
theorem wOpO : wOp wr_opO true := fun c o h => by
  unfold wr_opO at h
  by_cases h1 : c = 124
  · rw [if_pos h1] at h
    cases h
    exact ⟨by omega, fun σ r => jw_ty_b (by omega)⟩
  · rw [if_neg h1] at h
    cases h
theorem wr_opC_i {c : Int} {o : Nat} (h : wr_opC c = some o) : (c ≠ 0 ∧ (6 ≤ o ∧ o ≤ 8)) ∧ (c = jw_chr o ∧ (c = 61 ∨ c = 60 ∨ c = 62)) := by
  unfold wr_opC at h
  by_cases h1 : c = 61
  · rw [if_pos h1] at h
    cases h
    exact ⟨by omega, h1, by omega⟩
  · rw [if_neg h1] at h
    by_cases h2 : c = 60
    · rw [if_pos h2] at h
      cases h
      exact ⟨by omega, h2, by omega⟩
    · rw [if_neg h2] at h
      by_cases h3 : c = 62
      · rw [if_pos h3] at h
        cases h
        exact ⟨by omega, h3, by omega⟩
      · rw [if_neg h3] at h
        cases h
theorem wr_loop_ok {T : Nat → Int} {n : Nat} {f : wP} {op : Int → Option Nat} {b : Bool} {h : Nat} (hg : wGd n f) (ht : wTy n f b h) (ho : wOp op b) : ∀ (m p : Nat) (acc : jw_C), p ≤ n → ((p ≤ (wr_loop T n f op m p acc).1 ∧ (wr_loop T n f op m p acc).1 ≤ n) ∧ ∀ c, (wr_loop T n f op m p acc).2 = some c → (p + c.length ≤ (wr_loop T n f op m p acc).1 + acc.length) ∧ ((∀ σ : List Bool, σ.length + (h + 1) ≤ 40 → jw_ty σ acc = some (b :: σ)) → ∀ σ : List Bool, σ.length + (h + 1) ≤ 40 → jw_ty σ c = some (b :: σ)))
  | 0, p, acc, hp => ⟨⟨Nat.le_refl _, hp⟩, fun c hc => by
    have hc : some acc = some c := hc
    cases hc
    exact ⟨Nat.le_refl _, fun q => q⟩⟩
  | m + 1, p, acc, hp => by
    have hs := sk_b (T := T) hp
    cases e : op (sg T n (sk T n p)) with
    | none =>
      rw [wr_loop_n e]
      refine ⟨hs, fun c hc => ?_⟩
      have hc : some acc = some c := hc
      cases hc
      exact ⟨by show p + acc.length ≤ sk T n p + acc.length; omega, fun q => q⟩
    | some o =>
      obtain ⟨o0, o1⟩ := ho _ o e
      have sq := sg_lt o0
      obtain ⟨⟨f1, f2⟩, f3⟩ := hg (sk T n p + 1) sq
      rw [wr_loop_s e]
      cases ef : (f (sk T n p + 1)).2 with
      | none =>
        rw [wq_n ef]
        exact ⟨⟨by show p ≤ (f (sk T n p + 1)).1; omega, f2⟩, fun c hc => by cases hc⟩
      | some d =>
        rw [wq_s ef]
        obtain ⟨f4, f5⟩ := f3 d ef
        obtain ⟨⟨l1, l2⟩, l3⟩ := wr_loop_ok (T := T) hg ht ho m (f (sk T n p + 1)).1 (acc ++ (d ++ [(o, 0)])) f2
        refine ⟨⟨by omega, l2⟩, fun c hc => ?_⟩
        obtain ⟨l4, l5⟩ := l3 c hc
        rw [List.length_append, List.length_append, List.length_singleton] at l4
        refine ⟨by omega, fun q => l5 (fun σ hσ => ?_)⟩
        rw [jw_ty_app acc _ σ _ (q σ hσ), jw_ty_app d _ (b :: σ) _ (ht _ d sq ef (b :: σ) (by rw [List.length_cons]; omega)), o1]
        rfl
theorem wr_seq_ok {T : Nat → Int} {n : Nat} {f : wP} {op : Int → Option Nat} {b : Bool} {h : Nat} (hg : wGd n f) (ht : wTy n f b h) (ho : wOp op b) : wGd n (wr_seq T n f op) ∧ wTy n (wr_seq T n f op) b (h + 1) := by
  have key : ∀ p, p ≤ n → ((p ≤ (wr_seq T n f op p).1 ∧ (wr_seq T n f op p).1 ≤ n) ∧ ∀ c, (wr_seq T n f op p).2 = some c → (p + c.length ≤ (wr_seq T n f op p).1 ∧ p < (wr_seq T n f op p).1) ∧ ∀ σ : List Bool, σ.length + (h + 1) ≤ 40 → jw_ty σ c = some (b :: σ)) := fun p hp => by
    obtain ⟨⟨f1, f2⟩, f3⟩ := hg p hp
    unfold wr_seq
    cases ef : (f p).2 with
    | none =>
      rw [wq_n ef]
      exact ⟨⟨f1, f2⟩, fun c hc => by cases hc⟩
    | some d =>
      rw [wq_s ef]
      obtain ⟨f4, f5⟩ := f3 d ef
      obtain ⟨⟨l1, l2⟩, l3⟩ := wr_loop_ok (T := T) hg ht ho (n + 1) (f p).1 d f2
      refine ⟨⟨by omega, l2⟩, fun c hc => ?_⟩
      obtain ⟨l4, l5⟩ := l3 c hc
      exact ⟨⟨by omega, by omega⟩, l5 (fun σ hσ => ht p d hp ef σ (by omega))⟩
  exact ⟨fun p hp => ⟨(key p hp).1, fun c hc => ((key p hp).2 c hc).1⟩, fun p c hp hc => ((key p hp).2 c hc).2⟩
