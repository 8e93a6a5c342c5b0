/-! PHASE 1: the constructors, by computing -/
/-- calls, of n steps at most each, d in one another -/
def ja_xc (φ : Bool) (n : Nat) : Nat → ja_E
  | 0 => fun _ _ _ => none
  | d + 1 => fun y as M => cond (Nat.ble (ja_argL as).length (ja_maxL y)) (ja_it φ (ja_xc φ n d) (ja_code y) n 0 (ja_pad (ja_maxL y) (ja_argL as)) [] M) none
def jd_le (E E' : ja_E) : Prop := ∀ y as M r, E y as M = some r → E' y as M = some r
def jd_P (h : ja_H) : Prop := ∀ (φ : Bool) (E E' : ja_E) (a : ja_I) (i : Nat) (L : ja_L) (S : List ja_V) (M : ja_M) (κ : ja_K) (r : ja_R), jd_le E E' → h φ E a i L S M κ = some r → h φ E' a i L S M κ = some r
theorem jd_back {b : Nat} {o o' : Option ja_R} {i : Nat} {L : ja_L} {S : List ja_V} {κ : ja_K} {r : ja_R} (ho : ∀ r, o = some r → o' = some r) (h : ja_back b o i L S κ = some r) : ja_back b o' i L S κ = some r := by
  cases o with
  | none =>
    exfalso
    revert h
    unfold ja_back
    split <;> (intro h; cases h)
  | some x => rw [ho x rfl]; exact h
theorem jd_callV : jd_P jh_callV := by
  intro φ E E' a i L S M κ r hE h
  unfold jh_callV at h ⊢
  split at h
  · rename_i c S' e
    obtain ⟨h1, h2⟩ := jb_cond h
    show cond (ja_ckV φ M c a.2.1 S' L S) _ none = some r
    rw [h1]
    exact jd_back (fun r h => hE _ _ _ _ h) h2
  · cases h
theorem jd_callI : jd_P jh_callI := by
  intro φ E E' a i L S M κ r hE h
  unfold jh_callI at h ⊢
  split at h
  · rename_i c S' e
    obtain ⟨h1, h2⟩ := jb_cond h
    show cond (ja_ckI φ M c S' L S) _ none = some r
    rw [h1]
    exact jd_back (fun r h => hE _ _ _ _ h) h2
  · cases h
theorem jd_callS : jd_P jh_callS := by
  intro φ E E' a i L S M κ r hE h
  unfold jh_callS at h ⊢
  obtain ⟨h1, h2⟩ := jb_cond h
  rw [h1]
  exact jd_back (fun r h => hE _ _ _ _ h) h2
theorem jd_hs : ∀ h ∈ ja_hs, jd_P h := by
  unfold ja_hs
  refine List.forall_mem_cons.mpr ⟨fun _ _ _ _ _ _ _ _ _ _ _ h => h, ?_⟩
  refine List.forall_mem_cons.mpr ⟨fun _ _ _ _ _ _ _ _ _ _ _ h => h, ?_⟩
  refine List.forall_mem_cons.mpr ⟨fun _ _ _ _ _ _ _ _ _ _ _ h => h, ?_⟩
  refine List.forall_mem_cons.mpr ⟨fun _ _ _ _ _ _ _ _ _ _ _ h => h, ?_⟩
  refine List.forall_mem_cons.mpr ⟨fun _ _ _ _ _ _ _ _ _ _ _ h => h, ?_⟩
  refine List.forall_mem_cons.mpr ⟨fun _ _ _ _ _ _ _ _ _ _ _ h => h, ?_⟩
  refine List.forall_mem_cons.mpr ⟨fun _ _ _ _ _ _ _ _ _ _ _ h => h, ?_⟩
  refine List.forall_mem_cons.mpr ⟨fun _ _ _ _ _ _ _ _ _ _ _ h => h, ?_⟩
  refine List.forall_mem_cons.mpr ⟨fun _ _ _ _ _ _ _ _ _ _ _ h => h, ?_⟩
  refine List.forall_mem_cons.mpr ⟨fun _ _ _ _ _ _ _ _ _ _ _ h => h, ?_⟩
  refine List.forall_mem_cons.mpr ⟨fun _ _ _ _ _ _ _ _ _ _ _ h => h, ?_⟩
  refine List.forall_mem_cons.mpr ⟨fun _ _ _ _ _ _ _ _ _ _ _ h => h, ?_⟩
  refine List.forall_mem_cons.mpr ⟨fun _ _ _ _ _ _ _ _ _ _ _ h => h, ?_⟩
  refine List.forall_mem_cons.mpr ⟨fun _ _ _ _ _ _ _ _ _ _ _ h => h, ?_⟩
  refine List.forall_mem_cons.mpr ⟨fun _ _ _ _ _ _ _ _ _ _ _ h => h, ?_⟩
  refine List.forall_mem_cons.mpr ⟨fun _ _ _ _ _ _ _ _ _ _ _ h => h, ?_⟩
  refine List.forall_mem_cons.mpr ⟨fun _ _ _ _ _ _ _ _ _ _ _ h => h, ?_⟩
  refine List.forall_mem_cons.mpr ⟨fun _ _ _ _ _ _ _ _ _ _ _ h => h, ?_⟩
  refine List.forall_mem_cons.mpr ⟨fun _ _ _ _ _ _ _ _ _ _ _ h => h, ?_⟩
  refine List.forall_mem_cons.mpr ⟨fun _ _ _ _ _ _ _ _ _ _ _ h => h, ?_⟩
  refine List.forall_mem_cons.mpr ⟨fun _ _ _ _ _ _ _ _ _ _ _ h => h, ?_⟩
  refine List.forall_mem_cons.mpr ⟨fun _ _ _ _ _ _ _ _ _ _ _ h => h, ?_⟩
  refine List.forall_mem_cons.mpr ⟨fun _ _ _ _ _ _ _ _ _ _ _ h => h, ?_⟩
  refine List.forall_mem_cons.mpr ⟨fun _ _ _ _ _ _ _ _ _ _ _ h => h, ?_⟩
  refine List.forall_mem_cons.mpr ⟨fun _ _ _ _ _ _ _ _ _ _ _ h => h, ?_⟩
  refine List.forall_mem_cons.mpr ⟨fun _ _ _ _ _ _ _ _ _ _ _ h => h, ?_⟩
  refine List.forall_mem_cons.mpr ⟨fun _ _ _ _ _ _ _ _ _ _ _ h => h, ?_⟩
  refine List.forall_mem_cons.mpr ⟨fun _ _ _ _ _ _ _ _ _ _ _ h => h, ?_⟩
  refine List.forall_mem_cons.mpr ⟨fun _ _ _ _ _ _ _ _ _ _ _ h => h, ?_⟩
  refine List.forall_mem_cons.mpr ⟨fun _ _ _ _ _ _ _ _ _ _ _ h => h, ?_⟩
  refine List.forall_mem_cons.mpr ⟨fun _ _ _ _ _ _ _ _ _ _ _ h => h, ?_⟩
  refine List.forall_mem_cons.mpr ⟨fun _ _ _ _ _ _ _ _ _ _ _ h => h, ?_⟩
  refine List.forall_mem_cons.mpr ⟨fun _ _ _ _ _ _ _ _ _ _ _ h => h, ?_⟩
  refine List.forall_mem_cons.mpr ⟨fun _ _ _ _ _ _ _ _ _ _ _ h => h, ?_⟩
  refine List.forall_mem_cons.mpr ⟨fun _ _ _ _ _ _ _ _ _ _ _ h => h, ?_⟩
  refine List.forall_mem_cons.mpr ⟨fun _ _ _ _ _ _ _ _ _ _ _ h => h, ?_⟩
  refine List.forall_mem_cons.mpr ⟨fun _ _ _ _ _ _ _ _ _ _ _ h => h, ?_⟩
  refine List.forall_mem_cons.mpr ⟨fun _ _ _ _ _ _ _ _ _ _ _ h => h, ?_⟩
  refine List.forall_mem_cons.mpr ⟨fun _ _ _ _ _ _ _ _ _ _ _ h => h, ?_⟩
  refine List.forall_mem_cons.mpr ⟨fun _ _ _ _ _ _ _ _ _ _ _ h => h, ?_⟩
  refine List.forall_mem_cons.mpr ⟨fun _ _ _ _ _ _ _ _ _ _ _ h => h, ?_⟩
  refine List.forall_mem_cons.mpr ⟨fun _ _ _ _ _ _ _ _ _ _ _ h => h, ?_⟩
  refine List.forall_mem_cons.mpr ⟨fun _ _ _ _ _ _ _ _ _ _ _ h => h, ?_⟩
  refine List.forall_mem_cons.mpr ⟨jd_callV, ?_⟩
  refine List.forall_mem_cons.mpr ⟨jd_callS, ?_⟩
  refine List.forall_mem_cons.mpr ⟨jd_callI, ?_⟩
  refine List.forall_mem_cons.mpr ⟨fun _ _ _ _ _ _ _ _ _ _ _ h => h, ?_⟩
  refine List.forall_mem_cons.mpr ⟨fun _ _ _ _ _ _ _ _ _ _ _ h => h, ?_⟩
  refine List.forall_mem_cons.mpr ⟨fun _ _ _ _ _ _ _ _ _ _ _ h => h, ?_⟩
  refine List.forall_mem_cons.mpr ⟨fun _ _ _ _ _ _ _ _ _ _ _ h => h, ?_⟩
  refine List.forall_mem_cons.mpr ⟨fun _ _ _ _ _ _ _ _ _ _ _ h => h, ?_⟩
  refine List.forall_mem_cons.mpr ⟨fun _ _ _ _ _ _ _ _ _ _ _ h => h, ?_⟩
  refine List.forall_mem_cons.mpr ⟨fun _ _ _ _ _ _ _ _ _ _ _ h => h, ?_⟩
  refine List.forall_mem_cons.mpr ⟨fun _ _ _ _ _ _ _ _ _ _ _ h => h, ?_⟩
  refine List.forall_mem_cons.mpr ⟨fun _ _ _ _ _ _ _ _ _ _ _ h => h, ?_⟩
  refine List.forall_mem_cons.mpr ⟨fun _ _ _ _ _ _ _ _ _ _ _ h => h, ?_⟩
  refine List.forall_mem_cons.mpr ⟨fun _ _ _ _ _ _ _ _ _ _ _ h => h, ?_⟩
  refine List.forall_mem_cons.mpr ⟨fun _ _ _ _ _ _ _ _ _ _ _ h => h, ?_⟩
  refine List.forall_mem_cons.mpr ⟨fun _ _ _ _ _ _ _ _ _ _ _ h => h, ?_⟩
  refine List.forall_mem_cons.mpr ⟨fun _ _ _ _ _ _ _ _ _ _ _ h => h, ?_⟩
  refine List.forall_mem_cons.mpr ⟨fun _ _ _ _ _ _ _ _ _ _ _ h => h, ?_⟩
  refine List.forall_mem_cons.mpr ⟨fun _ _ _ _ _ _ _ _ _ _ _ h => h, ?_⟩
  exact fun _ h => absurd h List.not_mem_nil
theorem jd_h {φ : Bool} {E E' : ja_E} {a : ja_I} {i : Nat} {L : ja_L} {S : List ja_V} {M : ja_M} {κ : ja_K} {r : ja_R} (hE : jd_le E E') (h : ja_h φ E a i L S M κ = some r) : ja_h φ E' a i L S M κ = some r :=
  ja_nthP (P := jd_P) (d := jh_none) (fun _ _ _ _ _ _ _ _ _ _ _ h => h) ja_hs jd_hs a.1 φ E E' a i L S M κ r hE h
theorem jd_it {φ : Bool} {E E' : ja_E} (hE : jd_le E E') (c : List ja_I) : ∀ (n i : Nat) (L : ja_L) (S : List ja_V) (M : ja_M) (r : ja_R), ja_it φ E c n i L S M = some r → ja_it φ E' c n i L S M = some r
  | 0, _, _, _, _, _, h => by cases h
  | n + 1, i, L, S, M, r, h => by
    have h : ja_step φ E c (ja_it φ E c n) i L S M = some r := h
    show ja_step φ E' c (ja_it φ E' c n) i L S M = some r
    rw [ja_step_eq] at h ⊢
    have h1 := jd_h hE h
    rcases ja_hT φ E' (ja_nth c i ja_row0) i (ja_mask (ja_nth c i ja_row0).2.2.2.2.2 L) S M with ⟨o, ho⟩ | ⟨i', L', S', M', ht⟩
    · rw [ho] at h1 ⊢
      exact h1
    · rw [ht] at h1 ⊢
      exact jd_it hE c n _ _ _ _ _ h1
theorem jd_itK {φ : Bool} {E E' : ja_E} (hE : jd_le E E') (c : List ja_I) (κ : ja_K) : ∀ (n i : Nat) (L : ja_L) (S : List ja_V) (M : ja_M) (r : ja_R), ja_itK φ E c κ n i L S M = some r → ja_itK φ E' c κ n i L S M = some r
  | 0, _, _, _, _, _, h => by cases h
  | n + 1, i, L, S, M, r, h => by
    have h : (match κ i L S M with
      | some r => some r
      | none => ja_step φ E c (ja_itK φ E c κ n) i L S M) = some r := h
    show (match κ i L S M with
      | some r => some r
      | none => ja_step φ E' c (ja_itK φ E' c κ n) i L S M) = some r
    cases hk : κ i L S M with
    | some x =>
      rw [hk] at h
      exact h
    | none =>
      rw [hk] at h
      have h : ja_step φ E c (ja_itK φ E c κ n) i L S M = some r := h
      show ja_step φ E' c (ja_itK φ E' c κ n) i L S M = some r
      rw [ja_step_eq] at h ⊢
      have h1 := jd_h hE h
      rcases ja_hT φ E' (ja_nth c i ja_row0) i (ja_mask (ja_nth c i ja_row0).2.2.2.2.2 L) S M with ⟨o, ho⟩ | ⟨i', L', S', M', ht⟩
      · rw [ho] at h1 ⊢
        exact h1
      · rw [ht] at h1 ⊢
        exact jd_itK hE c κ n _ _ _ _ _ h1
theorem jd_xc (φ : Bool) (n : Nat) : ∀ d, jd_le (ja_xc φ n d) (ja_x φ d)
  | 0 => fun _ _ _ _ h => by cases h
  | d + 1 => by
    intro y as M r h
    have h : cond (Nat.ble (ja_argL as).length (ja_maxL y)) (ja_it φ (ja_xc φ n d) (ja_code y) n 0 (ja_pad (ja_maxL y) (ja_argL as)) [] M) none = some r := h
    obtain ⟨h1, h2⟩ := jb_cond h
    rw [ja_x_eq, h1]
    exact ja_D_of (jd_it (jd_xc φ n d) (ja_code y) n _ _ _ _ _ h2)
/-- more calls in one another do no harm -/
theorem jd_mono (φ : Bool) : ∀ d, jd_le (ja_x φ d) (ja_x φ (d + 1))
  | 0 => fun _ _ _ _ h => by cases h
  | d + 1 => by
    intro y as M r h
    rw [ja_x_eq] at h ⊢
    obtain ⟨h1, h2⟩ := jb_cond h
    rw [h1]
    obtain ⟨n, hn⟩ := ja_D_ex h2
    exact ja_D_of (jd_it (jd_mono φ d) (ja_code y) n _ _ _ _ _ hn)
theorem jd_monoK (φ : Bool) (d : Nat) : ∀ k, jd_le (ja_x φ d) (ja_x φ (d + k))
  | 0 => fun _ _ _ _ h => h
  | k + 1 => fun y as M r h => jd_mono φ (d + k) y as M r (jd_monoK φ d k y as M r h)
/-- another goal at the same places -/
theorem jd_goal {φ : Bool} {E : ja_E} {c : List ja_I} {κ0 κ : ja_K} {r0 r : ja_R} (h0 : ∀ i L S M, κ0 i L S M = some r0 → κ i L S M = some r) (h1 : ∀ i L S M, κ0 i L S M = none → κ i L S M = none) : ∀ (n i : Nat) (L : ja_L) (S : List ja_V) (M : ja_M), ja_it φ E c n i L S M = none → ja_itK φ E c κ0 n i L S M = some r0 → ja_itK φ E c κ n i L S M = some r
  | 0, _, _, _, _, _, h => by cases h
  | n + 1, i, L, S, M, hN, h => by
    have hN : ja_step φ E c (ja_it φ E c n) i L S M = none := hN
    have h : (match κ0 i L S M with
      | some r => some r
      | none => ja_step φ E c (ja_itK φ E c κ0 n) i L S M) = some r0 := h
    show (match κ i L S M with
      | some r => some r
      | none => ja_step φ E c (ja_itK φ E c κ n) i L S M) = some r
    cases hk : κ0 i L S M with
    | some x =>
      rw [hk] at h
      have h : some x = some r0 := h
      rw [h] at hk
      rw [h0 i L S M hk]
    | none =>
      rw [hk] at h
      have h : ja_step φ E c (ja_itK φ E c κ0 n) i L S M = some r0 := h
      rw [h1 i L S M hk]
      show ja_step φ E c (ja_itK φ E c κ n) i L S M = some r
      rw [ja_step_eq] at h hN ⊢
      rcases ja_hT φ E (ja_nth c i ja_row0) i (ja_mask (ja_nth c i ja_row0).2.2.2.2.2 L) S M with ⟨o, ho⟩ | ⟨i', L', S', M', ht⟩
      · rw [ho] at h hN
        rw [h] at hN
        cases hN
      · rw [ht] at h hN ⊢
        exact jd_goal h0 h1 n _ _ _ _ hN h
/-- the start: nothing is made, LEAST stands for the script, whose place is 176 -/
def jd_M0 : ja_M := fun c i => if c = 0 then (if i = 4 then 5 else 0) else if c = 175 then ja_ro 173 i else 0
def jd_L0 : ja_L := [some (jr 176), none, none, none, none, none, none]
def jd_L1 : ja_L := [some (jr 176), some (jr 1), some (jr 137), some (jr 171), some (ji 0), none, none]
def jd_κ0 : ja_K := fun i L S M => cond (Nat.beq i 13 && (decide (L = jd_L1) && decide (S = []))) (some (none, M)) none
def jd_at (M : ja_M) (c i : Nat) : Bool := cond (Nat.beq (ja_ft (ja_kd c).1 i) 3) (Nat.beq (ja_rd false M c i) (ja_rd true M c i)) (decide (M c i = if (c = 15 ∧ i = 5) ∨ (c = 137 ∧ i = 33) then -1 else 0))
def jd_ck (M : ja_M) : Bool := (decide (M 0 0 = 171) && (decide (M 0 1 = 171) && (decide (0 ≤ M 0 2 ∧ M 0 2 ≤ 20000)))) && (decide (M 93 4 = 0) && (List.range 172).all (fun c => cond (Nat.blt (ja_kd c).1 13) ((List.range (ja_kd c).2).all (fun i => jd_at M c i)) true))
set_option maxRecDepth 100000 in
theorem jd_run0 : (ja_it false (ja_xc false 400 6) k_Law_law 14 0 jd_L0 [] jd_M0).isNone = true := by decide +kernel
set_option maxRecDepth 100000 in
theorem jd_run1 : (match ja_itK false (ja_xc false 400 6) k_Law_law jd_κ0 14 0 jd_L0 [] jd_M0 with
  | some (none, M) => jd_ck M
  | _ => false) = true := by decide +kernel
theorem jd_run : ∃ M1, ja_itK false (ja_xc false 400 6) k_Law_law jd_κ0 14 0 jd_L0 [] jd_M0 = some (none, M1) ∧ jd_ck M1 = true := by
  have h := jd_run1
  split at h
  · rename_i M e
    exact ⟨M, e, h⟩
  · cases h
