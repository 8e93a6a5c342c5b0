/-! reading: worths, the other side's clauses -/
def wflat : jw_S → jw_C
  | [] => []
  | (t, s) :: r => t ++ s ++ wflat r
theorem wflat_app (S : jw_S) (t s : jw_C) : wflat (S ++ [(t, s)]) = wflat S ++ (t ++ s) := by
  induction S with
  | nil =>
    show t ++ s ++ [] = [] ++ (t ++ s)
    rw [List.append_nil, List.nil_append]
  | cons x r ih =>
    obtain ⟨a, b⟩ := x
    show a ++ b ++ wflat (r ++ [(t, s)]) = a ++ b ++ wflat r ++ (t ++ s)
    rw [ih, List.append_assoc (a ++ b)]
theorem wflat_len (S : jw_S) : (wflat S).length = jw_len S := by
  induction S with
  | nil => rfl
  | cons x r ih =>
    obtain ⟨a, b⟩ := x
    show (a ++ b ++ wflat r).length = a.length + b.length + jw_len r
    rw [List.length_append, List.length_append, ih]
def md (N : ja_M) (k : Nat) : Nat → Nat → jw_S → Prop
  | _, _, [] => True
  | c, off, (t, s) :: r => (N 143 (90 * k + c) = (off : Int) ∧ N 144 (90 * k + c) = ((off + t.length : Nat) : Int) ∧ N 145 (90 * k + c) = ((off + t.length + s.length : Nat) : Int)) ∧ md N k (c + 1) (off + t.length + s.length) r
theorem md_app {N : ja_M} {k : Nat} {t s : jw_C} : ∀ (S : jw_S) (c off : Nat), md N k c off S → (N 143 (90 * k + (c + S.length)) = ((off + jw_len S : Nat) : Int) ∧ N 144 (90 * k + (c + S.length)) = ((off + jw_len S + t.length : Nat) : Int) ∧ N 145 (90 * k + (c + S.length)) = ((off + jw_len S + t.length + s.length : Nat) : Int)) → md N k c off (S ++ [(t, s)])
  | [], c, off, _, h => ⟨h, trivial⟩
  | (a, b) :: r, c, off, hm, h => by
    refine ⟨hm.1, md_app r (c + 1) (off + a.length + b.length) hm.2 ?_⟩
    rw [show c + 1 + r.length = c + ((a, b) :: r).length by rw [List.length_cons]; omega, show off + a.length + b.length + jw_len r = off + jw_len ((a, b) :: r) by show _ = off + (a.length + b.length + jw_len r); omega]
    exact h
theorem md_congr {N N' : ja_M} {k : Nat} : ∀ (S : jw_S) (c off : Nat), (∀ i, c ≤ i → i < c + S.length → N' 143 (90 * k + i) = N 143 (90 * k + i) ∧ N' 144 (90 * k + i) = N 144 (90 * k + i) ∧ N' 145 (90 * k + i) = N 145 (90 * k + i)) → md N k c off S → md N' k c off S
  | [], _, _, _, _ => trivial
  | (a, b) :: r, c, off, h, hm => by
    obtain ⟨h1, h2, h3⟩ := h c (Nat.le_refl _) (by rw [List.length_cons]; omega)
    exact ⟨⟨h1.trans hm.1.1, h2.trans hm.1.2.1, h3.trans hm.1.2.2⟩, md_congr r (c + 1) _ (fun i x y => h i (by omega) (by rw [List.length_cons]; omega)) hm.2⟩
def rF2 (N : ja_M) (t : Nat) (N' : ja_M) : Prop := ∀ c i, ¬ (c = 137 ∧ (i = 3 ∨ i = 4 ∨ i = 5)) → ¬ ((c = 139 ∨ c = 140) ∧ (340 * t ≤ i ∧ i < 340 * t + 340)) → ¬ ((c = 141 ∨ c = 142) ∧ i = t) → ¬ ((143 ≤ c ∧ c ≤ 145) ∧ (90 * t ≤ i ∧ i < 90 * t + 90)) → N' c i = N c i
def fC (N : ja_M) (t f : Nat) (N' : ja_M) : Prop := N' 137 4 = (f : Int) ∧ N' 137 14 = (t : Int) ∧ rF2 N t N'
theorem rF2.rf (N : ja_M) (t : Nat) : rF2 N t N := fun _ _ _ _ _ _ => rfl
theorem rF2.tr {A B C : ja_M} {t : Nat} (h : rF2 A t B) (k : rF2 B t C) : rF2 A t C := fun c i w x y z => (k c i w x y z).trans (h c i w x y z)
theorem rF2.up {A B : ja_M} {t c i : Nat} {v : Int} (h : rF2 A t B) (q : (c = 137 ∧ (i = 3 ∨ i = 4 ∨ i = 5)) ∨ ((c = 141 ∨ c = 142) ∧ i = t) ∨ ((143 ≤ c ∧ c ≤ 145) ∧ (90 * t ≤ i ∧ i < 90 * t + 90))) : rF2 A t (ja_up B c i v) := fun d j w x y z => by
  have : ¬ (d = c ∧ j = i) := fun e => by
    obtain ⟨rfl, rfl⟩ := e
    rcases q with q | q | q
    · exact w q
    · exact y q
    · exact z q
  rw [jz_up, if_neg this]
  exact h d j w x y z
theorem fS.C {A N : ja_M} {t f K : Nat} {N' : ja_M} (h : fS N t f K N') (a : rF2 A t N) : fC A t f N' := ⟨h.1, h.2.1, fun c i w x y z => (h.2.2.2 c i w x (fun q => y (by omega))).trans (a c i w x y z)⟩
theorem fC.up {N : ja_M} {t f c i : Nat} {N' : ja_M} {v : Int} (h : fC N t f N') (q : (c = 137 ∧ (i = 3 ∨ i = 5)) ∨ ((c = 141 ∨ c = 142) ∧ i = t) ∨ ((143 ≤ c ∧ c ≤ 145) ∧ (90 * t ≤ i ∧ i < 90 * t + 90))) : fC N t f (ja_up N' c i v) := by
  refine ⟨?_, ?_, h.2.2.up (by omega)⟩
  · rw [jz_up, if_neg (fun e => by omega)]
    exact h.1
  · rw [jz_up, if_neg (fun e => by omega)]
    exact h.2.1
theorem fC_n {N : ja_M} {t f : Nat} {N' : ja_M} (h : fC N t f N') : N' 137 4 ≠ -1 := by
  rw [h.1]
  omega
theorem rM_up {N : ja_M} {t d c i : Nat} {cs : jw_C} {v : Int} (h : 142 ≤ c) : ja_up (rM N t d cs) c i v = rM (ja_up N c i v) t d cs := by
  funext e j
  rw [jz_up]
  unfold rM
  by_cases q : e = c ∧ j = i
  · rw [if_pos q, if_neg (fun w => by omega), if_neg (fun w => by omega), if_neg (fun w => by omega), if_neg (fun w => by omega), jz_up, if_pos q]
  · rw [if_neg q]
    by_cases h1 : e = 137 ∧ j = 5
    · rw [if_pos h1, if_pos h1]
    · rw [if_neg h1, if_neg h1]
      by_cases h2 : e = 141 ∧ j = t
      · rw [if_pos h2, if_pos h2]
      · rw [if_neg h2, if_neg h2]
        by_cases h3 : e = 139 ∧ (340 * t ≤ j ∧ j < 340 * t + cs.length)
        · rw [if_pos h3, if_pos h3]
        · rw [if_neg h3, if_neg h3]
          by_cases h4 : e = 140 ∧ (340 * t ≤ j ∧ j < 340 * t + cs.length)
          · rw [if_pos h4, if_pos h4]
          · rw [if_neg h4, if_neg h4, jz_up, if_neg q]
theorem bR.up {N : ja_M} {T : Nat → Int} {n t c i : Nat} {v : Int} (h : bR N T n t) (hc : 142 ≤ c) : bR (ja_up N c i v) T n t := by
  refine ⟨⟨?_, fun j hj => ?_⟩, ?_, ?_, h.2.2.2⟩
  · rw [jb_up_ne (by omega)]
    exact h.1.1
  · rw [jb_up_ne (by omega)]
    exact h.1.2 j hj
  · rw [jb_up_ne (by omega)]
    exact h.2.1
  · rw [jb_up_ne (by omega)]
    exact h.2.2.1
theorem rM_len {N : ja_M} {t d p : Nat} {cs : jw_C} : (atR (rM N t d cs) p) 141 t = (cs.length : Int) := by
  show (ja_up (rM N t d cs) 137 3 (p : Int)) 141 t = _
  rw [jb_up_ne (by decide)]
  unfold rM
  rw [if_neg (fun q => by omega), if_pos ⟨rfl, rfl⟩]
/-- the clause's end -/
theorem js_R_134 (E : ja_E) {M : ja_M} {t k : Nat} {v w : Int} (h14 : M 137 14 = (t : Int)) (ht : t < 5) (hk : k < 90) (h141 : M 141 t = v) (h142 : M 142 t = w) (hw : 0 ≤ w ∧ w ≤ 100) : ja_D true E k_R_clause 134 [some (jr 137), some (ji ((90 * t + k : Nat) : Int)), none] [] M = some (none, ja_up (ja_up M 145 (90 * t + k) v) 142 t (w + 1)) := by
  have e1 : (ja_up M 145 (90 * t + k) v) 137 14 = (t : Int) := (jb_up_ne (by decide)).trans h14
  have e2 : (ja_up M 145 (90 * t + k) v) 142 t = w := (jb_up_ne (by decide)).trans h142
  rw [e_R_clause_134, h14, if_pos (by omega), if_pos (by omega), show ((t : Int)).toNat = t from rfl, h141, show (((90 * t + k : Nat) : Int)).toNat = 90 * t + k from rfl, e1, if_pos (by omega), if_pos (by omega), show ((t : Int)).toNat = t from rfl, e2, ja_w_id (by omega) (by omega)]
theorem js_R_134F (E : ja_E) {N M : ja_M} {t k f : Nat} (h : fC N t f M) (ht : t < 5) (hk : k < 90) : ∃ N', ja_D true E k_R_clause 134 [some (jr 137), some (ji ((90 * t + k : Nat) : Int)), none] [] M = some (none, N') ∧ fC N t f N' := by
  have e1 : (ja_up M 145 (90 * t + k) (M 141 t)) 137 14 = (t : Int) := (jb_up_ne (by decide)).trans h.2.1
  rw [e_R_clause_134, h.2.1, if_pos (by omega), if_pos (by omega), show ((t : Int)).toNat = t from rfl, show (((90 * t + k : Nat) : Int)).toNat = 90 * t + k from rfl, e1, if_pos (by omega), if_pos (by omega), show ((t : Int)).toNat = t from rfl]
  exact ⟨_, rfl, (h.up (by omega)).up (by omega)⟩
theorem js_R_96F (E : ja_E) {N M : ja_M} {t k f : Nat} {l : Int} (h : fC N t f M) (ht : t < 5) (hk : k < 90) : ∃ N', ja_D true E k_R_clause 96 [some (jr 137), some (ji ((90 * t + k : Nat) : Int)), some (ji l)] [] M = some (none, N') ∧ fC N t f N' := by
  have h2 : fC N t f (ja_up M 144 (90 * t + k) (M 143 (90 * t + k))) := h.up (by omega)
  rw [e_R_clause_96, if_pos (by omega), if_pos (by omega), show (((90 * t + k : Nat) : Int)).toNat = 90 * t + k from rfl, if_neg (fC_n h2)]
  obtain ⟨N', g1, g2⟩ := js_R_134F E h2 ht hk
  rw [g1]
  refine ⟨N', ?_, g2⟩
  split <;> rfl
theorem js_R_37F (E : ja_E) {N M : ja_M} {t f : Nat} {l : Int} (h : fC N t f M) : ∃ N', ja_D true E k_R_clause 37 [some (jr 137), some (ji l), none] [] M = some (none, N') ∧ fC N t f N' := by
  have h2 : fC N t f (ja_up M 137 3 (ja_w (M 137 3 + 1))) := h.up (by omega)
  rw [e_R_clause_37, if_neg (fC_n h2)]
  exact ⟨_, rfl, h2⟩
theorem js_R_21F (E : ja_E) {N M : ja_M} {t f : Nat} {l : Int} (h : fC N t f M) : ∃ N', ja_D true E k_R_clause 21 [some (jr 137), some (ji l), none] [] M = some (none, N') ∧ fC N t f N' := by
  have h2 : fC N t f (ja_up M 137 3 (ja_w (M 137 3 + 1))) := h.up (by omega)
  rw [e_R_clause_21, if_neg (fC_n h2)]
  exact js_R_37F E h2
