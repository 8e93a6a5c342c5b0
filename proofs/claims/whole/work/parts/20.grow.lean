/-! THE WHOLE METHOD: the small machine's answer is the real one's -/
def jp_T (M : ja_M) (g : ja_K → Option ja_R) : Prop := (∃ o, (∀ κ, g κ = o) ∧ ∀ r, o = some r → jb_gr M r.2) ∨ (∃ i L S M', (∀ κ, g κ = κ i L S M') ∧ jb_gr M M')
theorem jp_To {M : ja_M} (o : Option ja_R) (h : ∀ r, o = some r → jb_gr M r.2) : jp_T M (fun _ => o) := Or.inl ⟨o, fun _ => rfl, h⟩
theorem jp_Tn {M : ja_M} : jp_T M (fun _ => none) := Or.inl ⟨none, fun _ => rfl, fun _ h => by cases h⟩
theorem jp_Tk {M : ja_M} (i : Nat) (L : ja_L) (S : List ja_V) (M' : ja_M) (h : jb_gr M M') : jp_T M (fun κ => κ i L S M') := Or.inr ⟨i, L, S, M', fun _ => rfl, h⟩
theorem jp_Ti {M : ja_M} {p : Prop} [h : Decidable p] {f g : ja_K → Option ja_R} (hf : p → jp_T M f) (hg : ¬ p → jp_T M g) : jp_T M (fun κ => if p then f κ else g κ) := by
  cases h with
  | isTrue h => simpa only [h, if_true] using hf h
  | isFalse h => simpa only [h, if_false] using hg h
theorem jp_Tc {M : ja_M} (b : Bool) {f g : ja_K → Option ja_R} (hf : b = true → jp_T M f) (hg : b = false → jp_T M g) : jp_T M (fun κ => cond b (f κ) (g κ)) := by
  cases b
  · exact hg rfl
  · exact hf rfl
theorem jp_Tcmp {M : ja_M} (a : Nat) (x y : Int) {f g : ja_K → Option ja_R} (hf : jp_T M f) (hg : jp_T M g) : jp_T M (fun κ => ja_cmp a x y (f κ) (g κ)) := by
  rcases a with _ | _ | _ | _ | _ | a
  · exact jp_Ti (fun _ => hf) (fun _ => hg)
  · exact jp_Ti (fun _ => hg) (fun _ => hf)
  · exact jp_Ti (fun _ => hf) (fun _ => hg)
  · exact jp_Ti (fun _ => hg) (fun _ => hf)
  · exact jp_Ti (fun _ => hf) (fun _ => hg)
  · exact jp_Ti (fun _ => hg) (fun _ => hf)
theorem jp_Tsw {M : ja_M} (x : Int) (L : ja_L) (S : List ja_V) (n : Nat) : ∀ ts : List (Int × Nat), jp_T M (fun κ => ja_sw x (fun t => κ t L S M) n ts)
  | [] => jp_Tk n L S M (jb_gr.rf M)
  | (_, t) :: r => jp_Ti (fun _ => jp_Tk t L S M (jb_gr.rf M)) (fun _ => jp_Tsw x L S n r)
theorem jp_Tbk {M : ja_M} (b : Nat) (o : Option ja_R) (i : Nat) (L : ja_L) (S : List ja_V) (h : ∀ r, o = some r → jb_gr M r.2) : jp_T M (fun κ => ja_back b o i L S κ) := by
  rcases b with _ | _ | _ | b <;> rcases o with _ | ⟨_ | x | x | x, M'⟩ <;> first | exact jp_Tn | exact jp_Tk _ _ _ _ (h _ rfl)
theorem jp_Tfc {M : ja_M} (L : ja_L) (i : Nat) (S : List ja_V) : jp_T M (fun κ => ja_fc L (fun L => κ i L S M)) := Or.inr ⟨i, L, S, M, fun _ => ja_fc_eq _ _, jb_gr.rf M⟩
/-- a cell that is written is none of the counters and not the script -/
theorem jp_okc {φ : Bool} {M : ja_M} {c : Nat} (h : ja_okc φ M c = true) (hk : (ja_kd c).1 ≠ 111) : c ≠ 0 ∧ c ≠ ja_RO + 2 := by
  refine ⟨fun q => ?_, fun q => ?_⟩
  · subst q
    unfold ja_okc at h
    cases φ <;> simp at h
  · subst q
    exact hk rfl
theorem jp_up {M : ja_M} {c i : Nat} {v : Int} (h : c ≠ 0 ∧ c ≠ ja_RO + 2) : jb_gr M (ja_up M c i v) := by
  refine ⟨?_, ?_, ?_, ?_, fun j => ?_⟩
  · rw [jb_up_ne (Ne.symm h.1)]; exact Int.le_refl _
  · rw [jb_up_ne (Ne.symm h.1)]; exact Int.le_refl _
  · rw [jb_up_ne (Ne.symm h.1)]; exact Int.le_refl _
  · rw [jb_up_ne (Ne.symm h.1)]
  · rw [jb_up_ne (Ne.symm h.2)]
theorem jp_grow {M : ja_M} {n w : Nat} (h : (M 0 0).toNat + n < 175) : jb_gr M (ja_grow M n w) := by
  refine ⟨?_, ?_, ?_, jg_4 M n w, fun j => jg_old (by decide) (Or.inr (by simp only [ja_RO]; omega))⟩
  · rw [jg_0]; omega
  · rw [jg_1]; omega
  · rw [jg_2]; omega
theorem jp_lt {M : ja_M} (h : (ja_kd ((M 0 0).toNat + 1)).1 ≠ 0 ∨ (ja_kd ((M 0 0).toNat + 1)).2 ≠ 0) (h1 : (ja_kd ((M 0 0).toNat + 1)).1 ≠ 110) (h2 : (ja_kd ((M 0 0).toNat + 1)).1 ≠ 111) : (M 0 0).toNat + 1 < 173 := by
  rcases Nat.lt_or_ge ((M 0 0).toNat + 1) 176 with q | q
  · rcases Nat.lt_or_ge ((M 0 0).toNat + 1) 173 with q2 | q2
    · exact q2
    · have : (M 0 0).toNat + 1 = 173 ∨ (M 0 0).toNat + 1 = 174 ∨ (M 0 0).toNat + 1 = 175 := by omega
      rcases this with e | e | e <;> rw [e] at h1 h2 <;> first | exact absurd rfl h1 | exact absurd rfl h2
  · rw [jk_out _ q] at h
    rcases h with h | h <;> exact absurd rfl h
theorem jp_cpy {M : ja_M} {s sp d dp n : Nat} (h : d ≠ 0 ∧ d ≠ ja_RO + 2) : jb_gr M (ja_cpy M s sp d dp n) := by
  have hM : ∀ c i, c ≠ d → ja_cpy M s sp d dp n c i = M c i := fun c i hne => if_neg (fun q => hne q.1)
  refine ⟨?_, ?_, ?_, ?_, fun j => ?_⟩
  · rw [hM _ _ (Ne.symm h.1)]; exact Int.le_refl _
  · rw [hM _ _ (Ne.symm h.1)]; exact Int.le_refl _
  · rw [hM _ _ (Ne.symm h.1)]; exact Int.le_refl _
  · rw [hM _ _ (Ne.symm h.1)]
  · rw [hM _ _ (Ne.symm h.2)]
theorem jp_thr {M : ja_M} : jb_gr M (ja_up (ja_up M 0 1 (M 0 1 + 1)) 0 2 (M 0 2 + 6)) := by
  refine ⟨?_, ?_, ?_, ?_, fun j => ?_⟩
  · rw [jb_up_nej (by decide), jb_up_nej (by decide)]; exact Int.le_refl _
  · rw [jb_up_nej (by decide), jb_up_eq]; omega
  · rw [jb_up_eq]; omega
  · rw [jb_up_nej (by decide), jb_up_nej (by decide)]
  · rw [jb_up_ne (by decide), jb_up_ne (by decide)]
theorem jp_load (φ : Bool) (E : ja_E) (hE : ∀ y as M r, E y as M = some r → jb_gr M r.2) (a : ja_I) (i : Nat) (L : ja_L) (S : List ja_V) (M : ja_M) : jp_T M (jh_load φ E a i L S M) := by
  show jp_T M (fun κ => _)
  unfold jh_load
  generalize L[a.2.1]? = o
  rcases o with _ | _ | v
  all_goals first | exact jp_Tn | exact jp_Tc _ (fun _ => jp_Tk _ _ _ _ (jb_gr.rf M)) (fun _ => jp_Tn)
theorem jp_ipush (φ : Bool) (E : ja_E) (hE : ∀ y as M r, E y as M = some r → jb_gr M r.2) (a : ja_I) (i : Nat) (L : ja_L) (S : List ja_V) (M : ja_M) : jp_T M (jh_ipush φ E a i L S M) := by
  exact jp_Tk _ _ _ _ (jb_gr.rf M)
theorem jp_lpush (φ : Bool) (E : ja_E) (hE : ∀ y as M r, E y as M = some r → jb_gr M r.2) (a : ja_I) (i : Nat) (L : ja_L) (S : List ja_V) (M : ja_M) : jp_T M (jh_lpush φ E a i L S M) := by
  exact jp_Tk _ _ _ _ (jb_gr.rf M)
theorem jp_st1 (φ : Bool) (E : ja_E) (hE : ∀ y as M r, E y as M = some r → jb_gr M r.2) (a : ja_I) (i : Nat) (L : ja_L) (S : List ja_V) (M : ja_M) : jp_T M (jh_st1 φ E a i L S M) := by
  rcases S with _ | ⟨x | x | x, S⟩
  all_goals first | exact jp_Tn | exact jp_Tc _ (fun _ => jp_Tfc _ _ _) (fun _ => jp_Tn)
theorem jp_st2 (φ : Bool) (E : ja_E) (hE : ∀ y as M r, E y as M = some r → jb_gr M r.2) (a : ja_I) (i : Nat) (L : ja_L) (S : List ja_V) (M : ja_M) : jp_T M (jh_st2 φ E a i L S M) := by
  rcases S with _ | ⟨x | x | x, S⟩
  all_goals first | exact jp_Tn | exact jp_Tc _ (fun _ => jp_Tfc _ _ _) (fun _ => jp_Tn)
theorem jp_iinc (φ : Bool) (E : ja_E) (hE : ∀ y as M r, E y as M = some r → jb_gr M r.2) (a : ja_I) (i : Nat) (L : ja_L) (S : List ja_V) (M : ja_M) : jp_T M (jh_iinc φ E a i L S M) := by
  show jp_T M (fun κ => _)
  unfold jh_iinc
  generalize L[a.2.1]? = o
  rcases o with _ | _ | x | x | x
  all_goals first | exact jp_Tn | exact jp_Tfc _ _ _
theorem jp_ibin (φ : Bool) (E : ja_E) (hE : ∀ y as M r, E y as M = some r → jb_gr M r.2) (a : ja_I) (i : Nat) (L : ja_L) (S : List ja_V) (M : ja_M) : jp_T M (jh_ibin φ E a i L S M) := by
  rcases S with _ | ⟨x | x | x, _ | ⟨y | y | y, S⟩⟩
  all_goals first | exact jp_Tn | exact jp_Tk _ _ _ _ (jb_gr.rf M)
theorem jp_idiv (φ : Bool) (E : ja_E) (hE : ∀ y as M r, E y as M = some r → jb_gr M r.2) (a : ja_I) (i : Nat) (L : ja_L) (S : List ja_V) (M : ja_M) : jp_T M (jh_idiv φ E a i L S M) := by
  rcases S with _ | ⟨x | x | x, _ | ⟨y | y | y, S⟩⟩
  all_goals first | exact jp_Tn | exact jp_Tc _ (fun _ => jp_Tn) (fun _ => jp_Tk _ _ _ _ (jb_gr.rf M))
theorem jp_irem (φ : Bool) (E : ja_E) (hE : ∀ y as M r, E y as M = some r → jb_gr M r.2) (a : ja_I) (i : Nat) (L : ja_L) (S : List ja_V) (M : ja_M) : jp_T M (jh_irem φ E a i L S M) := by
  rcases S with _ | ⟨x | x | x, _ | ⟨y | y | y, S⟩⟩
  all_goals first | exact jp_Tn | exact jp_Tc _ (fun _ => jp_Tn) (fun _ => jp_Tk _ _ _ _ (jb_gr.rf M))
theorem jp_ineg (φ : Bool) (E : ja_E) (hE : ∀ y as M r, E y as M = some r → jb_gr M r.2) (a : ja_I) (i : Nat) (L : ja_L) (S : List ja_V) (M : ja_M) : jp_T M (jh_ineg φ E a i L S M) := by
  rcases S with _ | ⟨x | x | x, S⟩
  all_goals first | exact jp_Tn | exact jp_Tk _ _ _ _ (jb_gr.rf M)
theorem jp_lbin (φ : Bool) (E : ja_E) (hE : ∀ y as M r, E y as M = some r → jb_gr M r.2) (a : ja_I) (i : Nat) (L : ja_L) (S : List ja_V) (M : ja_M) : jp_T M (jh_lbin φ E a i L S M) := by
  rcases S with _ | ⟨x | x | x, _ | ⟨y | y | y, S⟩⟩
  all_goals first | exact jp_Tn | exact jp_Tk _ _ _ _ (jb_gr.rf M)
theorem jp_ldiv (φ : Bool) (E : ja_E) (hE : ∀ y as M r, E y as M = some r → jb_gr M r.2) (a : ja_I) (i : Nat) (L : ja_L) (S : List ja_V) (M : ja_M) : jp_T M (jh_ldiv φ E a i L S M) := by
  rcases S with _ | ⟨x | x | x, _ | ⟨y | y | y, S⟩⟩
  all_goals first | exact jp_Tn | exact jp_Tc _ (fun _ => jp_Tn) (fun _ => jp_Tk _ _ _ _ (jb_gr.rf M))
theorem jp_lrem (φ : Bool) (E : ja_E) (hE : ∀ y as M r, E y as M = some r → jb_gr M r.2) (a : ja_I) (i : Nat) (L : ja_L) (S : List ja_V) (M : ja_M) : jp_T M (jh_lrem φ E a i L S M) := by
  rcases S with _ | ⟨x | x | x, _ | ⟨y | y | y, S⟩⟩
  all_goals first | exact jp_Tn | exact jp_Tc _ (fun _ => jp_Tn) (fun _ => jp_Tk _ _ _ _ (jb_gr.rf M))
theorem jp_lshl (φ : Bool) (E : ja_E) (hE : ∀ y as M r, E y as M = some r → jb_gr M r.2) (a : ja_I) (i : Nat) (L : ja_L) (S : List ja_V) (M : ja_M) : jp_T M (jh_lshl φ E a i L S M) := by
  rcases S with _ | ⟨x | x | x, _ | ⟨y | y | y, S⟩⟩
  all_goals first | exact jp_Tn | exact jp_Tk _ _ _ _ (jb_gr.rf M)
theorem jp_lush (φ : Bool) (E : ja_E) (hE : ∀ y as M r, E y as M = some r → jb_gr M r.2) (a : ja_I) (i : Nat) (L : ja_L) (S : List ja_V) (M : ja_M) : jp_T M (jh_lush φ E a i L S M) := by
  rcases S with _ | ⟨x | x | x, _ | ⟨y | y | y, S⟩⟩
  all_goals first | exact jp_Tn | exact jp_Tk _ _ _ _ (jb_gr.rf M)
theorem jp_i2l (φ : Bool) (E : ja_E) (hE : ∀ y as M r, E y as M = some r → jb_gr M r.2) (a : ja_I) (i : Nat) (L : ja_L) (S : List ja_V) (M : ja_M) : jp_T M (jh_i2l φ E a i L S M) := by
  rcases S with _ | ⟨x | x | x, S⟩
  all_goals first | exact jp_Tn | exact jp_Tk _ _ _ _ (jb_gr.rf M)
theorem jp_l2i (φ : Bool) (E : ja_E) (hE : ∀ y as M r, E y as M = some r → jb_gr M r.2) (a : ja_I) (i : Nat) (L : ja_L) (S : List ja_V) (M : ja_M) : jp_T M (jh_l2i φ E a i L S M) := by
  rcases S with _ | ⟨x | x | x, S⟩
  all_goals first | exact jp_Tn | exact jp_Tk _ _ _ _ (jb_gr.rf M)
theorem jp_lcmp (φ : Bool) (E : ja_E) (hE : ∀ y as M r, E y as M = some r → jb_gr M r.2) (a : ja_I) (i : Nat) (L : ja_L) (S : List ja_V) (M : ja_M) : jp_T M (jh_lcmp φ E a i L S M) := by
  rcases S with _ | ⟨x | x | x, _ | ⟨y | y | y, S⟩⟩
  all_goals first | exact jp_Tn | exact jp_Tk _ _ _ _ (jb_gr.rf M)
theorem jp_icmp (φ : Bool) (E : ja_E) (hE : ∀ y as M r, E y as M = some r → jb_gr M r.2) (a : ja_I) (i : Nat) (L : ja_L) (S : List ja_V) (M : ja_M) : jp_T M (jh_icmp φ E a i L S M) := by
  rcases S with _ | ⟨x | x | x, _ | ⟨y | y | y, S⟩⟩
  all_goals first | exact jp_Tn | exact jp_Tcmp _ _ _ (jp_Tk _ _ _ _ (jb_gr.rf M)) (jp_Tk _ _ _ _ (jb_gr.rf M))
theorem jp_ifz (φ : Bool) (E : ja_E) (hE : ∀ y as M r, E y as M = some r → jb_gr M r.2) (a : ja_I) (i : Nat) (L : ja_L) (S : List ja_V) (M : ja_M) : jp_T M (jh_ifz φ E a i L S M) := by
  rcases S with _ | ⟨x | x | x, S⟩
  all_goals first | exact jp_Tn | exact jp_Tcmp _ _ _ (jp_Tk _ _ _ _ (jb_gr.rf M)) (jp_Tk _ _ _ _ (jb_gr.rf M))
theorem jp_ifnull (φ : Bool) (E : ja_E) (hE : ∀ y as M r, E y as M = some r → jb_gr M r.2) (a : ja_I) (i : Nat) (L : ja_L) (S : List ja_V) (M : ja_M) : jp_T M (jh_ifnull φ E a i L S M) := by
  rcases S with _ | ⟨x | x | x, S⟩
  all_goals first | exact jp_Tn | exact jp_Ti (fun _ => jp_Tk _ _ _ _ (jb_gr.rf M)) (fun _ => jp_Tk _ _ _ _ (jb_gr.rf M))
theorem jp_ifnon (φ : Bool) (E : ja_E) (hE : ∀ y as M r, E y as M = some r → jb_gr M r.2) (a : ja_I) (i : Nat) (L : ja_L) (S : List ja_V) (M : ja_M) : jp_T M (jh_ifnon φ E a i L S M) := by
  rcases S with _ | ⟨x | x | x, S⟩
  all_goals first | exact jp_Tn | exact jp_Ti (fun _ => jp_Tk _ _ _ _ (jb_gr.rf M)) (fun _ => jp_Tk _ _ _ _ (jb_gr.rf M))
theorem jp_goto (φ : Bool) (E : ja_E) (hE : ∀ y as M r, E y as M = some r → jb_gr M r.2) (a : ja_I) (i : Nat) (L : ja_L) (S : List ja_V) (M : ja_M) : jp_T M (jh_goto φ E a i L S M) := by
  exact jp_Tk _ _ _ _ (jb_gr.rf M)
theorem jp_switch (φ : Bool) (E : ja_E) (hE : ∀ y as M r, E y as M = some r → jb_gr M r.2) (a : ja_I) (i : Nat) (L : ja_L) (S : List ja_V) (M : ja_M) : jp_T M (jh_switch φ E a i L S M) := by
  rcases S with _ | ⟨x | x | x, S⟩
  all_goals first | exact jp_Tn | exact jp_Tsw _ _ _ _ _
theorem jp_getI (φ : Bool) (E : ja_E) (hE : ∀ y as M r, E y as M = some r → jb_gr M r.2) (a : ja_I) (i : Nat) (L : ja_L) (S : List ja_V) (M : ja_M) : jp_T M (jh_getI φ E a i L S M) := by
  rcases S with _ | ⟨x | x | x, S⟩
  all_goals first | exact jp_Tn | exact jp_Tc _ (fun _ => jp_Tk _ _ _ _ (jb_gr.rf M)) (fun _ => jp_Tn)
theorem jp_getL (φ : Bool) (E : ja_E) (hE : ∀ y as M r, E y as M = some r → jb_gr M r.2) (a : ja_I) (i : Nat) (L : ja_L) (S : List ja_V) (M : ja_M) : jp_T M (jh_getL φ E a i L S M) := by
  rcases S with _ | ⟨x | x | x, S⟩
  all_goals first | exact jp_Tn | exact jp_Tc _ (fun _ => jp_Tk _ _ _ _ (jb_gr.rf M)) (fun _ => jp_Tn)
theorem jp_getR (φ : Bool) (E : ja_E) (hE : ∀ y as M r, E y as M = some r → jb_gr M r.2) (a : ja_I) (i : Nat) (L : ja_L) (S : List ja_V) (M : ja_M) : jp_T M (jh_getR φ E a i L S M) := by
  rcases S with _ | ⟨x | x | x, S⟩
  all_goals first | exact jp_Tn | exact jp_Tc _ (fun _ => jp_Tk _ _ _ _ (jb_gr.rf M)) (fun _ => jp_Tn)
theorem jp_putI (φ : Bool) (E : ja_E) (hE : ∀ y as M r, E y as M = some r → jb_gr M r.2) (a : ja_I) (ha : a.2.1 ≠ 111) (i : Nat) (L : ja_L) (S : List ja_V) (M : ja_M) : jp_T M (jh_putI φ E a i L S M) := by
  rcases S with _ | ⟨x | x | x, _ | ⟨y | y | y, S⟩⟩
  all_goals first | exact jp_Tn | exact jp_Tc _ (fun hc => jp_Tk _ _ _ _ (jp_up (jp_okc (jb_and hc).1 (by rw [Nat.eq_of_beq_eq_true (jb_and hc).2]; exact ha)))) (fun _ => jp_Tn)
theorem jp_putZ (φ : Bool) (E : ja_E) (hE : ∀ y as M r, E y as M = some r → jb_gr M r.2) (a : ja_I) (ha : a.2.1 ≠ 111) (i : Nat) (L : ja_L) (S : List ja_V) (M : ja_M) : jp_T M (jh_putZ φ E a i L S M) := by
  rcases S with _ | ⟨x | x | x, _ | ⟨y | y | y, S⟩⟩
  all_goals first | exact jp_Tn | exact jp_Tc _ (fun hc => jp_Tc _ (fun _ => jp_Tk _ _ _ _ (jp_up (jp_okc (jb_and hc).1 (by rw [Nat.eq_of_beq_eq_true (jb_and hc).2]; exact ha)))) (fun _ => jp_Tn)) (fun _ => jp_Tn)
theorem jp_putL (φ : Bool) (E : ja_E) (hE : ∀ y as M r, E y as M = some r → jb_gr M r.2) (a : ja_I) (ha : a.2.1 ≠ 111) (i : Nat) (L : ja_L) (S : List ja_V) (M : ja_M) : jp_T M (jh_putL φ E a i L S M) := by
  rcases S with _ | ⟨x | x | x, _ | ⟨y | y | y, S⟩⟩
  all_goals first | exact jp_Tn | exact jp_Tc _ (fun hc => jp_Tk _ _ _ _ (jp_up (jp_okc (jb_and hc).1 (by rw [Nat.eq_of_beq_eq_true (jb_and hc).2]; exact ha)))) (fun _ => jp_Tn)
theorem jp_putR (φ : Bool) (E : ja_E) (hE : ∀ y as M r, E y as M = some r → jb_gr M r.2) (a : ja_I) (ha : a.2.1 ≠ 111) (i : Nat) (L : ja_L) (S : List ja_V) (M : ja_M) : jp_T M (jh_putR φ E a i L S M) := by
  rcases S with _ | ⟨x | x | x, _ | ⟨y | y | y, S⟩⟩
  all_goals first | exact jp_Tn | exact jp_Tc _ (fun hc => jp_Tk _ _ _ _ (jp_up (jp_okc (jb_and hc).1 (by rw [Nat.eq_of_beq_eq_true (jb_and (jb_and hc).2).1]; exact ha)))) (fun _ => jp_Tn)
theorem jp_static (φ : Bool) (E : ja_E) (hE : ∀ y as M r, E y as M = some r → jb_gr M r.2) (a : ja_I) (i : Nat) (L : ja_L) (S : List ja_V) (M : ja_M) : jp_T M (jh_static φ E a i L S M) := by
  exact jp_Tk _ _ _ _ (jb_gr.rf M)
theorem jp_iald (φ : Bool) (E : ja_E) (hE : ∀ y as M r, E y as M = some r → jb_gr M r.2) (a : ja_I) (i : Nat) (L : ja_L) (S : List ja_V) (M : ja_M) : jp_T M (jh_iald φ E a i L S M) := by
  rcases S with _ | ⟨x | x | x, _ | ⟨y | y | y, S⟩⟩
  all_goals first | exact jp_Tn | exact jp_Tc _ (fun _ => jp_Tc _ (fun _ => jp_Ti (fun _ => jp_Tk _ _ _ _ (jb_gr.rf M)) (fun _ => jp_Tn)) (fun _ => jp_Tn)) (fun _ => jp_Tc _ (fun _ => jp_Ti (fun _ => jp_Tk _ _ _ _ (jb_gr.rf M)) (fun _ => jp_Tn)) (fun _ => jp_Tc _ (fun _ => jp_Ti (fun _ => jp_Tk _ _ _ _ (jb_gr.rf M)) (fun _ => jp_Tn)) (fun _ => jp_Tn)))
theorem jp_bald (φ : Bool) (E : ja_E) (hE : ∀ y as M r, E y as M = some r → jb_gr M r.2) (a : ja_I) (i : Nat) (L : ja_L) (S : List ja_V) (M : ja_M) : jp_T M (jh_bald φ E a i L S M) := by
  rcases S with _ | ⟨x | x | x, _ | ⟨y | y | y, S⟩⟩
  all_goals first | exact jp_Tn | exact jp_Tc _ (fun _ => jp_Ti (fun _ => jp_Tk _ _ _ _ (jb_gr.rf M)) (fun _ => jp_Tn)) (fun _ => jp_Tn)
theorem jp_lald (φ : Bool) (E : ja_E) (hE : ∀ y as M r, E y as M = some r → jb_gr M r.2) (a : ja_I) (i : Nat) (L : ja_L) (S : List ja_V) (M : ja_M) : jp_T M (jh_lald φ E a i L S M) := by
  rcases S with _ | ⟨x | x | x, _ | ⟨y | y | y, S⟩⟩
  all_goals first | exact jp_Tn | exact jp_Tc _ (fun _ => jp_Ti (fun _ => jp_Tk _ _ _ _ (jb_gr.rf M)) (fun _ => jp_Tn)) (fun _ => jp_Tn)
theorem jp_aald (φ : Bool) (E : ja_E) (hE : ∀ y as M r, E y as M = some r → jb_gr M r.2) (a : ja_I) (i : Nat) (L : ja_L) (S : List ja_V) (M : ja_M) : jp_T M (jh_aald φ E a i L S M) := by
  rcases S with _ | ⟨x | x | x, _ | ⟨y | y | y, S⟩⟩
  all_goals first | exact jp_Tn | exact jp_Tc _ (fun _ => jp_Ti (fun _ => jp_Tk _ _ _ _ (jb_gr.rf M)) (fun _ => jp_Tn)) (fun _ => jp_Tn)
theorem jp_iast (φ : Bool) (E : ja_E) (hE : ∀ y as M r, E y as M = some r → jb_gr M r.2) (a : ja_I) (i : Nat) (L : ja_L) (S : List ja_V) (M : ja_M) : jp_T M (jh_iast φ E a i L S M) := by
  rcases S with _ | ⟨x | x | x, _ | ⟨y | y | y, _ | ⟨z | z | z, S⟩⟩⟩
  all_goals first | exact jp_Tn | exact jp_Tc _ (fun hc => jp_Ti (fun _ => jp_Tk _ _ _ _ (jp_up (jp_okc (jb_and hc).1 (by rw [Nat.eq_of_beq_eq_true (jb_and hc).2]; decide)))) (fun _ => jp_Tn)) (fun _ => jp_Tn)
theorem jp_bast (φ : Bool) (E : ja_E) (hE : ∀ y as M r, E y as M = some r → jb_gr M r.2) (a : ja_I) (i : Nat) (L : ja_L) (S : List ja_V) (M : ja_M) : jp_T M (jh_bast φ E a i L S M) := by
  rcases S with _ | ⟨x | x | x, _ | ⟨y | y | y, _ | ⟨z | z | z, S⟩⟩⟩
  all_goals first | exact jp_Tn | exact jp_Tc _ (fun hc => jp_Ti (fun _ => jp_Tc _ (fun _ => jp_Tk _ _ _ _ (jp_up (jp_okc (jb_and hc).1 (by rw [Nat.eq_of_beq_eq_true (jb_and hc).2]; decide)))) (fun _ => jp_Tn)) (fun _ => jp_Tn)) (fun _ => jp_Tn)
theorem jp_last (φ : Bool) (E : ja_E) (hE : ∀ y as M r, E y as M = some r → jb_gr M r.2) (a : ja_I) (i : Nat) (L : ja_L) (S : List ja_V) (M : ja_M) : jp_T M (jh_last φ E a i L S M) := by
  rcases S with _ | ⟨x | x | x, _ | ⟨y | y | y, _ | ⟨z | z | z, S⟩⟩⟩
  all_goals first | exact jp_Tn | exact jp_Tc _ (fun hc => jp_Ti (fun _ => jp_Tk _ _ _ _ (jp_up (jp_okc (jb_and hc).1 (by rw [Nat.eq_of_beq_eq_true (jb_and hc).2]; decide)))) (fun _ => jp_Tn)) (fun _ => jp_Tn)
theorem jp_alen (φ : Bool) (E : ja_E) (hE : ∀ y as M r, E y as M = some r → jb_gr M r.2) (a : ja_I) (i : Nat) (L : ja_L) (S : List ja_V) (M : ja_M) : jp_T M (jh_alen φ E a i L S M) := by
  rcases S with _ | ⟨x | x | x, S⟩
  all_goals first | exact jp_Tn | exact jp_Tc _ (fun _ => jp_Tk _ _ _ _ (jb_gr.rf M)) (fun _ => jp_Tc _ (fun _ => jp_Tk _ _ _ _ (jb_gr.rf M)) (fun _ => jp_Tn))
theorem jp_new (φ : Bool) (E : ja_E) (hE : ∀ y as M r, E y as M = some r → jb_gr M r.2) (a : ja_I) (ha : a.2.1 < 13) (ha2 : a.2.2.1 ≠ 0) (i : Nat) (L : ja_L) (S : List ja_V) (M : ja_M) : jp_T M (jh_new φ E a i L S M) := by
  exact jp_Tc _ (fun hc => jp_Tk _ _ _ _ (jp_grow (by obtain ⟨-, e1, e2, -⟩ := jg_new1 (jb_and hc).2; have := jp_lt (M := M) (Or.inr (by rw [e2]; exact ha2)) (by rw [e1]; omega) (by rw [e1]; omega); omega))) (fun _ => jp_Tn)
theorem jp_newa (φ : Bool) (E : ja_E) (hE : ∀ y as M r, E y as M = some r → jb_gr M r.2) (a : ja_I) (ha : 100 ≤ a.2.1 ∧ a.2.1 ≤ 102) (i : Nat) (L : ja_L) (S : List ja_V) (M : ja_M) : jp_T M (jh_newa φ E a i L S M) := by
  rcases S with _ | ⟨x | x | x, S⟩
  all_goals first | exact jp_Tn | exact jp_Tc _ (fun hc => jp_Tk _ _ _ _ (jp_grow (by obtain ⟨-, e1, e2, -⟩ := jg_new1 (jb_and hc).2; have := jp_lt (M := M) (Or.inl (by rw [e1]; omega)) (by rw [e1]; omega) (by rw [e1]; omega); omega))) (fun _ => jp_Tn)
theorem jp_newm (φ : Bool) (E : ja_E) (hE : ∀ y as M r, E y as M = some r → jb_gr M r.2) (a : ja_I) (i : Nat) (L : ja_L) (S : List ja_V) (M : ja_M) : jp_T M (jh_newm φ E a i L S M) := by
  rcases S with _ | ⟨x | x | x, _ | ⟨y | y | y, S⟩⟩
  all_goals first | exact jp_Tn | exact jp_Tc _ (fun hc => jp_Tk _ _ _ _ (jp_grow (by obtain ⟨-, e1, e2, -⟩ := jg_new1 (jb_and (jb_and (jb_and (jb_and (jb_and hc).2).2).2).2).1; have h9 := jp_lt (M := M) (Or.inl (by rw [e1]; decide)) (by rw [e1]; decide) (by rw [e1]; decide); have := jk_103 _ h9 e1; omega))) (fun _ => jp_Tn)
theorem jp_callV (φ : Bool) (E : ja_E) (hE : ∀ y as M r, E y as M = some r → jb_gr M r.2) (a : ja_I) (i : Nat) (L : ja_L) (S : List ja_V) (M : ja_M) : jp_T M (jh_callV φ E a i L S M) := by
  show jp_T M (fun κ => _)
  unfold jh_callV
  generalize S.drop a.2.2.1 = S'
  rcases S' with _ | ⟨x | x | x, S'⟩
  all_goals first | exact jp_Tn | exact jp_Tc _ (fun _ => jp_Tbk _ _ _ _ _ (fun r h => hE _ _ _ _ h)) (fun _ => jp_Tn)
theorem jp_callS (φ : Bool) (E : ja_E) (hE : ∀ y as M r, E y as M = some r → jb_gr M r.2) (a : ja_I) (i : Nat) (L : ja_L) (S : List ja_V) (M : ja_M) : jp_T M (jh_callS φ E a i L S M) := by
  exact jp_Tc _ (fun _ => jp_Tbk _ _ _ _ _ (fun r h => hE _ _ _ _ h)) (fun _ => jp_Tn)
theorem jp_callI (φ : Bool) (E : ja_E) (hE : ∀ y as M r, E y as M = some r → jb_gr M r.2) (a : ja_I) (i : Nat) (L : ja_L) (S : List ja_V) (M : ja_M) : jp_T M (jh_callI φ E a i L S M) := by
  show jp_T M (fun κ => _)
  unfold jh_callI
  generalize S.drop a.2.2.1 = S'
  rcases S' with _ | ⟨x | x | x, S'⟩
  all_goals first | exact jp_Tn | exact jp_Tc _ (fun _ => jp_Tbk _ _ _ _ _ (fun r h => hE _ _ _ _ h)) (fun _ => jp_Tn)
theorem jp_objI (φ : Bool) (E : ja_E) (hE : ∀ y as M r, E y as M = some r → jb_gr M r.2) (a : ja_I) (i : Nat) (L : ja_L) (S : List ja_V) (M : ja_M) : jp_T M (jh_objI φ E a i L S M) := by
  rcases S with _ | ⟨x | x | x, S⟩
  all_goals first | exact jp_Tn | exact jp_Tc _ (fun _ => jp_Tk _ _ _ _ (jb_gr.rf M)) (fun _ => jp_Tn)
theorem jp_iret (φ : Bool) (E : ja_E) (hE : ∀ y as M r, E y as M = some r → jb_gr M r.2) (a : ja_I) (i : Nat) (L : ja_L) (S : List ja_V) (M : ja_M) : jp_T M (jh_iret φ E a i L S M) := by
  rcases S with _ | ⟨x | x | x, _ | ⟨y, S⟩⟩
  all_goals first | exact jp_Tn | exact jp_To _ (fun r h => by cases h; exact jb_gr.rf M)
theorem jp_zret (φ : Bool) (E : ja_E) (hE : ∀ y as M r, E y as M = some r → jb_gr M r.2) (a : ja_I) (i : Nat) (L : ja_L) (S : List ja_V) (M : ja_M) : jp_T M (jh_zret φ E a i L S M) := by
  rcases S with _ | ⟨x | x | x, _ | ⟨y, S⟩⟩
  all_goals first | exact jp_Tn | exact jp_Tc _ (fun _ => jp_To _ (fun r h => by cases h; exact jb_gr.rf M)) (fun _ => jp_Tn)
theorem jp_lret (φ : Bool) (E : ja_E) (hE : ∀ y as M r, E y as M = some r → jb_gr M r.2) (a : ja_I) (i : Nat) (L : ja_L) (S : List ja_V) (M : ja_M) : jp_T M (jh_lret φ E a i L S M) := by
  rcases S with _ | ⟨x | x | x, _ | ⟨y, S⟩⟩
  all_goals first | exact jp_Tn | exact jp_To _ (fun r h => by cases h; exact jb_gr.rf M)
theorem jp_aret (φ : Bool) (E : ja_E) (hE : ∀ y as M r, E y as M = some r → jb_gr M r.2) (a : ja_I) (i : Nat) (L : ja_L) (S : List ja_V) (M : ja_M) : jp_T M (jh_aret φ E a i L S M) := by
  rcases S with _ | ⟨x | x | x, _ | ⟨y, S⟩⟩
  all_goals first | exact jp_Tn | exact jp_Tc _ (fun _ => jp_To _ (fun r h => by cases h; exact jb_gr.rf M)) (fun _ => jp_Tn)
theorem jp_vret (φ : Bool) (E : ja_E) (hE : ∀ y as M r, E y as M = some r → jb_gr M r.2) (a : ja_I) (i : Nat) (L : ja_L) (S : List ja_V) (M : ja_M) : jp_T M (jh_vret φ E a i L S M) := by
  rcases S with _ | ⟨y, S⟩
  all_goals first | exact jp_Tn | exact jp_To _ (fun r h => by cases h; exact jb_gr.rf M)
theorem jp_dup (φ : Bool) (E : ja_E) (hE : ∀ y as M r, E y as M = some r → jb_gr M r.2) (a : ja_I) (i : Nat) (L : ja_L) (S : List ja_V) (M : ja_M) : jp_T M (jh_dup φ E a i L S M) := by
  rcases S with _ | ⟨x | x | x, S⟩
  all_goals first | exact jp_Tn | exact jp_Tk _ _ _ _ (jb_gr.rf M)
theorem jp_dup2 (φ : Bool) (E : ja_E) (hE : ∀ y as M r, E y as M = some r → jb_gr M r.2) (a : ja_I) (i : Nat) (L : ja_L) (S : List ja_V) (M : ja_M) : jp_T M (jh_dup2 φ E a i L S M) := by
  rcases S with _ | ⟨x | x | x, _ | ⟨y | y | y, S⟩⟩
  all_goals first | exact jp_Tn | exact jp_Tk _ _ _ _ (jb_gr.rf M)
theorem jp_pop (φ : Bool) (E : ja_E) (hE : ∀ y as M r, E y as M = some r → jb_gr M r.2) (a : ja_I) (i : Nat) (L : ja_L) (S : List ja_V) (M : ja_M) : jp_T M (jh_pop φ E a i L S M) := by
  rcases S with _ | ⟨x | x | x, S⟩
  all_goals first | exact jp_Tn | exact jp_Tk _ _ _ _ (jb_gr.rf M)
theorem jp_copy (φ : Bool) (E : ja_E) (hE : ∀ y as M r, E y as M = some r → jb_gr M r.2) (a : ja_I) (i : Nat) (L : ja_L) (S : List ja_V) (M : ja_M) : jp_T M (jh_copy φ E a i L S M) := by
  rcases S with _ | ⟨x | x | x, _ | ⟨y | y | y, _ | ⟨z | z | z, _ | ⟨u | u | u, _ | ⟨v | v | v, S⟩⟩⟩⟩⟩
  all_goals first | exact jp_Tn | exact jp_Tc _ (fun hc => jp_Ti (fun _ => jp_Tk _ _ _ _ (jp_cpy (jp_okc (jb_and hc).1 (by rw [Nat.eq_of_beq_eq_true (jb_and (jb_and hc).2).1]; decide)))) (fun _ => jp_Tn)) (fun _ => jp_Tn)
theorem jp_place (φ : Bool) (E : ja_E) (hE : ∀ y as M r, E y as M = some r → jb_gr M r.2) (a : ja_I) (i : Nat) (L : ja_L) (S : List ja_V) (M : ja_M) : jp_T M (jh_place φ E a i L S M) := by
  rcases S with _ | ⟨x | x | x, _ | ⟨y | y | y, _ | ⟨z | z | z, _ | ⟨u | u | u, S⟩⟩⟩⟩
  all_goals first | exact jp_Tn | exact jp_Tc _ (fun _ => jp_Ti (fun _ => jp_Ti (fun _ => jp_Tk _ _ _ _ (jp_up ⟨by decide, by decide⟩)) (fun _ => jp_Tn)) (fun _ => jp_Tk _ _ _ _ jp_thr)) (fun _ => jp_Tn)
theorem jp_mmax (φ : Bool) (E : ja_E) (hE : ∀ y as M r, E y as M = some r → jb_gr M r.2) (a : ja_I) (i : Nat) (L : ja_L) (S : List ja_V) (M : ja_M) : jp_T M (jh_mmax φ E a i L S M) := by
  rcases S with _ | ⟨x | x | x, _ | ⟨y | y | y, S⟩⟩
  all_goals first | exact jp_Tn | exact jp_Tc _ (fun _ => jp_Tk _ _ _ _ (jb_gr.rf M)) (fun _ => jp_Tn)
theorem jp_mmin (φ : Bool) (E : ja_E) (hE : ∀ y as M r, E y as M = some r → jb_gr M r.2) (a : ja_I) (i : Nat) (L : ja_L) (S : List ja_V) (M : ja_M) : jp_T M (jh_mmin φ E a i L S M) := by
  rcases S with _ | ⟨x | x | x, _ | ⟨y | y | y, S⟩⟩
  all_goals first | exact jp_Tn | exact jp_Tc _ (fun _ => jp_Tk _ _ _ _ (jb_gr.rf M)) (fun _ => jp_Tn)
theorem jp_mabs (φ : Bool) (E : ja_E) (hE : ∀ y as M r, E y as M = some r → jb_gr M r.2) (a : ja_I) (i : Nat) (L : ja_L) (S : List ja_V) (M : ja_M) : jp_T M (jh_mabs φ E a i L S M) := by
  rcases S with _ | ⟨x | x | x, S⟩
  all_goals first | exact jp_Tn | exact jp_Tc _ (fun _ => jp_Tk _ _ _ _ (jb_gr.rf M)) (fun _ => jp_Tn)
theorem jp_lmax (φ : Bool) (E : ja_E) (hE : ∀ y as M r, E y as M = some r → jb_gr M r.2) (a : ja_I) (i : Nat) (L : ja_L) (S : List ja_V) (M : ja_M) : jp_T M (jh_lmax φ E a i L S M) := by
  rcases S with _ | ⟨x | x | x, _ | ⟨y | y | y, S⟩⟩
  all_goals first | exact jp_Tn | exact jp_Tc _ (fun _ => jp_Tk _ _ _ _ (jb_gr.rf M)) (fun _ => jp_Tn)
theorem jp_lmin (φ : Bool) (E : ja_E) (hE : ∀ y as M r, E y as M = some r → jb_gr M r.2) (a : ja_I) (i : Nat) (L : ja_L) (S : List ja_V) (M : ja_M) : jp_T M (jh_lmin φ E a i L S M) := by
  rcases S with _ | ⟨x | x | x, _ | ⟨y | y | y, S⟩⟩
  all_goals first | exact jp_Tn | exact jp_Tc _ (fun _ => jp_Tk _ _ _ _ (jb_gr.rf M)) (fun _ => jp_Tn)
