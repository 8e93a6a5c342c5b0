/-! each row of the small machine either ends or goes on at ONE state, whatever goes on there -/
def ja_T (g : ja_K → Option ja_R) : Prop := (∃ o, ∀ κ, g κ = o) ∨ (∃ i L S M, ∀ κ, g κ = κ i L S M)
theorem ja_To (o : Option ja_R) : ja_T (fun _ => o) := Or.inl ⟨o, fun _ => rfl⟩
theorem ja_Tk (i : Nat) (L : ja_L) (S : List ja_V) (M : ja_M) : ja_T (fun κ => κ i L S M) := Or.inr ⟨i, L, S, M, fun _ => rfl⟩
theorem ja_Ti {p : Prop} [h : Decidable p] {f g : ja_K → Option ja_R} (hf : ja_T f) (hg : ja_T g) : ja_T (fun κ => if p then f κ else g κ) := by
  cases h with
  | isTrue h => simpa only [h, if_true] using hf
  | isFalse h => simpa only [h, if_false] using hg
theorem ja_Tc (b : Bool) {f g : ja_K → Option ja_R} (hf : ja_T f) (hg : ja_T g) : ja_T (fun κ => cond b (f κ) (g κ)) := by
  cases b
  · exact hg
  · exact hf
theorem ja_Tcmp (a : Nat) (x y : Int) {f g : ja_K → Option ja_R} (hf : ja_T f) (hg : ja_T g) : ja_T (fun κ => ja_cmp a x y (f κ) (g κ)) := by
  rcases a with _ | _ | _ | _ | _ | a
  · exact ja_Ti hf hg
  · exact ja_Ti hg hf
  · exact ja_Ti hf hg
  · exact ja_Ti hg hf
  · exact ja_Ti hf hg
  · exact ja_Ti hg hf
theorem ja_Tsw (x : Int) (L : ja_L) (S : List ja_V) (M : ja_M) (n : Nat) : ∀ ts : List (Int × Nat), ja_T (fun κ => ja_sw x (fun t => κ t L S M) n ts)
  | [] => ja_Tk n L S M
  | (_, t) :: r => ja_Ti (ja_Tk t L S M) (ja_Tsw x L S M n r)
theorem ja_Tbk (b : Nat) (o : Option ja_R) (i : Nat) (L : ja_L) (S : List ja_V) : ja_T (fun κ => ja_back b o i L S κ) := by
  rcases b with _ | _ | _ | b <;> rcases o with _ | ⟨_ | x | x | x, M⟩ <;> first | exact ja_To none | exact ja_Tk _ _ _ _
theorem ja_fc_eq : ∀ (L : ja_L) (k : ja_L → Option ja_R), ja_fc L k = k L
  | [], _ => rfl
  | x :: L, k => ja_fc_eq L (fun L' => k (x :: L'))
theorem ja_Tfc (L : ja_L) (i : Nat) (S : List ja_V) (M : ja_M) : ja_T (fun κ => ja_fc L (fun L => κ i L S M)) := Or.inr ⟨i, L, S, M, fun _ => ja_fc_eq _ _⟩
theorem jt_load (φ : Bool) (E : ja_E) (a : ja_I) (i : Nat) (L : ja_L) (S : List ja_V) (M : ja_M) : ja_T (jh_load φ E a i L S M) := by
  show ja_T (fun κ => _)
  unfold jh_load
  generalize L[a.2.1]? = o
  rcases o with _ | _ | v
  all_goals first | exact ja_To none | exact ja_To _ | exact ja_Tc _ (ja_Tk _ _ _ _) (ja_To none)
theorem jt_ipush (φ : Bool) (E : ja_E) (a : ja_I) (i : Nat) (L : ja_L) (S : List ja_V) (M : ja_M) : ja_T (jh_ipush φ E a i L S M) := by
  exact ja_Tk _ _ _ _
theorem jt_lpush (φ : Bool) (E : ja_E) (a : ja_I) (i : Nat) (L : ja_L) (S : List ja_V) (M : ja_M) : ja_T (jh_lpush φ E a i L S M) := by
  exact ja_Tk _ _ _ _
theorem jt_st1 (φ : Bool) (E : ja_E) (a : ja_I) (i : Nat) (L : ja_L) (S : List ja_V) (M : ja_M) : ja_T (jh_st1 φ E a i L S M) := by
  rcases S with _ | ⟨x | x | x, S⟩
  all_goals first | exact ja_To none | exact ja_To _ | exact ja_Tc _ (ja_Tfc _ _ _ _) (ja_To none)
theorem jt_st2 (φ : Bool) (E : ja_E) (a : ja_I) (i : Nat) (L : ja_L) (S : List ja_V) (M : ja_M) : ja_T (jh_st2 φ E a i L S M) := by
  rcases S with _ | ⟨x | x | x, S⟩
  all_goals first | exact ja_To none | exact ja_To _ | exact ja_Tc _ (ja_Tfc _ _ _ _) (ja_To none)
theorem jt_iinc (φ : Bool) (E : ja_E) (a : ja_I) (i : Nat) (L : ja_L) (S : List ja_V) (M : ja_M) : ja_T (jh_iinc φ E a i L S M) := by
  show ja_T (fun κ => _)
  unfold jh_iinc
  generalize L[a.2.1]? = o
  rcases o with _ | _ | x | x | x
  all_goals first | exact ja_To none | exact ja_To _ | exact ja_Tfc _ _ _ _
theorem jt_ibin (φ : Bool) (E : ja_E) (a : ja_I) (i : Nat) (L : ja_L) (S : List ja_V) (M : ja_M) : ja_T (jh_ibin φ E a i L S M) := by
  rcases S with _ | ⟨x | x | x, _ | ⟨y | y | y, S⟩⟩
  all_goals first | exact ja_To none | exact ja_To _ | exact ja_Tk _ _ _ _
theorem jt_idiv (φ : Bool) (E : ja_E) (a : ja_I) (i : Nat) (L : ja_L) (S : List ja_V) (M : ja_M) : ja_T (jh_idiv φ E a i L S M) := by
  rcases S with _ | ⟨x | x | x, _ | ⟨y | y | y, S⟩⟩
  all_goals first | exact ja_To none | exact ja_To _ | exact ja_Tc _ (ja_To none) (ja_Tk _ _ _ _)
theorem jt_irem (φ : Bool) (E : ja_E) (a : ja_I) (i : Nat) (L : ja_L) (S : List ja_V) (M : ja_M) : ja_T (jh_irem φ E a i L S M) := by
  rcases S with _ | ⟨x | x | x, _ | ⟨y | y | y, S⟩⟩
  all_goals first | exact ja_To none | exact ja_To _ | exact ja_Tc _ (ja_To none) (ja_Tk _ _ _ _)
theorem jt_ineg (φ : Bool) (E : ja_E) (a : ja_I) (i : Nat) (L : ja_L) (S : List ja_V) (M : ja_M) : ja_T (jh_ineg φ E a i L S M) := by
  rcases S with _ | ⟨x | x | x, S⟩
  all_goals first | exact ja_To none | exact ja_To _ | exact ja_Tk _ _ _ _
theorem jt_lbin (φ : Bool) (E : ja_E) (a : ja_I) (i : Nat) (L : ja_L) (S : List ja_V) (M : ja_M) : ja_T (jh_lbin φ E a i L S M) := by
  rcases S with _ | ⟨x | x | x, _ | ⟨y | y | y, S⟩⟩
  all_goals first | exact ja_To none | exact ja_To _ | exact ja_Tk _ _ _ _
theorem jt_ldiv (φ : Bool) (E : ja_E) (a : ja_I) (i : Nat) (L : ja_L) (S : List ja_V) (M : ja_M) : ja_T (jh_ldiv φ E a i L S M) := by
  rcases S with _ | ⟨x | x | x, _ | ⟨y | y | y, S⟩⟩
  all_goals first | exact ja_To none | exact ja_To _ | exact ja_Tc _ (ja_To none) (ja_Tk _ _ _ _)
theorem jt_lrem (φ : Bool) (E : ja_E) (a : ja_I) (i : Nat) (L : ja_L) (S : List ja_V) (M : ja_M) : ja_T (jh_lrem φ E a i L S M) := by
  rcases S with _ | ⟨x | x | x, _ | ⟨y | y | y, S⟩⟩
  all_goals first | exact ja_To none | exact ja_To _ | exact ja_Tc _ (ja_To none) (ja_Tk _ _ _ _)
theorem jt_lshl (φ : Bool) (E : ja_E) (a : ja_I) (i : Nat) (L : ja_L) (S : List ja_V) (M : ja_M) : ja_T (jh_lshl φ E a i L S M) := by
  rcases S with _ | ⟨x | x | x, _ | ⟨y | y | y, S⟩⟩
  all_goals first | exact ja_To none | exact ja_To _ | exact ja_Tk _ _ _ _
theorem jt_lush (φ : Bool) (E : ja_E) (a : ja_I) (i : Nat) (L : ja_L) (S : List ja_V) (M : ja_M) : ja_T (jh_lush φ E a i L S M) := by
  rcases S with _ | ⟨x | x | x, _ | ⟨y | y | y, S⟩⟩
  all_goals first | exact ja_To none | exact ja_To _ | exact ja_Tk _ _ _ _
theorem jt_i2l (φ : Bool) (E : ja_E) (a : ja_I) (i : Nat) (L : ja_L) (S : List ja_V) (M : ja_M) : ja_T (jh_i2l φ E a i L S M) := by
  rcases S with _ | ⟨x | x | x, S⟩
  all_goals first | exact ja_To none | exact ja_To _ | exact ja_Tk _ _ _ _
theorem jt_l2i (φ : Bool) (E : ja_E) (a : ja_I) (i : Nat) (L : ja_L) (S : List ja_V) (M : ja_M) : ja_T (jh_l2i φ E a i L S M) := by
  rcases S with _ | ⟨x | x | x, S⟩
  all_goals first | exact ja_To none | exact ja_To _ | exact ja_Tk _ _ _ _
theorem jt_lcmp (φ : Bool) (E : ja_E) (a : ja_I) (i : Nat) (L : ja_L) (S : List ja_V) (M : ja_M) : ja_T (jh_lcmp φ E a i L S M) := by
  rcases S with _ | ⟨x | x | x, _ | ⟨y | y | y, S⟩⟩
  all_goals first | exact ja_To none | exact ja_To _ | exact ja_Tk _ _ _ _
theorem jt_icmp (φ : Bool) (E : ja_E) (a : ja_I) (i : Nat) (L : ja_L) (S : List ja_V) (M : ja_M) : ja_T (jh_icmp φ E a i L S M) := by
  rcases S with _ | ⟨x | x | x, _ | ⟨y | y | y, S⟩⟩
  all_goals first | exact ja_To none | exact ja_To _ | exact ja_Tcmp _ _ _ (ja_Tk _ _ _ _) (ja_Tk _ _ _ _)
theorem jt_ifz (φ : Bool) (E : ja_E) (a : ja_I) (i : Nat) (L : ja_L) (S : List ja_V) (M : ja_M) : ja_T (jh_ifz φ E a i L S M) := by
  rcases S with _ | ⟨x | x | x, S⟩
  all_goals first | exact ja_To none | exact ja_To _ | exact ja_Tcmp _ _ _ (ja_Tk _ _ _ _) (ja_Tk _ _ _ _)
theorem jt_ifnull (φ : Bool) (E : ja_E) (a : ja_I) (i : Nat) (L : ja_L) (S : List ja_V) (M : ja_M) : ja_T (jh_ifnull φ E a i L S M) := by
  rcases S with _ | ⟨x | x | x, S⟩
  all_goals first | exact ja_To none | exact ja_To _ | exact ja_Ti (ja_Tk _ _ _ _) (ja_Tk _ _ _ _)
theorem jt_ifnon (φ : Bool) (E : ja_E) (a : ja_I) (i : Nat) (L : ja_L) (S : List ja_V) (M : ja_M) : ja_T (jh_ifnon φ E a i L S M) := by
  rcases S with _ | ⟨x | x | x, S⟩
  all_goals first | exact ja_To none | exact ja_To _ | exact ja_Ti (ja_Tk _ _ _ _) (ja_Tk _ _ _ _)
theorem jt_goto (φ : Bool) (E : ja_E) (a : ja_I) (i : Nat) (L : ja_L) (S : List ja_V) (M : ja_M) : ja_T (jh_goto φ E a i L S M) := by
  exact ja_Tk _ _ _ _
theorem jt_switch (φ : Bool) (E : ja_E) (a : ja_I) (i : Nat) (L : ja_L) (S : List ja_V) (M : ja_M) : ja_T (jh_switch φ E a i L S M) := by
  rcases S with _ | ⟨x | x | x, S⟩
  all_goals first | exact ja_To none | exact ja_To _ | exact ja_Tsw _ _ _ _ _ _
theorem jt_getI (φ : Bool) (E : ja_E) (a : ja_I) (i : Nat) (L : ja_L) (S : List ja_V) (M : ja_M) : ja_T (jh_getI φ E a i L S M) := by
  rcases S with _ | ⟨x | x | x, S⟩
  all_goals first | exact ja_To none | exact ja_To _ | exact ja_Tc _ (ja_Tk _ _ _ _) (ja_To none)
theorem jt_getL (φ : Bool) (E : ja_E) (a : ja_I) (i : Nat) (L : ja_L) (S : List ja_V) (M : ja_M) : ja_T (jh_getL φ E a i L S M) := by
  rcases S with _ | ⟨x | x | x, S⟩
  all_goals first | exact ja_To none | exact ja_To _ | exact ja_Tc _ (ja_Tk _ _ _ _) (ja_To none)
theorem jt_getR (φ : Bool) (E : ja_E) (a : ja_I) (i : Nat) (L : ja_L) (S : List ja_V) (M : ja_M) : ja_T (jh_getR φ E a i L S M) := by
  rcases S with _ | ⟨x | x | x, S⟩
  all_goals first | exact ja_To none | exact ja_To _ | exact ja_Tc _ (ja_Tk _ _ _ _) (ja_To none)
theorem jt_putI (φ : Bool) (E : ja_E) (a : ja_I) (i : Nat) (L : ja_L) (S : List ja_V) (M : ja_M) : ja_T (jh_putI φ E a i L S M) := by
  rcases S with _ | ⟨x | x | x, _ | ⟨y | y | y, S⟩⟩
  all_goals first | exact ja_To none | exact ja_To _ | exact ja_Tc _ (ja_Tk _ _ _ _) (ja_To none)
theorem jt_putZ (φ : Bool) (E : ja_E) (a : ja_I) (i : Nat) (L : ja_L) (S : List ja_V) (M : ja_M) : ja_T (jh_putZ φ E a i L S M) := by
  rcases S with _ | ⟨x | x | x, _ | ⟨y | y | y, S⟩⟩
  all_goals first | exact ja_To none | exact ja_To _ | exact ja_Tc _ (ja_Tc _ (ja_Tk _ _ _ _) (ja_To none)) (ja_To none)
theorem jt_putL (φ : Bool) (E : ja_E) (a : ja_I) (i : Nat) (L : ja_L) (S : List ja_V) (M : ja_M) : ja_T (jh_putL φ E a i L S M) := by
  rcases S with _ | ⟨x | x | x, _ | ⟨y | y | y, S⟩⟩
  all_goals first | exact ja_To none | exact ja_To _ | exact ja_Tc _ (ja_Tk _ _ _ _) (ja_To none)
theorem jt_putR (φ : Bool) (E : ja_E) (a : ja_I) (i : Nat) (L : ja_L) (S : List ja_V) (M : ja_M) : ja_T (jh_putR φ E a i L S M) := by
  rcases S with _ | ⟨x | x | x, _ | ⟨y | y | y, S⟩⟩
  all_goals first | exact ja_To none | exact ja_To _ | exact ja_Tc _ (ja_Tk _ _ _ _) (ja_To none)
theorem jt_static (φ : Bool) (E : ja_E) (a : ja_I) (i : Nat) (L : ja_L) (S : List ja_V) (M : ja_M) : ja_T (jh_static φ E a i L S M) := by
  exact ja_Tk _ _ _ _
theorem jt_iald (φ : Bool) (E : ja_E) (a : ja_I) (i : Nat) (L : ja_L) (S : List ja_V) (M : ja_M) : ja_T (jh_iald φ E a i L S M) := by
  rcases S with _ | ⟨x | x | x, _ | ⟨y | y | y, S⟩⟩
  all_goals first | exact ja_To none | exact ja_To _ | exact ja_Tc _ (ja_Tc _ (ja_Ti (ja_Tk _ _ _ _) (ja_To none)) (ja_To none)) (ja_Tc _ (ja_Ti (ja_Tk _ _ _ _) (ja_To none)) (ja_Tc _ (ja_Ti (ja_Tk _ _ _ _) (ja_To none)) (ja_To none)))
theorem jt_bald (φ : Bool) (E : ja_E) (a : ja_I) (i : Nat) (L : ja_L) (S : List ja_V) (M : ja_M) : ja_T (jh_bald φ E a i L S M) := by
  rcases S with _ | ⟨x | x | x, _ | ⟨y | y | y, S⟩⟩
  all_goals first | exact ja_To none | exact ja_To _ | exact ja_Tc _ (ja_Ti (ja_Tk _ _ _ _) (ja_To none)) (ja_To none)
theorem jt_lald (φ : Bool) (E : ja_E) (a : ja_I) (i : Nat) (L : ja_L) (S : List ja_V) (M : ja_M) : ja_T (jh_lald φ E a i L S M) := by
  rcases S with _ | ⟨x | x | x, _ | ⟨y | y | y, S⟩⟩
  all_goals first | exact ja_To none | exact ja_To _ | exact ja_Tc _ (ja_Ti (ja_Tk _ _ _ _) (ja_To none)) (ja_To none)
theorem jt_aald (φ : Bool) (E : ja_E) (a : ja_I) (i : Nat) (L : ja_L) (S : List ja_V) (M : ja_M) : ja_T (jh_aald φ E a i L S M) := by
  rcases S with _ | ⟨x | x | x, _ | ⟨y | y | y, S⟩⟩
  all_goals first | exact ja_To none | exact ja_To _ | exact ja_Tc _ (ja_Ti (ja_Tk _ _ _ _) (ja_To none)) (ja_To none)
theorem jt_iast (φ : Bool) (E : ja_E) (a : ja_I) (i : Nat) (L : ja_L) (S : List ja_V) (M : ja_M) : ja_T (jh_iast φ E a i L S M) := by
  rcases S with _ | ⟨x | x | x, _ | ⟨y | y | y, _ | ⟨z | z | z, S⟩⟩⟩
  all_goals first | exact ja_To none | exact ja_To _ | exact ja_Tc _ (ja_Ti (ja_Tk _ _ _ _) (ja_To none)) (ja_To none)
theorem jt_bast (φ : Bool) (E : ja_E) (a : ja_I) (i : Nat) (L : ja_L) (S : List ja_V) (M : ja_M) : ja_T (jh_bast φ E a i L S M) := by
  rcases S with _ | ⟨x | x | x, _ | ⟨y | y | y, _ | ⟨z | z | z, S⟩⟩⟩
  all_goals first | exact ja_To none | exact ja_To _ | exact ja_Tc _ (ja_Ti (ja_Tc _ (ja_Tk _ _ _ _) (ja_To none)) (ja_To none)) (ja_To none)
theorem jt_last (φ : Bool) (E : ja_E) (a : ja_I) (i : Nat) (L : ja_L) (S : List ja_V) (M : ja_M) : ja_T (jh_last φ E a i L S M) := by
  rcases S with _ | ⟨x | x | x, _ | ⟨y | y | y, _ | ⟨z | z | z, S⟩⟩⟩
  all_goals first | exact ja_To none | exact ja_To _ | exact ja_Tc _ (ja_Ti (ja_Tk _ _ _ _) (ja_To none)) (ja_To none)
theorem jt_alen (φ : Bool) (E : ja_E) (a : ja_I) (i : Nat) (L : ja_L) (S : List ja_V) (M : ja_M) : ja_T (jh_alen φ E a i L S M) := by
  rcases S with _ | ⟨x | x | x, S⟩
  all_goals first | exact ja_To none | exact ja_To _ | exact ja_Tc _ (ja_Tk _ _ _ _) (ja_Tc _ (ja_Tk _ _ _ _) (ja_To none))
theorem jt_new (φ : Bool) (E : ja_E) (a : ja_I) (i : Nat) (L : ja_L) (S : List ja_V) (M : ja_M) : ja_T (jh_new φ E a i L S M) := by
  exact ja_Tc _ (ja_Tk _ _ _ _) (ja_To none)
theorem jt_newa (φ : Bool) (E : ja_E) (a : ja_I) (i : Nat) (L : ja_L) (S : List ja_V) (M : ja_M) : ja_T (jh_newa φ E a i L S M) := by
  rcases S with _ | ⟨x | x | x, S⟩
  all_goals first | exact ja_To none | exact ja_To _ | exact ja_Tc _ (ja_Tk _ _ _ _) (ja_To none)
theorem jt_newm (φ : Bool) (E : ja_E) (a : ja_I) (i : Nat) (L : ja_L) (S : List ja_V) (M : ja_M) : ja_T (jh_newm φ E a i L S M) := by
  rcases S with _ | ⟨x | x | x, _ | ⟨y | y | y, S⟩⟩
  all_goals first | exact ja_To none | exact ja_To _ | exact ja_Tc _ (ja_Tk _ _ _ _) (ja_To none)
theorem jt_callV (φ : Bool) (E : ja_E) (a : ja_I) (i : Nat) (L : ja_L) (S : List ja_V) (M : ja_M) : ja_T (jh_callV φ E a i L S M) := by
  show ja_T (fun κ => _)
  unfold jh_callV
  generalize S.drop a.2.2.1 = S'
  rcases S' with _ | ⟨x | x | x, S'⟩
  all_goals first | exact ja_To none | exact ja_To _ | exact ja_Tc _ (ja_Tbk _ _ _ _ _) (ja_To none)
theorem jt_callS (φ : Bool) (E : ja_E) (a : ja_I) (i : Nat) (L : ja_L) (S : List ja_V) (M : ja_M) : ja_T (jh_callS φ E a i L S M) := by
  exact ja_Tc _ (ja_Tbk _ _ _ _ _) (ja_To none)
theorem jt_callI (φ : Bool) (E : ja_E) (a : ja_I) (i : Nat) (L : ja_L) (S : List ja_V) (M : ja_M) : ja_T (jh_callI φ E a i L S M) := by
  show ja_T (fun κ => _)
  unfold jh_callI
  generalize S.drop a.2.2.1 = S'
  rcases S' with _ | ⟨x | x | x, S'⟩
  all_goals first | exact ja_To none | exact ja_To _ | exact ja_Tc _ (ja_Tbk _ _ _ _ _) (ja_To none)
theorem jt_objI (φ : Bool) (E : ja_E) (a : ja_I) (i : Nat) (L : ja_L) (S : List ja_V) (M : ja_M) : ja_T (jh_objI φ E a i L S M) := by
  rcases S with _ | ⟨x | x | x, S⟩
  all_goals first | exact ja_To none | exact ja_To _ | exact ja_Tc _ (ja_Tk _ _ _ _) (ja_To none)
theorem jt_iret (φ : Bool) (E : ja_E) (a : ja_I) (i : Nat) (L : ja_L) (S : List ja_V) (M : ja_M) : ja_T (jh_iret φ E a i L S M) := by
  rcases S with _ | ⟨x | x | x, _ | ⟨y, S⟩⟩
  all_goals first | exact ja_To none | exact ja_To _ | exact ja_To none
theorem jt_zret (φ : Bool) (E : ja_E) (a : ja_I) (i : Nat) (L : ja_L) (S : List ja_V) (M : ja_M) : ja_T (jh_zret φ E a i L S M) := by
  rcases S with _ | ⟨x | x | x, _ | ⟨y, S⟩⟩
  all_goals first | exact ja_To none | exact ja_To _ | exact ja_To none
theorem jt_lret (φ : Bool) (E : ja_E) (a : ja_I) (i : Nat) (L : ja_L) (S : List ja_V) (M : ja_M) : ja_T (jh_lret φ E a i L S M) := by
  rcases S with _ | ⟨x | x | x, _ | ⟨y, S⟩⟩
  all_goals first | exact ja_To none | exact ja_To _ | exact ja_To none
theorem jt_aret (φ : Bool) (E : ja_E) (a : ja_I) (i : Nat) (L : ja_L) (S : List ja_V) (M : ja_M) : ja_T (jh_aret φ E a i L S M) := by
  rcases S with _ | ⟨x | x | x, _ | ⟨y, S⟩⟩
  all_goals first | exact ja_To none | exact ja_To _ | exact ja_To none
theorem jt_vret (φ : Bool) (E : ja_E) (a : ja_I) (i : Nat) (L : ja_L) (S : List ja_V) (M : ja_M) : ja_T (jh_vret φ E a i L S M) := by
  rcases S with _ | ⟨y, S⟩
  all_goals first | exact ja_To none | exact ja_To _ | exact ja_To none
theorem jt_dup (φ : Bool) (E : ja_E) (a : ja_I) (i : Nat) (L : ja_L) (S : List ja_V) (M : ja_M) : ja_T (jh_dup φ E a i L S M) := by
  rcases S with _ | ⟨x | x | x, S⟩
  all_goals first | exact ja_To none | exact ja_To _ | exact ja_Tk _ _ _ _
theorem jt_dup2 (φ : Bool) (E : ja_E) (a : ja_I) (i : Nat) (L : ja_L) (S : List ja_V) (M : ja_M) : ja_T (jh_dup2 φ E a i L S M) := by
  rcases S with _ | ⟨x | x | x, _ | ⟨y | y | y, S⟩⟩
  all_goals first | exact ja_To none | exact ja_To _ | exact ja_Tk _ _ _ _
theorem jt_pop (φ : Bool) (E : ja_E) (a : ja_I) (i : Nat) (L : ja_L) (S : List ja_V) (M : ja_M) : ja_T (jh_pop φ E a i L S M) := by
  rcases S with _ | ⟨x | x | x, S⟩
  all_goals first | exact ja_To none | exact ja_To _ | exact ja_Tk _ _ _ _
theorem jt_copy (φ : Bool) (E : ja_E) (a : ja_I) (i : Nat) (L : ja_L) (S : List ja_V) (M : ja_M) : ja_T (jh_copy φ E a i L S M) := by
  rcases S with _ | ⟨x | x | x, _ | ⟨y | y | y, _ | ⟨z | z | z, _ | ⟨u | u | u, _ | ⟨v | v | v, S⟩⟩⟩⟩⟩
  all_goals first | exact ja_To none | exact ja_To _ | exact ja_Tc _ (ja_Ti (ja_Tk _ _ _ _) (ja_To none)) (ja_To none)
theorem jt_place (φ : Bool) (E : ja_E) (a : ja_I) (i : Nat) (L : ja_L) (S : List ja_V) (M : ja_M) : ja_T (jh_place φ E a i L S M) := by
  rcases S with _ | ⟨x | x | x, _ | ⟨y | y | y, _ | ⟨z | z | z, _ | ⟨u | u | u, S⟩⟩⟩⟩
  all_goals first | exact ja_To none | exact ja_To _ | exact ja_Tc _ (ja_Ti (ja_Ti (ja_Tk _ _ _ _) (ja_To none)) (ja_Tk _ _ _ _)) (ja_To none)
theorem jt_mmax (φ : Bool) (E : ja_E) (a : ja_I) (i : Nat) (L : ja_L) (S : List ja_V) (M : ja_M) : ja_T (jh_mmax φ E a i L S M) := by
  rcases S with _ | ⟨x | x | x, _ | ⟨y | y | y, S⟩⟩
  all_goals first | exact ja_To none | exact ja_To _ | exact ja_Tc _ (ja_Tk _ _ _ _) (ja_To none)
theorem jt_mmin (φ : Bool) (E : ja_E) (a : ja_I) (i : Nat) (L : ja_L) (S : List ja_V) (M : ja_M) : ja_T (jh_mmin φ E a i L S M) := by
  rcases S with _ | ⟨x | x | x, _ | ⟨y | y | y, S⟩⟩
  all_goals first | exact ja_To none | exact ja_To _ | exact ja_Tc _ (ja_Tk _ _ _ _) (ja_To none)
theorem jt_mabs (φ : Bool) (E : ja_E) (a : ja_I) (i : Nat) (L : ja_L) (S : List ja_V) (M : ja_M) : ja_T (jh_mabs φ E a i L S M) := by
  rcases S with _ | ⟨x | x | x, S⟩
  all_goals first | exact ja_To none | exact ja_To _ | exact ja_Tc _ (ja_Tk _ _ _ _) (ja_To none)
theorem jt_lmax (φ : Bool) (E : ja_E) (a : ja_I) (i : Nat) (L : ja_L) (S : List ja_V) (M : ja_M) : ja_T (jh_lmax φ E a i L S M) := by
  rcases S with _ | ⟨x | x | x, _ | ⟨y | y | y, S⟩⟩
  all_goals first | exact ja_To none | exact ja_To _ | exact ja_Tc _ (ja_Tk _ _ _ _) (ja_To none)
theorem jt_lmin (φ : Bool) (E : ja_E) (a : ja_I) (i : Nat) (L : ja_L) (S : List ja_V) (M : ja_M) : ja_T (jh_lmin φ E a i L S M) := by
  rcases S with _ | ⟨x | x | x, _ | ⟨y | y | y, S⟩⟩
  all_goals first | exact ja_To none | exact ja_To _ | exact ja_Tc _ (ja_Tk _ _ _ _) (ja_To none)
theorem jt_none (φ : Bool) (E : ja_E) (a : ja_I) (i : Nat) (L : ja_L) (S : List ja_V) (M : ja_M) : ja_T (jh_none φ E a i L S M) := ja_To none
theorem ja_nthP {α : Type} {P : α → Prop} {d : α} (hd : P d) : ∀ (l : List α), (∀ x ∈ l, P x) → ∀ n, P (ja_nth l n d)
  | [], _, _ => hd
  | x :: _, h, 0 => h x List.mem_cons_self
  | _ :: xs, h, n + 1 => ja_nthP hd xs (fun y hy => h y (List.mem_cons_of_mem _ hy)) n
theorem ja_hT (φ : Bool) (E : ja_E) (a : ja_I) (i : Nat) (L : ja_L) (S : List ja_V) (M : ja_M) : ja_T (ja_h φ E a i L S M) := by
  have h : ∀ x ∈ ja_hs, ∀ (φ : Bool) (E : ja_E) (a : ja_I) (i : Nat) (L : ja_L) (S : List ja_V) (M : ja_M), ja_T (x φ E a i L S M) := by
    unfold ja_hs
    refine List.forall_mem_cons.mpr ⟨jt_load, ?_⟩
    refine List.forall_mem_cons.mpr ⟨jt_ipush, ?_⟩
    refine List.forall_mem_cons.mpr ⟨jt_lpush, ?_⟩
    refine List.forall_mem_cons.mpr ⟨jt_st1, ?_⟩
    refine List.forall_mem_cons.mpr ⟨jt_st2, ?_⟩
    refine List.forall_mem_cons.mpr ⟨jt_iinc, ?_⟩
    refine List.forall_mem_cons.mpr ⟨jt_ibin, ?_⟩
    refine List.forall_mem_cons.mpr ⟨jt_idiv, ?_⟩
    refine List.forall_mem_cons.mpr ⟨jt_irem, ?_⟩
    refine List.forall_mem_cons.mpr ⟨jt_ineg, ?_⟩
    refine List.forall_mem_cons.mpr ⟨jt_lbin, ?_⟩
    refine List.forall_mem_cons.mpr ⟨jt_ldiv, ?_⟩
    refine List.forall_mem_cons.mpr ⟨jt_lrem, ?_⟩
    refine List.forall_mem_cons.mpr ⟨jt_lshl, ?_⟩
    refine List.forall_mem_cons.mpr ⟨jt_lush, ?_⟩
    refine List.forall_mem_cons.mpr ⟨jt_i2l, ?_⟩
    refine List.forall_mem_cons.mpr ⟨jt_l2i, ?_⟩
    refine List.forall_mem_cons.mpr ⟨jt_lcmp, ?_⟩
    refine List.forall_mem_cons.mpr ⟨jt_icmp, ?_⟩
    refine List.forall_mem_cons.mpr ⟨jt_ifz, ?_⟩
    refine List.forall_mem_cons.mpr ⟨jt_ifnull, ?_⟩
    refine List.forall_mem_cons.mpr ⟨jt_ifnon, ?_⟩
    refine List.forall_mem_cons.mpr ⟨jt_goto, ?_⟩
    refine List.forall_mem_cons.mpr ⟨jt_switch, ?_⟩
    refine List.forall_mem_cons.mpr ⟨jt_getI, ?_⟩
    refine List.forall_mem_cons.mpr ⟨jt_getL, ?_⟩
    refine List.forall_mem_cons.mpr ⟨jt_getR, ?_⟩
    refine List.forall_mem_cons.mpr ⟨jt_putI, ?_⟩
    refine List.forall_mem_cons.mpr ⟨jt_putZ, ?_⟩
    refine List.forall_mem_cons.mpr ⟨jt_putL, ?_⟩
    refine List.forall_mem_cons.mpr ⟨jt_putR, ?_⟩
    refine List.forall_mem_cons.mpr ⟨jt_static, ?_⟩
    refine List.forall_mem_cons.mpr ⟨jt_iald, ?_⟩
    refine List.forall_mem_cons.mpr ⟨jt_bald, ?_⟩
    refine List.forall_mem_cons.mpr ⟨jt_lald, ?_⟩
    refine List.forall_mem_cons.mpr ⟨jt_aald, ?_⟩
    refine List.forall_mem_cons.mpr ⟨jt_iast, ?_⟩
    refine List.forall_mem_cons.mpr ⟨jt_bast, ?_⟩
    refine List.forall_mem_cons.mpr ⟨jt_last, ?_⟩
    refine List.forall_mem_cons.mpr ⟨jt_alen, ?_⟩
    refine List.forall_mem_cons.mpr ⟨jt_new, ?_⟩
    refine List.forall_mem_cons.mpr ⟨jt_newa, ?_⟩
    refine List.forall_mem_cons.mpr ⟨jt_newm, ?_⟩
    refine List.forall_mem_cons.mpr ⟨jt_callV, ?_⟩
    refine List.forall_mem_cons.mpr ⟨jt_callS, ?_⟩
    refine List.forall_mem_cons.mpr ⟨jt_callI, ?_⟩
    refine List.forall_mem_cons.mpr ⟨jt_objI, ?_⟩
    refine List.forall_mem_cons.mpr ⟨jt_iret, ?_⟩
    refine List.forall_mem_cons.mpr ⟨jt_zret, ?_⟩
    refine List.forall_mem_cons.mpr ⟨jt_lret, ?_⟩
    refine List.forall_mem_cons.mpr ⟨jt_aret, ?_⟩
    refine List.forall_mem_cons.mpr ⟨jt_vret, ?_⟩
    refine List.forall_mem_cons.mpr ⟨jt_dup, ?_⟩
    refine List.forall_mem_cons.mpr ⟨jt_dup2, ?_⟩
    refine List.forall_mem_cons.mpr ⟨jt_pop, ?_⟩
    refine List.forall_mem_cons.mpr ⟨jt_copy, ?_⟩
    refine List.forall_mem_cons.mpr ⟨jt_place, ?_⟩
    refine List.forall_mem_cons.mpr ⟨jt_mmax, ?_⟩
    refine List.forall_mem_cons.mpr ⟨jt_mmin, ?_⟩
    refine List.forall_mem_cons.mpr ⟨jt_mabs, ?_⟩
    refine List.forall_mem_cons.mpr ⟨jt_lmax, ?_⟩
    refine List.forall_mem_cons.mpr ⟨jt_lmin, ?_⟩
    exact fun _ h => absurd h List.not_mem_nil
  exact ja_nthP (P := fun x => ∀ (φ : Bool) (E : ja_E) (a : ja_I) (i : Nat) (L : ja_L) (S : List ja_V) (M : ja_M), ja_T (x φ E a i L S M)) jt_none ja_hs h a.1 φ E a i L S M
theorem ja_step_eq (φ : Bool) (E : ja_E) (c : List ja_I) (κ : ja_K) (i : Nat) (L : ja_L) (S : List ja_V) (M : ja_M) : ja_step φ E c κ i L S M = ja_h φ E (ja_nth c i ja_row0) i (ja_mask (ja_nth c i ja_row0).2.2.2.2.2 L) S M κ := by
  unfold ja_step
  obtain ⟨o, a, n, b, t, ms⟩ := ja_nth c i ja_row0
  exact ja_fc_eq _ _
theorem ja_stepT (φ : Bool) (E : ja_E) (c : List ja_I) (i : Nat) (L : ja_L) (S : List ja_V) (M : ja_M) : ja_T (fun κ => ja_step φ E c κ i L S M) := by
  have e : (fun κ => ja_step φ E c κ i L S M) = ja_h φ E (ja_nth c i ja_row0) i (ja_mask (ja_nth c i ja_row0).2.2.2.2.2 L) S M := by
    funext κ
    exact ja_step_eq φ E c κ i L S M
  rw [e]
  exact ja_hT φ E _ i _ S M
theorem ja_it_mono (φ : Bool) (E : ja_E) (c : List ja_I) : ∀ (n i : Nat) (L : ja_L) (S : List ja_V) (M : ja_M) (r : ja_R), ja_it φ E c n i L S M = some r → ja_it φ E c (n + 1) i L S M = some r
  | 0, _, _, _, _, _, h => by cases h
  | n + 1, i, L, S, M, r, h => by
    rcases ja_stepT φ E c i L S M with ⟨o, ho⟩ | ⟨i', L', S', M', hk⟩
    · exact (ho (ja_it φ E c (n + 1))).trans ((ho (ja_it φ E c n)).symm.trans h)
    · have h1 : ja_it φ E c n i' L' S' M' = some r := (hk (ja_it φ E c n)).symm.trans h
      exact (hk (ja_it φ E c (n + 1))).trans (ja_it_mono φ E c n i' L' S' M' r h1)
theorem ja_it_le (φ : Bool) (E : ja_E) (c : List ja_I) {n : Nat} (k : Nat) {i : Nat} {L : ja_L} {S : List ja_V} {M : ja_M} {r : ja_R} (h : ja_it φ E c n i L S M = some r) : ja_it φ E c (n + k) i L S M = some r := by
  induction k with
  | zero => exact h
  | succ k ih => exact ja_it_mono φ E c (n + k) i L S M r ih
theorem ja_D_of {φ : Bool} {E : ja_E} {c : List ja_I} {n i : Nat} {L : ja_L} {S : List ja_V} {M : ja_M} {r : ja_R} (h : ja_it φ E c n i L S M = some r) : ja_D φ E c i L S M = some r := by
  have hx : ∃ n, ((fun n => ja_it φ E c n i L S M) n).isSome = true := ⟨n, by show (ja_it φ E c n i L S M).isSome = true; rw [h]; rfl⟩
  have e : ja_D φ E c i L S M = ja_it φ E c (Classical.choose hx) i L S M := dif_pos hx
  have hs : (ja_it φ E c (Classical.choose hx) i L S M).isSome = true := Classical.choose_spec hx
  rw [e]
  obtain ⟨r', hr'⟩ := Option.isSome_iff_exists.mp hs
  have h1 := ja_it_le φ E c n hr'
  have h2 := ja_it_le φ E c (Classical.choose hx) h
  rw [Nat.add_comm] at h2
  rw [hr', ← h1, h2]
theorem ja_D_ex {φ : Bool} {E : ja_E} {c : List ja_I} {i : Nat} {L : ja_L} {S : List ja_V} {M : ja_M} {r : ja_R} (h : ja_D φ E c i L S M = some r) : ∃ n, ja_it φ E c n i L S M = some r := by
  by_cases hx : ∃ n, ((fun n => ja_it φ E c n i L S M) n).isSome = true
  · have e : ja_D φ E c i L S M = ja_it φ E c (Classical.choose hx) i L S M := dif_pos hx
    exact ⟨_, e.symm.trans h⟩
  · have e : ja_D φ E c i L S M = none := dif_neg hx
    rw [e] at h
    cases h
theorem ja_D_eq (φ : Bool) (E : ja_E) (c : List ja_I) (i : Nat) (L : ja_L) (S : List ja_V) (M : ja_M) : ja_D φ E c i L S M = ja_step φ E c (ja_D φ E c) i L S M := by
  apply Option.ext
  intro r
  constructor
  · intro h
    obtain ⟨n, hn⟩ := ja_D_ex h
    cases n with
    | zero => cases hn
    | succ n =>
      rcases ja_stepT φ E c i L S M with ⟨o, ho⟩ | ⟨i', L', S', M', hk⟩
      · exact (ho (ja_D φ E c)).trans ((ho (ja_it φ E c n)).symm.trans hn)
      · exact (hk (ja_D φ E c)).trans (ja_D_of ((hk (ja_it φ E c n)).symm.trans hn))
  · intro h
    rcases ja_stepT φ E c i L S M with ⟨o, ho⟩ | ⟨i', L', S', M', hk⟩
    · exact ja_D_of (n := 1) ((ho (ja_it φ E c 0)).trans ((ho (ja_D φ E c)).symm.trans h))
    · obtain ⟨n, hn⟩ := ja_D_ex ((hk (ja_D φ E c)).symm.trans h)
      exact ja_D_of (n := n + 1) ((hk (ja_it φ E c n)).trans hn)
theorem ja_mask2 : ∀ (bs : List Bool) (L : ja_L), ja_mask bs (ja_mask bs L) = ja_mask bs L
  | [], _ => rfl
  | _ :: _, [] => rfl
  | b :: bs, x :: L => by
    show (bif b then (bif b then x else none) else none) :: ja_mask bs (ja_mask bs L) = (bif b then x else none) :: ja_mask bs L
    rw [ja_mask2 bs L]
    cases b <;> rfl
theorem ja_D_mask (φ : Bool) (E : ja_E) (c : List ja_I) (i : Nat) (L : ja_L) (S : List ja_V) (M : ja_M) : ja_D φ E c i (ja_mask (ja_nth c i ja_row0).2.2.2.2.2 L) S M = ja_D φ E c i L S M := by
  rw [ja_D_eq, ja_D_eq φ E c i L, ja_step_eq, ja_step_eq, ja_mask2]
theorem ja_D_go (φ : Bool) (E : ja_E) (c : List ja_I) : ∀ (k i : Nat) (L : ja_L) (S : List ja_V) (M : ja_M), ja_go φ E c (ja_D φ E c) k i L S M = ja_D φ E c i L S M
  | 0, _, _, _, _ => rfl
  | k + 1, i, L, S, M => by
    have hf : ja_go φ E c (ja_D φ E c) k = ja_D φ E c := by
      funext i L S M
      exact ja_D_go φ E c k i L S M
    show ja_goB φ E (ja_D φ E c) i L S M (ja_go φ E c (ja_D φ E c) k) (ja_nth c i ja_row0) = _
    rw [hf]
    have hm := ja_D_mask φ E c i L S M
    have he := ja_D_eq φ E c i L S M
    rw [ja_step_eq] at he
    generalize ja_nth c i ja_row0 = r at hm he ⊢
    obtain ⟨o, a, n, b, t, ms⟩ := r
    cases ms with
    | nil => exact he.symm
    | cons b bs => exact (ja_fc_eq _ _).trans hm
/-- k steps behind the first one, or to loops' heads -/
theorem ja_blk (φ : Bool) (E : ja_E) (c : List ja_I) (k i : Nat) (L : ja_L) (S : List ja_V) (M : ja_M) : ja_D φ E c i L S M = ja_step φ E c (ja_go φ E c (ja_D φ E c) k) i L S M := by
  have hf : ja_go φ E c (ja_D φ E c) k = ja_D φ E c := by
    funext i L S M
    exact ja_D_go φ E c k i L S M
  rw [hf]
  exact ja_D_eq φ E c i L S M
theorem ja_x_eq (φ : Bool) (d y : Nat) (as : List ja_V) (M : ja_M) : ja_x φ (d + 1) y as M = cond (Nat.ble (ja_argL as).length (ja_maxL y)) (ja_D φ (ja_x φ d) (ja_code y) 0 (ja_pad (ja_maxL y) (ja_argL as)) [] M) none := rfl
