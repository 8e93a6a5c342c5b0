/-! tables: a step of the search, and a table kept -/
theorem js_mayF (dd : Nat) {N : ja_M} {a b : Int} {f : Nat} (hf : N 11 5 = (f : Int)) (ha : a = -1 ∨ (0 ≤ a ∧ a < 5)) (hb : b = -1 ∨ (0 ≤ b ∧ b < 5)) : ja_x true (dd + 2) 165 [jr 93, ji a, ji b] N = some (some (ji (if a = -1 ∨ b = -1 ∨ N (118 + a.toNat) b.toNat < (f : Int) then 1 else 0)), N) := by
  rw [f_Finds_mayFollow]
  by_cases h1 : a = -1
  · rw [if_pos h1, if_pos (Or.inl h1)]
  · rw [if_neg h1]
    by_cases h2 : b = -1
    · rw [if_pos h2, if_pos (Or.inr (Or.inl h2))]
    · rw [if_neg h2, if_pos (by omega), show 117 + 1 + a.toNat = 118 + a.toNat by omega, jz_ald (n := 5) (jk_118 a.toNat (by omega)) (by omega) (by omega) (by omega) (by omega), f_Hunt_follow_11, hf, jz_bI]
      by_cases h3 : N (118 + a.toNat) b.toNat < (f : Int)
      · rw [if_pos h3, if_pos (Or.inr (Or.inr h3))]
      · rw [if_neg h3, if_neg (fun q => by rcases q with q | q | q; exact h1 q; exact h2 q; exact h3 q)]
noncomputable abbrev flD (E : ja_E) (b t : Nat) (free : Int) (p : Nat) (N : ja_M) : Option ja_R := ja_D true E k_Finds_fill 43 [some (jr 93), some (ji (b : Int)), some (ji (t : Int)), some (ji free), some (ji (p : Int)), none, none, none] [] N
theorem fl_end (dd : Nat) {N : ja_M} {P b t : Nat} {free : Int} (hP : N 11 3 = (P : Int)) : flD (ja_x true (dd + 2)) b t free P N = some (none, N) := by
  show ja_D true _ _ _ _ _ _ = _
  rw [e_Finds_fill_43, f_Hunt_places_11, hP, jz_bI, if_neg (by omega)]
theorem fl_step (dd : Nat) {N : ja_M} {P b t p : Nat} {free : Int} (hP : N 11 3 = (P : Int)) (hP5 : P ≤ 5) (hb : b < 5) (ht : t < P) (hp : p < P) : flD (ja_x true (dd + 2)) b t free p N = if N 93 6 < N 93 7 then if ja_and (ja_shr free (p : Int)) 1 = 1 then ja_bI (ja_x true (dd + 2) 165 [jr 93, ji (b : Int), ji (gAh N t p)] N) (fun x8 M7 => if x8 = 0 then flD (ja_x true (dd + 2)) b t free (p + 1) M7 else ja_bI (ja_x true (dd + 2) 165 [jr 93, ji (gBh P N t p), ji (b : Int)] M7) (fun x10 M9 => if x10 = 0 then flD (ja_x true (dd + 2)) b t free (p + 1) M9 else ja_bV (ja_x true (dd + 2) 166 [jr 93, ji (b : Int), ji (t : Int), ji (p : Int)] M9) (fun M11 => ja_bV (ja_x true (dd + 2) 167 [jr 93, ji (b : Int), ji (gAh N t p), ji 1] M11) (fun M12 => ja_bV (ja_x true (dd + 2) 167 [jr 93, ji (gBh P N t p), ji (b : Int), ji 1] M12) (fun M13 => ja_bV (ja_x true (dd + 2) 163 [jr 93, ji (b : Int), ji ((t + 1 : Nat) : Int)] M13) (fun M14 => ja_bV (ja_x true (dd + 2) 167 [jr 93, ji (gBh P N t p), ji (b : Int), ji (-1)] M14) (fun M15 => ja_bV (ja_x true (dd + 2) 167 [jr 93, ji (b : Int), ji (gAh N t p), ji (-1)] M15) (fun M16 => ja_bV (ja_x true (dd + 2) 168 [jr 93, ji (b : Int), ji (t : Int), ji (p : Int), ji (M9 108 b)] M16) (fun M17 => flD (ja_x true (dd + 2)) b t free (p + 1) M17))))))))) else flD (ja_x true (dd + 2)) b t free (p + 1) N else some (none, N) := by
  have wt : ja_w ((t : Int) + 1) = ((t + 1 : Nat) : Int) := by rw [ja_w_id (by omega) (by omega)]; rfl
  have wp : ja_w ((p : Int) + 1) = ((p + 1 : Nat) : Int) := by rw [ja_w_id (by omega) (by omega)]; rfl
  show ja_D true _ _ _ _ _ _ = _
  rw [e_Finds_fill_43, f_Hunt_places_11, hP, jz_bI, if_pos (by omega), wt, wp]
  by_cases c1 : N 93 6 < N 93 7
  · rw [if_pos c1, if_pos c1]
    by_cases c2 : ja_and (ja_shr free (p : Int)) 1 = 1
    · rw [if_pos c2, if_pos c2]
      by_cases c3 : 0 < t
      · have wm : ja_w ((t : Int) - 1) = ((t - 1 : Nat) : Int) := by rw [ja_w_id (by omega) (by omega)]; omega
        rw [if_pos (by omega), wm, if_pos (by omega), show (((t - 1 : Nat) : Int)).toNat = t - 1 from rfl, show 111 + 1 + (t - 1) = 112 + (t - 1) by omega, jz_ald (n := 5) (jk_112 (t - 1) (by omega)) (by omega) (by omega) (by omega) (by omega), show ((p : Int)).toNat = p from rfl, f_Hunt_places_11, hP, jz_bI, show gAh N t p = N (112 + (t - 1)) p from if_pos c3]
        by_cases c4 : t + 1 < P
        · rw [if_pos (by omega), if_pos (by omega), show (((t + 1 : Nat) : Int)).toNat = t + 1 from rfl, show 111 + 1 + (t + 1) = 112 + (t + 1) by omega, jz_ald (n := 5) (jk_112 (t + 1) (by omega)) (by omega) (by omega) (by omega) (by omega), show ((p : Int)).toNat = p from rfl, show gBh P N t p = N (112 + (t + 1)) p from if_pos c4]
          simp only [if_pos (show (0 : Int) ≤ (b : Int) ∧ (b : Int) < 5 by omega)]
          rfl
        · rw [if_neg (by omega), show gBh P N t p = -1 from if_neg c4]
          simp only [if_pos (show (0 : Int) ≤ (b : Int) ∧ (b : Int) < 5 by omega)]
          rfl
      · rw [if_neg (by omega), f_Hunt_places_11, hP, jz_bI, show gAh N t p = -1 from if_neg c3]
        by_cases c4 : t + 1 < P
        · rw [if_pos (by omega), if_pos (by omega), show (((t + 1 : Nat) : Int)).toNat = t + 1 from rfl, show 111 + 1 + (t + 1) = 112 + (t + 1) by omega, jz_ald (n := 5) (jk_112 (t + 1) (by omega)) (by omega) (by omega) (by omega) (by omega), show ((p : Int)).toNat = p from rfl, show gBh P N t p = N (112 + (t + 1)) p from if_pos c4]
          simp only [if_pos (show (0 : Int) ≤ (b : Int) ∧ (b : Int) < 5 by omega)]
          rfl
        · rw [if_neg (by omega), show gBh P N t p = -1 from if_neg c4]
          simp only [if_pos (show (0 : Int) ≤ (b : Int) ∧ (b : Int) < 5 by omega)]
          rfl
    · rw [if_neg c2, if_neg c2]
  · rw [if_neg c1, if_neg c1]
theorem jk_172 : ja_kd 172 = (100, 5000) := by decide
theorem jk_ok172 {M : ja_M} (h : M 0 0 = 172) : ja_okc true M 172 = true := by
  unfold ja_okc
  rw [h]
  rfl
theorem jz_ast172 {M : ja_M} {j v : Int} {k : ja_M → Option ja_R} (h0 : M 0 0 = 172) (h3 : 0 ≤ j) (h4 : j < 5000) : ja_ast true M 172 j v k = k (ja_up M 172 j.toNat v) := by
  unfold ja_ast
  rw [jk_172, jk_ok172 h0]
  show (if 0 ≤ j ∧ j < 5000 then k (ja_up M 172 j.toNat v) else none) = _
  rw [if_pos ⟨h3, h4⟩]
theorem jz_ald172 {M : ja_M} {j : Int} {k : Int → Option ja_R} (h0 : M 0 0 = 172) (h3 : 0 ≤ j) (h4 : j < 5000) : ja_ald true M 172 j k = k (M 172 j.toNat) := by
  unfold ja_ald
  rw [jk_172, jk_ok172 h0]
  show (if 0 ≤ j ∧ j < 5000 then k (M 172 j.toNat) else none) = _
  rw [if_pos ⟨h3, h4⟩]
theorem js_keepL (E : ja_E) {c : Nat} (hc : c < 1000) : ∀ (m b : Nat) (N : ja_M), b + m = 5 → N 0 0 = 172 → N 93 4 = 1 → N 93 6 = (c : Int) → ∃ N', ja_D true E k_Finds_keepTable 10 [some (jr 93), some (ji (b : Int))] [] N = some (none, ja_up N' 93 6 ((c + 1 : Nat) : Int)) ∧ (∀ b', b ≤ b' → b' < 5 → N' 172 (5 * c + b') = N 108 b') ∧ ∀ d i, ¬ (d = 172 ∧ 5 * c + b ≤ i) → N' d i = N d i
  | 0, b, N, hb, h0, h4, h6 => by
    refine ⟨N, ?_, fun b' h1 h2 => by omega, fun _ _ _ => rfl⟩
    rw [e_Finds_keepTable_10, if_neg (by omega), h6, ja_w_id (by omega) (by omega)]
    rfl
  | m + 1, b, N, hb, h0, h4, h6 => by
    obtain ⟨N', e1, e2, e3⟩ := js_keepL E hc m (b + 1) (ja_up N 172 (5 * c + b) (N 108 b)) (by omega) ((jb_up_ne (by decide)).trans h0) ((jb_up_ne (by decide)).trans h4) ((jb_up_ne (by decide)).trans h6)
    refine ⟨N', ?_, fun b' h1 h2 => ?_, fun d i h => ?_⟩
    · rw [e_Finds_keepTable_10, if_pos (by omega), if_pos (by omega), h4, if_neg (by decide), h6, ja_w_id (x := (c : Int) * 5) (by omega) (by omega), ja_w_id (x := (c : Int) * 5 + (b : Int)) (by omega) (by omega), jz_ast172 h0 (by omega) (by omega), ja_w_id (x := (b : Int) + 1) (by omega) (by omega), show ((c : Int) * 5 + (b : Int)).toNat = 5 * c + b by omega]
      exact e1
    · by_cases z : b' = b
      · rw [z, e3 172 (5 * c + b) (fun q => by omega), jb_up_eq]
      · rw [e2 b' (by omega) h2, jb_up_ne (by decide)]
    · rw [e3 d i (fun q => h ⟨q.1, by omega⟩), jz_up, if_neg (fun q => h ⟨q.1, by omega⟩)]
theorem js_keepTb (dd : Nat) {N : ja_M} {c : Nat} (hc : c < 1000) (h0 : N 0 0 = 172) (h4 : N 93 4 = 1) (h6 : N 93 6 = (c : Int)) : ∃ N', ja_x true (dd + 1) 164 [jr 93] N = some (none, N') ∧ N' 93 6 = ((c + 1 : Nat) : Int) ∧ (∀ b, b < 5 → N' 172 (5 * c + b) = N 108 b) ∧ ∀ d i, ¬ (d = 172 ∧ 5 * c ≤ i) → ¬ (d = 93 ∧ i = 6) → N' d i = N d i := by
  obtain ⟨N', e1, e2, e3⟩ := js_keepL (ja_x true dd) hc 5 0 N rfl h0 h4 h6
  refine ⟨_, by rw [f_Finds_keepTable, h4, if_neg (by decide), if_pos (by omega)]; exact e1, jb_up_eq, fun b hb => ?_, fun d i h1 h2 => ?_⟩
  · rw [jb_up_ne (by decide)]
    exact e2 b (by omega) hb
  · rw [jz_up, if_neg h2]
    exact e3 d i (fun q => h1 ⟨q.1, by omega⟩)
