/-! reading: a hunt told, both sides -/
def hn_D0 (M : ja_M) : ja_M := ja_up (ja_up (ja_up (ja_up (ja_up M 5 3 0) 5 4 0) 5 5 1) 5 6 5) 4 2 0
noncomputable def hn_res (M : ja_M) : Int × ja_M := hn_read (M 3) (M 2 1).toNat ((M 2 1).toNat + 1) 0 (hn_D0 M)
theorem jT.tp {M : ja_M} (h : jT M) : tpok (M 3) (M 2 1).toNat ∧ tpX M (M 3) (M 2 1).toNat := by
  have h1 := h.1
  exact ⟨⟨by omega, fun i hi => (h.2.2 i (by omega)).2⟩, by omega, fun i _ => rfl⟩
theorem hn_D0_ok (M : ja_M) : hn_ok (hn_D0 M) ∧ jFr s4 M (hn_D0 M) := by
  refine ⟨⟨?_, ?_, ?_, ?_, fun j hj => ?_, fun j hj => ?_, Or.inl rfl⟩, (((((jFr.rf M).up (by decide)).up (by decide)).up (by decide)).up (by decide)).up (by decide)⟩
  · show (0 : Int) ≤ 0 ∧ (0 : Int) ≤ 6
    decide
  · show (0 : Int) ≤ 0 ∧ (0 : Int) ≤ 6
    decide
  · show (0 : Int) ≤ 1 ∧ (1 : Int) ≤ 9
    decide
  · show (0 : Int) ≤ 5 ∧ (5 : Int) ≤ 30
    decide
  · have hj : (j : Int) < 0 := hj
    omega
  · have hj : (j : Int) < 0 := hj
    omega
theorem js_X_hunt (dd : Nat) {M : ja_M} (hT : jT M) : ∃ r, ja_x true (dd + 7) 20 [jr 4] M = some (some (ji (hn_res M).1), atX (hn_res M).2 r) ∧ jFr s4 M (hn_res M).2 ∧ hn_ok (hn_res M).2 ∧ ((hn_res M).1 = -1 → 2 ≤ (hn_res M).2 5 3 ∧ 1 ≤ (hn_res M).2 5 4) := by
  obtain ⟨t1, t2⟩ := hT.tp
  obtain ⟨d1, d2⟩ := hn_D0_ok M
  obtain ⟨r, g1, g2, g3, g4⟩ := js_hread_D dd t1 ((M 2 1).toNat + 1) 0 0 (hn_D0 M) (t2.fr d2) (Nat.zero_le _) d1 (by omega) (by omega)
  refine ⟨r, ?_, d2.tr g2, g3, g4⟩
  rw [f_HuntReader_read, f_Tape_rewind, jz_bV, f_Hunt_clear_5, jz_bV, ja_up_cm (c := 2) (d := 5) (j := 3) (by omega), ja_up_cm (c := 2) (d := 5) (j := 4) (by omega), ja_up_cm (c := 2) (d := 5) (j := 5) (by omega), ja_up_cm (c := 2) (d := 5) (j := 6) (by omega), ja_up_cm (c := 2) (d := 4) (by omega)]
  exact g1
theorem js_R_hunt (dd : Nat) {M M1 : ja_M} (hT : jT M) (tr : tpR M1 (M 3) (M 2 1).toNat) : ∃ N', ja_x true (dd + 6) 206 [jr 137] M1 = some (some (ji (hn_res M).1), N') ∧ jFH M1 N' ∧ ((hn_res M).1 = -1 → rH (hn_res M).2 N' ((hn_res M).2 5 3) ((hn_res M).2 5 4)) := by
  obtain ⟨t1, t2⟩ := hT.tp
  obtain ⟨d1, d2⟩ := hn_D0_ok M
  have h1 := hT.1
  have f0 : jFH M1 M1 := fun _ _ _ _ => rfl
  obtain ⟨N', g1, g2, g3⟩ := js_R_hread_D dd t1 tr t2 ((M 2 1).toNat + 1) 0 (hn_D0 M) (ja_up (ja_up (ja_up (ja_up (ja_up M1 137 4 (-1)) 137 20 0) 137 21 0) 137 22 1) 137 23 5) d2 (Nat.zero_le _) d1 (by omega) (((((f0.up (by omega)).up (by omega)).up (by omega)).up (by omega)).up (by omega)) rfl ⟨⟨rfl, rfl, rfl, rfl⟩, fun j hj => by
    have hj : (j : Int) < 0 := hj
    omega, fun j hj => by
    have hj : (j : Int) < 0 := hj
    omega⟩
  refine ⟨N', ?_, g2, g3⟩
  rw [f_R_readHunt, ja_up_cm (c := 137) (i := 3) (d := 137) (j := 4) (by omega), ja_up_cm (c := 137) (i := 3) (d := 137) (j := 20) (by omega), ja_up_cm (c := 137) (i := 3) (d := 137) (j := 21) (by omega), ja_up_cm (c := 137) (i := 3) (d := 137) (j := 22) (by omega), ja_up_cm (c := 137) (i := 3) (d := 137) (j := 23) (by omega)]
  exact g1
theorem jFr.k4 {A B : ja_M} (h : jFr s4 A B) (r : Nat) : jK A (atX B r) := fun c i q => by
  have h2 : ¬ (c = 2 ∧ i = 2) := fun e => by
    obtain ⟨rfl, rfl⟩ := e
    cases q
  show ja_up B 2 2 (r : Int) c i = A c i
  rw [jz_up, if_neg h2]
  refine h c i (fun x => ?_)
  have x : 4 ≤ c ∧ c ≤ 8 := x
  have : c = 4 ∨ c = 5 ∨ c = 6 ∨ c = 7 ∨ c = 8 := by omega
  rcases this with rfl | rfl | rfl | rfl | rfl <;> cases q
theorem jFH.K {A B : ja_M} (h : jFH A B) : jK A B := fun c i q => h c i (fun x => by
  have : c = 148 ∨ c = 149 ∨ c = 150 := by omega
  rcases this with rfl | rfl | rfl <;> cases q) (fun x => by
  obtain ⟨rfl, x⟩ := x
  have : i = 3 ∨ i = 4 ∨ i = 20 ∨ i = 21 ∨ i = 22 ∨ i = 23 := by omega
  rcases this with rfl | rfl | rfl | rfl | rfl | rfl <;> cases q)
/-! a hunt taken: the class -/
abbrev hv_o (P b t : Nat) : Int := ((t : Int) + (b : Int)).tmod (P : Int)
theorem hv_o_perm {P b : Nat} (h : 2 ≤ P ∧ P ≤ 6) : jv_perm (P : Int) (fun t => hv_o P b t) := by
  have e : ∀ t : Nat, hv_o P b t = ((t : Int) + (b : Int)) % (P : Int) := fun t => Int.tmod_eq_emod_of_nonneg (by omega)
  refine ⟨fun t ht => ?_, fun t u ht hu q => ?_⟩
  · show 0 ≤ hv_o P b t ∧ hv_o P b t < (P : Int)
    rw [e]
    exact ⟨Int.emod_nonneg _ (by omega), Int.emod_lt_of_pos _ (by omega)⟩
  · have q : hv_o P b t = hv_o P b u := q
    rw [e, e] at q
    have : P = 2 ∨ P = 3 ∨ P = 4 ∨ P = 5 ∨ P = 6 := by omega
    rcases this with rfl | rfl | rfl | rfl | rfl
    · have q : ((t : Int) + (b : Int)) % 2 = ((u : Int) + (b : Int)) % 2 := q
      omega
    · have q : ((t : Int) + (b : Int)) % 3 = ((u : Int) + (b : Int)) % 3 := q
      omega
    · have q : ((t : Int) + (b : Int)) % 4 = ((u : Int) + (b : Int)) % 4 := q
      omega
    · have q : ((t : Int) + (b : Int)) % 5 = ((u : Int) + (b : Int)) % 5 := q
      omega
    · have q : ((t : Int) + (b : Int)) % 6 = ((u : Int) + (b : Int)) % 6 := q
      omega
abbrev s26 : Nat → Prop := fun c => 26 ≤ c ∧ c ≤ 32
theorem js_reset (dd : Nat) {M : ja_M} {P B : Nat} (hP : M 11 3 = (P : Int)) (hB : M 11 4 = (B : Int)) (h1 : 2 ≤ P ∧ P ≤ 6) (h2 : B ≤ 6) : ∃ N, ja_x true (dd + 2) 57 [jr 24] M = some (none, N) ∧ jFr s26 M N ∧ (∀ b t : Nat, b < B → t < P → N (26 + b) t = hv_o P b t) ∧ ∀ b : Nat, b < B → N 32 b = 0 := by
  have inner : ∀ (b : Nat), b < B → ∀ (m t : Nat) (N : ja_M), t + m = P → jFr s26 M N → (∀ b' t' : Nat, b' < B → t' < P → (b' < b ∨ (b' = b ∧ t' < t)) → N (26 + b') t' = hv_o P b' t') → (∀ b' : Nat, b' < b + 1 → N 32 b' = 0) → ∃ N', ja_D true (ja_x true (dd + 1)) k_Table_reset 18 [some (jr 24), some (ji (P : Int)), some (ji (b : Int)), some (ji (t : Int))] [] N = ja_D true (ja_x true (dd + 1)) k_Table_reset 6 [some (jr 24), some (ji (P : Int)), some (ji ((b + 1 : Nat) : Int)), none] [] N' ∧ jFr s26 M N' ∧ (∀ b' t' : Nat, b' < B → t' < P → b' < b + 1 → N' (26 + b') t' = hv_o P b' t') ∧ (∀ b' : Nat, b' < b + 1 → N' 32 b' = 0) := by
    intro b hb m
    induction m with
    | zero =>
      intro t N e hf ho hs
      refine ⟨N, ?_, hf, fun b' t' h1 h2 h3 => ho b' t' h1 h2 (by omega), hs⟩
      rw [e_Table_reset_18, if_neg (by omega), ja_w_id (by omega) (by omega)]
      rfl
    | succ m ih =>
      intro t N e hf ho hs
      obtain ⟨N', g1, g2⟩ := ih (t + 1) (ja_up N (26 + b) t (hv_o P b t)) (by omega) (hf.up ⟨by omega, by omega⟩) (fun b' t' x1 x2 x3 => by
        by_cases z : 26 + b' = 26 + b ∧ t' = t
        · rw [z.1, z.2, jb_up_eq, show b' = b by omega]
        · rw [jz_up, if_neg z]
          exact ho b' t' x1 x2 (by omega)) (fun b' hb' => by
        rw [jb_up_ne (by omega)]
        exact hs b' hb')
      refine ⟨N', ?_, g2⟩
      rw [e_Table_reset_18, if_pos (by omega), if_pos (by omega), jz_is0 (by omega), cond_false, show 25 + 1 + ((b : Int)).toNat = 26 + b by omega, jz_ast (n := 6) (jk_row26 b (by omega)) (by omega) (by omega) (by omega) (by omega), show ((t : Int)).toNat = t from rfl, ja_w_id (x := (t : Int) + (b : Int)) (by omega) (by omega), ja_w_id (x := (t : Int) + 1) (by omega) (by omega)]
      exact g1
  have outer : ∀ (m b : Nat) (N : ja_M), b + m = B → jFr s26 M N → (∀ b' t' : Nat, b' < B → t' < P → b' < b → N (26 + b') t' = hv_o P b' t') → (∀ b' : Nat, b' < b → N 32 b' = 0) → ∃ N', ja_D true (ja_x true (dd + 1)) k_Table_reset 6 [some (jr 24), some (ji (P : Int)), some (ji (b : Int)), none] [] N = some (none, N') ∧ jFr s26 M N' ∧ (∀ b t : Nat, b < B → t < P → N' (26 + b) t = hv_o P b t) ∧ ∀ b : Nat, b < B → N' 32 b = 0 := by
    intro m
    induction m with
    | zero =>
      intro b N e hf ho hs
      refine ⟨N, ?_, hf, fun b' t' x y => ho b' t' x y (by omega), fun b' x => hs b' (by omega)⟩
      rw [e_Table_reset_6, js_bands, jz_bI, hf 11 4 (by decide), hB, if_neg (by omega)]
    | succ m ih =>
      intro b N e hf ho hs
      obtain ⟨N1, g1, g2, g3, g4⟩ := inner b (by omega) P 0 (ja_up N 32 b 0) (by omega) (hf.up ⟨by decide, by decide⟩) (fun b' t' x y z => by
        rw [jb_up_ne (by omega)]
        exact ho b' t' x y (by omega)) (fun b' hb' => by
        by_cases z : b' = b
        · rw [z, jb_up_eq]
        · rw [jb_up_nej z]
          exact hs b' (by omega))
      obtain ⟨N', k1, k2⟩ := ih (b + 1) N1 (by omega) g2 g3 g4
      refine ⟨N', ?_, k2⟩
      rw [e_Table_reset_6, js_bands, jz_bI, hf 11 4 (by decide), hB, if_pos (by omega), if_pos (by omega), show ((b : Int)).toNat = b from rfl]
      exact g1.trans k1
  obtain ⟨N', g1, g2⟩ := outer B 0 M (by omega) (jFr.rf M) (fun b' t' _ _ z => absurd z (Nat.not_lt_zero _)) (fun b' z => absurd z (Nat.not_lt_zero _))
  refine ⟨N', ?_, g2⟩
  rw [f_Table_reset, js_places, jz_bI, hP]
  exact g1
abbrev s93 : Nat → Prop := fun c => c = 93 ∨ (95 ≤ c ∧ c ≤ 100)
theorem js_fforget (dd : Nat) {M : ja_M} {P B : Nat} (hP : M 11 3 = (P : Int)) (hB : M 11 4 = (B : Int)) (h1 : 2 ≤ P ∧ P ≤ 6) (h2 : B ≤ 6) : ∃ N, ja_x true (dd + 2) 61 [jr 93] M = some (none, N) ∧ jFr s93 M N ∧ (N 93 3 = 0 ∧ N 93 5 = 0 ∧ N 93 4 = M 93 4) ∧ ∀ b t : Nat, b < B → t < P → N (95 + b) t = ((2 ^ P - 1 : Nat) : Int) := by
  have inner : ∀ (b : Nat), b < B → ∀ (m t : Nat) (N : ja_M), t + m = P → jFr s93 M N → (N 93 3 = 0 ∧ N 93 5 = 0 ∧ N 93 4 = M 93 4) → (∀ b' t' : Nat, b' < B → t' < P → (b' < b ∨ (b' = b ∧ t' < t)) → N (95 + b') t' = ((2 ^ P - 1 : Nat) : Int)) → ∃ N', ja_D true (ja_x true (dd + 1)) k_Finds_forget 15 [some (jr 93), some (ji (b : Int)), some (ji (t : Int))] [] N = ja_D true (ja_x true (dd + 1)) k_Finds_forget 8 [some (jr 93), some (ji ((b + 1 : Nat) : Int)), none] [] N' ∧ jFr s93 M N' ∧ (N' 93 3 = 0 ∧ N' 93 5 = 0 ∧ N' 93 4 = M 93 4) ∧ (∀ b' t' : Nat, b' < B → t' < P → b' < b + 1 → N' (95 + b') t' = ((2 ^ P - 1 : Nat) : Int)) := by
    intro b hb m
    induction m with
    | zero =>
      intro t N e hf h3 ho
      refine ⟨N, ?_, hf, h3, fun b' t' x y z => ho b' t' x y (by omega)⟩
      rw [e_Finds_forget_15, js_places, jz_bI, hf 11 3 (by decide), hP, if_neg (by omega), ja_w_id (by omega) (by omega)]
      rfl
    | succ m ih =>
      intro t N e hf h3 ho
      have n93 : ∀ i, (ja_up N (95 + b) t ((2 ^ P - 1 : Nat) : Int)) 93 i = N 93 i := fun i => jb_up_ne (by omega)
      obtain ⟨N', g1, g2⟩ := ih (t + 1) (ja_up N (95 + b) t ((2 ^ P - 1 : Nat) : Int)) (by omega) (hf.up (Or.inr ⟨by omega, by omega⟩)) (by rw [n93, n93, n93]; exact h3) (fun b' t' x1 x2 x3 => by
        by_cases z : 95 + b' = 95 + b ∧ t' = t
        · rw [z.1, z.2, jb_up_eq]
        · rw [jz_up, if_neg z]
          exact ho b' t' x1 x2 (by omega))
      refine ⟨N', ?_, g2⟩
      rw [e_Finds_forget_15, js_places, jz_bI, hf 11 3 (by decide), hP, if_pos (by omega), if_pos (by omega), show ((b : Int)).toNat = b from rfl, show 94 + 1 + b = 95 + b by omega, jk_ck rfl rfl (by rw [jk_rSs rfl, jk_rSs rfl, jk_rSs rfl, jk_rSs (jk_rf (by omega))]; rfl), cond_true, js_places, jz_bI, hf 11 3 (by decide), hP, jz_ast (n := 6) (jk_95kd b (by omega)) (by omega) (by omega) (by omega) (by omega), show ((t : Int)).toNat = t from rfl, jx_all (by omega), ja_w_id (x := (t : Int) + 1) (by omega) (by omega)]
      exact g1
  have outer : ∀ (m b : Nat) (N : ja_M), b + m = B → jFr s93 M N → (N 93 3 = 0 ∧ N 93 5 = 0 ∧ N 93 4 = M 93 4) → (∀ b' t' : Nat, b' < B → t' < P → b' < b → N (95 + b') t' = ((2 ^ P - 1 : Nat) : Int)) → ∃ N', ja_D true (ja_x true (dd + 1)) k_Finds_forget 8 [some (jr 93), some (ji (b : Int)), none] [] N = some (none, N') ∧ jFr s93 M N' ∧ (N' 93 3 = 0 ∧ N' 93 5 = 0 ∧ N' 93 4 = M 93 4) ∧ ∀ b t : Nat, b < B → t < P → N' (95 + b) t = ((2 ^ P - 1 : Nat) : Int) := by
    intro m
    induction m with
    | zero =>
      intro b N e hf h3 ho
      refine ⟨N, ?_, hf, h3, fun b' t' x y => ho b' t' x y (by omega)⟩
      rw [e_Finds_forget_8, js_bands, jz_bI, hf 11 4 (by decide), hB, if_neg (by omega)]
    | succ m ih =>
      intro b N e hf h3 ho
      obtain ⟨N1, g1, g2, g3, g4⟩ := inner b (by omega) P 0 N (by omega) hf h3 (fun b' t' x y z => ho b' t' x y (by omega))
      obtain ⟨N', k1, k2⟩ := ih (b + 1) N1 (by omega) g2 g3 g4
      refine ⟨N', ?_, k2⟩
      rw [e_Finds_forget_8, js_bands, jz_bI, hf 11 4 (by decide), hB, if_pos (by omega)]
      exact g1.trans k1
  obtain ⟨N', g1, g2⟩ := outer B 0 (ja_up (ja_up M 93 3 0) 93 5 0) (by omega) (((jFr.rf M).up (Or.inl rfl)).up (Or.inl rfl)) ⟨rfl, rfl, rfl⟩ (fun b' t' _ _ z => absurd z (Nat.not_lt_zero _))
  exact ⟨N', (f_Finds_forget _ _).trans g1, g2⟩
