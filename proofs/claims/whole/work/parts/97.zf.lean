/-! tables: the search cleared, and whether some are lawful -/
theorem jv_set_nil {f : Nat → Bool} {P : Nat} (h : ∀ i, f i = false) : jv_set f P = 0 := (jv_set_eq (fun i => by
  rw [Nat.zero_testBit, h i, Bool.and_false])).symm
theorem jv_set_full (P : Nat) : 2 ^ P - 1 = jv_set (fun _ => true) P := jv_set_eq (fun i => by
  rw [Nat.testBit_two_pow_sub_one, Bool.and_true])
theorem fI_0 {P B : Nat} {N : ja_M} (hP5 : P ≤ 5) (hB5 : B ≤ 5) (h1 : ∀ a, a < 5 → N 108 a = 0 ∧ N 109 a = 0 ∧ N 110 a = 0) (h2 : ∀ a c, a < 5 → c < 5 → N (112 + a) c = -1 ∧ N (118 + a) c = 0) : fI P B N (fun _ => 0) (fun _ _ => none) := by
  refine ⟨fun b hb => (h1 b hb).1, fun b hb => ?_, fun t ht => ?_, fun t p ht hp => ⟨(fun b hb e => by cases e), fun _ => (h2 t p (by omega) (by omega)).1⟩, fun x y hx hy => ?_⟩
  · rw [(h1 b (by omega)).2.1, jv_set_nil (fun i => by rw [List.any_eq_false]; intro t _ e; cases e)]
    rfl
  · rw [(h1 t (by omega)).2.2, jv_set_nil (fun i => by rw [List.any_eq_false]; intro t _ e; cases e)]
    rfl
  · rw [(h2 x y (by omega) (by omega)).2, gcnt_none (fun _ _ => rfl)]
theorem js_clear (dd : Nat) {P B : Nat} {N : ja_M} (hP5 : P ≤ 5) (hB5 : B ≤ 5) : ∃ N', ja_x true (dd + 1) 158 [jr 93] N = some (none, N') ∧ tG N N' ∧ N' 93 6 = 0 ∧ fI P B N' (fun _ => 0) (fun _ _ => none) := by
  have inner : ∀ (a : Nat), a < 5 → ∀ (k c : Nat) (N1 : ja_M), c + k = 5 → jFr s108 (ja_up N 93 6 0) N1 → (∀ x, x < a + 1 → N1 108 x = 0 ∧ N1 109 x = 0 ∧ N1 110 x = 0) → (∀ x y, x < 5 → y < 5 → 5 * x + y < 5 * a + c → N1 (112 + x) y = -1 ∧ N1 (118 + x) y = 0) → ∃ N', ja_D true (ja_x true dd) k_Finds_clearSearch 25 [some (jr 93), some (ji (a : Int)), some (ji (c : Int))] [] N1 = ja_D true (ja_x true dd) k_Finds_clearSearch 5 [some (jr 93), some (ji ((a + 1 : Nat) : Int)), none] [] N' ∧ jFr s108 (ja_up N 93 6 0) N' ∧ (∀ x, x < a + 1 → N' 108 x = 0 ∧ N' 109 x = 0 ∧ N' 110 x = 0) ∧ ∀ x y, x < 5 → y < 5 → 5 * x + y < 5 * (a + 1) → N' (112 + x) y = -1 ∧ N' (118 + x) y = 0 := by
    intro a ha k
    induction k with
    | zero =>
      intro c N1 e hf h1 h2
      refine ⟨N1, ?_, hf, h1, fun x y hx hy h => h2 x y hx hy (by omega)⟩
      rw [e_Finds_clearSearch_25, if_neg (by omega), ja_w_id (by omega) (by omega)]
      rfl
    | succ k ih =>
      intro c N1 e hf h1 h2
      obtain ⟨N', g1, g2⟩ := ih (c + 1) (ja_up (ja_up N1 (112 + a) c (-1)) (118 + a) c 0) (by omega) ((hf.up (show 108 ≤ 112 + a ∧ 112 + a ≤ 122 by omega)).up (show 108 ≤ 118 + a ∧ 118 + a ≤ 122 by omega)) (fun x hx => by
        rw [jb_up_ne (by omega), jb_up_ne (by omega), jb_up_ne (by omega), jb_up_ne (by omega), jb_up_ne (by omega), jb_up_ne (by omega)]
        exact h1 x hx) (fun x y hx hy h => by
        by_cases z : x = a ∧ y = c
        · rw [z.1, z.2, jb_up_eq, jb_up_ne (by omega), jb_up_eq]
          exact ⟨rfl, rfl⟩
        · rw [jb_up_ne (by omega), jz_up, if_neg (fun q => z ⟨by omega, q.2⟩), jz_up, if_neg (fun q => z ⟨by omega, q.2⟩), jb_up_ne (by omega)]
          exact h2 x y hx hy (by omega))
      refine ⟨N', ?_, g2⟩
      rw [e_Finds_clearSearch_25, if_pos (by omega), if_pos (by omega), show ((a : Int)).toNat = a from rfl, show 111 + 1 + a = 112 + a by omega, show 117 + 1 + a = 118 + a by omega, jz_ast (n := 5) (jk_112 a ha) (by omega) (by omega) (by omega) (by omega), if_pos (by omega), jz_ast (n := 5) (jk_118 a ha) (by omega) (by omega) (by omega) (by omega), show ((c : Int)).toNat = c from rfl, ja_w_id (by omega) (by omega)]
      exact g1
  have outer : ∀ (k a : Nat) (N1 : ja_M), a + k = 5 → jFr s108 (ja_up N 93 6 0) N1 → (∀ x, x < a → N1 108 x = 0 ∧ N1 109 x = 0 ∧ N1 110 x = 0) → (∀ x y, x < 5 → y < 5 → 5 * x + y < 5 * a → N1 (112 + x) y = -1 ∧ N1 (118 + x) y = 0) → ∃ N', ja_D true (ja_x true dd) k_Finds_clearSearch 5 [some (jr 93), some (ji (a : Int)), none] [] N1 = some (none, N') ∧ jFr s108 (ja_up N 93 6 0) N' ∧ (∀ x, x < 5 → N' 108 x = 0 ∧ N' 109 x = 0 ∧ N' 110 x = 0) ∧ ∀ x y, x < 5 → y < 5 → N' (112 + x) y = -1 ∧ N' (118 + x) y = 0 := by
    intro k
    induction k with
    | zero =>
      intro a N1 e hf h1 h2
      refine ⟨N1, ?_, hf, fun x hx => h1 x (by omega), fun x y hx hy => h2 x y hx hy (by omega)⟩
      rw [e_Finds_clearSearch_5, if_neg (by omega)]
    | succ k ih =>
      intro a N1 e hf h1 h2
      obtain ⟨N2, g1, g2, g3, g4⟩ := inner a (by omega) 5 0 (ja_up (ja_up (ja_up N1 108 a 0) 109 a 0) 110 a 0) (by omega) (((hf.up (by decide)).up (by decide)).up (by decide)) (fun x hx => by
        by_cases z : x = a
        · rw [z, jb_up_ne (by decide), jb_up_ne (by decide), jb_up_eq, jb_up_ne (by decide), jb_up_eq, jb_up_eq]
          exact ⟨rfl, rfl, rfl⟩
        · rw [jb_up_nej z, jb_up_nej z, jb_up_nej z, jb_up_nej z, jb_up_nej z, jb_up_nej z, jb_up_nej z, jb_up_nej z, jb_up_nej z]
          exact h1 x (by omega)) (fun x y hx hy h => by
        rw [jb_up_ne (by omega), jb_up_ne (by omega), jb_up_ne (by omega), jb_up_ne (by omega), jb_up_ne (by omega), jb_up_ne (by omega)]
        exact h2 x y hx hy (by omega))
      obtain ⟨N', k1, k2⟩ := ih (a + 1) N2 (by omega) g2 g3 g4
      refine ⟨N', ?_, k2⟩
      rw [e_Finds_clearSearch_5, if_pos (by omega), if_pos (by omega), if_pos (by omega), if_pos (by omega)]
      exact g1.trans k1
  obtain ⟨N', g1, g2, g3, g4⟩ := outer 5 0 (ja_up N 93 6 0) rfl (jFr.rf _) (fun x hx => by omega) (fun x y _ _ h => by omega)
  refine ⟨N', (f_Finds_clearSearch _ _).trans g1, fun d i a1 a2 a3 => (g2 d i (fun q => a1 (by have : 108 ≤ d ∧ d ≤ 122 := q; omega))).trans ?_, (g2 93 6 (by decide)).trans jb_up_eq, fI_0 hP5 hB5 g3 g4⟩
  rw [jz_up, if_neg (fun q => a3 ⟨q.1, Or.inl q.2⟩)]
abbrev opL : Nat → Nat → Nat → Bool := fun b t p => if b = 0 then p == t else true
theorem opL_v {P b t : Nat} (ht : t < P) : ((jv_set (opL b t) P : Nat) : Int) = if b = 0 then ((2 ^ t : Nat) : Int) else ((2 ^ P - 1 : Nat) : Int) := by
  by_cases z : b = 0
  · rw [if_pos z, jv_set_one ht]
    congr 2
    funext p
    exact if_pos z
  · rw [if_neg z, jv_set_full]
    congr 2
    funext p
    exact if_neg z
theorem js_someLaw (dd : Nat) {P B f : Nat} {N : ja_M} (hH : jH N) (hP5 : P ≤ 5) (hB5 : B ≤ 5) (e3 : N 11 3 = (P : Int)) (e4 : N 11 4 = (B : Int)) (e5 : N 11 5 = (f : Int)) (e0 : N 0 0 = 172) (e9 : N 93 4 = 1) (h6 : N 93 6 = 0) (hI : fI P B N (fun _ => 0) (fun _ _ => none)) : ∃ N', ja_x true (dd + 4 + B * (P + 1) + 2) 159 [jr 93] N = some (some (ji (if sols P f opL B = [] then 0 else 1)), N') ∧ tG N N' ∧ fI P B N' (fun _ => 0) (fun _ _ => none) ∧ (sols P f opL B = [] → N' 93 6 = 0) := by
  obtain ⟨X, hX⟩ : ∃ X, dd + 4 + B * (P + 1) + 1 = X + 1 := ⟨_, rfl⟩
  have a3 : ∀ N1 : ja_M, jFr s103 N N1 → N1 11 3 = (P : Int) := fun N1 hf => (hf 11 3 (by decide)).trans e3
  have a4 : ∀ N1 : ja_M, jFr s103 N N1 → N1 11 4 = (B : Int) := fun N1 hf => (hf 11 4 (by decide)).trans e4
  have turns : ∀ (b : Nat), b < B → ∀ (m t : Nat) (N1 : ja_M), t + m = P → jFr s103 N N1 → (∀ b' t', b' < B → t' < P → (b' < b ∨ (b' = b ∧ t' < t)) → N1 (103 + b') t' = ((jv_set (opL b' t') P : Nat) : Int)) → ∃ N', ja_D true (ja_x true (X + 1)) k_Finds_someAreLawful 9 [some (jr 93), some (ji (b : Int)), some (ji (t : Int))] [] N1 = ja_D true (ja_x true (X + 1)) k_Finds_someAreLawful 2 [some (jr 93), some (ji ((b + 1 : Nat) : Int)), none] [] N' ∧ jFr s103 N N' ∧ ∀ b' t', b' < B → t' < P → b' < b + 1 → N' (103 + b') t' = ((jv_set (opL b' t') P : Nat) : Int) := by
    intro b hb m
    induction m with
    | zero =>
      intro t N1 e hf h
      refine ⟨N1, ?_, hf, fun b' t' x y z => h b' t' x y (by omega)⟩
      rw [e_Finds_someAreLawful_9, js_places, jz_bI, a3 N1 hf, if_neg (by omega), ja_w_id (by omega) (by omega)]
      rfl
    | succ m ih =>
      intro t N1 e hf h
      obtain ⟨N', g1, g2⟩ := ih (t + 1) (ja_up N1 (103 + b) t ((jv_set (opL b t) P : Nat) : Int)) (by omega) (hf.up (show 103 ≤ 103 + b ∧ 103 + b ≤ 107 by omega)) (fun b' t' x y z => by
        by_cases w : 103 + b' = 103 + b ∧ t' = t
        · rw [w.1, w.2, jb_up_eq, show b' = b by omega]
        · rw [jz_up, if_neg w]
          exact h b' t' x y (by omega))
      refine ⟨N', ?_, g2⟩
      rw [opL_v (by omega)] at g1
      rw [e_Finds_someAreLawful_9, js_places, jz_bI, a3 N1 hf, if_pos (by omega), if_pos (by omega), show ((b : Int)).toNat = b from rfl, show 102 + 1 + b = 103 + b by omega]
      by_cases z : b = 0
      · rw [if_pos (by omega), jz_ast (n := 5) (jk_op5 b (by omega)) (by omega) (by omega) (by omega) (by omega), show ((t : Int)).toNat = t from rfl, jx_shl1 (by omega), ja_w_id (by omega) (by omega)]
        rw [if_pos z] at g1
        exact g1
      · rw [if_neg (by omega), jk_ck rfl rfl (by rw [jk_rSs rfl, jk_rSs rfl, jk_rSs rfl, jk_rSs (jk_rf (by omega))]; rfl), cond_true, js_places, jz_bI, a3 N1 hf, jx_all (by omega), jz_ast (n := 5) (jk_op5 b (by omega)) (by omega) (by omega) (by omega) (by omega), show ((t : Int)).toNat = t from rfl, ja_w_id (by omega) (by omega)]
        rw [if_neg z] at g1
        exact g1
  have bands : ∀ (m b : Nat) (N1 : ja_M), b + m = B → jFr s103 N N1 → (∀ b' t', b' < B → t' < P → b' < b → N1 (103 + b') t' = ((jv_set (opL b' t') P : Nat) : Int)) → ∃ N', ja_D true (ja_x true (X + 1)) k_Finds_someAreLawful 2 [some (jr 93), some (ji (b : Int)), none] [] N1 = some (some (ji (if sols P f opL B = [] then 0 else 1)), N') ∧ tG N N' ∧ fI P B N' (fun _ => 0) (fun _ _ => none) ∧ (sols P f opL B = [] → N' 93 6 = 0) := by
    intro m
    induction m with
    | zero =>
      intro b N1 e hf h
      have k1 : tG N N1 := tG.of hf (fun c q => by have : 103 ≤ c ∧ c ≤ 107 := q; omega)
      obtain ⟨N', g1, g2, g3, g4⟩ := js_fillIf dd (most := 1) (f := f) (op := opL) (k1.h hH) hP5 hB5 (by omega) (by omega) (a3 N1 hf) (a4 N1 hf) ((hf 11 5 (by decide)).trans e5) ((hf 0 0 (by decide)).trans e0) ((hf 93 4 (by decide)).trans e9) (fun b' t' x y => h b' t' x y (by omega)) ((hf 93 6 (by decide)).trans h6) (hI.mv hP5 hB5 (fun d i x y => hf d i (fun q => by have : 103 ≤ d ∧ d ≤ 107 := q; omega)))
      rw [hX] at g1
      have g1 : ja_x true (X + 1) 160 [jr 93, ji 1] N1 = some (none, N') := g1
      have g6 := g4.1
      refine ⟨N', ?_, k1.tr g2, g3, fun q => ?_⟩
      · rw [e_Finds_someAreLawful_2, js_bands, jz_bI, a4 N1 hf, if_neg (by omega), g1, jz_bV, g6]
        by_cases q : sols P f opL B = []
        · rw [q, if_pos rfl, if_neg (by decide)]
        · have : 0 < (sols P f opL B).length := List.length_pos_iff.mpr q
          rw [if_neg q, if_pos (by omega)]
      · rw [g6, q]
        rfl
    | succ m ih =>
      intro b N1 e hf h
      obtain ⟨N2, g1, g2, g3⟩ := turns b (by omega) P 0 N1 (by omega) hf (fun b' t' x y z => h b' t' x y (by omega))
      obtain ⟨N', k1, k2⟩ := ih (b + 1) N2 (by omega) g2 g3
      refine ⟨N', ?_, k2⟩
      rw [e_Finds_someAreLawful_2, js_bands, jz_bI, a4 N1 hf, if_pos (by omega)]
      exact g1.trans k1
  obtain ⟨N', g1, g2⟩ := bands B 0 N (by omega) (jFr.rf N) (fun b' t' _ _ z => absurd z (Nat.not_lt_zero _))
  refine ⟨N', ?_, g2⟩
  rw [show dd + 4 + B * (P + 1) + 2 = X + 1 + 1 by omega, f_Finds_someAreLawful]
  exact g1
