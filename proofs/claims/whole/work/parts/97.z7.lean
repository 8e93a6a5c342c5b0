/-! tables: rounds of shutting; opening; the search cleared -/
theorem js_shutW (dd : Nat) {M N : ja_M} {P B f : Nat} {op : Nat → Nat → Nat → Bool} (hP : M 11 3 = (P : Int)) (hB : M 11 4 = (B : Int)) (hP5 : P ≤ 5) (hB5 : B ≤ 5) (hf : jFr s103 M N) (hr : opRel P B N op) : ∃ (N' : ja_M) (op' : Nat → Nat → Nat → Bool), ja_x true (dd + 4) 161 [jr 93] N = some (none, N') ∧ jFr s103 M N' ∧ opRel P B N' op' ∧ opE P f B op op' := by
  have a3 : ∀ N : ja_M, jFr s103 M N → N 11 3 = (P : Int) := fun N hf => (hf 11 3 (by decide)).trans hP
  have a4 : ∀ N : ja_M, jFr s103 M N → N 11 4 = (B : Int) := fun N hf => (hf 11 4 (by decide)).trans hB
  have turns : ∀ (rd b : Nat), b < B → ∀ (m t : Nat) (N : ja_M) (op1 : Nat → Nat → Nat → Bool) (more : Int), t + m = P → jFr s103 M N → opRel P B N op1 → opE P f B op op1 → ∃ (N' : ja_M) (op' : Nat → Nat → Nat → Bool) (more' : Int), ja_D true (ja_x true (dd + 3)) k_Finds_shutWhereOthersMustBe 20 [some (jr 93), some (ji more), some (ji (rd : Int)), some (ji (b : Int)), some (ji (t : Int))] [] N = ja_D true (ja_x true (dd + 3)) k_Finds_shutWhereOthersMustBe 13 [some (jr 93), some (ji more'), some (ji (rd : Int)), some (ji ((b + 1 : Nat) : Int)), none] [] N' ∧ jFr s103 M N' ∧ opRel P B N' op' ∧ opE P f B op op' := by
    intro rd b hb m
    induction m with
    | zero =>
      intro t N op1 more e hf hr hE
      refine ⟨N, op1, more, ?_, hf, hr, hE⟩
      rw [e_Finds_shutWhereOthersMustBe_20, js_places, jz_bI, a3 N hf, if_neg (by omega), ja_w_id (by omega) (by omega)]
      rfl
    | succ m ih =>
      intro t N op1 more e hf hr hE
      have hv := hr b t hb (by omega)
      have v64 := jv_set_64 (op1 b t) (n := P) (by omega)
      have pop := jv_pop_set (op1 b t) (n := P) (by omega)
      have st := e_Finds_shutWhereOthersMustBe_20 (ja_x true (dd + 3)) more (rd : Int) (b : Int) (t : Int) N
      rw [js_places, jz_bI, a3 N hf, if_pos (by omega), if_pos (by omega), show ((b : Int)).toNat = b from rfl, show 102 + 1 + b = 103 + b by omega, jz_ald (n := 5) (jk_op5 b (by omega)) (by omega) (by omega) (by omega) (by omega), show ((t : Int)).toNat = t from rfl, hv, js_bitCount (dd + 2) (by omega), jz_bI, pop, ja_w_id (x := (t : Int) + 1) (by omega) (by omega), show (t : Int) + 1 = ((t + 1 : Nat) : Int) by omega] at st
      by_cases z : jv_cnt (op1 b t) P = 1
      · obtain ⟨r, N1, g1, g2, g3⟩ := js_shutE (dd + 1) hP hB hP5 hB5 hf hr hb (show t < P by omega)
        rw [if_pos z, show ja_x true (dd + 3) 162 [jr 93, ji (b : Int), ji (t : Int)] N = _ from g1, jz_bI] at st
        have hE2 := hE.tr (opS_E (f := f) hb (show t < P by omega) (by omega))
        by_cases y : r = 0
        · rw [if_pos y] at st
          obtain ⟨N', op', more', k1, k2⟩ := ih (t + 1) N1 _ more (by omega) g2 g3 hE2
          exact ⟨N', op', more', st.trans k1, k2⟩
        · rw [if_neg y] at st
          obtain ⟨N', op', more', k1, k2⟩ := ih (t + 1) N1 _ 1 (by omega) g2 g3 hE2
          exact ⟨N', op', more', st.trans k1, k2⟩
      · rw [if_neg z] at st
        obtain ⟨N', op', more', k1, k2⟩ := ih (t + 1) N op1 more (by omega) hf hr hE
        exact ⟨N', op', more', st.trans k1, k2⟩
  have bands : ∀ (rd : Nat), rd < 25 → ∀ (m b : Nat) (N : ja_M) (op1 : Nat → Nat → Nat → Bool) (more : Int), b + m = B → jFr s103 M N → opRel P B N op1 → opE P f B op op1 → ∃ (N' : ja_M) (op' : Nat → Nat → Nat → Bool) (more' : Int), ja_D true (ja_x true (dd + 3)) k_Finds_shutWhereOthersMustBe 13 [some (jr 93), some (ji more), some (ji (rd : Int)), some (ji (b : Int)), none] [] N = ja_D true (ja_x true (dd + 3)) k_Finds_shutWhereOthersMustBe 4 [some (jr 93), some (ji more'), some (ji ((rd + 1 : Nat) : Int)), none, none] [] N' ∧ jFr s103 M N' ∧ opRel P B N' op' ∧ opE P f B op op' := by
    intro rd hrd m
    induction m with
    | zero =>
      intro b N op1 more e hf hr hE
      refine ⟨N, op1, more, ?_, hf, hr, hE⟩
      rw [e_Finds_shutWhereOthersMustBe_13, js_bands, jz_bI, a4 N hf, if_neg (by omega), ja_w_id (by omega) (by omega)]
      rfl
    | succ m ih =>
      intro b N op1 more e hf hr hE
      obtain ⟨N1, op2, more2, g1, g2, g3, g4⟩ := turns rd b (by omega) P 0 N op1 more (by omega) hf hr hE
      obtain ⟨N', op', more', k1, k2⟩ := ih (b + 1) N1 op2 more2 (by omega) g2 g3 g4
      refine ⟨N', op', more', ?_, k2⟩
      rw [e_Finds_shutWhereOthersMustBe_13, js_bands, jz_bI, a4 N hf, if_pos (by omega)]
      exact g1.trans k1
  have rounds : ∀ (m rd : Nat) (N : ja_M) (op1 : Nat → Nat → Nat → Bool) (more : Int), rd + m = 25 → jFr s103 M N → opRel P B N op1 → opE P f B op op1 → ∃ (N' : ja_M) (op' : Nat → Nat → Nat → Bool), ja_D true (ja_x true (dd + 3)) k_Finds_shutWhereOthersMustBe 4 [some (jr 93), some (ji more), some (ji (rd : Int)), none, none] [] N = some (none, N') ∧ jFr s103 M N' ∧ opRel P B N' op' ∧ opE P f B op op' := by
    intro m
    induction m with
    | zero =>
      intro rd N op1 more e hf hr hE
      refine ⟨N, op1, ?_, hf, hr, hE⟩
      rw [e_Finds_shutWhereOthersMustBe_4, if_neg (by omega)]
    | succ m ih =>
      intro rd N op1 more e hf hr hE
      have st := e_Finds_shutWhereOthersMustBe_4 (ja_x true (dd + 3)) more (rd : Int) N
      rw [if_pos (by omega)] at st
      by_cases z : more = 0
      · rw [if_pos z] at st
        exact ⟨N, op1, st, hf, hr, hE⟩
      · obtain ⟨N1, op2, more2, g1, g2, g3, g4⟩ := bands rd (by omega) B 0 N op1 0 (by omega) hf hr hE
        obtain ⟨N', op', k1, k2⟩ := ih (rd + 1) N1 op2 more2 (by omega) g2 g3 g4
        rw [if_neg z] at st
        exact ⟨N', op', st.trans (g1.trans k1), k2⟩
  obtain ⟨N', op', k1, k2⟩ := rounds 25 0 N op 1 (by omega) hf hr (opE.rf op)
  exact ⟨N', op', (f_Finds_shutWhereOthersMustBe _ _).trans k1, k2⟩
theorem js_openLeft (dd : Nat) {M N : ja_M} {P B : Nat} (hP : M 11 3 = (P : Int)) (hB : M 11 4 = (B : Int)) (hP5 : P ≤ 5) (hB5 : B ≤ 5) (hF : jFi M) (h95 : ∀ b t, b < B → N (95 + b) t = M (95 + b) t) (e3 : N 11 3 = (P : Int)) (e4 : N 11 4 = (B : Int)) : ∃ N', ja_x true (dd + 2) 169 [jr 93] N = some (none, N') ∧ jFr s103 N N' ∧ opRel P B N' (jv_left M) := by
  have a3 : ∀ N1 : ja_M, jFr s103 N N1 → N1 11 3 = (P : Int) := fun N1 hf => (hf 11 3 (by decide)).trans e3
  have a4 : ∀ N1 : ja_M, jFr s103 N N1 → N1 11 4 = (B : Int) := fun N1 hf => (hf 11 4 (by decide)).trans e4
  have turns : ∀ (b : Nat), b < B → ∀ (m t : Nat) (N1 : ja_M), t + m = P → jFr s103 N N1 → (∀ b' t', b' < B → t' < P → (b' < b ∨ (b' = b ∧ t' < t)) → N1 (103 + b') t' = ((jv_set (jv_left M b' t') P : Nat) : Int)) → ∃ N', ja_D true (ja_x true (dd + 1)) k_Finds_openWhatIsLeft 9 [some (jr 93), some (ji (b : Int)), some (ji (t : Int))] [] N1 = ja_D true (ja_x true (dd + 1)) k_Finds_openWhatIsLeft 2 [some (jr 93), some (ji ((b + 1 : Nat) : Int)), none] [] N' ∧ jFr s103 N N' ∧ ∀ b' t', b' < B → t' < P → b' < b + 1 → N' (103 + b') t' = ((jv_set (jv_left M b' t') P : Nat) : Int) := by
    intro b hb m
    induction m with
    | zero =>
      intro t N1 e hf h
      refine ⟨N1, ?_, hf, fun b' t' x y z => h b' t' x y (by omega)⟩
      rw [e_Finds_openWhatIsLeft_9, js_places, jz_bI, a3 N1 hf, if_neg (by omega), ja_w_id (by omega) (by omega)]
      rfl
    | succ m ih =>
      intro t N1 e hf h
      have hv : N1 (95 + b) t = ((jv_set (jv_left M b t) P : Nat) : Int) := by
        rw [hf (95 + b) t (fun x => by have : 103 ≤ 95 + b ∧ 95 + b ≤ 107 := x; omega), h95 b t hb]
        have := hF.2.2.2 b t (by omega) (by omega)
        rw [hP, show ((P : Int)).toNat = P from rfl] at this
        exact this
      obtain ⟨N', g1, g2⟩ := ih (t + 1) (ja_up N1 (103 + b) t ((jv_set (jv_left M b t) P : Nat) : Int)) (by omega) (hf.up (show 103 ≤ 103 + b ∧ 103 + b ≤ 107 by omega)) (fun b' t' x y z => by
        by_cases w : 103 + b' = 103 + b ∧ t' = t
        · rw [w.1, w.2, jb_up_eq, show b' = b by omega]
        · rw [jz_up, if_neg w]
          exact h b' t' x y (by omega))
      refine ⟨N', ?_, g2⟩
      rw [e_Finds_openWhatIsLeft_9, js_places, jz_bI, a3 N1 hf, if_pos (by omega), if_pos (by omega), if_pos (by omega), show ((b : Int)).toNat = b from rfl, show 94 + 1 + b = 95 + b by omega, show 102 + 1 + b = 103 + b by omega, jz_ald (n := 6) (jk_95k b (by omega)) (by omega) (by omega) (by omega) (by omega), jz_ast (n := 5) (jk_op5 b (by omega)) (by omega) (by omega) (by omega) (by omega), show ((t : Int)).toNat = t from rfl, hv, ja_w_id (by omega) (by omega)]
      exact g1
  have bands : ∀ (m b : Nat) (N1 : ja_M), b + m = B → jFr s103 N N1 → (∀ b' t', b' < B → t' < P → b' < b → N1 (103 + b') t' = ((jv_set (jv_left M b' t') P : Nat) : Int)) → ∃ N', ja_D true (ja_x true (dd + 1)) k_Finds_openWhatIsLeft 2 [some (jr 93), some (ji (b : Int)), none] [] N1 = some (none, N') ∧ jFr s103 N N' ∧ opRel P B N' (jv_left M) := by
    intro m
    induction m with
    | zero =>
      intro b N1 e hf h
      refine ⟨N1, ?_, hf, fun b' t' x y => h b' t' x y (by omega)⟩
      rw [e_Finds_openWhatIsLeft_2, js_bands, jz_bI, a4 N1 hf, if_neg (by omega)]
    | succ m ih =>
      intro b N1 e hf h
      obtain ⟨N2, g1, g2, g3⟩ := turns b (by omega) P 0 N1 (by omega) hf (fun b' t' x y z => h b' t' x y (by omega))
      obtain ⟨N', k1, k2⟩ := ih (b + 1) N2 (by omega) g2 g3
      refine ⟨N', ?_, k2⟩
      rw [e_Finds_openWhatIsLeft_2, js_bands, jz_bI, a4 N1 hf, if_pos (by omega)]
      exact g1.trans k1
  obtain ⟨N', g1, g2⟩ := bands B 0 N (by omega) (jFr.rf N) (fun b' t' _ _ z => absurd z (Nat.not_lt_zero _))
  exact ⟨N', (f_Finds_openWhatIsLeft _ _).trans g1, g2⟩
