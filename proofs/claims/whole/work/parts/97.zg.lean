/-! tables: sought -/
def tZ (M N : ja_M) : Prop := ∀ d i, d ≠ 0 → ¬ (101 ≤ d ∧ d ≤ 122) → d ≠ 172 → ¬ (d = 93 ∧ (4 ≤ i ∧ i ≤ 7)) → N d i = M d i
theorem tZ.tr {A B C : ja_M} (h : tZ A B) (k : tZ B C) : tZ A C := fun d i a b c e => (k d i a b c e).trans (h d i a b c e)
theorem tG.z {A B : ja_M} (h : tG A B) : tZ A B := fun d i _ b c e => h d i b c (fun q => e ⟨q.1, by omega⟩)
theorem js_small (dd : Nat) (M : ja_M) : ja_x true (dd + 2) 155 [jr 93] M = some (some (ji (if 0 < M 11 3 ∧ M 11 3 ≤ 5 ∧ M 11 4 ≤ 5 then 1 else 0)), M) := by
  rw [f_Finds_isSmall, js_isTold, jz_bI, jz_b0]
  by_cases h1 : 0 < M 11 3
  · rw [if_pos h1, f_Hunt_places_11, jz_bI]
    by_cases h2 : 5 < M 11 3
    · rw [if_pos h2, if_neg (fun q => by omega)]
    · rw [if_neg h2, f_Hunt_bands_11, jz_bI]
      by_cases h3 : 5 < M 11 4
      · rw [if_pos h3, if_neg (fun q => by omega)]
      · rw [if_neg h3, if_pos ⟨h1, by omega, by omega⟩]
  · rw [if_neg h1, if_neg (fun q => h1 q.1)]
theorem jv_tables_z {M N : ja_M} (k : tZ M N) : jv_tables N = jv_tables M := by
  have e : jv_fit N = jv_fit M := by
    funext n b o
    unfold jv_fit
    rw [jv_left_kp (k 93 3 (by omega) (by omega) (by omega) (by omega)) (funext fun i => k 159 i (by omega) (by omega) (by omega) (by omega)) (funext fun i => k 160 i (by omega) (by omega) (by omega) (by omega)) (funext fun i => k 161 i (by omega) (by omega) (by omega) (by omega)) (funext fun i => k 162 i (by omega) (by omega) (by omega) (by omega))]
  unfold jv_tables
  rw [e, k 11 3 (by omega) (by omega) (by omega) (by omega), k 11 4 (by omega) (by omega) (by omega) (by omega), k 11 5 (by omega) (by omega) (by omega) (by omega)]
theorem tables_sols {M : ja_M} {P B f : Nat} (hP : M 11 3 = (P : Int)) (hB : M 11 4 = (B : Int)) (hf : M 11 5 = (f : Int)) : jv_tables M = sols P f (jv_left M) B := by
  unfold jv_tables
  rw [hP, hB, hf]
  rfl
theorem tables_none {M : ja_M} {P B f : Nat} (hP : M 11 3 = (P : Int)) (hB : M 11 4 = (B : Int)) (hf : M 11 5 = (f : Int)) (h1 : 1 ≤ B) (h : sols P f opL B = []) : jv_tables M = [] := by
  rw [tables_sols hP hB hf, List.eq_nil_iff_forall_not_mem]
  intro tb htb
  have htb : tb ∈ jv_tabs P f (fitO (jv_left M) P) B [] := htb
  rw [jv_tabs_filter] at htb
  obtain ⟨tb', h'⟩ := tabs_relabel h1 (List.mem_filter.mp htb).1
  have h' : tb' ∈ sols P f opL B := h'
  rw [h] at h'
  cases h'
/-- what a search that is over leaves -/
theorem tb_made {M N : ja_M} {P B f : Nat} (hP : M 11 3 = (P : Int)) (hB : M 11 4 = (B : Int)) (hf : M 11 5 = (f : Int)) (hP1 : 1 ≤ P ∧ P ≤ 5) (hB5 : B ≤ 5) (k : tZ M N) (e4 : N 93 4 = 1) {N0 : ja_M} (w : fW 1000 0 (jv_tables M) N0 N) : jTb (ja_up N 93 5 1) := by
  have k2 : tZ M (ja_up N 93 5 1) := k.tr (fun d i _ _ _ h => by
    rw [jz_up, if_neg (fun q => h ⟨q.1, by omega⟩)])
  refine ⟨Or.inr jb_up_eq, fun _ => ⟨(jb_up_nej (by decide)).trans e4, ?_, ?_, ?_, fun i b tb o hi e1 e2 => ?_⟩⟩
  · rw [k2 11 3 (by omega) (by omega) (by omega) (by omega), hP]
    omega
  · rw [k2 11 4 (by omega) (by omega) (by omega) (by omega), hB]
    omega
  · rw [jv_tables_z k2, jb_up_nej (by decide), w.1, Nat.zero_add]
  · rw [jv_tables_z k2] at e1
    have hb : b < 5 := by
      have m : tb ∈ jv_tables M := List.mem_of_getElem? e1
      rw [tables_sols hP hB hf] at m
      have := (tabs_row m).1
      obtain ⟨q, -⟩ := List.getElem?_eq_some_iff.mp e2
      omega
    have := w.2.1 i b tb o e1 (by omega) hb e2
    rw [Nat.zero_add] at this
    rw [jb_up_ne (by decide)]
    exact this
theorem js_seek1 {M M1 : ja_M} (hH : jH M) (hF : jFi M) {P B f : Nat} (hP : M 11 3 = (P : Int)) (hB : M 11 4 = (B : Int)) (hf : M 11 5 = (f : Int)) (hP1 : 1 ≤ P ∧ P ≤ 5) (hB1 : 1 ≤ B ∧ B ≤ 5) (k1 : tZ M M1) (hH1 : jH M1) (e0 : M1 0 0 = 172) (e4 : M1 93 4 = 1) : ∃ N, ja_bV (ja_x true 1997 158 [jr 93] M1) (fun M8 => ja_bI (ja_x true 1997 159 [jr 93] M8) (fun x10 M9 => if x10 = 0 then some (none, ja_up M9 93 5 1) else ja_bV (ja_x true 1997 169 [jr 93] (ja_up M9 93 6 0)) (fun M11 => ja_bV (ja_x true 1997 160 [jr 93, ji 1000] M11) (fun M12 => some (none, ja_up M12 93 5 1))))) = some (none, N) ∧ tZ M N ∧ (∀ i, N 0 i = M1 0 i) ∧ N 93 4 = 1 ∧ N 93 5 = 1 ∧ jTb N := by
  have hPB : B * (P + 1) ≤ 30 := Nat.le_trans (Nat.mul_le_mul hB1.2 (show P + 1 ≤ 6 by omega)) (by decide)
  obtain ⟨N2, c1, c2, c3, c4⟩ := js_clear 1996 (P := P) (B := B) (N := M1) hP1.2 hB1.2
  have c1 : ja_x true 1997 158 [jr 93] M1 = some (none, N2) := c1
  have g3 : ∀ {A : ja_M}, tG M1 A → A 11 3 = (P : Int) := fun h => ((h 11 3 (by omega) (by omega) (by omega)).trans (k1 11 3 (by omega) (by omega) (by omega) (by omega))).trans hP
  have g4 : ∀ {A : ja_M}, tG M1 A → A 11 4 = (B : Int) := fun h => ((h 11 4 (by omega) (by omega) (by omega)).trans (k1 11 4 (by omega) (by omega) (by omega) (by omega))).trans hB
  have g5 : ∀ {A : ja_M}, tG M1 A → A 11 5 = (f : Int) := fun h => ((h 11 5 (by omega) (by omega) (by omega)).trans (k1 11 5 (by omega) (by omega) (by omega) (by omega))).trans hf
  have g0 : ∀ {A : ja_M}, tG M1 A → A 0 0 = 172 := fun h => (h 0 0 (by omega) (by omega) (by omega)).trans e0
  have g9 : ∀ {A : ja_M}, tG M1 A → A 93 4 = 1 := fun h => (h 93 4 (by omega) (by omega) (by omega)).trans e4
  obtain ⟨N3, s1, s2, s3, s4⟩ := js_someLaw (1991 - B * (P + 1)) (f := f) (c2.h hH1) hP1.2 hB1.2 (g3 c2) (g4 c2) (g5 c2) (g0 c2) (g9 c2) c3 c4
  rw [show 1991 - B * (P + 1) + 4 + B * (P + 1) + 2 = 1997 by omega] at s1
  have k3 := c2.tr s2
  rw [c1, jz_bV, s1, jz_bI]
  by_cases z : sols P f opL B = []
  · rw [if_pos z, if_pos rfl]
    refine ⟨_, rfl, (k1.tr k3.z).tr (fun d i _ _ _ h => by rw [jz_up, if_neg (fun q => h ⟨q.1, by omega⟩)]), fun i => (jb_up_ne (by decide)).trans (k3 0 i (by omega) (by omega) (by omega)), (jb_up_nej (by decide)).trans (g9 k3), jb_up_eq, ?_⟩
    refine tb_made hP hB hf hP1 hB1.2 (k1.tr k3.z) (g9 k3) (N0 := N3) ?_
    rw [tables_none hP hB hf hB1.1 z]
    exact fW.nil (s4 z) (Nat.zero_le _)
  · rw [if_neg z, if_neg (by decide)]
    have k4 : tG M1 (ja_up N3 93 6 0) := k3.tr (fun d i _ _ h => by rw [jz_up, if_neg (fun q => h ⟨q.1, Or.inl q.2⟩)])
    obtain ⟨N5, o1, o2, o3⟩ := js_openLeft 1995 (M := M) (N := ja_up N3 93 6 0) hP hB hP1.2 hB1.2 hF (fun b t hb => (k4 (95 + b) t (by omega) (by omega) (by omega)).trans (k1 (95 + b) t (by omega) (by omega) (by omega) (by omega))) (g3 k4) (g4 k4)
    have o1 : ja_x true 1997 169 [jr 93] (ja_up N3 93 6 0) = some (none, N5) := o1
    have k5 : tG M1 N5 := k4.tr (tG.of o2 (fun c q => by have : 103 ≤ c ∧ c ≤ 107 := q; omega))
    obtain ⟨N6, p1, p2, p3, p4⟩ := js_fillIf (1992 - B * (P + 1)) (most := 1000) (k5.h hH1) hP1.2 hB1.2 (by omega) (by omega) (g3 k5) (g4 k5) (g5 k5) (g0 k5) (g9 k5) o3 ((o2 93 6 (by decide)).trans jb_up_eq) (s3.mv hP1.2 hB1.2 (fun d i x y => (o2 d i (fun q => by have : 103 ≤ d ∧ d ≤ 107 := q; omega)).trans (jb_up_ne (by omega))))
    rw [show 1992 - B * (P + 1) + 4 + B * (P + 1) + 1 = 1997 by omega] at p1
    have p1 : ja_x true 1997 160 [jr 93, ji 1000] N5 = some (none, N6) := p1
    have k6 := k5.tr p2
    rw [o1, jz_bV, p1, jz_bV]
    refine ⟨_, rfl, (k1.tr k6.z).tr (fun d i _ _ _ h => by rw [jz_up, if_neg (fun q => h ⟨q.1, by omega⟩)]), fun i => (jb_up_ne (by decide)).trans (k6 0 i (by omega) (by omega) (by omega)), (jb_up_nej (by decide)).trans (g9 k6), jb_up_eq, ?_⟩
    refine tb_made hP hB hf hP1 hB1.2 (k1.tr k6.z) (g9 k6) (N0 := N5) ?_
    rw [tables_sols hP hB hf]
    exact p4
theorem js_seek {M : ja_M} (hJ : jJ M) {P B f : Nat} (hP : M 11 3 = (P : Int)) (hB : M 11 4 = (B : Int)) (hf : M 11 5 = (f : Int)) (hP1 : 1 ≤ P ∧ P ≤ 5) (hB1 : 1 ≤ B ∧ B ≤ 5) : ∃ N, ja_x true 1998 157 [jr 93] M = some (none, N) ∧ tZ M N ∧ jFl N ∧ jTb N ∧ N 93 5 = 1 ∧ N 93 4 = 1 ∧ N 0 0 = 172 ∧ jrm M N := by
  obtain ⟨⟨hT, hH, hO⟩, -, hF, hL, hTb⟩ := hJ
  have st := f_Finds_seekTables 1997 M
  have st : ja_x true 1998 157 [jr 93] M = _ := st
  rcases hTb.1 with h5 | h5
  · rw [if_pos h5, js_small 1995 M, jz_bI, jz_b0, if_pos (by omega)] at st
    rcases hL with ⟨h4, h0⟩ | ⟨h4, h0⟩
    · rw [if_pos (by rw [if_pos h4])] at st
      have k1 : tZ M (ja_up (ja_grow M 1 5000) 93 4 1) := fun d i a1 a2 a3 a4 => by
        rw [jz_up, if_neg (fun q => a4 ⟨q.1, by omega⟩)]
        unfold ja_grow
        rw [if_neg a1, h0, if_neg (fun q => a3 (by have q1 := q.1; have q2 := q.2; have : ((171 : Int)).toNat = 171 := rfl; omega))]
      have n0 : (ja_up (ja_grow M 1 5000) 93 4 1) 0 0 = 172 := by
        rw [jb_up_ne (by decide)]
        show M 0 0 + ((1 : Nat) : Int) = 172
        rw [h0]
        rfl
      have hH1 : jH (ja_up (ja_grow M 1 5000) 93 4 1) := hH.kp (fun c i q => k1 c i (fun e => by subst e; cases q) (fun e => by
        obtain ⟨e1, e2⟩ := e
        unfold kH at q
        split at q <;> first | omega | cases q) (fun e => by subst e; cases q) (fun e => by obtain ⟨rfl, -⟩ := e; cases q))
      obtain ⟨N, g1, g2, g3, g4, g5, g6⟩ := js_seek1 hH hF hP hB hf hP1 hB1 k1 hH1 n0 jb_up_eq
      have c1 : (decide (0 ≤ (5000 : Int)) && ja_new1 true M 100 5000 [some (jr 93)] [jr 93]) = true := by
        unfold ja_new1
        rw [show M ja_cF ja_sF = 0 from h4, h0]
        rfl
      have c2 : (ja_okc true (ja_grow M 1 5000) 172 && true) = true := by
        rw [Bool.and_true]
        refine jk_ok172 ?_
        show M 0 0 + ((1 : Nat) : Int) = 172
        rw [h0]
        rfl
      rw [c1, c2, cond_true, cond_true] at st
      refine ⟨N, st.trans g1, g2, Or.inr ⟨g4, (g3 0).trans n0⟩, g6, g5, g4, (g3 0).trans n0, ?_⟩
      unfold jrm
      rw [g4, h4, if_neg (by decide), if_pos rfl, if_neg (by decide), if_pos rfl, g3 1, g3 2, jb_up_ne (by decide), jb_up_ne (by decide)]
      constructor
      · show M 0 1 + ((1 : Nat) : Int) + 0 ≤ _
        omega
      · show M 0 2 + ((5000 : Nat) : Int) + 0 ≤ _
        omega
    · rw [h4, if_neg (by decide)] at st
      obtain ⟨N, g1, g2, g3, g4, g5, g6⟩ := js_seek1 (M1 := M) hH hF hP hB hf hP1 hB1 (fun _ _ _ _ _ _ => rfl) hH h0 h4
      exact ⟨N, st.trans g1, g2, Or.inr ⟨g4, (g3 0).trans h0⟩, g6, g5, g4, (g3 0).trans h0, jrm.same g3 (g4.trans h4.symm)⟩
  · rw [if_neg (by omega)] at st
    have h4 := (hTb.2 h5).1
    have h0 : M 0 0 = 172 := by
      rcases hL with ⟨q, -⟩ | ⟨-, q⟩
      · omega
      · exact q
    exact ⟨M, st, fun _ _ _ _ _ _ => rfl, hL, hTb, h5, h4, h0, jrm.same (fun _ => rfl) rfl⟩
