/-! points: both machines run a code -/
theorem pw_chr_b {o : Nat} : 33 ≤ jw_chr o ∧ jw_chr o ≤ 124 := by
  unfold jw_chr
  split <;> decide
theorem pw_chr_n {o : Nat} (h : o ≠ 9) : jw_chr o ≠ 33 := by
  unfold jw_chr
  split <;> first | decide | omega
theorem js_joinN (dd : Nat) {n : Nat} {M : ja_M} (hn : n < 40) : ja_x true (dd + 1) 117 [jr 15, ji 33, ji ((n : Int) + 1)] M = some (some (ji ((n : Int) + 1)), ja_up M 22 n (ja_w (1 - M 22 n))) := by
  rw [f_Worths_join, if_pos rfl, ja_w_id (x := (n : Int) + 1 - 1) (by omega) (by omega), show (n : Int) + 1 - 1 = (n : Int) by omega, if_pos (by omega), if_pos (by omega), show ((n : Int)).toNat = n from rfl]
theorem js_join2 (dd : Nat) {n o : Nat} {M : ja_M} (hn : n + 2 ≤ 40) (h : pw_two o (M 22 n) (M 22 (n + 1))) : ja_x true (dd + 3) 117 [jr 15, ji (jw_chr o), ji ((n : Int) + 1 + 1)] M = some (some (ji ((n : Int) + 1)), ja_up M 22 n (pw_op o (M 22 n) (M 22 (n + 1)))) := by
  have h9 : o ≠ 9 := by
    rcases h with ⟨h, h', -⟩ | ⟨h, -⟩ <;> omega
  rw [f_Worths_join, if_neg (pw_chr_n h9), ja_w_id (x := (n : Int) + 1 + 1 - 1) (by omega) (by omega), show (n : Int) + 1 + 1 - 1 = (n : Int) + 1 by omega, if_neg (by omega), ja_w_id (x := (n : Int) + 1 - 1) (by omega) (by omega), show (n : Int) + 1 - 1 = (n : Int) by omega, if_pos (by omega), if_pos (by omega), show ((n : Int)).toNat = n from rfl, show ((n : Int) + 1).toNat = n + 1 from rfl, js_joined dd h, jz_bI, if_pos (by omega)]
theorem jk_17k : ∀ k, k < 4 → ja_kd (17 + k) = (100, 160) := by decide
abbrev s22 : Nat → Prop := fun c => c = 22
abbrev s147 : Nat → Prop := fun c => c = 147
theorem js_run (dd : Nat) {k n : Nat} {L : Nat → Int} (hk : k < 4) (hn : n ≤ 160) (hL : ∀ i, i < 5 → pw_ok false (L i)) : ∀ (c : jw_C) (σ τ : List Bool) (st : List Int) (N : ja_M) (p q : Nat), jw_ty σ c = some τ → σ.length ≤ 40 → pw_st N 22 σ st → pw_at N (17 + k) p (c.map jw_enc) → p + c.length < n → q ≤ p → (∀ i, i < 5 → N 23 i = L i) → ∃ (N' : ja_M) (q' : Nat), q' ≤ p + c.length ∧ ja_D true (ja_x true (dd + 3)) k_Worths_run 6 [some (jr 15), some (jr (17 + k)), some (ji (n : Int)), some (ji (σ.length : Int)), some (ji (p : Int)), some (ji (q : Int)), none] [] N = ja_D true (ja_x true (dd + 3)) k_Worths_run 6 [some (jr 15), some (jr (17 + k)), some (ji (n : Int)), some (ji (τ.length : Int)), some (ji ((p + c.length : Nat) : Int)), some (ji (q' : Int)), none] [] N' ∧ jFr s22 N N' ∧ pw_st N' 22 τ (pw_ev L st c)
  | [], σ, τ, st, N, p, q, ht, hσ, hs, hw, hp, hq, h23 => by
    have : σ = τ := by
      have : some σ = some τ := ht
      exact Option.some.inj this
    subst this
    exact ⟨N, q, hq, rfl, jFr.rf N, hs⟩
  | (o, v) :: r, σ, τ, st, N, p, q, ht, hσ, hs, hw, hp, hq, h23 => by
    rw [List.length_cons] at hp
    have hw1 : N (17 + k) p = jw_enc (o, v) := hw.1
    have hw2 : pw_at N (17 + k) (p + 1) (r.map jw_enc) := hw.2
    have hl := pw_st_len hs
    have fin : ∀ (σ1 : List Bool) (st1 : List Int) (N1 : ja_M), jw_ty σ1 r = some τ → σ1.length ≤ 40 → pw_st N1 22 σ1 st1 → jFr s22 N N1 → pw_e1 L (o, v) st = st1 → ja_D true (ja_x true (dd + 3)) k_Worths_run 6 [some (jr 15), some (jr (17 + k)), some (ji (n : Int)), some (ji (σ.length : Int)), some (ji (p : Int)), some (ji (q : Int)), none] [] N = ja_D true (ja_x true (dd + 3)) k_Worths_run 6 [some (jr 15), some (jr (17 + k)), some (ji (n : Int)), some (ji (σ1.length : Int)), some (ji ((p : Int) + 1)), some (ji ((q : Int) + 1)), none] [] N1 → ∃ (N' : ja_M) (q' : Nat), q' ≤ p + (r.length + 1) ∧ ja_D true (ja_x true (dd + 3)) k_Worths_run 6 [some (jr 15), some (jr (17 + k)), some (ji (n : Int)), some (ji (σ.length : Int)), some (ji (p : Int)), some (ji (q : Int)), none] [] N = ja_D true (ja_x true (dd + 3)) k_Worths_run 6 [some (jr 15), some (jr (17 + k)), some (ji (n : Int)), some (ji (τ.length : Int)), some (ji ((p + (r.length + 1) : Nat) : Int)), some (ji (q' : Int)), none] [] N' ∧ jFr s22 N N' ∧ pw_st N' 22 τ (pw_ev L (pw_e1 L (o, v) st) r) := by
      intro σ1 st1 N1 t1 t2 t3 t4 t5 t6
      obtain ⟨N', q', g1, g2, g3, g4⟩ := js_run dd hk hn hL r σ1 τ st1 N1 (p + 1) (q + 1) t1 t2 t3 (pw_at_congr (fun i => t4 (17 + k) i (show ¬ 17 + k = 22 by omega)) hw2) (by omega) (by omega) (fun i hi => (t4 23 i (by decide)).trans (h23 i hi))
      refine ⟨N', q', by omega, ?_, t4.tr g3, by rw [t5]; exact g4⟩
      rw [t6]
      rw [show ((p + 1 : Nat) : Int) = (p : Int) + 1 by omega, show ((q + 1 : Nat) : Int) = (q : Int) + 1 by omega, show p + 1 + r.length = p + (r.length + 1) by omega] at g2
      exact g2
    show ∃ (N' : ja_M) (q' : Nat), q' ≤ p + (r.length + 1) ∧ _ = ja_D true (ja_x true (dd + 3)) k_Worths_run 6 [some (jr 15), some (jr (17 + k)), some (ji (n : Int)), some (ji (τ.length : Int)), some (ji ((p + (r.length + 1) : Nat) : Int)), some (ji (q' : Int)), none] [] N' ∧ jFr s22 N N' ∧ pw_st N' 22 τ (pw_ev L (pw_e1 L (o, v) st) r)
    have e6 := e_Worths_run_6 (ja_x true (dd + 3)) (17 + k) (n : Int) (σ.length : Int) (p : Int) (q : Int) N
    rw [if_pos (by omega), if_pos (by omega), jz_ald (n := 160) (jk_17k k hk) (by omega) (by omega) (by omega) (by omega), show ((p : Int)).toNat = p from rfl, hw1, ja_w_id (x := (p : Int) + 1) (by omega) (by omega), ja_w_id (x := (q : Int) + 1) (by omega) (by omega), ja_w_id (x := (σ.length : Int) + 1) (by omega) (by omega)] at e6
    rcases jw_ty_inv ht with ⟨rfl, i1, i2, i3⟩ | ⟨rfl, i1, i2, i3⟩ | ⟨rfl, σ', rfl, i3⟩ | ⟨kk, σ', rfl, i1, i3⟩
    · refine fin (false :: σ) (v :: st) (ja_up N 22 st.length v) i3 (by rw [List.length_cons]; omega) (pw_st_push hs ⟨by omega, by omega⟩) ((jFr.rf N).up rfl) rfl (e6.trans ?_)
      rw [show jw_enc (0, v) = v from rfl, if_pos (by omega), if_pos (by omega), if_pos (by omega), if_pos (by omega), hl]
      rfl
    · have hv : N 23 v.toNat = L v.toNat := h23 _ (by omega)
      refine fin (false :: σ) (L v.toNat :: st) (ja_up N 22 st.length (L v.toNat)) i3 (by rw [List.length_cons]; omega) (pw_st_push hs (hL _ (by omega))) ((jFr.rf N).up rfl) rfl (e6.trans ?_)
      rw [show jw_enc (1, v) = 10000 + v from rfl, if_pos (by omega), if_pos (by omega), if_neg (by omega), jk_ck rfl (by rw [jk_rLs rfl, jk_rLs (jk_rf (by omega))]; rfl) rfl, cond_true, ja_w_id (x := 10000 + v - 10000) (by omega) (by omega), show 10000 + v - 10000 = v by omega, f_Worths_letterValue, if_neg (by omega), if_pos (by omega), if_pos (by omega), jz_bI, if_pos (by omega), hl, hv]
      rfl
    · match st, hs with
      | x :: s, hs =>
        have hl' : s.length = σ'.length := by
          rw [List.length_cons, List.length_cons] at hl
          omega
        have hx : N 22 s.length = x := hs.1.1
        have hx2 : x = 0 ∨ x = 1 := hs.1.2
        rw [List.length_cons] at hσ
        refine fin (true :: σ') ((1 - x) :: s) (ja_up N 22 s.length (1 - x)) i3 hσ ⟨⟨jb_up_eq, show 1 - x = 0 ∨ 1 - x = 1 by omega⟩, pw_st_congr (fun i hi => jb_up_nej (by omega)) hs.2⟩ ((jFr.rf N).up rfl) rfl (e6.trans ?_)
        rw [show jw_enc (9, v) = 20033 from rfl, List.length_cons, if_neg (by decide), if_neg (by omega), if_pos (by decide), jk_ck rfl (by rw [jk_rLs rfl, jk_rLs (jk_rf (by omega))]; rfl) rfl, cond_true, show ja_w (20033 - 20000) = 33 from rfl, show ((σ'.length + 1 : Nat) : Int) = (σ'.length : Int) + 1 by omega, js_joinN (dd + 2) (by omega), jz_bI, ← hl', hx, ja_w_id (by omega) (by omega)]
    · match st, hs with
      | c :: b :: s, hs =>
        have hl' : s.length = σ'.length := by
          rw [List.length_cons, List.length_cons, List.length_cons, List.length_cons] at hl
          omega
        have hc : N 22 (s.length + 1) = c := hs.1.1
        have hc2 : pw_ok kk c := hs.1.2
        have hb : N 22 s.length = b := hs.2.1.1
        have hb2 : pw_ok kk b := hs.2.1.2
        have h2 : pw_two o b c := by
          rcases i1 with ⟨j1, j2, rfl⟩ | ⟨j1, rfl⟩
          · exact Or.inl ⟨j1, j2, hb2, hc2⟩
          · exact Or.inr ⟨j1, hb2, hc2⟩
        have ho : 2 ≤ o ∧ o ≠ 9 := by
          rcases i1 with ⟨j1, j2, -⟩ | ⟨j1, -⟩ <;> omega
        have he : jw_enc (o, v) = 20000 + jw_chr o := by
          match o, ho.1 with
          | o + 2, _ => rfl
        have hch := pw_chr_b (o := o)
        rw [List.length_cons, List.length_cons] at hσ
        have e1 : pw_e1 L (o, v) (c :: b :: s) = pw_op o b c :: s := by
          unfold pw_e1
          rw [if_neg (show ¬ (o, v).1 = 0 from fun z => by have : o = 0 := z; omega), if_neg (show ¬ (o, v).1 = 1 from fun z => by have : o = 1 := z; omega), if_neg (show ¬ (o, v).1 = 9 from fun z => ho.2 z)]
        refine fin (decide (6 ≤ o) :: σ') (pw_op o b c :: s) (ja_up N 22 s.length (pw_op o b c)) i3 (by rw [List.length_cons]; omega) ⟨⟨jb_up_eq, pw_op_ok h2⟩, pw_st_congr (fun i hi => jb_up_nej (by omega)) hs.2.2⟩ ((jFr.rf N).up rfl) e1 (e6.trans ?_)
        rw [he, List.length_cons, List.length_cons, if_neg (by omega), if_neg (by omega), if_pos (by omega), jk_ck rfl (by rw [jk_rLs rfl, jk_rLs (jk_rf (by omega))]; rfl) rfl, cond_true, ja_w_id (x := 20000 + jw_chr o - 20000) (by omega) (by omega), show 20000 + jw_chr o - 20000 = jw_chr o by omega, show ((σ'.length + 1 + 1 : Nat) : Int) = (s.length : Int) + 1 + 1 by omega, js_join2 dd (by omega) (by rw [hb, hc]; exact h2), jz_bI, hb, hc, List.length_cons, show ((σ'.length + 1 : Nat) : Int) = (s.length : Int) + 1 by omega]
theorem js_R_run (dd : Nat) {k e : Nat} {L : Nat → Int} (hk : k < 4) (he : e ≤ 320) (hL : ∀ i, i < 5 → pw_ok false (L i)) : ∀ (c : jw_C) (σ τ : List Bool) (st : List Int) (N : ja_M) (p : Nat), jw_ty σ c = some τ → σ.length ≤ 40 → pw_st N 147 σ st → jw_code N k p c → p + c.length ≤ e → (∀ i, i < 5 → N 146 i = L i) → ∃ N' : ja_M, ja_D true (ja_x true (dd + 2)) k_R_workOut 8 [some (jr 137), some (ji (k : Int)), none, some (ji (e : Int)), some (ji (σ.length : Int)), some (ji ((340 * k + p : Nat) : Int))] [] N = ja_D true (ja_x true (dd + 2)) k_R_workOut 8 [some (jr 137), some (ji (k : Int)), none, some (ji (e : Int)), some (ji (τ.length : Int)), some (ji ((340 * k + (p + c.length) : Nat) : Int))] [] N' ∧ jFr s147 N N' ∧ pw_st N' 147 τ (pw_ev L st c)
  | [], σ, τ, st, N, p, ht, hσ, hs, hw, hp, h23 => by
    have : σ = τ := by
      have : some σ = some τ := ht
      exact Option.some.inj this
    subst this
    exact ⟨N, rfl, jFr.rf N, hs⟩
  | (o, v) :: r, σ, τ, st, N, p, ht, hσ, hs, hw, hp, h23 => by
    rw [List.length_cons] at hp
    have hw1 : N 139 (340 * k + p) = (o : Int) := hw.1.1
    have hw0 : N 140 (340 * k + p) = v := hw.1.2
    have hw2 : jw_code N k (p + 1) r := hw.2
    have hl := pw_st_len hs
    have fin : ∀ (σ1 : List Bool) (st1 : List Int) (N1 : ja_M), jw_ty σ1 r = some τ → σ1.length ≤ 40 → pw_st N1 147 σ1 st1 → jFr s147 N N1 → pw_e1 L (o, v) st = st1 → ja_D true (ja_x true (dd + 2)) k_R_workOut 8 [some (jr 137), some (ji (k : Int)), none, some (ji (e : Int)), some (ji (σ.length : Int)), some (ji ((340 * k + p : Nat) : Int))] [] N = ja_D true (ja_x true (dd + 2)) k_R_workOut 8 [some (jr 137), some (ji (k : Int)), none, some (ji (e : Int)), some (ji (σ1.length : Int)), some (ji (((340 * k + p : Nat) : Int) + 1))] [] N1 → ∃ N' : ja_M, ja_D true (ja_x true (dd + 2)) k_R_workOut 8 [some (jr 137), some (ji (k : Int)), none, some (ji (e : Int)), some (ji (σ.length : Int)), some (ji ((340 * k + p : Nat) : Int))] [] N = ja_D true (ja_x true (dd + 2)) k_R_workOut 8 [some (jr 137), some (ji (k : Int)), none, some (ji (e : Int)), some (ji (τ.length : Int)), some (ji ((340 * k + (p + (r.length + 1)) : Nat) : Int))] [] N' ∧ jFr s147 N N' ∧ pw_st N' 147 τ (pw_ev L (pw_e1 L (o, v) st) r) := by
      intro σ1 st1 N1 t1 t2 t3 t4 t5 t6
      obtain ⟨N', g2, g3, g4⟩ := js_R_run dd hk he hL r σ1 τ st1 N1 (p + 1) t1 t2 t3 (jw_code_congr r (p + 1) (fun i _ _ => ⟨t4 139 _ (by decide), t4 140 _ (by decide)⟩) hw2) (by omega) (fun i hi => (t4 146 i (by decide)).trans (h23 i hi))
      refine ⟨N', ?_, t4.tr g3, by rw [t5]; exact g4⟩
      rw [t6]
      rw [show ((340 * k + (p + 1) : Nat) : Int) = ((340 * k + p : Nat) : Int) + 1 by omega, show p + 1 + r.length = p + (r.length + 1) by omega] at g2
      exact g2
    show ∃ N' : ja_M, _ = ja_D true (ja_x true (dd + 2)) k_R_workOut 8 [some (jr 137), some (ji (k : Int)), none, some (ji (e : Int)), some (ji (τ.length : Int)), some (ji ((340 * k + (p + (r.length + 1)) : Nat) : Int))] [] N' ∧ jFr s147 N N' ∧ pw_st N' 147 τ (pw_ev L (pw_e1 L (o, v) st) r)
    have e6 := e_R_workOut_8 (ja_x true (dd + 2)) (k : Int) (e : Int) (σ.length : Int) ((340 * k + p : Nat) : Int) N
    have b0 : 0 ≤ ((340 * k + p : Nat) : Int) ∧ ((340 * k + p : Nat) : Int) < 1700 := by omega
    rw [ja_w_id (x := 340 * (k : Int)) (by omega) (by omega), ja_w_id (x := 340 * (k : Int) + (e : Int)) (by omega) (by omega), if_pos (by omega), show (((340 * k + p : Nat) : Int)).toNat = 340 * k + p from rfl, hw1, hw0] at e6
    rw [ja_w_id (x := ((340 * k + p : Nat) : Int) + 1) (by omega) (by omega), ja_w_id (x := (σ.length : Int) + 1) (by omega) (by omega), if_pos b0] at e6
    rcases jw_ty_inv ht with ⟨rfl, i1, i2, i3⟩ | ⟨rfl, i1, i2, i3⟩ | ⟨rfl, σ', rfl, i3⟩ | ⟨kk, σ', rfl, i1, i3⟩
    · refine fin (false :: σ) (v :: st) (ja_up N 147 st.length v) i3 (by rw [List.length_cons]; omega) (pw_st_push hs ⟨by omega, by omega⟩) ((jFr.rf N).up rfl) rfl (e6.trans ?_)
      rw [if_pos (by decide), if_pos b0, if_pos (by decide), if_pos b0, if_pos (by omega), hl]
      rfl
    · have hv : N 146 v.toNat = L v.toNat := h23 _ (by omega)
      refine fin (false :: σ) (L v.toNat :: st) (ja_up N 147 st.length (L v.toNat)) i3 (by rw [List.length_cons]; omega) (pw_st_push hs (hL _ (by omega))) ((jFr.rf N).up rfl) rfl (e6.trans ?_)
      rw [if_neg (by decide), if_pos b0, if_pos (by decide), if_pos b0, if_neg (by decide), if_pos b0, if_pos (by omega), if_pos (by omega), hl, hv]
      rfl
    · match st, hs with
      | x :: s, hs =>
        have hl' : s.length = σ'.length := by
          rw [List.length_cons, List.length_cons] at hl
          omega
        have hx : N 147 s.length = x := hs.1.1
        have hx2 : x = 0 ∨ x = 1 := hs.1.2
        rw [List.length_cons] at hσ
        refine fin (true :: σ') ((1 - x) :: s) (ja_up N 147 s.length (1 - x)) i3 hσ ⟨⟨jb_up_eq, show 1 - x = 0 ∨ 1 - x = 1 by omega⟩, pw_st_congr (fun i hi => jb_up_nej (by omega)) hs.2⟩ ((jFr.rf N).up rfl) rfl (e6.trans ?_)
        rw [if_neg (by decide), if_pos b0, if_neg (by decide), if_pos b0, if_pos (by decide), List.length_cons, show ((σ'.length + 1 : Nat) : Int) - 1 = (s.length : Int) by omega, ja_w_id (x := (s.length : Int)) (by omega) (by omega), if_pos (by omega), if_pos (by omega), show ((s.length : Int)).toNat = s.length from rfl, hx, ja_w_id (by omega) (by omega)]
    · match st, hs with
      | c :: b :: s, hs =>
        have hl' : s.length = σ'.length := by
          rw [List.length_cons, List.length_cons, List.length_cons, List.length_cons] at hl
          omega
        have hc : N 147 (s.length + 1) = c := hs.1.1
        have hc2 : pw_ok kk c := hs.1.2
        have hb : N 147 s.length = b := hs.2.1.1
        have hb2 : pw_ok kk b := hs.2.1.2
        have h2 : pw_two o b c := by
          rcases i1 with ⟨j1, j2, rfl⟩ | ⟨j1, rfl⟩
          · exact Or.inl ⟨j1, j2, hb2, hc2⟩
          · exact Or.inr ⟨j1, hb2, hc2⟩
        have ho : 2 ≤ o ∧ o ≠ 9 := by
          rcases i1 with ⟨j1, j2, -⟩ | ⟨j1, -⟩ <;> omega
        rw [List.length_cons, List.length_cons] at hσ
        have e1 : pw_e1 L (o, v) (c :: b :: s) = pw_op o b c :: s := by
          unfold pw_e1
          rw [if_neg (show ¬ (o, v).1 = 0 from fun z => by have : o = 0 := z; omega), if_neg (show ¬ (o, v).1 = 1 from fun z => by have : o = 1 := z; omega), if_neg (show ¬ (o, v).1 = 9 from fun z => ho.2 z)]
        refine fin (decide (6 ≤ o) :: σ') (pw_op o b c :: s) (ja_up N 147 s.length (pw_op o b c)) i3 (by rw [List.length_cons]; omega) ⟨⟨jb_up_eq, pw_op_ok h2⟩, pw_st_congr (fun i hi => jb_up_nej (by omega)) hs.2.2⟩ ((jFr.rf N).up rfl) e1 (e6.trans ?_)
        rw [if_neg (by omega), if_pos b0, if_neg (by omega), if_pos b0, if_neg (by omega), if_pos b0, List.length_cons, List.length_cons, List.length_cons, show ((σ'.length + 1 + 1 : Nat) : Int) + -1 = (s.length : Int) + 1 by omega, ja_w_id (x := (s.length : Int) + 1) (by omega) (by omega), show (s.length : Int) + 1 - 1 = (s.length : Int) by omega, ja_w_id (x := (s.length : Int)) (by omega) (by omega), if_pos (by omega), if_pos (by omega), show ((s.length : Int)).toNat = s.length from rfl, show ((s.length : Int) + 1).toNat = s.length + 1 from rfl, hb, hc, js_R_worked dd h2, jz_bI, if_pos (by omega), show ((σ'.length + 1 : Nat) : Int) = (s.length : Int) + 1 by omega]
