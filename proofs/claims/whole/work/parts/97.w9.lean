/-! reading: worths, the class -/
def wr_ans (r : Nat × Option jw_S) : Int := match r.2 with
  | none => (r.1 : Int)
  | some _ => -1
theorem jw_len_app (cs : jw_S) (t s : jw_C) : jw_len (cs ++ [(t, s)]) = jw_len cs + (t.length + s.length) := by
  induction cs with
  | nil =>
    show t.length + s.length + 0 = 0 + (t.length + s.length)
    omega
  | cons x r ih =>
    obtain ⟨a, b⟩ := x
    show a.length + b.length + jw_len (r ++ [(t, s)]) = a.length + b.length + jw_len r + (t.length + s.length)
    rw [ih]
    omega
/-- clauses read up to a place -/
def wSok (p : Nat) (cs : jw_S) : Prop := jw_wf cs ∧ 3 * cs.length ≤ p ∧ jw_len cs ≤ p ∧ (jw_words 0 cs).length ≤ p
theorem wSok_app {T : Nat → Int} {n p : Nat} {cs : jw_S} {t s : jw_C} (hp : p ≤ n) (h : wSok p cs) (e : (wr_clause T n p).2 = some (t, s)) : wSok (wr_clause T n p).1 (cs ++ [(t, s)]) := by
  obtain ⟨-, c3⟩ := wr_clause_ok (T := T) hp
  obtain ⟨c4, c5, c6, c7⟩ := c3 t s e
  obtain ⟨h1, h2, h3, h4⟩ := h
  refine ⟨fun q hq => ?_, ?_, ?_, ?_⟩
  · rcases List.mem_append.mp hq with hq | hq
    · exact h1 q hq
    · have : q = (t, s) := List.mem_singleton.mp hq
      rw [this]
      exact ⟨c6, c7⟩
  · rw [List.length_append, List.length_singleton]
    omega
  · rw [jw_len_app]
    have : (if t = [] then 1 else 2 : Nat) ≥ 1 := by split <;> omega
    omega
  · rw [jw_words_app, List.length_append, jw_words_len]
    omega
theorem wSok_mono {p q : Nat} {cs : jw_S} (h : wSok p cs) (hq : p ≤ q) : wSok q cs := ⟨h.1, by have := h.2.1; omega, by have := h.2.2.1; omega, by have := h.2.2.2; omega⟩
theorem wr_text_ok {T : Nat → Int} {n : Nat} : ∀ (m p : Nat) (acc : jw_S), p ≤ n → wSok p acc → (wr_text T n m p acc).1 ≤ n ∧ ∀ cs, (wr_text T n m p acc).2 = some cs → wSok n cs
  | 0, p, acc, hp, h => ⟨hp, fun cs e => by cases e⟩
  | m + 1, p, acc, hp, h => by
    obtain ⟨⟨c1, c2⟩, c3⟩ := wr_clause_ok (T := T) hp
    have hs := sk_b (T := T) c2
    cases e : (wr_clause T n p).2 with
    | none =>
      rw [wr_text_n e]
      exact ⟨c2, fun cs e => by cases e⟩
    | some x =>
      obtain ⟨t, s⟩ := x
      have ok := wSok_app hp h e
      rw [wr_text_s e]
      by_cases q : n ≤ sk T n (wr_clause T n p).1
      · rw [if_pos q]
        exact ⟨Nat.le_refl _, fun cs e => by cases e; exact wSok_mono ok c2⟩
      · rw [if_neg q]
        by_cases q2 : sg T n (sk T n (wr_clause T n p).1) = 59
        · rw [if_pos q2]
          exact wr_text_ok m _ _ (by omega) (wSok_mono ok (by omega))
        · rw [if_neg q2]
          exact ⟨hs.2, fun cs e => by cases e⟩
theorem wx_read_D (dd : Nat) {T : Nat → Int} {n : Nat} (ht : tpok T n) : ∀ (m c p : Nat) (acc : jw_S) (N : ja_M), tpX N T n → p ≤ n → n < p + m → 2 * c ≤ p → wSok p acc → ∃ ws' r, ja_D true (ja_x true (dd + 61)) k_WorthReader_read 8 [some (jr 9), some (ji (c : Int))] [] (atX (wM N (jw_words 0 acc)) p) = some (some (ji (wr_ans (wr_text T n m p acc))), atX (wM N ws') r) ∧ ∀ cs, (wr_text T n m p acc).2 = some cs → ws' = jw_words 0 cs := by
  intro m
  have hn := ht.1
  induction m with
  | zero =>
    intro c p acc N hX hp hm
    omega
  | succ m ih =>
    intro c p acc N hX hp hm hc ok
    obtain ⟨g1, g2⟩ := wx_clause dd ht hX hp ok.2.2.2
    obtain ⟨⟨c1, c2⟩, c3⟩ := wr_clause_ok (T := T) hp
    have hs := sk_b (T := T) c2
    have st := e_WorthReader_read_8 (ja_x true (dd + 61)) (c : Int) (atX (wM N (jw_words 0 acc)) p)
    rw [if_pos (by omega)] at st
    have pos : ∀ ws (q : Nat), (atX (wM N ws) q) 2 2 = (q : Int) := fun ws q => jb_up_eq
    cases e : (wr_clause T n p).2 with
    | none =>
      obtain ⟨ws', g⟩ := g2 e
      rw [g, jz_bI, if_pos rfl, f_Tape_position, jz_bI, pos] at st
      rw [wr_text_n e]
      exact ⟨ws', _, st, fun cs h => by cases h⟩
    | some x =>
      obtain ⟨t, s⟩ := x
      obtain ⟨c4, c5, -⟩ := c3 t s e
      have ok2 := wSok_app hp ok e
      rw [wr_text_s e]
      have g := g1 t s e
      rw [show jw_words 0 acc ++ jw_words (jw_words 0 acc).length [(t, s)] = jw_words 0 (acc ++ [(t, s)]) by rw [jw_words_app, Nat.zero_add]] at g
      rw [g, jz_bI, if_neg (by decide), js_next (dd + 60) (wM_tp hX) hn c2, jz_bI] at st
      by_cases q : n ≤ sk T n (wr_clause T n p).1
      · rw [if_pos ((sg_0 ht).mpr q)] at st
        rw [if_pos q]
        exact ⟨_, _, st, fun cs h => by cases h; rfl⟩
      · rw [if_neg (fun z => q ((sg_0 ht).mp z)), js_take (dd + 59) (p := sk T n (wr_clause T n p).1) (wM_tp hX) hn hs.2 (by decide), sk_i c2] at st
        rw [if_neg q]
        by_cases q2 : sg T n (sk T n (wr_clause T n p).1) = 59
        · rw [if_pos q2, jz_bI, if_neg (by decide), ja_w_id (by omega) (by omega)] at st
          rw [if_pos q2]
          obtain ⟨ws', r, k1, k2⟩ := ih (c + 1) (sk T n (wr_clause T n p).1 + 1) (acc ++ [(t, s)]) N hX (by omega) (by omega) (by omega) (wSok_mono ok2 (by omega))
          exact ⟨ws', r, st.trans k1, k2⟩
        · rw [if_neg q2, jz_bI, if_pos rfl, f_Tape_position, jz_bI, pos] at st
          rw [if_neg q2]
          exact ⟨_, _, st, fun cs h => by cases h⟩
theorem wM_nil (N : ja_M) : wM N [] = ja_up N 9 2 0 := by
  funext c i
  rw [jz_up]
  unfold wM
  by_cases h : c = 9 ∧ i = 2
  · rw [if_pos h, if_pos h]
    rfl
  · rw [if_neg h, if_neg h, if_neg (fun q => Nat.not_lt_zero _ q.2)]
noncomputable def wr_res (M : ja_M) : Nat × Option jw_S := wr_text (M 3) (M 2 1).toNat ((M 2 1).toNat + 1) 0 []
theorem wSok_0 : wSok 0 [] := ⟨fun q hq => (by cases hq), Nat.le_refl _, Nat.le_refl _, Nat.le_refl _⟩
theorem js_X_worth (dd : Nat) {M : ja_M} (hT : jT M) : ∃ ws' r, ja_x true (dd + 62) 39 [jr 9] M = some (some (ji (wr_ans (wr_res M))), atX (wM M ws') r) ∧ ∀ cs, (wr_res M).2 = some cs → ws' = jw_words 0 cs := by
  obtain ⟨t1, t2⟩ := hT.tp
  obtain ⟨ws', r, g1, g2⟩ := wx_read_D dd t1 ((M 2 1).toNat + 1) 0 0 [] M t2 (Nat.zero_le _) (by omega) (by omega) wSok_0
  refine ⟨ws', r, ?_, g2⟩
  rw [f_WorthReader_read, f_Tape_rewind, jz_bV, ja_up_cm (c := 2) (d := 9) (by omega), ← wM_nil]
  exact g1
