/-! reading: worths, the class's sums -/
def wM (N : ja_M) (ws : List Int) : ja_M := fun c i => if c = 9 ∧ i = 2 then (ws.length : Int) else if c = 10 ∧ i < ws.length then ws.getD i 0 else N c i
theorem wM_push (N : ja_M) (ws : List Int) (w : Int) : ja_up (ja_up (wM N ws) 10 ws.length w) 9 2 ((ws.length : Int) + 1) = wM N (ws ++ [w]) := by
  funext c i
  rw [jz_up, jz_up]
  unfold wM
  rw [List.length_append, List.length_singleton]
  by_cases h1 : c = 9 ∧ i = 2
  · rw [if_pos h1, if_pos h1]
    omega
  · rw [if_neg h1]
    by_cases h2 : c = 10
    · by_cases h3 : i = ws.length
      · rw [if_pos ⟨h2, h3⟩, if_neg h1, if_pos ⟨h2, by omega⟩, h3, List.getD_eq_getElem?_getD, List.getElem?_append_right (Nat.le_refl _), Nat.sub_self]
        rfl
      · by_cases h4 : i < ws.length
        · rw [if_neg (fun q => h3 q.2), if_neg h1, if_pos ⟨h2, h4⟩, if_neg h1, if_pos ⟨h2, by omega⟩, List.getD_eq_getElem?_getD, List.getD_eq_getElem?_getD, List.getElem?_append_left h4]
        · rw [if_neg (fun q => h3 q.2), if_neg h1, if_neg (fun q => h4 q.2), if_neg h1, if_neg (fun q => by omega)]
    · rw [if_neg (fun q => h2 q.1), if_neg h1, if_neg (fun q => h2 q.1), if_neg h1, if_neg (fun q => h2 q.1)]
theorem wM_tp {N : ja_M} {ws : List Int} {T : Nat → Int} {n : Nat} (h : tpX N T n) : tpX (wM N ws) T n := ⟨h.1, fun i hi => h.2 i hi⟩
theorem js_wwrite (dd : Nat) {N : ja_M} {ws : List Int} {p : Nat} {w : Int} (h : ws.length < 160) : ja_x true (dd + 1) 48 [jr 9, ji w] (atX (wM N ws) p) = some (some (ji 1), atX (wM N (ws ++ [w])) p) := by
  have e : (atX (wM N ws) p) 9 2 = (ws.length : Int) := rfl
  have e2 : (ja_up (atX (wM N ws) p) 10 ws.length w) 9 2 = (ws.length : Int) := rfl
  rw [f_WorthReader_write, e, if_pos (by omega), if_pos (by omega), show ((ws.length : Int)).toNat = ws.length from rfl, e2, ja_w_id (by omega) (by omega), ja_up_cm (c := 2) (d := 10) (by omega), ja_up_cm (c := 2) (d := 9) (by omega), wM_push]
def iX (T : Nat → Int) (n : Nat) (IT : ja_M → Option ja_R) (f : wP) : Prop := ∀ (N : ja_M) (p : Nat) (ws : List Int), tpX N T n → p ≤ n → ws.length ≤ p → ∃ ws', IT (atX (wM N ws) p) = some (some (ji (if (f p).2.isSome = true then 1 else 0)), atX (wM N ws') (f p).1) ∧ ∀ c, (f p).2 = some c → ws' = ws ++ c.map jw_enc
theorem iX.y {T : Nat → Int} {n : Nat} {IT : ja_M → Option ja_R} {f : wP} (h : iX T n IT f) {N : ja_M} {p : Nat} {ws : List Int} (h1 : tpX N T n) (h2 : p ≤ n) (h3 : ws.length ≤ p) {c : jw_C} (hc : (f p).2 = some c) : IT (atX (wM N ws) p) = some (some (ji 1), atX (wM N (ws ++ c.map jw_enc)) (f p).1) := by
  obtain ⟨ws', g1, g2⟩ := h N p ws h1 h2 h3
  rw [g1, g2 c hc, hc]
  rfl
theorem iX.n {T : Nat → Int} {n : Nat} {IT : ja_M → Option ja_R} {f : wP} (h : iX T n IT f) {N : ja_M} {p : Nat} {ws : List Int} (h1 : tpX N T n) (h2 : p ≤ n) (h3 : ws.length ≤ p) (hc : (f p).2 = none) : ∃ ws', IT (atX (wM N ws) p) = some (some (ji 0), atX (wM N ws') (f p).1) := by
  obtain ⟨ws', g1, g2⟩ := h N p ws h1 h2 h3
  rw [hc] at g1
  exact ⟨ws', g1⟩
theorem iX.mk {T : Nat → Int} {n : Nat} {IT : ja_M → Option ja_R} {f : wP} (h : ∀ (N : ja_M) (p : Nat) (ws : List Int), tpX N T n → p ≤ n → ws.length ≤ p → (∀ c, (f p).2 = some c → IT (atX (wM N ws) p) = some (some (ji 1), atX (wM N (ws ++ c.map jw_enc)) (f p).1)) ∧ ((f p).2 = none → ∃ ws', IT (atX (wM N ws) p) = some (some (ji 0), atX (wM N ws') (f p).1))) : iX T n IT f := by
  intro N p ws h1 h2 h3
  obtain ⟨g1, g2⟩ := h N p ws h1 h2 h3
  cases e : (f p).2 with
  | none =>
    obtain ⟨ws', g⟩ := g2 e
    exact ⟨ws', g, fun c hc => by cases hc⟩
  | some c =>
    exact ⟨_, g1 c e, fun d hd => by cases hd; rfl⟩
def lX (T : Nat → Int) (n : Nat) (G : ja_M → Option ja_R) (f : wP) (op : Int → Option Nat) : Prop := ∀ (N : ja_M) (p : Nat) (ws : List Int) (acc : jw_C), tpX N T n → p ≤ n → 1 ≤ p → ws.length + acc.length ≤ p → ∃ ws', G (atX (wM N (ws ++ acc.map jw_enc)) p) = some (some (ji (if (wr_loop T n f op (n + 1) p acc).2.isSome = true then 1 else 0)), atX (wM N ws') (wr_loop T n f op (n + 1) p acc).1) ∧ ∀ c, (wr_loop T n f op (n + 1) p acc).2 = some c → ws' = ws ++ c.map jw_enc
theorem wx_loop {T : Nat → Int} {n dw : Nat} {IT : ja_M → Option ja_R} {f : wP} {op : Int → Option Nat} {F : Nat → ja_M → Option ja_R} (hn : n ≤ 160) (hg : wGd n f) (ho : ∀ c o, op c = some o → c ≠ 0) (hi : iX T n IT f) (h0 : ∀ (c : Nat) (N : ja_M) (p : Nat) (ws : List Int), c < 160 → tpX N T n → p ≤ n → op (sg T n (sk T n p)) = none → F c (atX (wM N ws) p) = some (some (ji 1), atX (wM N ws) (sk T n p))) (h1 : ∀ (c : Nat) (N : ja_M) (p : Nat) (ws : List Int) (o : Nat), c < 160 → tpX N T n → p ≤ n → op (sg T n (sk T n p)) = some o → F c (atX (wM N ws) p) = ja_bI (IT (atX (wM N ws) (sk T n p + 1))) (fun x M => if x = 0 then some (some (ji 0), M) else ja_bI (ja_x true (dw + 1) 48 [jr 9, ji (jw_enc (o, 0))] M) (fun _ M2 => F (c + 1) M2))) : ∀ (m c p : Nat) (ws : List Int) (acc : jw_C) (N : ja_M), n < p + m → 2 * c ≤ p + 1 → p ≤ n → ws.length + acc.length ≤ p → tpX N T n → ∃ ws', F c (atX (wM N (ws ++ acc.map jw_enc)) p) = some (some (ji (if (wr_loop T n f op m p acc).2.isSome = true then 1 else 0)), atX (wM N ws') (wr_loop T n f op m p acc).1) ∧ ∀ c, (wr_loop T n f op m p acc).2 = some c → ws' = ws ++ c.map jw_enc := by
  intro m
  induction m with
  | zero =>
    intro c p ws acc N hm
    omega
  | succ m ih =>
    intro c p ws acc N hm hc hp hw hX
    have hs := sk_b (T := T) hp
    cases e : op (sg T n (sk T n p)) with
    | none =>
      rw [wr_loop_n e, h0 c N p _ (by omega) hX hp e]
      exact ⟨_, rfl, fun d hd => by cases hd; rfl⟩
    | some o =>
      have sq := sg_lt (ho _ o e)
      obtain ⟨⟨f1, f2⟩, f3⟩ := hg (sk T n p + 1) sq
      rw [wr_loop_s e, h1 c N p _ o (by omega) hX hp e]
      have hl : (ws ++ acc.map jw_enc).length ≤ sk T n p + 1 := by
        rw [List.length_append, List.length_map]
        omega
      cases ef : (f (sk T n p + 1)).2 with
      | none =>
        obtain ⟨ws', g⟩ := hi.n hX sq hl ef
        rw [wq_n ef, g, jz_bI, if_pos rfl]
        exact ⟨ws', rfl, fun d hd => by cases hd⟩
      | some d =>
        obtain ⟨f4, f5⟩ := f3 d ef
        have hl2 : (ws ++ acc.map jw_enc ++ d.map jw_enc).length < 160 := by
          rw [List.length_append, List.length_append, List.length_map, List.length_map]
          omega
        rw [wq_s ef, hi.y hX sq hl ef, jz_bI, if_neg (by decide), js_wwrite dw hl2, jz_bI]
        have := ih (c + 1) (f (sk T n p + 1)).1 ws (acc ++ (d ++ [(o, 0)])) N (by omega) (by omega) f2 (by
          rw [List.length_append, List.length_append, List.length_singleton]
          omega) hX
        rw [List.map_append, List.map_append, ← List.append_assoc, ← List.append_assoc] at this
        exact this
theorem lX.wrap {T : Nat → Int} {n : Nat} {G : ja_M → Option ja_R} {f : wP} {op : Int → Option Nat} (h : lX T n G f op) : lX T n (fun M => ja_bI (G M) (fun x4 M3 => if x4 = 0 then some (some (ji 0), M3) else some (some (ji 1), M3))) f op := by
  intro N p ws acc h1 h2 h3 h4
  obtain ⟨ws', g1, g2⟩ := h N p ws acc h1 h2 h3 h4
  refine ⟨ws', ?_, g2⟩
  show ja_bI (G _) _ = _
  rw [g1, jz_bI, jz_b0]
  by_cases q : (wr_loop T n f op (n + 1) p acc).2.isSome = true
  · rw [if_pos q, if_pos q]
  · rw [if_neg q, if_neg q]
theorem wx_seq {T : Nat → Int} {n : Nat} {IT G : ja_M → Option ja_R} {f : wP} {op : Int → Option Nat} (hg : wGd n f) (hi : iX T n IT f) (hl : lX T n G f op) : iX T n (fun M => ja_bI (IT M) (fun x2 M1 => if x2 = 0 then some (some (ji 0), M1) else G M1)) (wr_seq T n f op) := by
  intro N p ws h1 h2 h3
  obtain ⟨⟨f1, f2⟩, f3⟩ := hg p h2
  show ∃ ws', ja_bI (IT _) _ = _ ∧ _
  unfold wr_seq
  cases ef : (f p).2 with
  | none =>
    obtain ⟨ws', g⟩ := hi.n h1 h2 h3 ef
    rw [wq_n ef, g, jz_bI, if_pos rfl]
    exact ⟨ws', rfl, fun d hd => by cases hd⟩
  | some d =>
    obtain ⟨f4, f5⟩ := f3 d ef
    rw [wq_s ef, hi.y h1 h2 h3 ef, jz_bI, if_neg (by decide)]
    exact hl N (f p).1 ws d h1 f2 (by omega) (by omega)
theorem js_letterOf (dd : Nat) (c : Int) (M : ja_M) : ja_x true (dd + 1) 47 [ji c] M = some (some (ji (wr_lt c)), M) := by
  rw [f_Worths_letterOf]
  unfold wr_lt
  by_cases h1 : c = 98
  · simp [h1]
  · by_cases h2 : c = 100
    · simp [h2]
    · by_cases h3 : c = 109
      · simp [h3]
      · by_cases h4 : c = 112
        · simp [h4]
        · by_cases h5 : c = 116
          · simp [h5]
          · simp [h1, h2, h3, h4, h5]
theorem wx_atom (dd : Nat) {T : Nat → Int} {n k a : Nat} (ht : tpok T n) (ha : a + k = 6) (hin : ∀ k', k = k' + 1 → iX T n (fun M => ja_x true (dd + 2) 44 [jr 9, ji ((a + 1 : Nat) : Int)] M) (wr_sum T n k')) : iX T n (fun M => ja_x true (dd + 3) 46 [jr 9, ji (a : Int)] M) (wr_atom T n (wr_in T n k)) := by
  have hn := ht.1
  refine iX.mk (fun N p ws h1 h2 h3 => ?_)
  have hX := wM_tp (ws := ws) h1
  have hs := sk_b (T := T) h2
  have st := f_WorthReader_readAtom (dd + 2) (a : Int) (atX (wM N ws) p)
  rw [js_next (dd + 1) hX hn h2, jz_bI, js_letterOf, jz_bI] at st
  have num : wr_lt (sg T n (sk T n p)) = -1 → wr_atom T n (wr_in T n k) p = ((tk T n 4 p).1, (tk T n 4 p).2.map (fun v => [(0, v)])) → ja_x true (dd + 3) 46 [jr 9, ji (a : Int)] (atX (wM N ws) p) = ja_bI (ja_x true (dd + 2) 32 [jr 2, ji 4] (atX (wM N ws) (sk T n p))) (fun x15 M14 => if x15 = (-1) then some (some (ji 0), M14) else ja_bI (ja_x true (dd + 2) 48 [jr 9, ji x15] M14) (fun x17 M16 => if x17 = 0 then some (some (ji 0), M16) else some (some (ji 1), M16))) → (∀ c, (wr_atom T n (wr_in T n k) p).2 = some c → ja_x true (dd + 3) 46 [jr 9, ji (a : Int)] (atX (wM N ws) p) = some (some (ji 1), atX (wM N (ws ++ c.map jw_enc)) (wr_atom T n (wr_in T n k) p).1)) ∧ ((wr_atom T n (wr_in T n k) p).2 = none → ∃ ws', ja_x true (dd + 3) 46 [jr 9, ji (a : Int)] (atX (wM N ws) p) = some (some (ji 0), atX (wM N ws') (wr_atom T n (wr_in T n k) p).1)) := by
    intro l w st
    rw [w]
    have tb := tk_b (T := T) (n := n) (m := 4) h2 (by decide)
    have tki : tk T n 4 (sk T n p) = tk T n 4 p := by
      unfold tk
      rw [sk_i h2]
    have tn := js_takeNumber dd (m := 4) (p := sk T n p) hX hn hs.2 (by decide)
    rw [tki] at tn
    rw [show ja_x true (dd + 2) 32 [jr 2, ji 4] (atX (wM N ws) (sk T n p)) = _ from tn, jz_bI] at st
    cases e : (tk T n 4 p).2 with
    | none =>
      rw [e, show (none : Option Int).getD (-1) = -1 from rfl, if_pos rfl] at st
      exact ⟨fun c hc => (by cases hc), fun _ => ⟨ws, st⟩⟩
    | some v =>
      have ts := tk_s (T := T) (n := n) (m := 3) h2 (by decide) e
      have ts : p < (tk T n 4 p).1 := ts
      have hv := tb.2.2 v e
      rw [e, show (some v).getD (-1) = v from rfl, if_neg (by omega), js_wwrite (dd + 1) (by omega), jz_bI, if_neg (by decide)] at st
      exact ⟨fun c hc => (by cases hc; exact st), fun q => by cases q⟩
  by_cases l : wr_lt (sg T n (sk T n p)) = -1
  · rw [if_pos l] at st
    by_cases b : sg T n (sk T n p) = 91
    · rw [if_pos b] at st
      have sq := (sg_eq b (by decide)).1
      cases k with
      | zero =>
        rw [if_neg (by omega)] at st
        refine num l ?_ st
        rw [show wr_in T n 0 = none from rfl, wr_atom_0 b]
        have : ¬ dg (sg T n (sk T n p)) := fun q => by
          rw [b] at q
          have : (91 : Int) ≤ 57 := q.2
          omega
        unfold tk
        rw [if_neg this]
        rfl
      | succ k =>
        have hi := hin k rfl
        obtain ⟨⟨f1, f2⟩, f3⟩ := (wr_sum_ok (T := T) (n := n) k).1 (sk T n p + 1) sq
        rw [show wr_in T n (k + 1) = some (wr_sum T n k) from rfl, wr_atom_b b]
        rw [if_pos (by omega), js_pass (dd + 1) hX hn sq, jz_bV, ja_w_id (x := (a : Int) + 1) (by omega) (by omega), show (a : Int) + 1 = ((a + 1 : Nat) : Int) by omega] at st
        cases ef : (wr_sum T n k (sk T n p + 1)).2 with
        | none =>
          obtain ⟨ws', g⟩ := hi.n h1 sq (ws := ws) (by omega) ef
          have g : ja_x true (dd + 2) 44 [jr 9, ji ((a + 1 : Nat) : Int)] (atX (wM N ws) (sk T n p + 1)) = _ := g
          rw [g, jz_bI, if_pos rfl] at st
          rw [wr_close_n ef]
          exact ⟨fun c hc => (by cases hc), fun _ => ⟨ws', st⟩⟩
        | some d =>
          have g := hi.y h1 sq (ws := ws) (by omega) ef
          have g : ja_x true (dd + 2) 44 [jr 9, ji ((a + 1 : Nat) : Int)] (atX (wM N ws) (sk T n p + 1)) = _ := g
          rw [g, jz_bI, if_neg (by decide), js_take dd (wM_tp h1) hn f2 (by decide)] at st
          by_cases q : sg T n (sk T n (wr_sum T n k (sk T n p + 1)).1) = 93
          · rw [if_pos q, jz_bI, if_neg (by decide)] at st
            rw [wr_close_y ef q]
            exact ⟨fun c hc => (by cases hc; exact st), fun w => by cases w⟩
          · rw [if_neg q, jz_bI, if_pos rfl] at st
            rw [wr_close_f ef q]
            exact ⟨fun c hc => (by cases hc), fun _ => ⟨_, st⟩⟩
    · rw [if_neg b] at st
      exact num l (wr_atom_n l b) st
  · obtain ⟨l1, l2⟩ := wr_lt_b l
    have sq := sg_lt l2
    rw [if_neg l, js_pass (dd + 1) hX hn sq, jz_bV, ja_w_id (by omega) (by omega), js_wwrite (dd + 1) (by omega), jz_bI, jz_cB (Or.inr rfl)] at st
    rw [wr_atom_l l]
    refine ⟨fun c hc => ?_, fun w => by cases w⟩
    cases hc
    exact st
