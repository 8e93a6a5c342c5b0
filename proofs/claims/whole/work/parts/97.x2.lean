/-! reading: worths, the other side's atoms -/
def iR (T : Nat → Int) (n t d : Nat) (IT : ja_M → Option ja_R) (f : wP) (K : Nat) : Prop := ∀ (N : ja_M) (p : Nat) (cs : jw_C), bR N T n t → p ≤ n → cs.length ≤ p → (∀ c, (f p).2 = some c → IT (atR (rM N t d cs) p) = some (none, atR (rM N t d (cs ++ c)) (f p).1)) ∧ ((f p).2 = none → ∃ N', IT (atR (rM N t d cs) p) = some (none, N') ∧ fS N t (f p).1 (160 + K) N')
def lR (T : Nat → Int) (n t d : Nat) (G : ja_M → Option ja_R) (f : wP) (op : Int → Option Nat) (K : Nat) : Prop := (∀ M : ja_M, M 137 4 ≠ -1 → G M = some (none, M)) ∧ ∀ (N : ja_M) (p : Nat) (cs acc : jw_C), bR N T n t → p ≤ n → cs.length + acc.length ≤ p → (∀ c, (wr_loop T n f op (n + 1) p acc).2 = some c → G (atR (rM N t d (cs ++ acc)) p) = some (none, atR (rM N t d (cs ++ c)) (wr_loop T n f op (n + 1) p acc).1)) ∧ ((wr_loop T n f op (n + 1) p acc).2 = none → ∃ N', G (atR (rM N t d (cs ++ acc)) p) = some (none, N') ∧ fS N t (wr_loop T n f op (n + 1) p acc).1 (160 + K) N')
theorem fS_n {N : ja_M} {t f K : Nat} {N' : ja_M} (h : fS N t f K N') : N' 137 4 ≠ -1 := by
  rw [h.1]
  omega
theorem rw_loop {T : Nat → Int} {n t d dw K : Nat} {IT G : ja_M → Option ja_R} {f : wP} {op : Int → Option Nat} (hn : n ≤ 160) (hK : K ≤ 100) (hg : wGd n f) (ho : ∀ c o, op c = some o → c ≠ 0) (hi : iR T n t d IT f K) (g0 : ∀ M : ja_M, M 137 4 ≠ -1 → G M = some (none, M)) (g1 : ∀ (N : ja_M) (p : Nat) (cs : jw_C), bR N T n t → p ≤ n → op (sg T n (sk T n p)) = none → G (atR (rM N t d cs) p) = some (none, atR (rM N t d cs) (sk T n p))) (g2 : ∀ (N : ja_M) (p : Nat) (cs : jw_C) (o : Nat), bR N T n t → p ≤ n → op (sg T n (sk T n p)) = some o → G (atR (rM N t d cs) p) = ja_bV (IT (atR (rM N t d cs) (sk T n p + 1))) (fun M1 => ja_bV (ja_x true (dw + 1) 223 [jr 137, ji (o : Int), ji 0] M1) G)) : ∀ (m p : Nat) (cs acc : jw_C) (N : ja_M), n < p + m → p ≤ n → cs.length + acc.length ≤ p → bR N T n t → (∀ c, (wr_loop T n f op m p acc).2 = some c → G (atR (rM N t d (cs ++ acc)) p) = some (none, atR (rM N t d (cs ++ c)) (wr_loop T n f op m p acc).1)) ∧ ((wr_loop T n f op m p acc).2 = none → ∃ N', G (atR (rM N t d (cs ++ acc)) p) = some (none, N') ∧ fS N t (wr_loop T n f op m p acc).1 (160 + (K + 1)) N') := by
  intro m
  induction m with
  | zero =>
    intro p cs acc N hm hp
    omega
  | succ m ih =>
    intro p cs acc N hm hp hl hb
    have hs := sk_b (T := T) hp
    cases e : op (sg T n (sk T n p)) with
    | none =>
      rw [wr_loop_n e, g1 N p _ hb hp e]
      exact ⟨fun c hc => (by cases hc; rfl), fun h => by cases h⟩
    | some o =>
      have sq := sg_lt (ho _ o e)
      obtain ⟨⟨f1, f2⟩, f3⟩ := hg (sk T n p + 1) sq
      rw [wr_loop_s e, g2 N p _ o hb hp e]
      have hl2 : (cs ++ acc).length ≤ sk T n p + 1 := by
        rw [List.length_append]
        omega
      obtain ⟨i1, i2⟩ := hi N (sk T n p + 1) (cs ++ acc) hb sq hl2
      cases ef : (f (sk T n p + 1)).2 with
      | none =>
        obtain ⟨N', k1, k2⟩ := i2 ef
        obtain ⟨N2, k3, k4⟩ := js_R_putF dw (a := (o : Int)) (b := 0) k2 hb.2.2.2 (by omega)
        rw [wq_n ef, k1, jz_bV, k3, jz_bV, g0 N2 (fS_n k4)]
        exact ⟨fun c hc => (by cases hc), fun _ => ⟨N2, rfl, k4⟩⟩
      | some c0 =>
        obtain ⟨f4, f5⟩ := f3 c0 ef
        rw [wq_s ef, i1 c0 ef, jz_bV, js_R_putO dw hb (by rw [List.length_append]; omega), jz_bV]
        have := ih (f (sk T n p + 1)).1 cs (acc ++ (c0 ++ [(o, 0)])) N (by omega) f2 (by
          rw [List.length_append, List.length_append, List.length_singleton]
          omega) hb
        rw [show cs ++ (acc ++ (c0 ++ [(o, 0)])) = cs ++ acc ++ c0 ++ [(o, 0)] by simp] at this
        exact this
theorem rw_seq {T : Nat → Int} {n t d K : Nat} {IT G : ja_M → Option ja_R} {f : wP} {op : Int → Option Nat} (hg : wGd n f) (hi : iR T n t d IT f K) (hl : lR T n t d G f op (K + 1)) : iR T n t d (fun M => ja_bV (IT M) G) (wr_seq T n f op) (K + 1) := by
  intro N p cs h1 h2 h3
  obtain ⟨⟨f1, f2⟩, f3⟩ := hg p h2
  obtain ⟨i1, i2⟩ := hi N p cs h1 h2 h3
  show (∀ c, (wr_seq T n f op p).2 = some c → ja_bV (IT _) G = _) ∧ ((wr_seq T n f op p).2 = none → ∃ N', ja_bV (IT _) G = _ ∧ _)
  unfold wr_seq
  cases ef : (f p).2 with
  | none =>
    obtain ⟨N', k1, k2⟩ := i2 ef
    rw [wq_n ef, k1, jz_bV, hl.1 N' (fS_n k2)]
    exact ⟨fun c hc => (by cases hc), fun _ => ⟨N', rfl, k2.mono (by omega)⟩⟩
  | some c0 =>
    obtain ⟨f4, f5⟩ := f3 c0 ef
    rw [wq_s ef, i1 c0 ef, jz_bV]
    exact hl.2 N (f p).1 cs c0 h1 f2 (by omega)
theorem js_R_plain_D (dd : Nat) {N : ja_M} {T : Nat → Int} {n : Nat} (hR : tpR N T n) (hn : n ≤ 160) (h4 : N 137 4 = -1) : ∀ (m p c : Nat) (v : Int), c + m = 4 → p ≤ n → tp_v m v → ja_D true (ja_x true (dd + 1)) k_R_plainNumber 4 [some (jr 137), some (ji v), some (ji (c : Int))] [] (atR N p) = some (some (ji (tp_dg T n m p v).2), if dg (sg T n (tp_dg T n m p v).1) then ja_up (atR N (tp_dg T n m p v).1) 137 4 ((tp_dg T n m p v).1 : Int) else atR N (tp_dg T n m p v).1) := by
  have last : ∀ (p : Nat) (v : Int), ja_bI (ja_x true (dd + 1) 208 [jr 137] (atR N p)) (fun x13 M12 => ja_bI (ja_x true (dd + 1) 212 [ji x13] M12) (fun x15 M14 => if x15 = 0 then some (some (ji v), M14) else ja_bV (ja_x true (dd + 1) 213 [jr 137] M14) (fun M16 => some (some (ji v), M16)))) = some (some (ji v), if dg (sg T n p) then ja_up (atR N p) 137 4 (p : Int) else atR N p) := by
    intro p v
    rw [js_R_here dd hR hn, jz_bI, js_R_isDigit, jz_bI, jz_b0]
    by_cases g : dg (sg T n p)
    · rw [if_pos (dg_sr.mpr g), if_pos g, js_R_bad dd h4, jz_bV]
    · rw [if_neg (fun q => g (dg_sr.mp q)), if_neg g]
  intro m
  induction m with
  | zero =>
    intro p c v hc hp hv
    rw [e_R_plainNumber_4, if_neg (by omega)]
    exact last p v
  | succ m ih =>
    intro p c v hc hp hv
    have e3 : (atR N p) 137 3 = (p : Int) := jb_up_eq
    rw [e_R_plainNumber_4, if_pos (by omega), js_R_here dd hR hn, jz_bI, js_R_isDigit, jz_bI, jz_b0]
    by_cases g : dg (sg T n p)
    · have q := dg_sg.mp g
      have g2 : 48 ≤ T p ∧ T p ≤ 57 := q.2
      have hv2 := tp_v_s hv (d := T p - 48) (by omega)
      have hvb := hv.1
      have hvd : v ≤ 999 := by
        unfold tp_v at hv2
        omega
      have s0 : sr T n p = T p := if_pos q.1
      have := ih (p + 1) (c + 1) (v * 10 + (T p - 48)) (by omega) q.1 hv2
      rw [if_pos (dg_sr.mpr g), js_R_here dd hR hn, jz_bI, s0, e3, ja_w_id (x := 10 * v) (by omega) (by omega), ja_w_id (x := 10 * v + T p) (by omega) (by omega), ja_w_id (x := 10 * v + T p - 48) (by omega) (by omega), ja_w_id (x := (c : Int) + 1) (by omega) (by omega), ja_w_id (x := (p : Int) + 1) (by omega) (by omega), ja_up_up, show 10 * v + T p - 48 = v * 10 + (T p - 48) by omega, tp_dg_y q]
      exact this
    · rw [if_neg (fun w => g (dg_sr.mp w)), tp_dg_n (fun w => g (dg_sg.mpr w))]
      exact last p v
theorem js_R_opens (dd : Nat) {N : ja_M} {T : Nat → Int} {n t d p : Nat} {cs : jw_C} (hb : bR N T n t) (hp : p < 160) (hd : d < 6) : ja_x true (dd + 2) 222 [jr 137] (atR (rM N t d cs) p) = some (none, atR (rM N t (d + 1) cs) (p + 1)) := by
  have e5 : (atR (rM N t d cs) p) 137 5 = (d : Int) := rfl
  have e3 : (ja_up (atR (rM N t d cs) p) 137 5 ((d + 1 : Nat) : Int)) 137 3 = (p : Int) := rfl
  rw [f_R_opens, e5, if_neg (by omega), ja_w_id (x := (d : Int) + 1) (by omega) (by omega), show (d : Int) + 1 = ((d + 1 : Nat) : Int) by omega, e3, ja_w_id (by omega) (by omega), ja_up_cm (c := 137) (i := 3) (d := 137) (j := 5) (by omega), rM_d, ja_up_up]
  rfl
theorem js_R_opens6 (dd : Nat) {N : ja_M} {T : Nat → Int} {n t p : Nat} {cs : jw_C} (hb : bR N T n t) (hp : cs.length ≤ p) (hp2 : p < 160) : ∃ N', ja_x true (dd + 2) 222 [jr 137] (atR (rM N t 6 cs) p) = some (none, N') ∧ fS N t p 160 N' := by
  have e5 : (atR (rM N t 6 cs) p) 137 5 = 6 := rfl
  rw [f_R_opens, e5, if_pos rfl, js_R_bad (dd + 0) (N := rM N t 6 cs) hb.2.1, jz_bV]
  exact ⟨_, rfl, ((rM_f hb (by omega) (by omega)).up5 _).up3 _⟩
theorem js_R_closes (dd : Nat) {N : ja_M} {T : Nat → Int} {n t d q : Nat} {cs : jw_C} {e : Int} (hd : d < 6) (ht : tpok T n) (hb : bR N T n t) (hq : q ≤ n) (hl : cs.length ≤ q) (he : 1 ≤ e) : (sg T n (sk T n q) = e → ja_x true (dd + 3) 224 [jr 137, ji e] (atR (rM N t (d + 1) cs) q) = some (none, atR (rM N t d cs) (sk T n q + 1))) ∧ (¬ sg T n (sk T n q) = e → ∃ N', ja_x true (dd + 3) 224 [jr 137, ji e] (atR (rM N t (d + 1) cs) q) = some (none, N') ∧ fS N t (sk T n q) 160 N') := by
  have hn := ht.1
  have hs := sk_b (T := T) hq
  have e4 : (atR (rM N t (d + 1) cs) q) 137 4 = -1 := hb.2.1
  have st := f_R_closes (dd + 2) e (atR (rM N t (d + 1) cs) q)
  rw [e4, if_pos rfl, js_R_look dd (rM_tp hb.1) hn hq, jz_bI] at st
  refine ⟨fun h => ?_, fun h => ?_⟩
  · have sq := (sg_eq h (by omega)).1
    have e3 : (atR (rM N t (d + 1) cs) (sk T n q)) 137 3 = (sk T n q : Int) := rfl
    rw [if_pos ((sr_sg ht e he).mpr h), e3, ja_w_id (by omega) (by omega), ja_up_up] at st
    have e5 : (ja_up (rM N t (d + 1) cs) 137 3 ((sk T n q : Int) + 1)) 137 5 = ((d + 1 : Nat) : Int) := rfl
    rw [st, e5]
    rw [ja_w_id (by omega) (by omega), show ((d + 1 : Nat) : Int) - 1 = (d : Int) by omega, ja_up_cm (c := 137) (i := 3) (d := 137) (j := 5) (by omega), rM_d]
    rfl
  · rw [if_neg (fun w => h ((sr_sg ht e he).mp w)), js_R_bad (dd + 1) (N := rM N t (d + 1) cs) hb.2.1, jz_bV] at st
    exact ⟨_, st, ((rM_f hb (by omega) (by omega)).up3 _).up5 _⟩
theorem js_R_closesF (dd : Nat) {N : ja_M} {t f K : Nat} {N' : ja_M} {e : Int} (h : fS N t f K N') : ∃ N'', ja_x true (dd + 1) 224 [jr 137, ji e] N' = some (none, N'') ∧ fS N t f K N'' := by
  rw [f_R_closes, if_neg (fS_n h)]
  exact ⟨_, rfl, (h.up3 _).up5 _⟩
