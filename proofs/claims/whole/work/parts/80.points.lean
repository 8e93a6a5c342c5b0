/-! points: what a worth is, in a turn -/
def pw_val (L : Nat → Int) : jw_S → Int
  | [] => 0
  | (t, s) :: r => if t ≠ [] ∧ (pw_ev L [] t).headD 0 = 0 then pw_val L r else (pw_ev L [] s).headD 0
theorem pw_val_b {L : Nat → Int} {M : ja_M} {c : Nat} {s : jw_C} (h : pw_st M c [false] (pw_ev L [] s)) : -1000000 ≤ (pw_ev L [] s).headD 0 ∧ (pw_ev L [] s).headD 0 ≤ 1000000 := by
  rw [(pw_st1 h).1]
  exact (pw_st1 h).2
theorem js_runAll (dd : Nat) {k n : Nat} {L : Nat → Int} (hk : k < 4) (hn : n ≤ 160) (hL : ∀ i, i < 5 → pw_ok false (L i)) : ∀ (cs : jw_S) (N : ja_M) (p q : Nat), jw_wf cs → pw_at N (17 + k) p (jw_words p cs) → p + (jw_words p cs).length = n → q ≤ p → (∀ i, i < 5 → N 23 i = L i) → ∃ N' : ja_M, ja_D true (ja_x true (dd + 3)) k_Worths_run 6 [some (jr 15), some (jr (17 + k)), some (ji (n : Int)), some (ji 0), some (ji (p : Int)), some (ji (q : Int)), none] [] N = some (some (ji (pw_val L cs)), N') ∧ jFr s22 N N' ∧ (-1000000 ≤ pw_val L cs ∧ pw_val L cs ≤ 1000000)
  | [], N, p, q, hwf, hw, hp, hq, h23 => by
    have hp : p + 0 = n := hp
    refine ⟨N, ?_, jFr.rf N, show -1000000 ≤ (0 : Int) ∧ (0 : Int) ≤ 1000000 by decide⟩
    rw [e_Worths_run_6]
    by_cases a : (q : Int) < (n : Int)
    · rw [if_pos a, if_neg (by omega)]
      rfl
    · rw [if_neg a]
      rfl
  | (t, s) :: r, N, p, q, hwf, hw, hp, hq, h23 => by
    obtain ⟨wt, ws⟩ := hwf (t, s) (List.mem_cons_self ..)
    have wr : jw_wf r := fun x hx => hwf x (List.mem_cons_of_mem _ hx)
    have tail : ∀ (N1 : ja_M) (p1 q1 : Nat), (∀ i, i < 5 → N1 23 i = L i) → pw_at N1 (17 + k) p1 (s.map jw_enc) → N1 (17 + k) (p1 + s.length) = 40000 → p1 + s.length < n → q1 ≤ p1 → ∃ N' : ja_M, ja_D true (ja_x true (dd + 3)) k_Worths_run 6 [some (jr 15), some (jr (17 + k)), some (ji (n : Int)), some (ji 0), some (ji (p1 : Int)), some (ji (q1 : Int)), none] [] N1 = some (some (ji ((pw_ev L [] s).headD 0)), N') ∧ jFr s22 N1 N' ∧ (-1000000 ≤ (pw_ev L [] s).headD 0 ∧ (pw_ev L [] s).headD 0 ≤ 1000000) := by
      intro N1 p1 q1 a1 a2 a3 a4 a5
      obtain ⟨N2, q2, b1, b2, b3, b4⟩ := js_run dd hk hn hL s [] [false] [] N1 p1 q1 ws (by decide) trivial a2 (by omega) a5 a1
      refine ⟨N2, b2.trans ?_, b3, pw_val_b b4⟩
      rw [(pw_st1 b4).1, e_Worths_run_6, if_pos (by omega), if_pos (by omega), jz_ald (n := 160) (jk_17k k hk) (by omega) (by omega) (by omega) (by omega), show (((p1 + s.length : Nat) : Int)).toNat = p1 + s.length from rfl, b3 (17 + k) _ (show ¬ 17 + k = 22 by omega), a3, if_neg (by decide), if_neg (by decide), if_neg (by decide), if_pos rfl]
      rfl
    match t, wt, hw, hp with
    | [], _, hw, hp =>
      have hw : pw_at N (17 + k) p (s.map jw_enc ++ 40000 :: jw_words (p + s.length + 1) r) := hw
      have hp : p + (s.map jw_enc ++ 40000 :: jw_words (p + s.length + 1) r).length = n := hp
      rw [List.length_append, List.length_map, List.length_cons] at hp
      obtain ⟨g1, g2⟩ := pw_at_app hw
      rw [List.length_map] at g2
      exact tail N p q h23 g1 g2.1 (by omega) hq
    | x :: t, wt, hw, hp =>
      have hw : pw_at N (17 + k) p ((x :: t).map jw_enc ++ (30000 + ((p + t.length + s.length + 3 : Nat) : Int)) :: (s.map jw_enc ++ 40000 :: jw_words (p + t.length + s.length + 3) r)) := hw
      have hp : p + ((x :: t).map jw_enc ++ (30000 + ((p + t.length + s.length + 3 : Nat) : Int)) :: (s.map jw_enc ++ 40000 :: jw_words (p + t.length + s.length + 3) r)).length = n := hp
      rw [List.length_append, List.length_map, List.length_cons, List.length_cons, List.length_append, List.length_map, List.length_cons] at hp
      obtain ⟨g1, g2⟩ := pw_at_app hw
      rw [List.length_map, List.length_cons] at g2
      have wt : jw_ty [] (x :: t) = some [true] := wt.resolve_left (by intro z; cases z)
      obtain ⟨N2, q2, b1, b2, b3, b4⟩ := js_run dd hk hn hL (x :: t) [] [true] [] N p q wt (by decide) trivial g1 (by rw [List.length_cons]; omega) hq h23
      rw [show (x :: t).length = t.length + 1 from rfl] at b1 b2
      have hx := (pw_st1 b4).2
      have hv : pw_val L ((x :: t, s) :: r) = if (pw_ev L [] (x :: t)).headD 0 = 0 then pw_val L r else (pw_ev L [] s).headD 0 := by
        show (if x :: t ≠ [] ∧ (pw_ev L [] (x :: t)).headD 0 = 0 then pw_val L r else (pw_ev L [] s).headD 0) = _
        by_cases z : (pw_ev L [] (x :: t)).headD 0 = 0
        · rw [if_pos z, if_pos ⟨List.cons_ne_nil _ _, z⟩]
        · rw [if_neg z, if_neg (fun y => z y.2)]
      have stepped : ja_D true (ja_x true (dd + 3)) k_Worths_run 6 [some (jr 15), some (jr (17 + k)), some (ji (n : Int)), some (ji 0), some (ji (p : Int)), some (ji (q : Int)), none] [] N = if N2 22 0 = 0 then ja_D true (ja_x true (dd + 3)) k_Worths_run 6 [some (jr 15), some (jr (17 + k)), some (ji (n : Int)), some (ji 0), some (ji ((p + t.length + s.length + 3 : Nat) : Int)), some (ji ((q2 + 1 : Nat) : Int)), none] [] N2 else ja_D true (ja_x true (dd + 3)) k_Worths_run 6 [some (jr 15), some (jr (17 + k)), some (ji (n : Int)), some (ji 0), some (ji ((p + t.length + 2 : Nat) : Int)), some (ji ((q2 + 1 : Nat) : Int)), none] [] N2 := by
        refine b2.trans ?_
        have em : ja_max (((p + (t.length + 1) : Nat) : Int) + 1) ((p + t.length + s.length + 3 : Nat) : Int) = ((p + t.length + s.length + 3 : Nat) : Int) := by
          unfold ja_max
          rw [if_pos (by omega)]
        rw [e_Worths_run_6, if_pos (by omega), if_pos (by omega), jz_ald (n := 160) (jk_17k k hk) (by omega) (by omega) (by omega) (by omega), show (((p + (t.length + 1) : Nat) : Int)).toNat = p + (t.length + 1) from rfl, b3 (17 + k) _ (show ¬ 17 + k = 22 by omega), g2.1, if_neg (by omega), if_neg (by decide), if_neg (by omega), if_neg (by omega), show ja_w (((([true] : List Bool).length : Nat) : Int) + -1) = 0 from rfl, if_pos (by decide), ja_w_id (x := ((p + (t.length + 1) : Nat) : Int) + 1) (by omega) (by omega), ja_w_id (x := 30000 + ((p + t.length + s.length + 3 : Nat) : Int) - 30000) (by omega) (by omega), show 30000 + ((p + t.length + s.length + 3 : Nat) : Int) - 30000 = ((p + t.length + s.length + 3 : Nat) : Int) by omega, em, ja_w_id (by omega) (by omega), show ((p + (t.length + 1) : Nat) : Int) + 1 = ((p + t.length + 2 : Nat) : Int) by omega, show (q2 : Int) + 1 = ((q2 + 1 : Nat) : Int) by omega]
        rfl
      obtain ⟨g3, g4⟩ := pw_at_app g2.2
      rw [List.length_map] at g4
      have h17 : ∀ i, N2 (17 + k) i = N (17 + k) i := fun i => b3 (17 + k) i (show ¬ 17 + k = 22 by omega)
      have h23' : ∀ i, i < 5 → N2 23 i = L i := fun i hi => (b3 23 i (by decide)).trans (h23 i hi)
      rw [hv, (pw_st1 b4).1, stepped]
      by_cases z : N2 22 0 = 0
      · rw [if_pos z, if_pos z]
        have g5 := pw_at_congr h17 g4.2
        rw [show p + (t.length + 1) + 1 + s.length + 1 = p + t.length + s.length + 3 by omega] at g5
        obtain ⟨N', c1, c2, c3⟩ := js_runAll dd hk hn hL r N2 (p + t.length + s.length + 3) (q2 + 1) wr g5 (by omega) (by omega) h23'
        exact ⟨N', c1, b3.tr c2, c3⟩
      · rw [if_neg z, if_neg z]
        have g5 := pw_at_congr h17 g3
        have g6 : N2 (17 + k) (p + (t.length + 1) + 1 + s.length) = 40000 := (h17 _).trans g4.1
        rw [show p + (t.length + 1) + 1 = p + t.length + 2 by omega] at g5 g6
        obtain ⟨N', c1, c2, c3⟩ := tail N2 (p + t.length + 2) (q2 + 1) h23' g5 g6 (by omega) (by omega)
        exact ⟨N', c1, b3.tr c2, c3⟩
theorem jw_code_app {M : ja_M} {k : Nat} : ∀ {p : Nat} {u v : jw_C}, jw_code M k p (u ++ v) → jw_code M k p u ∧ jw_code M k (p + u.length) v
  | p, [], v, h => ⟨trivial, h⟩
  | p, (o, x) :: u, v, h => by
    obtain ⟨h1, h2⟩ := jw_code_app (u := u) h.2
    rw [List.length_cons, show p + (u.length + 1) = p + 1 + u.length by omega]
    exact ⟨⟨h.1, h1⟩, h2⟩
theorem js_workOut (dd : Nat) {k p : Nat} {L : Nat → Int} {N : ja_M} {c : jw_C} {κ : Bool} (hk : k < 4) (hL : ∀ i, i < 5 → pw_ok false (L i)) (ht : jw_ty [] c = some [κ]) (hc : jw_code N k p c) (hp : p + c.length ≤ 320) (h23 : ∀ i, i < 5 → N 146 i = L i) : ∃ N', ja_x true (dd + 3) 273 [jr 137, ji (k : Int), ji (p : Int), ji ((p + c.length : Nat) : Int)] N = some (some (ji ((pw_ev L [] c).headD 0)), N') ∧ jFr s147 N N' := by
  obtain ⟨N', g1, g2, g3⟩ := js_R_run dd hk hp hL c [] [κ] [] N p ht (by decide) trivial hc (Nat.le_refl _) h23
  refine ⟨N', ?_, g2⟩
  rw [f_R_workOut, ja_w_id (x := 340 * (k : Int)) (by omega) (by omega), ja_w_id (x := 340 * (k : Int) + (p : Int)) (by omega) (by omega), show 340 * (k : Int) + (p : Int) = ((340 * k + p : Nat) : Int) by omega]
  refine g1.trans ?_
  rw [e_R_workOut_8, ja_w_id (x := 340 * (k : Int)) (by omega) (by omega), ja_w_id (x := 340 * (k : Int) + _) (by omega) (by omega), if_neg (by omega), (pw_st1 g3).1]
theorem js_worthOf (dd : Nat) {k m : Nat} {L : Nat → Int} (hk : k < 4) (hm : m ≤ 80) (hL : ∀ i, i < 5 → pw_ok false (L i)) : ∀ (cs : jw_S) (N : ja_M) (c off : Nat), jw_wf cs → jw_mod N k c off cs → off + jw_len cs ≤ 320 → c + cs.length = m → N 142 k = (m : Int) → (∀ i, i < 5 → N 146 i = L i) → ∃ N' : ja_M, ja_D true (ja_x true (dd + 3)) k_R_worthOf 4 [some (jr 137), some (ji (k : Int)), some (ji ((90 * k + c : Nat) : Int))] [] N = some (some (ji (pw_val L cs)), N') ∧ jFr s147 N N'
  | [], N, c, off, hwf, hmd, hl, hc, h142, h23 => by
    have hc : c + 0 = m := hc
    refine ⟨N, ?_, jFr.rf N⟩
    rw [e_R_worthOf_4, if_pos (by omega), ja_w_id (x := 90 * (k : Int)) (by omega) (by omega), show ((k : Int)).toNat = k from rfl, h142, ja_w_id (by omega) (by omega), if_neg (by omega)]
    rfl
  | (t, s) :: r, N, c, off, hwf, hmd, hl, hc, h142, h23 => by
    obtain ⟨wt, ws⟩ := hwf (t, s) (List.mem_cons_self ..)
    have wr : jw_wf r := fun x hx => hwf x (List.mem_cons_of_mem _ hx)
    have wt : t = [] ∨ jw_ty [] t = some [true] := wt
    have ws : jw_ty [] s = some [false] := ws
    obtain ⟨⟨m1, m2, m3⟩, m4, m5⟩ := hmd
    obtain ⟨n1, n2⟩ := jw_code_app m4
    have hl : off + (t.length + s.length + jw_len r) ≤ 320 := hl
    rw [List.length_cons] at hc
    have b0 : 0 ≤ ((90 * k + c : Nat) : Int) ∧ ((90 * k + c : Nat) : Int) < 450 := by omega
    have e4 := e_R_worthOf_4 (ja_x true (dd + 3)) (k : Int) ((90 * k + c : Nat) : Int) N
    rw [if_pos (by omega), ja_w_id (x := 90 * (k : Int)) (by omega) (by omega), show ((k : Int)).toNat = k from rfl, h142, ja_w_id (x := 90 * (k : Int) + (m : Int)) (by omega) (by omega), if_pos (by omega), if_pos b0, if_pos b0, show (((90 * k + c : Nat) : Int)).toNat = 90 * k + c from rfl, m1, m2] at e4
    have tail : ∀ N1 : ja_M, jFr s147 N N1 → ∃ N', ja_x true (dd + 3) 273 [jr 137, ji (k : Int), ji ((off + t.length : Nat) : Int), ji ((off + t.length + s.length : Nat) : Int)] N1 = some (some (ji ((pw_ev L [] s).headD 0)), N') ∧ jFr s147 N1 N' := fun N1 hf => js_workOut dd hk hL ws (jw_code_congr s _ (fun i _ _ => ⟨hf 139 _ (by decide), hf 140 _ (by decide)⟩) n2) (by omega) (fun i hi => (hf 146 i (by decide)).trans (h23 i hi))
    by_cases q : t = []
    · subst q
      obtain ⟨N', g1, g2⟩ := tail N (jFr.rf N)
      refine ⟨N', e4.trans ?_, g2⟩
      rw [if_pos (show (off : Int) = ((off + ([] : jw_C).length : Nat) : Int) from rfl), if_pos b0, if_pos b0, m3, g1, jz_bI]
      rfl
    · have ht : t.length ≠ 0 := fun z => q (List.length_eq_zero_iff.mp z)
      obtain ⟨N1, g1, g2⟩ := js_workOut dd hk hL (wt.resolve_left q) n1 (by omega) h23
      have hv : pw_val L ((t, s) :: r) = if (pw_ev L [] t).headD 0 = 0 then pw_val L r else (pw_ev L [] s).headD 0 := by
        show (if t ≠ [] ∧ (pw_ev L [] t).headD 0 = 0 then pw_val L r else (pw_ev L [] s).headD 0) = _
        by_cases z : (pw_ev L [] t).headD 0 = 0
        · rw [if_pos z, if_pos ⟨q, z⟩]
        · rw [if_neg z, if_neg (fun y => z y.2)]
      rw [if_neg (by omega), if_pos b0, if_pos b0, g1, jz_bI, ja_w_id (x := ((90 * k + c : Nat) : Int) + 1) (by omega) (by omega), g2 144 _ (by decide), g2 145 _ (by decide), m2, m3] at e4
      rw [hv]
      by_cases z : (pw_ev L [] t).headD 0 = 0
      · obtain ⟨N', c1, c2⟩ := js_worthOf dd hk hm hL r N1 (c + 1) (off + t.length + s.length) wr (jw_mod_congr r _ _ (fun i _ _ => ⟨g2 139 _ (by decide), g2 140 _ (by decide)⟩) (fun i _ _ => ⟨g2 143 _ (by decide), g2 144 _ (by decide), g2 145 _ (by decide)⟩) m5) (by omega) (by omega) ((g2 142 _ (by decide)).trans h142) (fun i hi => (g2 146 i (by decide)).trans (h23 i hi))
        refine ⟨N', e4.trans ?_, g2.tr c2⟩
        rw [if_pos z, if_pos z, show ((90 * k + c : Nat) : Int) + 1 = ((90 * k + (c + 1) : Nat) : Int) by omega]
        exact c1
      · obtain ⟨N', c1, c2⟩ := tail N1 g2
        refine ⟨N', e4.trans ?_, g2.tr c2⟩
        rw [if_neg z, if_neg z, if_pos b0, if_pos b0, c1, jz_bI]
