/-! helpers: the class's count; the other side's duties -/
theorem mt_J_len {E : Nat → Nat → Bool} {n k : Nat} : (mt_J E n k).length ≤ k := jc_len k _ (mt_J_nd k) (mt_J_lt k)
theorem js_fewest (dd : Nat) {M : ja_M} {a : Int} {P : Nat} {ds : List (Nat × Nat)} {n : Nat} (hH : jH M) (hP : M 11 3 = (P : Int)) (hP0 : 0 < P) (hds : gd_all (gd_f M) P P = ds) (hn : ds.length = n) : ∃ N, ja_x true (dd + 6) 174 [jr 123, ji a] M = some (some (ji ((n : Int) - ((mt_J (gd_E (hp_A M a) P ds) n n).length : Int))), N) ∧ jFr s125 M N := by
  have h0 := hH.b
  obtain ⟨N1, g1, g2, g3⟩ := js_fillReach dd (a := a) hH hP hP0
  have hH1 := hH.kp (g2.k125.of jk_H)
  have e4 : N1 11 4 = M 11 4 := g2.k125.of jk_H 11 4 rfl
  have hP1 : N1 11 3 = (P : Int) := (g2.k125.of jk_H 11 3 rfl).trans hP
  obtain ⟨N2, k1, k2⟩ := js_gather (dd + 1) hH1 hP1
  have ef : gd_f N1 = gd_f M := funext fun t => funext fun p => by
    show decide (pv_at (N1 11 4).toNat (oX N1) t (p : Int) ≠ 0) = decide (pv_at (M 11 4).toNat (oX M) t (p : Int) ≠ 0)
    rw [e4, show pv_at (M 11 4).toNat (oX N1) t (p : Int) = pv_at (M 11 4).toNat (oX M) t (p : Int) from jv_set_congr _ (fun b hb => by
      show decide (N1 (26 + b) t = (p : Int)) = decide (M (26 + b) t = (p : Int))
      rw [g2 (26 + b) t (fun x => by
        have x : 123 ≤ 26 + b ∧ 26 + b ≤ 136 := x
        omega)])]
  rw [ef, hds] at k2
  have bd := gd_all_b (gd_f M) P P
  rw [hds] at bd
  have l6 : P * P ≤ 6 * 6 := Nat.mul_le_mul (by omega) (by omega)
  have hn36 : n ≤ 36 := by omega
  obtain ⟨i1, i2, i3, i4⟩ := k2
  rw [hn] at i2 i4
  have hcan : ∀ N, jF133 N2 N → ∀ x j : Nat, x < n → j < n → ja_x true (dd + 2 + 1) 180 [jr 123, ji (x : Int), ji (j : Int)] N = some (some (ji (if gd_E (hp_A M a) P ds x j = true then 1 else 0)), N) := fun N hf x j hx hj => js_canJoin (dd + 1) (by omega) (by
    rw [hf 11 3 (by omega) (by omega), i1 11 3 (fun w => by
      have w : 11 = 123 ∨ (131 ≤ 11 ∧ 11 ≤ 134) := w
      omega)]
    exact hP1) (fun d p hd hp => by
    rw [hf (125 + d) p (by omega) (by omega), i1 (125 + d) p (fun w => by
      have w : 125 + d = 123 ∨ (131 ≤ 125 + d ∧ 125 + d ≤ 134) := w
      omega)]
    exact g3 d p hd hp) (fun i hi => by
    rw [hf 131 i (by omega) (by omega), hf 132 i (by omega) (by omega)]
    exact i3 i hi) bd.2 (by omega) (by omega) (by omega)
  have loop : ∀ (r k : Nat) (N : ja_M), k + r = n → jF133 N2 N → mt_ok (gd_E (hp_A M a) P ds) n (N 134) (mt_J (gd_E (hp_A M a) P ds) n k) → mt_nx n (N 134) (N 133) (mt_J (gd_E (hp_A M a) P ds) n k) → ∃ N', ja_D true (ja_x true (dd + 5)) k_HelperCount_fewest 10 [some (jr 123), none, some (ji ((n : Int) - ((mt_J (gd_E (hp_A M a) P ds) n k).length : Int))), some (ji (k : Int))] [] N = some (some (ji ((n : Int) - ((mt_J (gd_E (hp_A M a) P ds) n n).length : Int))), N') ∧ jF133 N2 N' := by
    intro r
    induction r with
    | zero =>
      intro k N e hf hok hnx
      have hk : k = n := by omega
      subst hk
      refine ⟨N, ?_, hf⟩
      rw [e_HelperCount_fewest_10, hf 123 9 (by omega) (by omega), i2, if_neg (by omega)]
    | succ r ih =>
      intro k N e hf hok hnx
      have hl := mt_J_len (E := gd_E (hp_A M a) P ds) (n := n) (k := k)
      obtain ⟨v, N', w1, w2, w3⟩ := js_join (L := mt_J (gd_E (hp_A M a) P ds) n k) hn36 i2 (show k < n by omega) (fun h => Nat.lt_irrefl _ (mt_J_lt k k h)) (fun x hx => Nat.lt_trans (mt_J_lt k x hx) (by omega)) (dd + 2) hcan hf hok hnx
      have st := e_HelperCount_fewest_10 (ja_x true (dd + 5)) ((n : Int) - ((mt_J (gd_E (hp_A M a) P ds) n k).length : Int)) (k : Int) N
      rw [hf 123 9 (by omega) (by omega), i2, if_pos (by omega), show ja_x true (dd + 5) 178 [jr 123, ji (k : Int)] N = _ from w1, jz_bI, ja_w_id (x := (k : Int) + 1) (by omega) (by omega), show (k : Int) + 1 = ((k + 1 : Nat) : Int) by omega, ja_w_id (x := (n : Int) - ((mt_J (gd_E (hp_A M a) P ds) n k).length : Int) + -1) (by omega) (by omega)] at st
      rcases w3 with ⟨rfl, q1, q2⟩ | ⟨rfl, q1, q2, q3⟩
      · have ej := mt_J_y (mt_ok_can q1)
        rw [← ej] at q1 q2
        obtain ⟨N3, t1, t2⟩ := ih (k + 1) N' (by omega) w2 q1 q2
        refine ⟨N3, ?_, t2⟩
        rw [st, if_neg (by decide), ← t1, ej, List.length_cons]
        rw [show (n : Int) - (((mt_J (gd_E (hp_A M a) P ds) n k).length + 1 : Nat) : Int) = (n : Int) - ((mt_J (gd_E (hp_A M a) P ds) n k).length : Int) + -1 by omega]
      · have ej := mt_J_n q3
        rw [← ej] at q1 q2
        obtain ⟨N3, t1, t2⟩ := ih (k + 1) N' (by omega) w2 q1 q2
        refine ⟨N3, ?_, t2⟩
        rw [st, if_pos rfl, ← t1, ej]
  obtain ⟨N', t1, t2⟩ := loop n 0 N2 (by omega) (fun _ _ _ _ => rfl) ⟨fun j hj => Or.inl (i4 j hj).2, fun x hx => (by cases hx), fun i j hi hj _ q => absurd (i4 i hi).2 q⟩ (fun x hx => ⟨fun q => (by cases q), fun _ => (i4 x hx).1⟩)
  refine ⟨N', ?_, fun c i hc => ?_⟩
  · rw [f_HelperCount_fewest, g1, jz_bV, show ja_x true (dd + 5) 177 [jr 123] N1 = _ from k1, jz_bV, i2]
    have t1 : ja_D true (ja_x true (dd + 5)) k_HelperCount_fewest 10 [some (jr 123), none, some (ji ((n : Int) - 0)), some (ji 0)] [] N2 = _ := t1
    rw [Int.sub_zero] at t1
    exact t1
  · have hc : ¬ (123 ≤ c ∧ c ≤ 136) := hc
    rw [t2 c i (fun x => hc (by omega)) (fun x => hc (by omega)), i1 c i (fun x => by
      have x : c = 123 ∨ (131 ≤ c ∧ c ≤ 134) := x
      omega)]
    exact g2 c i hc
def jF164 (M N : ja_M) : Prop := ∀ c i, ¬ (164 ≤ c ∧ c ≤ 168) → ¬ (c = 137 ∧ i = 51) → N c i = M c i
theorem jF164.K {A B : ja_M} (h : jF164 A B) : jK A B := fun c i q => h c i (fun y => by
  have : c = 164 ∨ c = 165 ∨ c = 166 ∨ c = 167 ∨ c = 168 := by omega
  rcases this with rfl | rfl | rfl | rfl | rfl <;> cases q) (fun y => by
  rw [y.1, y.2] at q
  cases q)
theorem jF164.tr {A B C : ja_M} (h : jF164 A B) (k : jF164 B C) : jF164 A C := fun c i x y => (k c i x y).trans (h c i x y)
def gd_iR (M : ja_M) (ds : List (Nat × Nat)) (N : ja_M) : Prop := jF164 M N ∧ N 137 51 = (ds.length : Int) ∧ gd_hd 164 165 N ds
theorem js_R_duties (dd : Nat) {M : ja_M} {a : Int} {P : Nat} (hH : jH M) (hO : jO M) (hP : M 11 3 = (P : Int)) : ∃ N, ja_D true (ja_x true (dd + 2)) k_R_helpers 15 [some (jr 137), some (ji a), some (ji 0), none, none] [] (ja_up M 137 51 0) = ja_D true (ja_x true (dd + 2)) k_R_helpers 54 [some (jr 137), some (ji a), some (ji 0), none, none] [] N ∧ gd_iR M (gd_all (gd_f M) P P) N := by
  have h0 := hH.b
  have e27 : ∀ N : ja_M, jF164 M N → N 137 27 = (P : Int) := fun N hf => (hf 137 27 (by omega) (by omega)).trans (hH.2.1.1.trans hP)
  have inner : ∀ (t : Nat), t < P → ∀ (r p : Nat) (N : ja_M), p + r = P → gd_iR M (gd_all (gd_f M) P t ++ gd_row (gd_f M) t p) N → ∃ N', ja_D true (ja_x true (dd + 2)) k_R_helpers 21 [some (jr 137), some (ji a), some (ji (t : Int)), some (ji (p : Int)), none] [] N = ja_D true (ja_x true (dd + 2)) k_R_helpers 15 [some (jr 137), some (ji a), some (ji ((t + 1 : Nat) : Int)), none, none] [] N' ∧ gd_iR M (gd_all (gd_f M) P (t + 1)) N' := by
    intro t ht r
    induction r with
    | zero =>
      intro p N e hi
      have hp : p = P := by omega
      subst hp
      refine ⟨N, ?_, hi⟩
      rw [e_R_helpers_21, e27 N hi.1, if_neg (by omega), ja_w_id (x := (t : Int) + 1) (by omega) (by omega)]
      rfl
    | succ r ih =>
      intro p N e hi
      have hHN := hH.kp (hi.1.K.of jk_H)
      have l1 := (gd_all_b (gd_f M) P t).1
      have l2 := (gd_row_b (gd_f M) t p).1
      have l3 : t * P ≤ 5 * P := Nat.mul_le_mul_right P (by omega)
      have hl : (gd_all (gd_f M) P t ++ gd_row (gd_f M) t p).length < 36 := by
        rw [List.length_append]
        omega
      have e4 : N 11 4 = M 11 4 := hi.1.K.of jk_H 11 4 rfl
      have e3 : N 11 3 = (P : Int) := (hi.1.K.of jk_H 11 3 rfl).trans hP
      have ba := js_R_bandsAt dd (t := t) (p := (p : Int)) hHN (by rw [e3]; omega)
      rw [e4, show pv_at (M 11 4).toNat (oR N) t (p : Int) = pv_at (M 11 4).toNat (oX M) t (p : Int) from jv_set_congr _ (fun b hb => by
        show decide (N 154 (6 * b + t) = (p : Int)) = decide (oX M b t = (p : Int))
        rw [hi.1 154 _ (by omega) (by omega)]
        show decide (oR M b t = (p : Int)) = _
        rw [hO.eq hb (by omega)])] at ba
      have st := e_R_helpers_21 (ja_x true (dd + 2)) a (t : Int) (p : Int) N
      rw [e27 N hi.1, if_pos (by omega), ba, jz_bI, ja_w_id (x := (p : Int) + 1) (by omega) (by omega), show (p : Int) + 1 = ((p + 1 : Nat) : Int) by omega] at st
      by_cases z : pv_at (M 11 4).toNat (oX M) t (p : Int) = 0
      · rw [if_pos (by omega)] at st
        obtain ⟨N', g1, g2⟩ := ih (p + 1) N (by omega) (by
          unfold gd_row
          rw [if_neg (by rw [decide_eq_true_eq]; exact fun w => w z), List.append_nil]
          exact hi)
        exact ⟨N', st.trans g1, g2⟩
      · obtain ⟨i1, i2, i3⟩ := hi
        generalize hds : gd_all (gd_f M) P t ++ gd_row (gd_f M) t p = ds at hl i2 i3
        have t1 : (ja_up N 164 ds.length (t : Int)) 137 51 = (ds.length : Int) := (jb_up_ne (by decide)).trans i2
        have t2 : (ja_up (ja_up N 164 ds.length (t : Int)) 165 ds.length (p : Int)) 137 51 = (ds.length : Int) := (jb_up_ne (by decide)).trans t1
        rw [if_neg (by omega), i2, if_pos (by omega), show ((ds.length : Int)).toNat = ds.length from rfl, t1, if_pos (by omega), show ((ds.length : Int)).toNat = ds.length from rfl, t2, ja_w_id (x := (ds.length : Int) + 1) (by omega) (by omega)] at st
        have c1 : ∀ i, (ja_up (ja_up (ja_up N 164 ds.length (t : Int)) 165 ds.length (p : Int)) 137 51 ((ds.length : Int) + 1)) 164 i = if i = ds.length then (t : Int) else N 164 i := fun i => by
          rw [jb_up_ne (by decide), jb_up_ne (by decide)]
          by_cases w : i = ds.length
          · rw [w, jb_up_eq, if_pos rfl]
          · rw [jb_up_nej w, if_neg w]
        have c2 : ∀ i, (ja_up (ja_up (ja_up N 164 ds.length (t : Int)) 165 ds.length (p : Int)) 137 51 ((ds.length : Int) + 1)) 165 i = if i = ds.length then (p : Int) else N 165 i := fun i => by
          rw [jb_up_ne (by decide)]
          by_cases w : i = ds.length
          · rw [w, jb_up_eq, if_pos rfl]
          · rw [jb_up_nej w, jb_up_ne (by decide), if_neg w]
        have c9 : (ja_up (ja_up (ja_up N 164 ds.length (t : Int)) 165 ds.length (p : Int)) 137 51 ((ds.length : Int) + 1)) 137 51 = (ds.length : Int) + 1 := jb_up_eq
        have cf : jF164 M (ja_up (ja_up (ja_up N 164 ds.length (t : Int)) 165 ds.length (p : Int)) 137 51 ((ds.length : Int) + 1)) := fun c i x y => by
          rw [jz_up, if_neg y, jb_up_ne (fun e => x (by omega)), jb_up_ne (fun e => x (by omega))]
          exact i1 c i x y
        generalize (ja_up (ja_up (ja_up N 164 ds.length (t : Int)) 165 ds.length (p : Int)) 137 51 ((ds.length : Int) + 1)) = N2 at st c1 c2 c9 cf
        obtain ⟨N', g1, g2⟩ := ih (p + 1) N2 (by omega) (by
          unfold gd_row
          rw [if_pos (decide_eq_true z), ← List.append_assoc, hds]
          refine ⟨cf, ?_, gd_hd_push i3 c1 c2⟩
          rw [c9, List.length_append]
          show _ = ((ds.length + 1 : Nat) : Int)
          omega)
        exact ⟨N', st.trans g1, g2⟩
  have outer : ∀ (r t : Nat) (N : ja_M), t + r = P → gd_iR M (gd_all (gd_f M) P t) N → ∃ N', ja_D true (ja_x true (dd + 2)) k_R_helpers 15 [some (jr 137), some (ji a), some (ji (t : Int)), none, none] [] N = ja_D true (ja_x true (dd + 2)) k_R_helpers 54 [some (jr 137), some (ji a), some (ji 0), none, none] [] N' ∧ gd_iR M (gd_all (gd_f M) P P) N' := by
    intro r
    induction r with
    | zero =>
      intro t N e hi
      have ht : t = P := by omega
      subst ht
      refine ⟨N, ?_, hi⟩
      rw [e_R_helpers_15, e27 N hi.1, if_neg (by omega)]
    | succ r ih =>
      intro t N e hi
      obtain ⟨N1, g1, g2⟩ := inner t (by omega) P 0 N (by omega) (by
        show gd_iR M (gd_all (gd_f M) P t ++ []) N
        rw [List.append_nil]
        exact hi)
      obtain ⟨N', k1, k2⟩ := ih (t + 1) N1 (by omega) g2
      refine ⟨N', ?_, k2⟩
      rw [e_R_helpers_15, e27 N hi.1, if_pos (by omega)]
      exact g1.trans k1
  exact outer P 0 (ja_up M 137 51 0) (by omega) ⟨fun c i x y => by rw [jz_up, if_neg y], jb_up_eq, fun i hi => absurd hi (Nat.not_lt_zero _)⟩
