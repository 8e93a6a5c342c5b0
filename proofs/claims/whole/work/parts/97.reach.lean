/-! helpers: the class's rows of places in reach -/
theorem jv_set_or2 {f g : Nat → Bool} {n : Nat} : jv_set f n ||| jv_set g n = jv_set (fun i => f i || g i) n := jv_set_eq (fun i => by
  rw [Nat.testBit_or, jv_set_bit, jv_set_bit, ← Bool.and_or_distrib_left])
theorem jk_125 : ∀ d, d < 6 → ja_kd (125 + d) = (100, 6) := by decide
theorem js_oneMove (dd : Nat) {M N : ja_M} {a : Int} {d p P : Nat} (hH : jH M) (kk : jK M N) (hP : M 11 3 = (P : Int)) (hp : p < P) (hd : d < 5) (hrow : ∀ q, q < P → N (125 + d) q = ((jv_set (hp_rc (hp_A M a) P d q) P : Nat) : Int)) : ja_x true (dd + 4) 176 [jr 123, ji ((d : Int) + 1), ji (p : Int), ji a] N = some (some (ji ((jv_set (hp_rc (hp_A M a) P (d + 1) p) P : Nat) : Int)), N) := by
  have h0 := hH.b
  have kh := kk.of jk_H
  have hHN := hH.kp kh
  have a3 : N 11 3 = (P : Int) := (kh 11 3 rfl).trans hP
  have w := jz_loop (F := fun (v : Int) k => ja_D true (ja_x true (dd + 3)) k_HelperCount_oneMoveMore 4 [some (jr 123), some (ji ((d : Int) + 1)), some (ji (p : Int)), some (ji a), some (ji v), some (ji k)] [] N) (N := fun n => ((jv_set (fun x => (List.range n).any (fun r => hp_A M a p r && hp_rc (hp_A M a) P d r x)) P : Nat) : Int)) (n := P) P 0 (by omega) (fun k _ hk => by
    show ja_D true (ja_x true (dd + 3)) k_HelperCount_oneMoveMore 4 _ [] N = ja_D true (ja_x true (dd + 3)) k_HelperCount_oneMoveMore 4 [_, _, _, _, some (ji ((jv_set (fun x => (List.range (k + 1)).any (fun r => hp_A M a p r && hp_rc (hp_A M a) P d r x)) P : Nat) : Int)), _] [] N
    have v64 := jv_set_64 (fun x => (List.range k).any (fun r => hp_A M a p r && hp_rc (hp_A M a) P d r x)) (n := P) (by omega)
    have r64 := jv_set_64 (hp_rc (hp_A M a) P d k) (n := P) (by omega)
    have st := js_steps dd hHN (p := (p : Int)) (q := (k : Int)) (Or.inr (by omega)) (Or.inr (by omega))
    rw [show N 12 = M 12 from funext fun i => kh 12 i rfl, show N 13 = M 13 from funext fun i => kh 13 i rfl] at st
    rw [jv_set_congr P (f := fun x => (List.range (k + 1)).any (fun r => hp_A M a p r && hp_rc (hp_A M a) P d r x)) (fun x _ => jv_any_s _ k)]
    rw [e_HelperCount_oneMoveMore_4, js_places, jz_bI, a3, if_pos (by omega), st, jz_bI, ja_w_id (x := (k : Int) + 1) (by omega) (by omega), ja_w_id (x := (d : Int) + 1 - 1) (by omega) (by omega), show (d : Int) + 1 - 1 = (d : Int) by omega]
    by_cases y : a < pv_st (M 12) (M 13) (p : Int) (k : Int)
    · have z : hp_A M a p k = false := decide_eq_false (by omega)
      rw [if_pos y, z]
      simp only [Bool.false_and, Bool.or_false]
    · have z : hp_A M a p k = true := decide_eq_true (by omega)
      rw [if_neg y, if_pos (by omega), show ((d : Int)).toNat = d from rfl, show 124 + 1 + d = 125 + d by omega, jz_ald (n := 6) (jk_125 d (by omega)) (by omega) (by omega) (by omega) (by omega), show ((k : Int)).toNat = k from rfl, hrow k hk, jx_or (by omega) (by omega), jv_set_or2, z]
      simp only [Bool.true_and])
  have w : ja_D true (ja_x true (dd + 3)) k_HelperCount_oneMoveMore 4 [some (jr 123), some (ji ((d : Int) + 1)), some (ji (p : Int)), some (ji a), some (ji ((jv_set (fun _ => false) P : Nat) : Int)), some (ji 0)] [] N = ja_D true (ja_x true (dd + 3)) k_HelperCount_oneMoveMore 4 [some (jr 123), some (ji ((d : Int) + 1)), some (ji (p : Int)), some (ji a), some (ji ((jv_set (hp_rc (hp_A M a) P (d + 1) p) P : Nat) : Int)), some (ji (P : Int))] [] N := w
  rw [jv_set_0 (f := fun _ => false) (jv_cnt_none P (fun _ _ => rfl)), show ((0 : Nat) : Int) = 0 from rfl] at w
  rw [f_HelperCount_oneMoveMore, w, e_HelperCount_oneMoveMore_4, js_places, jz_bI, a3, if_neg (by omega)]
abbrev s125 : Nat → Prop := fun c => 123 ≤ c ∧ c ≤ 136
theorem jFr.k125 {A B : ja_M} (h : jFr s125 A B) : jK A B := h.K (fun c x => Or.inr (Or.inl ⟨by have := x.1; omega, by have := x.2; omega⟩))
theorem jv_set_one {p n : Nat} (h : p < n) : 2 ^ p = jv_set (fun q => q == p) n := jv_set_eq (fun i => by
  rw [Nat.testBit_two_pow]
  by_cases z : i = p
  · subst z
    simp [h]
  · have z2 : ¬ p = i := fun e => z e.symm
    simp [z, z2])
theorem js_fillReach (dd : Nat) {M : ja_M} {a : Int} {P : Nat} (hH : jH M) (hP : M 11 3 = (P : Int)) (hP0 : 0 < P) : ∃ N, ja_x true (dd + 5) 175 [jr 123, ji a] M = some (none, N) ∧ jFr s125 M N ∧ ∀ d p, d < P → p < P → N (125 + d) p = ((jv_set (hp_rc (hp_A M a) P d p) P : Nat) : Int) := by
  have h0 := hH.b
  have a3 : ∀ N : ja_M, jFr s125 M N → N 11 3 = (P : Int) := fun N hf => (hf.k125.of jk_H 11 3 rfl).trans hP
  have inner : ∀ (m p d : Nat) (N : ja_M), p + m = P → d + 1 < P → jFr s125 M N → (∀ e q, e ≤ d → q < P → N (125 + e) q = ((jv_set (hp_rc (hp_A M a) P e q) P : Nat) : Int)) → (∀ q, q < p → N (125 + (d + 1)) q = ((jv_set (hp_rc (hp_A M a) P (d + 1) q) P : Nat) : Int)) → ∃ N', ja_D true (ja_x true (dd + 4)) k_HelperCount_fillReach 27 [some (jr 123), some (ji a), some (ji ((d : Int) + 1)), some (ji (p : Int))] [] N = ja_D true (ja_x true (dd + 4)) k_HelperCount_fillReach 20 [some (jr 123), some (ji a), some (ji ((d : Int) + 1 + 1)), none] [] N' ∧ jFr s125 M N' ∧ ∀ e q, e ≤ d + 1 → q < P → N' (125 + e) q = ((jv_set (hp_rc (hp_A M a) P e q) P : Nat) : Int) := by
    intro m
    induction m with
    | zero =>
      intro p d N e hd hf h1 h2
      refine ⟨N, ?_, hf, fun e' q he hq => ?_⟩
      · rw [e_HelperCount_fillReach_27, js_places, jz_bI, a3 N hf, if_neg (by omega), ja_w_id (by omega) (by omega)]
      · by_cases z : e' = d + 1
        · subst z
          exact h2 q (by omega)
        · exact h1 e' q (by omega) hq
    | succ m ih =>
      intro p d N e hd hf h1 h2
      have om := js_oneMove dd (a := a) (d := d) (p := p) hH hf.k125 hP (by omega) (by omega) (fun q hq => h1 d q (Nat.le_refl _) hq)
      obtain ⟨N', g1, g2⟩ := ih (p + 1) d (ja_up N (125 + (d + 1)) p ((jv_set (hp_rc (hp_A M a) P (d + 1) p) P : Nat) : Int)) (by omega) hd (hf.up ⟨by omega, by omega⟩) (fun e' q he hq => (jb_up_ne (by omega)).trans (h1 e' q he hq)) (fun q hq => by
        by_cases z : q = p
        · subst z
          exact jb_up_eq
        · exact (jb_up_nej z).trans (h2 q (by omega)))
      refine ⟨N', ?_, g2⟩
      refine Eq.trans ?_ g1
      rw [e_HelperCount_fillReach_27, js_places, jz_bI, a3 N hf, if_pos (by omega), if_pos (by omega), show ((d : Int) + 1).toNat = d + 1 from rfl, show 124 + 1 + (d + 1) = 125 + (d + 1) by omega, jk_ck rfl rfl (by rw [jk_rSs rfl, jk_rSs rfl, jk_rSs rfl, jk_rSs rfl, jk_rSs rfl, jk_rSs (jk_rf (by omega))]; rfl), cond_true, om, jz_bI, jz_ast (n := 6) (jk_125 (d + 1) (by omega)) (by omega) (by omega) (by omega) (by omega), show ((p : Int)).toNat = p from rfl, ja_w_id (x := (p : Int) + 1) (by omega) (by omega), show (p : Int) + 1 = ((p + 1 : Nat) : Int) by omega]
  have outer : ∀ (m d : Nat) (N : ja_M), d + 1 + m = P → jFr s125 M N → (∀ e q, e ≤ d → q < P → N (125 + e) q = ((jv_set (hp_rc (hp_A M a) P e q) P : Nat) : Int)) → ∃ N', ja_D true (ja_x true (dd + 4)) k_HelperCount_fillReach 20 [some (jr 123), some (ji a), some (ji ((d : Int) + 1)), none] [] N = some (none, N') ∧ jFr s125 M N' ∧ ∀ e q, e < P → q < P → N' (125 + e) q = ((jv_set (hp_rc (hp_A M a) P e q) P : Nat) : Int) := by
    intro m
    induction m with
    | zero =>
      intro d N e hf h
      refine ⟨N, ?_, hf, fun e' q he hq => h e' q (by omega) hq⟩
      rw [e_HelperCount_fillReach_20, js_places, jz_bI, a3 N hf, if_neg (by omega)]
    | succ m ih =>
      intro d N e hf h
      obtain ⟨N1, g1, g2, g3⟩ := inner P 0 d N (by omega) (by omega) hf h (fun q hq => by omega)
      obtain ⟨N', k1, k2⟩ := ih (d + 1) N1 (by omega) g2 g3
      refine ⟨N', ?_, k2⟩
      rw [e_HelperCount_fillReach_20, js_places, jz_bI, a3 N hf, if_pos (by omega)]
      refine Eq.trans g1 ?_
      rw [show ((d + 1 : Nat) : Int) = (d : Int) + 1 by omega] at k1
      exact k1
  have first : ∀ (m p : Nat) (N : ja_M), p + m = P → jFr s125 M N → (∀ q, q < p → N 125 q = ((jv_set (hp_rc (hp_A M a) P 0 q) P : Nat) : Int)) → ∃ N', ja_D true (ja_x true (dd + 4)) k_HelperCount_fillReach 2 [some (jr 123), some (ji a), some (ji (p : Int)), none] [] N = some (none, N') ∧ jFr s125 M N' ∧ ∀ e q, e < P → q < P → N' (125 + e) q = ((jv_set (hp_rc (hp_A M a) P e q) P : Nat) : Int) := by
    intro m
    induction m with
    | zero =>
      intro p N e hf h
      obtain ⟨N', k1, k2⟩ := outer (P - 1) 0 N (by omega) hf (fun e' q he hq => by
        obtain rfl : e' = 0 := by omega
        exact h q (by omega))
      refine ⟨N', ?_, k2⟩
      rw [e_HelperCount_fillReach_2, js_places, jz_bI, a3 N hf, if_neg (by omega)]
      exact k1
    | succ m ih =>
      intro p N e hf h
      obtain ⟨N', k1, k2⟩ := ih (p + 1) (ja_up N 125 p ((2 ^ p : Nat) : Int)) (by omega) (hf.up ⟨by decide, by decide⟩) (fun q hq => by
        by_cases z : q = p
        · subst z
          rw [jb_up_eq, jv_set_one (n := P) (by omega)]
          rfl
        · exact (jb_up_nej z).trans (h q (by omega)))
      refine ⟨N', ?_, k2⟩
      refine Eq.trans ?_ k1
      rw [e_HelperCount_fillReach_2, js_places, jz_bI, a3 N hf, if_pos (by omega), if_pos (by omega), jx_shl1 (by omega), show ((p : Int)).toNat = p from rfl, ja_w_id (x := (p : Int) + 1) (by omega) (by omega), show (p : Int) + 1 = ((p + 1 : Nat) : Int) by omega]
  obtain ⟨N, g1, g2, g3⟩ := first P 0 M (by omega) (jFr.rf M) (fun q hq => by omega)
  exact ⟨N, (f_HelperCount_fillReach _ _ _).trans g1, g2, fun d p hd hp => g3 d p hd hp⟩
