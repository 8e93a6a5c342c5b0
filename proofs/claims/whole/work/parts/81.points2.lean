/-! points -/
/-- a turn's letters -/
def pw_L (a b c d e : Int) : Nat → Int
  | 0 => a
  | 1 => b
  | 2 => c
  | 3 => d
  | _ => e
/-- what the held worth is, with letters -/
def pw_h (M : ja_M) (L : Nat → Int) (v : Int) : Prop := (M 15 5 = -1 ∧ v = 0) ∨ ∃ (k : Nat) (cs : jw_S), M 15 5 = (k : Int) ∧ (k : Int) < M 15 4 ∧ jw_at M k cs ∧ v = pw_val L cs
abbrev s223 : Nat → Prop := fun c => 22 ≤ c ∧ c ≤ 23
theorem jFr.k223 {A B : ja_M} (h : jFr s223 A B) : jK A B := h.K (fun c x => Or.inr (Or.inr x))
theorem pw_at_of {M : ja_M} {a : Nat} : ∀ {l : List Int} {p : Nat}, (∀ i x, l[i]? = some x → M a (p + i) = x) → pw_at M a p l
  | [], _, _ => trivial
  | x :: l, p, h => ⟨h 0 x rfl, pw_at_of (fun i y hy => by rw [show p + 1 + i = p + (i + 1) by omega]; exact h (i + 1) y hy)⟩
theorem js_valueOf (dd : Nat) {a b c d e v : Int} {M : ja_M} (hW : jW M) (hL : ∀ i, i < 5 → pw_ok false (pw_L a b c d e i)) (hv : pw_h M (pw_L a b c d e) v) : ∃ N, ja_x true (dd + 5) 114 [jr 15, ji a, ji b, ji c, ji d, ji e] M = some (some (ji v), N) ∧ jFr s223 M N ∧ (-1000000 ≤ v ∧ v ≤ 1000000) := by
  have hw := hW.1
  rcases hv with ⟨h1, rfl⟩ | ⟨k, cs, h1, h2, h3, rfl⟩
  · refine ⟨M, ?_, jFr.rf M, by decide⟩
    rw [f_Worths_valueOf, h1, if_pos (by decide)]
  · rw [f_Worths_valueOf, if_neg (by omega), if_pos (by omega)]
    have f23 : jFr s223 M (ja_up (ja_up (ja_up (ja_up (ja_up M 23 0 a) 23 1 b) 23 2 c) 23 3 d) 23 4 e) := ((((((jFr.rf M).up ⟨by decide, by decide⟩).up ⟨by decide, by decide⟩).up ⟨by decide, by decide⟩).up ⟨by decide, by decide⟩).up ⟨by decide, by decide⟩)
    have l23 : ∀ i, i < 5 → (ja_up (ja_up (ja_up (ja_up (ja_up M 23 0 a) 23 1 b) 23 2 c) 23 3 d) 23 4 e) 23 i = pw_L a b c d e i := fun i hi => by
      have : i = 0 ∨ i = 1 ∨ i = 2 ∨ i = 3 ∨ i = 4 := by omega
      rcases this with rfl | rfl | rfl | rfl | rfl <;> rfl
    generalize ja_up (ja_up (ja_up (ja_up (ja_up M 23 0 a) 23 1 b) 23 2 c) 23 3 d) 23 4 e = N at f23 l23
    have e15 : N 15 5 = (k : Int) := (f23 15 5 (fun z => by have := z.1; omega)).trans h1
    have hk : k < 4 := by omega
    obtain ⟨⟨w1, w2, w3⟩, -, w4, w5, w6⟩ := jw_at_kp hk h3 (f23.k223.of jk_W)
    have em : ja_min (N 21 k) ((160 : Nat) : Int) = (((jw_words 0 cs).length : Nat) : Int) := by
      unfold ja_min
      rw [w4, if_neg (by omega)]
    obtain ⟨N', g1, g2, g3⟩ := js_runAll (dd := dd) (n := (jw_words 0 cs).length) hk w5 hL cs N 0 0 w1 (pw_at_of (fun i x hx => by rw [Nat.zero_add]; exact w6 i x hx)) (by omega) (Nat.le_refl _) l23
    refine ⟨N', ?_, f23.tr (g2.wk (fun c z => ⟨by have : c = 22 := z; omega, by have : c = 22 := z; omega⟩)), g3⟩
    rw [e15, show ((k : Int)).toNat = k from rfl, if_pos (by omega), if_pos (by omega), if_pos (by omega), show 16 + 1 + k = 17 + k by omega, jz_aln (jk_17k k hk) (by omega) (by omega), em, jk_ck rfl rfl (by rw [jk_rSs rfl, jk_rSs (jk_rf (by omega))]; rfl), cond_true, f_Worths_run]
    rw [show ((0 : Nat) : Int) = 0 from rfl] at g1
    rw [g1, jz_bI]
/-- a band's letters in a turn -/
def pw_T (M : ja_M) (b t : Nat) : Nat → Int := pw_L (t : Int) (oX M b t) (b : Int) (aX M b t) (pv_st (M 12) (M 13) (pv_prev (oX M b) t) (oX M b t))
theorem pw_T_ok {M : ja_M} (hH : jH M) (hO : jO M) {b t : Nat} (hb : (b : Int) < M 11 4) (ht : (t : Int) < M 11 3) : ∀ i, i < 5 → pw_ok false (pw_T M b t i) := by
  have h0 := hH.b
  have hv := hO.v hb
  have h1 := hv t ht
  have h2 : 0 ≤ aX M b t ∧ aX M b t ≤ 1700 := pv_arr_b hH hv (hO.2.2 b hb).2 (hH.2.2.2 b hb).2 ht
  have h3 := pv_st_b hH (pv_prev_pl hv (t := t) (by omega)) (Or.inr h1)
  intro i hi
  have : i = 0 ∨ i = 1 ∨ i = 2 ∨ i = 3 ∨ i = 4 := by omega
  rcases this with rfl | rfl | rfl | rfl | rfl
  · show -1000000 ≤ (t : Int) ∧ (t : Int) ≤ 1000000
    omega
  · show -1000000 ≤ oX M b t ∧ oX M b t ≤ 1000000
    omega
  · show -1000000 ≤ (b : Int) ∧ (b : Int) ≤ 1000000
    omega
  · show -1000000 ≤ aX M b t ∧ aX M b t ≤ 1000000
    omega
  · show -1000000 ≤ pv_st (M 12) (M 13) (pv_prev (oX M b) t) (oX M b t) ∧ pv_st (M 12) (M 13) (pv_prev (oX M b) t) (oX M b t) ≤ 1000000
    omega
theorem pw_h_kp {M N : ja_M} {L : Nat → Int} {v : Int} (hW : jW M) (h : pw_h M L v) (k : jK M N) : pw_h N L v := by
  have kw := k.of jk_W
  rcases h with ⟨h1, h2⟩ | ⟨j, cs, h1, h2, h3, h4⟩
  · exact Or.inl ⟨(kw 15 5 rfl).trans h1, h2⟩
  · refine Or.inr ⟨j, cs, (kw 15 5 rfl).trans h1, ?_, jw_at_kp (by have := hW.1; omega) h3 kw, h4⟩
    rw [kw 15 4 rfl]
    exact h2
theorem js_pointsOf (dd : Nat) {b : Nat} {V : Nat → Int} {M : ja_M} (hH : jH M) (hO : jO M) (hW : jW M) (hb : (b : Int) < M 11 4) (hV : ∀ t : Nat, (t : Int) < M 11 3 → pw_h M (pw_T M b t) (V t)) : ∃ N, ja_x true (dd + 6) 111 [jr 77, ji (b : Int), jr 15] M = some (some (ji (jv_sum V (M 11 3).toNat)), N) ∧ jFr s223 M N ∧ (-6000000 ≤ jv_sum V (M 11 3).toNat ∧ jv_sum V (M 11 3).toNat ≤ 6000000) := by
  have h0 := hH.b
  have hv := hO.v hb
  have hs := (hO.2.2 b hb).2
  have hk := (hH.2.2.2 b hb).2
  obtain ⟨P, hP⟩ : ∃ P : Nat, M 11 3 = (P : Int) := ⟨(M 11 3).toNat, by omega⟩
  have eP : (M 11 3).toNat = P := by omega
  rw [eP]
  have loop : ∀ (m t : Nat) (N : ja_M), t + m = P → jFr s223 M N → (-1000000 * (t : Int) ≤ jv_sum V t ∧ jv_sum V t ≤ 1000000 * (t : Int)) → ∃ N', ja_D true (ja_x true (dd + 5)) k_Clock_pointsOf 11 [some (jr 77), some (ji (b : Int)), some (jr 15), some (ji (jv_sum V t)), some (ji (pv_lv (M 12) (M 13) (M 32 b) (M 14 b) (M 11 6) (oX M b) t)), some (ji (pv_prev (oX M b) t)), some (ji (t : Int)), none] [] N = some (some (ji (jv_sum V P)), N') ∧ jFr s223 M N' ∧ (-1000000 * (P : Int) ≤ jv_sum V P ∧ jv_sum V P ≤ 1000000 * (P : Int)) := by
    intro m
    induction m with
    | zero =>
      intro t N e hf hj
      obtain rfl : t = P := by omega
      refine ⟨N, ?_, hf, hj⟩
      rw [e_Clock_pointsOf_11, js_places, jz_bI, hf.k223.of jk_H 11 3 rfl, if_neg (by omega)]
    | succ m ih =>
      intro t N e hf hj
      have kk := hf.k223
      have kH' := kk.of jk_H
      have kO' := kk.of jk_O
      have hH' := hH.kp kH'
      have hO' := hO.kp hH kO'
      have hW' := hW.kp (kk.of jk_W)
      have a3 : N 11 3 = M 11 3 := kH' 11 3 rfl
      have a4 : N 11 4 = M 11 4 := kH' 11 4 rfl
      have a6 : N 11 6 = M 11 6 := kH' 11 6 rfl
      have a12 : N 12 = M 12 := funext fun i => kH' 12 i rfl
      have a13 : N 13 = M 13 := funext fun i => kH' 13 i rfl
      have a14 : N 14 b = M 14 b := kH' 14 b rfl
      have ao : ∀ u, oX N b u = oX M b u := fun u => kO' (26 + b) u (jk_26 b (by omega) u)
      have ht : (t : Int) < M 11 3 := by omega
      have h1 := hv t ht
      have hpl := pv_prev_pl hv (t := t) (by omega)
      have wy := pv_way_b (pv_st_b hH hpl (Or.inr h1)) hk
      have lb := pv_lv_b hH hv hs hk t (by omega)
      have e70 := js_pl (dd + 3) hH' (b := b) (t := t) (by omega) (by omega)
      rw [ao] at e70
      have e112 := js_wayOf (dd + 1) hH' (b := b) (p := pv_prev (oX M b) t) (q := oX M b t) (by omega) (by rw [a3]; exact hpl) (Or.inr (by omega))
      rw [a12, a13, a14] at e112
      have e113 := js_steps (dd + 2) hH' (p := pv_prev (oX M b) t) (q := oX M b t) (by rw [a3]; exact hpl) (Or.inr (by omega))
      rw [a12, a13] at e113
      obtain ⟨N1, g1, g2, g3⟩ := js_valueOf dd (M := N) hW' (pw_T_ok hH hO hb ht) (pw_h_kp hW (hV t ht) kk)
      have hf1 : jFr s223 M N1 := hf.tr g2
      obtain ⟨N', k1, k2, k3⟩ := ih (t + 1) N1 (by omega) hf1 (show -1000000 * ((t + 1 : Nat) : Int) ≤ jv_sum V t + V t ∧ jv_sum V t + V t ≤ 1000000 * ((t + 1 : Nat) : Int) by omega)
      refine ⟨N', ?_, k2, k3⟩
      rw [e_Clock_pointsOf_11, js_places, jz_bI, if_pos (by omega), e70, jz_bI, e112, jz_bI, e113, jz_bI, ja_w_id (x := pv_lv (M 12) (M 13) (M 32 b) (M 14 b) (M 11 6) (oX M b) t + _) (by omega) (by omega)]
      refine Eq.trans ?_ k1
      rw [show ja_x true (dd + 5) 114 [jr 15, ji (t : Int), ji (oX M b t), ji (b : Int), ji (pv_lv (M 12) (M 13) (M 32 b) (M 14 b) (M 11 6) (oX M b) t + pv_st (M 12) (M 13) (pv_prev (oX M b) t) (oX M b t) * M 14 b), ji (pv_st (M 12) (M 13) (pv_prev (oX M b) t) (oX M b t))] N = _ from g1, jz_bI, f_Hunt_stay_11, jz_bI, hf1.k223.of jk_H 11 6 rfl, ja_w_id (x := jv_sum V t + V t) (by omega) (by omega), ja_w_id (x := _ + M 11 6) (by omega) (by omega), ja_w_id (x := (t : Int) + 1) (by omega) (by omega)]
      rfl
  obtain ⟨N, g1, g2, g3⟩ := loop P 0 M (by omega) (jFr.rf M) (show -1000000 * ((0 : Nat) : Int) ≤ (0 : Int) ∧ (0 : Int) ≤ 1000000 * ((0 : Nat) : Int) by decide)
  refine ⟨N, ?_, g2, by omega, by omega⟩
  rw [f_Clock_pointsOf, js_startOf (dd + 3) hH (by omega), jz_bI, show ((b : Int)).toNat = b from rfl]
  exact g1
