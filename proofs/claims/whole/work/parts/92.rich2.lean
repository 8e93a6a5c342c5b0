/-! rich: both sides -/
theorem js_seekRichest (dd : Nat) {M : ja_M} {b : Nat} {W : (Nat → Int) → Int} (hH : jH M) (hO : jO M) (hW : jW M) (hw : ∀ L, pw_h M L (W L)) (hb : (b : Int) < M 11 4) : ∃ N, ja_x true (dd + 13) 145 [jr 91, ji (b : Int)] M = some (some (ji (N 91 6)), N) ∧ jK M N ∧ (∀ i, N 0 i = M 0 i) ∧ sn_enc N ((jv_all (M 11 3).toNat).foldl (rc W M b) none) := by
  have h0 := hH.b
  obtain ⟨P, hP⟩ : ∃ P : Nat, M 11 3 = (P : Int) := ⟨(M 11 3).toNat, by omega⟩
  rw [show (M 11 3).toNat = P by omega]
  have kS : ∀ N : ja_M, jFr (fun c => 91 ≤ c ∧ c ≤ 92) M N → jK M N := fun N hf => hf.K (fun c x => Or.inl ⟨by have := x.1; omega, x.2⟩)
  have loop : ∀ (m t : Nat) (N : ja_M), t + m = P → jFr (fun c => 91 ≤ c ∧ c ≤ 92) M N → N 91 5 = (b : Int) → N 91 6 = 0 → (∀ u : Nat, u < t → ∃ v : Nat, v < 64 ∧ N 92 u = (v : Int) ∧ ∀ p : Nat, (v.testBit p = true ↔ rc_met M b u (p : Int))) → ∃ N', ja_D true (ja_x true (dd + 12)) k_OrderSearch_seekRichest 8 [some (jr 91), some (ji (b : Int)), some (ji (t : Int))] [] N = ja_D true (ja_x true (dd + 12)) k_OrderSearch_seekRichest 8 [some (jr 91), some (ji (b : Int)), some (ji (P : Int))] [] N' ∧ jFr (fun c => 91 ≤ c ∧ c ≤ 92) M N' ∧ N' 91 5 = (b : Int) ∧ N' 91 6 = 0 ∧ ∀ u : Nat, u < P → ∃ v : Nat, v < 64 ∧ N' 92 u = (v : Int) ∧ ∀ p : Nat, (v.testBit p = true ↔ rc_met M b u (p : Int)) := by
    intro m
    induction m with
    | zero =>
      intro t N e hf h5 h6 h
      obtain rfl : t = P := by omega
      exact ⟨N, rfl, hf, h5, h6, h⟩
    | succ m ih =>
      intro t N e hf h5 h6 h
      obtain ⟨v, v1, v2, v3⟩ := js_others (dd + 9) hH hO (kS N hf) h5 (t := t) (by omega)
      rw [show dd + 9 + 3 = dd + 12 from rfl] at v2
      obtain ⟨N', g1, g2⟩ := ih (t + 1) (ja_up N 92 t (v : Int)) (by omega) (hf.up ⟨by decide, by decide⟩) ((jb_up_ne (by decide)).trans h5) ((jb_up_ne (by decide)).trans h6) (fun u hu => by
        by_cases z : u = t
        · subst z
          exact ⟨v, v1, jb_up_eq, v3⟩
        · obtain ⟨w, w1, w2, w3⟩ := h u (by omega)
          exact ⟨w, w1, (jb_up_nej z).trans w2, w3⟩)
      refine ⟨N', ?_, g2⟩
      refine Eq.trans ?_ g1
      rw [e_OrderSearch_seekRichest_8, js_places, jz_bI, show N 11 3 = (P : Int) from (kS N hf 11 3 rfl).trans hP, if_pos (by omega), v2, jz_bI, if_pos (by omega), show ((t : Int)).toNat = t from rfl, ja_w_id (by omega) (by omega)]
      rfl
  have k1 : jFr (fun c => 91 ≤ c ∧ c ≤ 92) M (ja_up (ja_up M 91 5 (b : Int)) 91 6 0) := jFr.up (jFr.up (jFr.rf M) ⟨by decide, by decide⟩) ⟨by decide, by decide⟩
  obtain ⟨N1, l1, l2, l3, l4, l5⟩ := loop P 0 (ja_up (ja_up M 91 5 (b : Int)) 91 6 0) (by omega) k1 rfl rfl (fun u hu => by omega)
  have kk2 := kS N1 l2
  have hcnt : ∀ n, jv_cnt (fun _ => true) n = (n : Int) := by
    intro n
    induction n with
    | zero => rfl
    | succ n ih =>
      show jv_cnt (fun _ => true) n + 1 = _
      rw [ih]
      omega
  obtain ⟨N, g1, g2, g3, g4⟩ := js_goRich hH hO hW kk2 hw l5 hP hb (dd + 6 - P) P (fun _ => true) [] N1 none (by rw [List.length_nil]; omega) (hcnt P) (fun p hp => by cases hp) (jFr.rf N1) l3 l4 (fun t ht => by cases ht) (show -1000000 * ((0 : Nat) : Int) ≤ (0 : Int) ∧ (0 : Int) ≤ 1000000 * ((0 : Nat) : Int) by decide)
  have e0 : jv_set (fun q => !((fun _ => true) q)) P = 0 := jv_set_0 (jv_cnt_none P (fun _ _ => rfl))
  rw [show dd + 6 - P + 6 + P = dd + 12 by omega, e0] at g1
  have em : (jv_ords P P (fun _ => true)).map (fun o => [] ++ o) = jv_all P := by
    show (jv_ords P P (fun _ => true)).map (fun o => o) = _
    exact List.map_id' _
  rw [em] at g4
  have st : ja_x true (dd + 12) 72 [jr 24, ji (b : Int)] N1 = some (some (ji (M 32 b)), N1) := by
    have := js_startOf (dd + 10) (b := (b : Int)) (hH.kp (kk2.of jk_H)) ⟨by omega, by rw [kk2.of jk_H 11 4 rfl]; exact hb⟩
    rw [show ((b : Int)).toNat = b from rfl, kk2.of jk_O 32 b rfl] at this
    exact this
  have isB : ja_isB (N 91 6) = true := by
    revert g4
    cases (jv_all P).foldl (rc W M b) none with
    | none =>
      intro g4
      exact jz_isB (Or.inl g4)
    | some x =>
      intro g4
      exact jz_isB (Or.inr g4.1)
  refine ⟨N, ?_, kk2.tr g2.k912, fun i => ?_, g4⟩
  · rw [show dd + 13 = dd + 12 + 1 from rfl, f_OrderSearch_seekRichest]
    refine Eq.trans l1 ?_
    rw [e_OrderSearch_seekRichest_8, js_places, jz_bI, show N1 11 3 = (P : Int) from (kk2 11 3 rfl).trans hP, if_neg (by omega), st, jz_bI, show ja_x true (dd + 12) 147 [jr 91, ji 0, ji (-1), ji (M 32 b), ji 0, ji 0, ji 0] N1 = some (none, N) from g1, jz_bV, isB, cond_true]
  · exact (g2 0 i (fun z => by have : 0 = 91 ∨ (22 ≤ 0 ∧ 0 ≤ 23) := z; omega)).trans (l2 0 i (fun z => by have := z.1; omega))
def pw_R (M : ja_M) (b t : Nat) : Nat → Int := pw_L (t : Int) (oR M b t) (b : Int) (aR M b t) (pv_st (M 12) (M 13) (pv_prev (oR M b) t) (oR M b t))
theorem pw_R_ok {M : ja_M} (hH : jH M) {b t : Nat} (hb : (b : Int) < M 11 4) (hv : ∀ u : Nat, (u : Int) < M 11 3 → 0 ≤ oR M b u ∧ oR M b u < M 11 3) (hs : 0 ≤ M 155 b ∧ M 155 b ≤ 99) (ht : (t : Int) < M 11 3) : ∀ i, i < 5 → pw_ok false (pw_R M b t i) := by
  have h0 := hH.b
  have h1 := hv t ht
  have h2 : 0 ≤ aR M b t ∧ aR M b t ≤ 1700 := pv_arr_b hH hv hs (hH.2.2.2 b hb).2 ht
  have h3 := pv_st_b hH (pv_prev_pl hv (t := t) (by omega)) (Or.inr h1)
  intro i hi
  have : i = 0 ∨ i = 1 ∨ i = 2 ∨ i = 3 ∨ i = 4 := by omega
  rcases this with rfl | rfl | rfl | rfl | rfl
  · show -1000000 ≤ (t : Int) ∧ (t : Int) ≤ 1000000
    omega
  · show -1000000 ≤ oR M b t ∧ oR M b t ≤ 1000000
    omega
  · show -1000000 ≤ (b : Int) ∧ (b : Int) ≤ 1000000
    omega
  · show -1000000 ≤ aR M b t ∧ aR M b t ≤ 1000000
    omega
  · show -1000000 ≤ pv_st (M 12) (M 13) (pv_prev (oR M b) t) (oR M b t) ∧ pv_st (M 12) (M 13) (pv_prev (oR M b) t) (oR M b t) ≤ 1000000
    omega
theorem js_R_pointsR (dd : Nat) {b k : Nat} {cs : jw_S} {M : ja_M} (hH : jH M) (hW : jW M) (hb : (b : Int) < M 11 4) (h5 : M 15 5 = (k : Int)) (hk4 : (k : Int) < M 15 4) (hcs : jw_at M k cs) (hv : ∀ u : Nat, (u : Int) < M 11 3 → 0 ≤ oR M b u ∧ oR M b u < M 11 3) (hs : 0 ≤ M 155 b ∧ M 155 b ≤ 99) : ∃ N, ja_x true (dd + 5) 271 [jr 137, ji (b : Int)] M = some (some (ji (jv_sum (fun t => pw_val (pw_R M b t) cs) (M 11 3).toNat)), N) ∧ jFr s146 M N := by
  have h0 := hH.b
  have hw0 := hW.1
  have hk : k < 4 := by omega
  obtain ⟨P, hP⟩ : ∃ P : Nat, M 11 3 = (P : Int) := ⟨(M 11 3).toNat, by omega⟩
  have eP : (M 11 3).toNat = P := by omega
  rw [eP]
  have hVb : ∀ t : Nat, t < P → -1000000 ≤ pw_val (pw_R M b t) cs ∧ pw_val (pw_R M b t) cs ≤ 1000000 := fun t ht => by
    obtain ⟨_, -, -, g⟩ := js_valueOf 0 hW (pw_R_ok hH hb hv hs (t := t) (by omega)) (v := pw_val (pw_R M b t) cs) (Or.inr ⟨k, cs, h5, hk4, hcs, rfl⟩)
    exact g
  have loop : ∀ (m t : Nat) (N : ja_M), t + m = P → jFr s146 M N → (-1000000 * (t : Int) ≤ jv_sum (fun t => pw_val (pw_R M b t) cs) t ∧ jv_sum (fun t => pw_val (pw_R M b t) cs) t ≤ 1000000 * (t : Int)) → ∃ N', ja_D true (ja_x true (dd + 4)) k_R_pointsOf 4 [some (jr 137), some (ji (b : Int)), some (ji (jv_sum (fun t => pw_val (pw_R M b t) cs) t)), some (ji (t : Int))] [] N = some (some (ji (jv_sum (fun t => pw_val (pw_R M b t) cs) P)), N') ∧ jFr s146 M N' := by
    intro m
    induction m with
    | zero =>
      intro t N e hf hj
      obtain rfl : t = P := by omega
      refine ⟨N, ?_, hf⟩
      have e27 : N 137 27 = (t : Int) := (hf.k146.of jk_H 137 27 rfl).trans (hH.2.1.1.trans hP)
      rw [e_R_pointsOf_4, e27, if_neg (by omega)]
    | succ m ih =>
      intro t N e hf hj
      have ht : (t : Int) < M 11 3 := by omega
      have h1 := hv t ht
      have hpl := pv_prev_pl hv (t := t) (by omega)
      have all : ∀ N : ja_M, jFr s146 M N → ja_x true (dd + 4) 242 [jr 137, ji (b : Int), ji (t : Int)] N = some (some (ji (oR M b t)), N) ∧ ja_x true (dd + 4) 265 [jr 137, ji (b : Int), ji (t : Int)] N = some (some (ji (aR M b t)), N) ∧ ja_x true (dd + 4) 266 [jr 137, ji (b : Int), ji (t : Int)] N = some (some (ji (pv_prev (oR M b) t)), N) ∧ ja_x true (dd + 4) 267 [jr 137, ji (pv_prev (oR M b) t), ji (oR M b t)] N = some (some (ji (pv_st (M 12) (M 13) (pv_prev (oR M b) t) (oR M b t))), N) := by
        intro N hf
        have kh := hf.k146.of jk_H
        have hH' := hH.kp kh
        have a3 : N 11 3 = M 11 3 := kh 11 3 rfl
        have a4 : N 11 4 = M 11 4 := kh 11 4 rfl
        have a12 : N 12 = M 12 := funext fun i => kh 12 i rfl
        have a13 : N 13 = M 13 := funext fun i => kh 13 i rfl
        have ao : oR N b = oR M b := funext fun u => hf 154 _ (fun z => by have := z.2; omega)
        have a55 : N 155 b = M 155 b := hf 155 b (fun z => by have := z.2; omega)
        have r1 := js_of (dd + 3) hH' (b := b) (t := t) (by omega) (by omega)
        have r2 := js_comesAt (dd + 1) hH' (b := b) (t := t) (by omega) (by omega) (fun u hu => by rw [ao, a3]; exact hv u (by omega)) (by rw [a55]; exact hs)
        have r3 := js_ahead (dd + 2) hH' (b := b) (t := t) (by omega) (by omega)
        have r4 := js_R_steps (dd + 3) hH' (p := pv_prev (oR M b) t) (q := oR M b t) (by rw [a3]; exact hpl) (by omega)
        have ea : aR N b t = aR M b t := by
          show pv_arr (N 12) (N 13) (N 155 b) (N 14 b) (N 11 6) (oR N b) t = _
          rw [a12, a13, a55, kh 14 b rfl, kh 11 6 rfl, ao]
        rw [ea] at r2
        rw [ao] at r1 r3
        rw [a12, a13] at r4
        exact ⟨r1, r2, r3, r4⟩
      have e27 : N 137 27 = M 11 3 := (hf.k146.of jk_H 137 27 rfl).trans hH.2.1.1
      have e33 : ∀ N : ja_M, jFr s146 M N → N 137 33 = (k : Int) := fun N hf => (hf.k146.of jk_W 137 33 rfl).trans (hW.2.2.2.1.trans h5)
      have f1 : jFr s146 M (ja_up N 146 0 (t : Int)) := hf.up ⟨by decide, by decide⟩
      have f2 : jFr s146 M (ja_up (ja_up (ja_up N 146 0 (t : Int)) 146 1 (oR M b t)) 146 2 (b : Int)) := (f1.up ⟨by decide, by decide⟩).up ⟨by decide, by decide⟩
      have f3 : jFr s146 M (ja_up (ja_up (ja_up (ja_up N 146 0 (t : Int)) 146 1 (oR M b t)) 146 2 (b : Int)) 146 3 (aR M b t)) := f2.up ⟨by decide, by decide⟩
      have f4 : jFr s146 M (ja_up (ja_up (ja_up (ja_up (ja_up N 146 0 (t : Int)) 146 1 (oR M b t)) 146 2 (b : Int)) 146 3 (aR M b t)) 146 4 (pv_st (M 12) (M 13) (pv_prev (oR M b) t) (oR M b t))) := f3.up ⟨by decide, by decide⟩
      have l4 : ∀ i, i < 5 → (ja_up (ja_up (ja_up (ja_up (ja_up N 146 0 (t : Int)) 146 1 (oR M b t)) 146 2 (b : Int)) 146 3 (aR M b t)) 146 4 (pv_st (M 12) (M 13) (pv_prev (oR M b) t) (oR M b t))) 146 i = pw_R M b t i := fun i hi => by
        have : i = 0 ∨ i = 1 ∨ i = 2 ∨ i = 3 ∨ i = 4 := by omega
        rcases this with rfl | rfl | rfl | rfl | rfl <;> rfl
      have hstep : ja_D true (ja_x true (dd + 4)) k_R_pointsOf 4 [some (jr 137), some (ji (b : Int)), some (ji (jv_sum (fun t => pw_val (pw_R M b t) cs) t)), some (ji (t : Int))] [] N = ja_bI (ja_x true (dd + 4) 272 [jr 137, ji (k : Int)] (ja_up (ja_up (ja_up (ja_up (ja_up N 146 0 (t : Int)) 146 1 (oR M b t)) 146 2 (b : Int)) 146 3 (aR M b t)) 146 4 (pv_st (M 12) (M 13) (pv_prev (oR M b) t) (oR M b t)))) (fun x12 M11 => ja_D true (ja_x true (dd + 4)) k_R_pointsOf 4 [some (jr 137), some (ji (b : Int)), some (ji (ja_w (jv_sum (fun t => pw_val (pw_R M b t) cs) t + x12))), some (ji (ja_w ((t : Int) + 1)))] [] M11) := by
        rw [e_R_pointsOf_4, e27, if_pos ht, e33 N hf, if_neg (by omega), (all _ f1).1, jz_bI, (all _ f2).2.1, jz_bI, (all _ f3).2.2.1, jz_bI, (all _ f3).1, jz_bI, (all _ f3).2.2.2, jz_bI, e33 _ f4]
      generalize ja_up (ja_up (ja_up (ja_up (ja_up N 146 0 (t : Int)) 146 1 (oR M b t)) 146 2 (b : Int)) 146 3 (aR M b t)) 146 4 (pv_st (M 12) (M 13) (pv_prev (oR M b) t) (oR M b t)) = N4 at f4 l4 hstep
      obtain ⟨⟨w1, w2, w3⟩, ⟨w4, w5⟩, -⟩ := jw_at_kp hk hcs (f4.k146.of jk_W)
      obtain ⟨N5, c1, c2⟩ := js_worthOf dd (m := cs.length) hk w2 (pw_R_ok hH hb hv hs ht) cs N4 0 0 w1 w5 (by omega) (by omega) w4 l4
      have f5 : jFr s146 M N5 := f4.tr (c2.wk (fun c z => ⟨by have : c = 147 := z; omega, by have : c = 147 := z; omega⟩))
      have hb1 := hVb t (by omega)
      obtain ⟨N', k1, k2⟩ := ih (t + 1) N5 (by omega) f5 (show -1000000 * ((t + 1 : Nat) : Int) ≤ jv_sum (fun t => pw_val (pw_R M b t) cs) t + pw_val (pw_R M b t) cs ∧ jv_sum (fun t => pw_val (pw_R M b t) cs) t + pw_val (pw_R M b t) cs ≤ 1000000 * ((t + 1 : Nat) : Int) by omega)
      refine ⟨N', ?_, k2⟩
      rw [show ((90 * k + 0 : Nat) : Int) = 90 * (k : Int) by omega] at c1
      rw [hstep, f_R_worthOf, ja_w_id (x := 90 * (k : Int)) (by omega) (by omega), c1, jz_bI, ja_w_id (by omega) (by omega), ja_w_id (by omega) (by omega)]
      exact k1
  obtain ⟨N, g1, g2⟩ := loop P 0 M (by omega) (jFr.rf M) (show -1000000 * ((0 : Nat) : Int) ≤ (0 : Int) ∧ (0 : Int) ≤ 1000000 * ((0 : Nat) : Int) by decide)
  exact ⟨N, (f_R_pointsOf _ _ _).trans g1, g2⟩
