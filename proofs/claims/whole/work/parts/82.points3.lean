/-! points: the other side -/
theorem jk_scr2 {c i : Nat} (h : 146 ≤ c ∧ c ≤ 147) : jkeep c i = false := by
  have a1 : kT c i = false := by unfold kT; split <;> first | rfl | omega
  have a2 : kH c i = false := by unfold kH; split <;> first | rfl | omega
  have a3 : kO c i = false := by unfold kO; split <;> first | rfl | omega
  have a4 : kW c i = false := by unfold kW; split <;> first | rfl | omega
  have a5 : kP c i = false := by
    unfold kP
    split
    all_goals first | rfl | omega | skip
    cases x : Nat.ble 35 c with
    | false => rfl
    | true =>
      cases z : Nat.ble c 74 with
      | false => rfl
      | true =>
        have := Nat.le_of_ble_eq_true x
        have := Nat.le_of_ble_eq_true z
        omega
  have a6 : kI c i = false := by unfold kI; split <;> first | rfl | omega
  have a7 : kF c i = false := by unfold kF; split <;> first | rfl | omega
  have a8 : kL c i = false := by unfold kL; split <;> first | rfl | omega
  have a9 : kB c i = false := by unfold kB; split <;> first | rfl | omega
  unfold jkeep
  rw [a1, a2, a3, a4, a5, a6, a7, a8, a9]
  rfl
abbrev s146 : Nat → Prop := fun c => 146 ≤ c ∧ c ≤ 147
theorem jFr.k146 {A B : ja_M} (h : jFr s146 A B) : jK A B := fun c i q => h c i (fun x => by
  rw [jk_scr2 x] at q
  cases q)
theorem pw_T_kp {M N : ja_M} (hH : jH M) {b : Nat} (hb : (b : Int) < M 11 4) (kk : jK M N) (t : Nat) : pw_T N b t = pw_T M b t := by
  have h0 := hH.b
  have kH' := kk.of jk_H
  have kO' := kk.of jk_O
  have a6 : N 11 6 = M 11 6 := kH' 11 6 rfl
  have a12 : N 12 = M 12 := funext fun i => kH' 12 i rfl
  have a13 : N 13 = M 13 := funext fun i => kH' 13 i rfl
  have a14 : N 14 b = M 14 b := kH' 14 b rfl
  have a32 : N 32 b = M 32 b := kO' 32 b rfl
  have ao : oX N b = oX M b := funext fun u => kO' (26 + b) u (jk_26 b (by omega) u)
  have ea : aX N b t = aX M b t := by
    show pv_arr (N 12) (N 13) (N 32 b) (N 14 b) (N 11 6) (oX N b) t = _
    rw [a12, a13, a14, a32, a6, ao]
  unfold pw_T
  rw [ea, ao, a12, a13]
theorem js_R_pointsOf (dd : Nat) {b k : Nat} {cs : jw_S} {M : ja_M} (hH : jH M) (hO : jO M) (hW : jW M) (hb : (b : Int) < M 11 4) (h5 : M 15 5 = (k : Int)) (hk4 : (k : Int) < M 15 4) (hcs : jw_at M k cs) : ∃ N, ja_x true (dd + 5) 271 [jr 137, ji (b : Int)] M = some (some (ji (jv_sum (fun t => pw_val (pw_T M b t) cs) (M 11 3).toNat)), N) ∧ jFr s146 M N := by
  have h0 := hH.b
  have hw0 := hW.1
  have hk : k < 4 := by omega
  obtain ⟨P, hP⟩ : ∃ P : Nat, M 11 3 = (P : Int) := ⟨(M 11 3).toNat, by omega⟩
  have eP : (M 11 3).toNat = P := by omega
  rw [eP]
  have hVb : ∀ t : Nat, t < P → -1000000 ≤ pw_val (pw_T M b t) cs ∧ pw_val (pw_T M b t) cs ≤ 1000000 := fun t ht => by
    obtain ⟨_, -, -, g⟩ := js_valueOf 0 hW (pw_T_ok hH hO hb (t := t) (by omega)) (v := pw_val (pw_T M b t) cs) (Or.inr ⟨k, cs, h5, hk4, hcs, rfl⟩)
    exact g
  have loop : ∀ (m t : Nat) (N : ja_M), t + m = P → jFr s146 M N → (-1000000 * (t : Int) ≤ jv_sum (fun t => pw_val (pw_T M b t) cs) t ∧ jv_sum (fun t => pw_val (pw_T M b t) cs) t ≤ 1000000 * (t : Int)) → ∃ N', ja_D true (ja_x true (dd + 4)) k_R_pointsOf 4 [some (jr 137), some (ji (b : Int)), some (ji (jv_sum (fun t => pw_val (pw_T M b t) cs) t)), some (ji (t : Int))] [] N = some (some (ji (jv_sum (fun t => pw_val (pw_T M b t) cs) P)), N') ∧ jFr s146 M N' := by
    intro m
    induction m with
    | zero =>
      intro t N e hf hj
      obtain rfl : t = P := by omega
      refine ⟨N, ?_, hf⟩
      have e27 : N 137 27 = (t : Int) := (hf.k146.of jk_H 137 27 rfl).trans (hH.2.1.1.trans hP)
      rw [e_R_pointsOf_4, e27, if_neg (by omega)]
    | succ m ih =>
      intro t N e hf hj
      have ht : (t : Int) < M 11 3 := by omega
      have hv := hO.v hb
      have h1 := hv t ht
      have hpl := pv_prev_pl hv (t := t) (by omega)
      have all : ∀ N : ja_M, jFr s146 M N → ja_x true (dd + 4) 242 [jr 137, ji (b : Int), ji (t : Int)] N = some (some (ji (oX M b t)), N) ∧ ja_x true (dd + 4) 265 [jr 137, ji (b : Int), ji (t : Int)] N = some (some (ji (aX M b t)), N) ∧ ja_x true (dd + 4) 266 [jr 137, ji (b : Int), ji (t : Int)] N = some (some (ji (pv_prev (oX M b) t)), N) ∧ ja_x true (dd + 4) 267 [jr 137, ji (pv_prev (oX M b) t), ji (oX M b t)] N = some (some (ji (pv_st (M 12) (M 13) (pv_prev (oX M b) t) (oX M b t))), N) := by
        intro N hf
        have kk := hf.k146
        have kH' := kk.of jk_H
        have kO' := kk.of jk_O
        have hH' := hH.kp kH'
        have hO' := hO.kp hH kO'
        have a3 : N 11 3 = M 11 3 := kH' 11 3 rfl
        have a4 : N 11 4 = M 11 4 := kH' 11 4 rfl
        have a12 : N 12 = M 12 := funext fun i => kH' 12 i rfl
        have a13 : N 13 = M 13 := funext fun i => kH' 13 i rfl
        have ao : oX N b = oX M b := funext fun u => kO' (26 + b) u (jk_26 b (by omega) u)
        have eo : ∀ u : Nat, (u : Int) < M 11 3 → oR N b u = oX M b u := fun u hu => by
          rw [hO'.eq (by omega) (by omega), ao]
        have r1 := js_of (dd + 3) hH' (b := b) (t := t) (by omega) (by omega)
        have r2 := js_comesAt (dd + 1) hH' (b := b) (t := t) (by omega) (by omega) (hO'.vR (by omega)) (hO'.sR (by omega))
        have r3 := js_ahead (dd + 2) hH' (b := b) (t := t) (by omega) (by omega)
        have r4 := js_R_steps (dd + 3) hH' (p := pv_prev (oX M b) t) (q := oX M b t) (by rw [a3]; exact hpl) (by omega)
        rw [eo t ht] at r1
        rw [hO'.arr hH' (by omega) (by omega), show aX N b t = aX M b t from congrFun (pw_T_kp hH hb kk t) 3] at r2
        have ep : pv_prev (oR N b) t = pv_prev (oX M b) t := by
          cases t with
          | zero => rfl
          | succ u => exact eo u (by omega)
        rw [ep] at r3
        rw [a12, a13] at r4
        exact ⟨r1, r2, r3, r4⟩
      have e27 : N 137 27 = M 11 3 := (hf.k146.of jk_H 137 27 rfl).trans hH.2.1.1
      have e33 : ∀ N : ja_M, jFr s146 M N → N 137 33 = (k : Int) := fun N hf => (hf.k146.of jk_W 137 33 rfl).trans (hW.2.2.2.1.trans h5)
      have f1 : jFr s146 M (ja_up N 146 0 (t : Int)) := hf.up ⟨by decide, by decide⟩
      have f2 : jFr s146 M (ja_up (ja_up (ja_up N 146 0 (t : Int)) 146 1 (oX M b t)) 146 2 (b : Int)) := (f1.up ⟨by decide, by decide⟩).up ⟨by decide, by decide⟩
      have f3 : jFr s146 M (ja_up (ja_up (ja_up (ja_up N 146 0 (t : Int)) 146 1 (oX M b t)) 146 2 (b : Int)) 146 3 (aX M b t)) := f2.up ⟨by decide, by decide⟩
      have f4 : jFr s146 M (ja_up (ja_up (ja_up (ja_up (ja_up N 146 0 (t : Int)) 146 1 (oX M b t)) 146 2 (b : Int)) 146 3 (aX M b t)) 146 4 (pv_st (M 12) (M 13) (pv_prev (oX M b) t) (oX M b t))) := f3.up ⟨by decide, by decide⟩
      have l4 : ∀ i, i < 5 → (ja_up (ja_up (ja_up (ja_up (ja_up N 146 0 (t : Int)) 146 1 (oX M b t)) 146 2 (b : Int)) 146 3 (aX M b t)) 146 4 (pv_st (M 12) (M 13) (pv_prev (oX M b) t) (oX M b t))) 146 i = pw_T M b t i := fun i hi => by
        have : i = 0 ∨ i = 1 ∨ i = 2 ∨ i = 3 ∨ i = 4 := by omega
        rcases this with rfl | rfl | rfl | rfl | rfl <;> rfl
      have hstep : ja_D true (ja_x true (dd + 4)) k_R_pointsOf 4 [some (jr 137), some (ji (b : Int)), some (ji (jv_sum (fun t => pw_val (pw_T M b t) cs) t)), some (ji (t : Int))] [] N = ja_bI (ja_x true (dd + 4) 272 [jr 137, ji (k : Int)] (ja_up (ja_up (ja_up (ja_up (ja_up N 146 0 (t : Int)) 146 1 (oX M b t)) 146 2 (b : Int)) 146 3 (aX M b t)) 146 4 (pv_st (M 12) (M 13) (pv_prev (oX M b) t) (oX M b t)))) (fun x12 M11 => ja_D true (ja_x true (dd + 4)) k_R_pointsOf 4 [some (jr 137), some (ji (b : Int)), some (ji (ja_w (jv_sum (fun t => pw_val (pw_T M b t) cs) t + x12))), some (ji (ja_w ((t : Int) + 1)))] [] M11) := by
        rw [e_R_pointsOf_4, e27, if_pos ht, e33 N hf, if_neg (by omega), (all _ f1).1, jz_bI, (all _ f2).2.1, jz_bI, (all _ f3).2.2.1, jz_bI, (all _ f3).1, jz_bI, (all _ f3).2.2.2, jz_bI, e33 _ f4]
      generalize ja_up (ja_up (ja_up (ja_up (ja_up N 146 0 (t : Int)) 146 1 (oX M b t)) 146 2 (b : Int)) 146 3 (aX M b t)) 146 4 (pv_st (M 12) (M 13) (pv_prev (oX M b) t) (oX M b t)) = N4 at f4 l4 hstep
      obtain ⟨⟨w1, w2, w3⟩, ⟨w4, w5⟩, -⟩ := jw_at_kp hk hcs (f4.k146.of jk_W)
      obtain ⟨N5, c1, c2⟩ := js_worthOf dd (m := cs.length) hk w2 (pw_T_ok hH hO hb ht) cs N4 0 0 w1 w5 (by omega) (by omega) w4 l4
      have f5 : jFr s146 M N5 := f4.tr (c2.wk (fun c z => ⟨by have : c = 147 := z; omega, by have : c = 147 := z; omega⟩))
      have hb1 := hVb t (by omega)
      obtain ⟨N', k1, k2⟩ := ih (t + 1) N5 (by omega) f5 (show -1000000 * ((t + 1 : Nat) : Int) ≤ jv_sum (fun t => pw_val (pw_T M b t) cs) t + pw_val (pw_T M b t) cs ∧ jv_sum (fun t => pw_val (pw_T M b t) cs) t + pw_val (pw_T M b t) cs ≤ 1000000 * ((t + 1 : Nat) : Int) by omega)
      refine ⟨N', ?_, k2⟩
      rw [show ((90 * k + 0 : Nat) : Int) = 90 * (k : Int) by omega] at c1
      rw [hstep, f_R_worthOf, ja_w_id (x := 90 * (k : Int)) (by omega) (by omega), c1, jz_bI, ja_w_id (by omega) (by omega), ja_w_id (by omega) (by omega)]
      exact k1
  obtain ⟨N, g1, g2⟩ := loop P 0 M (by omega) (jFr.rf M) (show -1000000 * ((0 : Nat) : Int) ≤ (0 : Int) ∧ (0 : Int) ≤ 1000000 * ((0 : Nat) : Int) by decide)
  exact ⟨N, (f_R_pointsOf _ _ _).trans g1, g2⟩
theorem jy_p18 : jy_o18 := by
  intro a _
  refine jOp.read (fun M hJ => ?_)
  obtain ⟨⟨hT, hH, hO⟩, ⟨hW, hPs, hIm⟩, -⟩ := hJ
  have h0 := hH.b
  have hX := f_X_points 1999 a M
  rw [js_hasBand 1998, jz_bI, jz_b0] at hX
  by_cases h1 : 0 ≤ a ∧ a < M 11 4
  · obtain ⟨b, rfl⟩ := Int.eq_ofNat_of_zero_le h1.1
    rw [if_pos h1] at hX
    by_cases h5 : M 15 5 = -1
    · obtain ⟨N, g1, g2, g3⟩ := js_pointsOf 1993 (V := fun _ => 0) hH hO hW h1.2 (fun t _ => Or.inl ⟨h5, rfl⟩)
      rw [g1, jz_bI] at hX
      have kk := g2.k223
      have hH' := hH.kp (kk.of jk_H)
      have hR := f_R_points 1999 (b : Int) N
      have a4 : N 11 4 = M 11 4 := kk.of jk_H 11 4 rfl
      have a33 : N 137 33 = -1 := (kk.of jk_W 137 33 rfl).trans (hW.2.2.2.1.trans h5)
      rw [js_isBand 1997 (b : Int) hH', jz_bI, jz_b0, if_pos (by omega), f_R_pointsOf, e_R_pointsOf_4, a33, if_pos rfl] at hR
      refine ⟨_, N, hX, kk, fun i => g2 0 i (fun z => by have := z.1; omega), N, ?_, jKs.rf N, fun _ => rfl⟩
      rw [jv_sum_zero]
      refine hR.trans ?_
      split <;> rfl
    · have hw := hW.2.2.1
      obtain ⟨k, hk⟩ := Int.eq_ofNat_of_zero_le (show 0 ≤ M 15 5 by omega)
      obtain ⟨cs, hcs⟩ := hW.2.2.2.2 k (by omega)
      obtain ⟨N, g1, g2, g3⟩ := js_pointsOf 1993 (V := fun t => pw_val (pw_T M b t) cs) hH hO hW h1.2 (fun t _ => Or.inr ⟨k, cs, hk, by omega, hcs, rfl⟩)
      rw [g1, jz_bI] at hX
      have kk := g2.k223
      have hH' := hH.kp (kk.of jk_H)
      have hO' := hO.kp hH (kk.of jk_O)
      have hW' := hW.kp (kk.of jk_W)
      have hR := f_R_points 1999 (b : Int) N
      have a3 : N 11 3 = M 11 3 := kk.of jk_H 11 3 rfl
      have a4 : N 11 4 = M 11 4 := kk.of jk_H 11 4 rfl
      have a5 : N 15 5 = M 15 5 := kk.of jk_W 15 5 rfl
      have a6 : N 15 4 = M 15 4 := kk.of jk_W 15 4 rfl
      have w4 := hW.1
      obtain ⟨N2, r1, r2⟩ := js_R_pointsOf 1994 hH' hO' hW' (b := b) (k := k) (cs := cs) (by omega) (by omega) (by omega) (jw_at_kp (by omega) hcs (kk.of jk_W))
      rw [js_isBand 1997 (b : Int) hH', jz_bI, jz_b0, if_pos (by omega), r1, jz_bI, a3, jv_sum_congr _ (fun t _ => congrArg (fun z => pw_val z cs) (pw_T_kp hH h1.2 kk t))] at hR
      exact ⟨_, N, hX, kk, fun i => g2 0 i (fun z => by have := z.1; omega), N2, hR, r2.k146, fun i => r2 0 i (fun z => by have := z.1; omega)⟩
  · rw [if_neg h1] at hX
    have hR := f_R_points 1999 a M
    rw [js_isBand 1997 a hH, jz_bI, jz_b0, if_neg h1] at hR
    exact ⟨_, M, hX, jKs.rf M, fun _ => rfl, M, hR, jKs.rf M, fun _ => rfl⟩
