/-! reading: worths, the other side's clause, whole -/
theorem cOut_f {N : ja_M} {T : Nat → Int} {n t : Nat} {S : jw_S} {r : wC} {X : Option ja_R} {N' : ja_M} (h : r.2 = none) (hX : X = some (none, N')) (hf : fC N t r.1 N') : cOut N T n t S r X := ⟨fun t' s' h2 => (by rw [h] at h2; cases h2), fun _ => ⟨N', hX, hf⟩⟩
theorem rw_body (dd : Nat) {N N1 : ja_M} {T : Nat → Int} {n t p3 : Nat} {S : jw_S} (ht : tpok T n) (hb : bR N1 T n t) (h142 : N1 142 t = (S.length : Int)) (hm : md N1 t 0 0 S) (hK : S.length < 90) (h3 : N1 143 (90 * t + S.length) = ((jw_len S : Nat) : Int)) (hf : rF2 N t N1) (hq : p3 ≤ n) (hl : jw_len S ≤ p3) : cOut N T n t S (wr_body T n p3) (ja_bI (ja_x true (dd + 60) 207 [jr 137] (atR (rM N1 t 0 (wflat S)) p3)) (fun x2 M1 => if x2 = 33 then ja_D true (ja_x true (dd + 60)) k_R_clause 65 [some (jr 137), some (ji ((90 * t + S.length : Nat) : Int)), none] [] M1 else ja_bI (ja_x true (dd + 60) 207 [jr 137] M1) (fun x4 M3 => if x4 = 40 then ja_D true (ja_x true (dd + 60)) k_R_clause 65 [some (jr 137), some (ji ((90 * t + S.length : Nat) : Int)), none] [] M3 else ja_bV (ja_x true (dd + 60) 225 [jr 137] M3) (fun M5 => if M5 137 4 = (-1) then ja_bI (ja_x true (dd + 60) 207 [jr 137] M5) (fun x7 M6 => ja_bI (ja_x true (dd + 60) 231 [ji x7] M6) (fun x9 M8 => if x9 = 0 then ja_D true (ja_x true (dd + 60)) k_R_clause 86 [some (jr 137), some (ji ((90 * t + S.length : Nat) : Int)), none] [] M8 else ja_bV (ja_x true (dd + 60) 230 [jr 137] M8) (fun M10 => ja_bV (ja_x true (dd + 60) 232 [jr 137] M10) (fun M11 => ja_bV (ja_x true (dd + 60) 233 [jr 137] M11) (fun M12 => ja_D true (ja_x true (dd + 60)) k_R_clause 96 [some (jr 137), some (ji ((90 * t + S.length : Nat) : Int)), some (ji 1)] [] M12))))) else ja_D true (ja_x true (dd + 60)) k_R_clause 86 [some (jr 137), some (ji ((90 * t + S.length : Nat) : Int)), none] [] M5)))) := by
  have hn := ht.1
  have hs := sk_b (T := T) hq
  have ht5 := hb.2.2.2
  have hwl : (wflat S).length = jw_len S := wflat_len S
  obtain ⟨u1, u2⟩ := wr_unit_ok (T := T) (n := n) 6
  obtain ⟨⟨t1, -⟩, c1, c2⟩ := wr_cond_ok (T := T) u1 u2
  obtain ⟨⟨f1, f2⟩, f3⟩ := c1 p3 hq
  have hunit : ∀ dd, iR T n t 0 (fun M => ja_x true (dd + (38 + 2)) 221 [jr 137] M) (wr_unit T n 6) 16 := fun dd => rw_unit ht 6 0 dd rfl
  -- the condition's codes stand
  have fol : ∀ a, (wr_cond T n (wr_unit T n 6) p3).2 = some a → wr_plain T n p3 = none → cOut N T n t S (wr_body T n p3) (ja_D true (ja_x true (dd + 60)) k_R_clause 96 [some (jr 137), some (ji ((90 * t + S.length : Nat) : Int)), some (ji 1)] [] (atR (rM N1 t 0 (wflat S ++ a)) (wr_cond T n (wr_unit T n 6) p3).1)) := fun a ea hpl => by
    obtain ⟨f4, f5⟩ := f3 a ea
    have er : wr_cond T n (wr_unit T n 6) p3 = ((wr_cond T n (wr_unit T n 6) p3).1, some a) := by rw [← ea]
    have := rw_tail dd (N := N) (a := a) ht hb h142 hm hK h3 hf f2 (by omega)
    rw [wr_body_n hpl, er]
    exact this
  have bad : ∀ f N' l, fC N t f N' → (wr_body T n p3) = (f, none) → cOut N T n t S (wr_body T n p3) (ja_D true (ja_x true (dd + 60)) k_R_clause 96 [some (jr 137), some (ji ((90 * t + S.length : Nat) : Int)), some (ji l)] [] N') := fun f N' l h e => by
    obtain ⟨N2, g1, g2⟩ := js_R_96F (ja_x true (dd + 60)) (l := l) h ht5 hK
    rw [e]
    exact cOut_f rfl g1 g2
  have cond0 : sg T n (sk T n p3) = 33 ∨ sg T n (sk T n p3) = 40 → cOut N T n t S (wr_body T n p3) (ja_D true (ja_x true (dd + 60)) k_R_clause 65 [some (jr 137), some (ji ((90 * t + S.length : Nat) : Int)), none] [] (atR (rM N1 t 0 (wflat S)) (sk T n p3))) := by
    intro hs0
    have hpl : wr_plain T n p3 = none := by
      cases e : wr_plain T n p3 with
      | none => rfl
      | some c =>
        obtain ⟨q1, q2, -⟩ := wr_plain_i e
        rcases hs0 with q | q
        · exact absurd q q1
        · exact absurd q q2
    have hi := rw_cond 38 (dd + 17) (t := t) (d := 0) (K := 16) ht (by decide) u1 t1 hunit
    obtain ⟨i1, i2⟩ := hi N1 (sk T n p3) (wflat S) hb hs.2 (by omega)
    rw [wr_cond_sk hq] at i1 i2
    rw [e_R_clause_65]
    cases ea : (wr_cond T n (wr_unit T n 6) p3).2 with
    | none =>
      obtain ⟨N', k1, k2⟩ := i2 ea
      rw [show ja_x true (dd + 60) 220 [jr 137] (atR (rM N1 t 0 (wflat S)) (sk T n p3)) = _ from k1, jz_bV]
      refine bad _ N' 1 (k2.C hf) ?_
      rw [wr_body_n hpl, wr_tl_n ea]
    | some a =>
      have k1 := i1 a ea
      rw [show ja_x true (dd + 60) 220 [jr 137] (atR (rM N1 t 0 (wflat S)) (sk T n p3)) = _ from k1, jz_bV]
      exact fol a ea hpl
  rw [js_R_look (dd + 58) (rM_tp hb.1) hn hq, jz_bI]
  by_cases s1 : sg T n (sk T n p3) = 33
  · rw [if_pos ((sr_sg ht 33 (by decide)).mpr s1)]
    exact cond0 (Or.inl s1)
  · rw [if_neg (fun w => s1 ((sr_sg ht 33 (by decide)).mp w)), js_R_look (dd + 58) (rM_tp hb.1) hn hs.2, jz_bI, sk_i hq]
    by_cases s2 : sg T n (sk T n p3) = 40
    · rw [if_pos ((sr_sg ht 40 (by decide)).mpr s2)]
      exact cond0 (Or.inr s2)
    · rw [if_neg (fun w => s2 ((sr_sg ht 40 (by decide)).mp w))]
      have hi := rw_sum (t := t) ht 6 0 (dd + 36) rfl
      obtain ⟨⟨k1, k2⟩, k3⟩ := (wr_sum_ok (T := T) (n := n) 6).1 p3 hq
      obtain ⟨i1, i2⟩ := hi N1 (sk T n p3) (wflat S) hb hs.2 (by omega)
      rw [wr_sum_sk hq] at i1 i2
      have eu : wr_unit T n 6 p3 = wr_sc T n 6 p3 := wr_unit_s s1 s2
      cases es : (wr_sum T n 6 p3).2 with
      | none =>
        have hpl : wr_plain T n p3 = none := by
          unfold wr_plain
          rw [if_neg s1, if_neg s2, es]
        obtain ⟨N', j1, j2⟩ := i2 es
        rw [show ja_x true (dd + 60) 225 [jr 137] (atR (rM N1 t 0 (wflat S)) (sk T n p3)) = _ from j1, jz_bV, if_neg (fS_n j2), e_R_clause_86]
        refine bad _ N' 0 (j2.C hf) ?_
        have ec : wr_cond T n (wr_unit T n 6) p3 = ((wr_sum T n 6 p3).1, none) := by
          unfold wr_cond wr_truth wr_seq
          rw [eu]
          unfold wr_sc
          rw [wq_n es]
          rfl
        rw [wr_body_n hpl, ec]
        rfl
      | some c =>
        obtain ⟨k4, k5⟩ := k3 c es
        have hs4 := sk_b (T := T) k2
        have j1 := i1 c es
        have e4 : (atR (rM N1 t 0 (wflat S ++ c)) (wr_sum T n 6 p3).1) 137 4 = -1 := hb.2.1
        have hlc : (wflat S ++ c).length = jw_len S + c.length := by rw [List.length_append, hwl]
        rw [show ja_x true (dd + 60) 225 [jr 137] (atR (rM N1 t 0 (wflat S)) (sk T n p3)) = _ from j1, jz_bV, e4, if_pos rfl, js_R_look (dd + 58) (rM_tp hb.1) hn k2, jz_bI, js_R_isSign (dd + 59), jz_bI, jz_b0, wr_opC_sr]
        by_cases hc : wr_opC (sg T n (sk T n (wr_sum T n 6 p3).1)) = none
        · have hpl : wr_plain T n p3 = some c := by
            unfold wr_plain
            rw [if_neg s1, if_neg s2, es]
            exact if_pos hc
          have e143 : (atR (rM N1 t 0 (wflat S ++ c)) (sk T n (wr_sum T n 6 p3).1)) 143 (90 * t + S.length) = ((jw_len S : Nat) : Int) := h3
          rw [hc, if_neg (by decide), e_R_clause_86, e_R_clause_96, if_pos (by omega), if_pos (by omega), if_pos rfl, show (((90 * t + S.length : Nat) : Int)).toNat = 90 * t + S.length from rfl, e143, ja_up_cm (c := 137) (d := 144) (by omega), rM_up (by omega)]
          obtain ⟨N3, g1, g2⟩ := rw_fin (N := N) (ja_x true (dd + 60)) (q := sk T n (wr_sum T n 6 p3).1) (a := []) (b := c) (S := S) (hb.up (c := 144) (i := 90 * t + S.length) (v := ((jw_len S : Nat) : Int)) (by omega)) ((jb_up_ne (by decide)).trans h142) (md_congr S 0 0 (fun i x y => by
            rw [jb_up_ne (by decide), jb_up_nej (by omega), jb_up_ne (by decide)]
            exact ⟨rfl, rfl, rfl⟩) hm) hK ((jb_up_ne (by decide)).trans h3) jb_up_eq (hf.up (by omega))
          rw [wr_body_s hpl]
          refine ⟨fun t' s' h => ?_, fun h => (by cases h)⟩
          have h2 : [] = t' ∧ c = s' := by
            cases h
            exact ⟨rfl, rfl⟩
          obtain ⟨rfl, rfl⟩ := h2
          exact ⟨N3, g1, g2⟩
        · have hpl : wr_plain T n p3 = none := by
            unfold wr_plain
            rw [if_neg s1, if_neg s2, es]
            exact if_neg hc
          have hcs : (wr_opC (sg T n (sk T n (wr_sum T n 6 p3).1))).isSome = true := by
            cases e : wr_opC (sg T n (sk T n (wr_sum T n 6 p3).1)) with
            | none => exact absurd e hc
            | some o => rfl
          have lA := rw_and 38 (dd + 19) (t := t) (d := 0) (K := 16) ht (by decide) u1 hunit
          have lO := rw_or 38 (dd + 18) (t := t) (d := 0) (K := 16) ht (by decide) u1 t1 hunit
          rw [if_pos hcs]
          have hcm := rw_cmp (t := t) ht 6 0 (dd + 35) rfl
          obtain ⟨⟨m1, m2⟩, m3⟩ := wr_cmp_ok (T := T) (k := 6) k2
          obtain ⟨a1, a2⟩ := hcm N1 (sk T n (wr_sum T n 6 p3).1) (wflat S ++ c) hb hs4.2 (by omega)
          rw [wr_cmp_sk k2] at a1 a2
          cases ec : (wr_cmp T n 6 (wr_sum T n 6 p3).1).2 with
          | none =>
            obtain ⟨N', b1, b2⟩ := a2 ec
            have z1 := lA.1 N' (fS_n b2)
            have z2 := lO.1 N' (fS_n b2)
            rw [show ja_x true (dd + 60) 230 [jr 137] (atR (rM N1 t 0 (wflat S ++ c)) (sk T n (wr_sum T n 6 p3).1)) = _ from b1, jz_bV, show ja_x true (dd + 60) 232 [jr 137] N' = _ from z1, jz_bV, show ja_x true (dd + 60) 233 [jr 137] N' = _ from z2, jz_bV]
            refine bad _ N' 1 (b2.C hf) ?_
            have ec : wr_cond T n (wr_unit T n 6) p3 = ((wr_cmp T n 6 (wr_sum T n 6 p3).1).1, none) := by
              unfold wr_cond wr_truth wr_seq
              rw [eu]
              unfold wr_sc
              rw [wq_s es, wq_n ec]
              rfl
            rw [wr_body_n hpl, ec]
            rfl
          | some d =>
            obtain ⟨⟨m4, m5⟩, -⟩ := m3 d ec
            have b1 := a1 d ec
            rw [show ja_x true (dd + 60) 230 [jr 137] (atR (rM N1 t 0 (wflat S ++ c)) (sk T n (wr_sum T n 6 p3).1)) = _ from b1, jz_bV, List.append_assoc]
            have eu2 : wr_unit T n 6 p3 = ((wr_cmp T n 6 (wr_sum T n 6 p3).1).1, some (c ++ d)) := by
              rw [eu]
              unfold wr_sc
              rw [wq_s es, wq_s ec]
            have etr : wr_truth T n (wr_unit T n 6) p3 = wr_loop T n (wr_unit T n 6) wr_opA (n + 1) (wr_cmp T n 6 (wr_sum T n 6 p3).1).1 (c ++ d) := by
              unfold wr_truth wr_seq
              rw [eu2]
              rfl
            obtain ⟨g1, g2⟩ := lA.2 N1 _ (wflat S) (c ++ d) hb m2 (by rw [List.length_append]; omega)
            rw [← etr] at g1 g2
            obtain ⟨⟨tr1, tr2⟩, tr3⟩ := t1 p3 hq
            cases e1 : (wr_truth T n (wr_unit T n 6) p3).2 with
            | none =>
              obtain ⟨N', y1, y2⟩ := g2 e1
              have z2 := lO.1 N' (fS_n y2)
              rw [show ja_x true (dd + 60) 232 [jr 137] (atR (rM N1 t 0 (wflat S ++ (c ++ d))) (wr_cmp T n 6 (wr_sum T n 6 p3).1).1) = _ from y1, jz_bV, show ja_x true (dd + 60) 233 [jr 137] N' = _ from z2, jz_bV]
              refine bad _ N' 1 (y2.C hf) ?_
              have ec : wr_cond T n (wr_unit T n 6) p3 = ((wr_truth T n (wr_unit T n 6) p3).1, none) := by
                show wq (wr_truth T n (wr_unit T n 6) p3) _ = _
                rw [wq_n e1]
              rw [wr_body_n hpl, ec]
              rfl
            | some a1' =>
              obtain ⟨tr4, tr5⟩ := tr3 a1' e1
              have y1 := g1 a1' e1
              rw [show ja_x true (dd + 60) 232 [jr 137] (atR (rM N1 t 0 (wflat S ++ (c ++ d))) (wr_cmp T n 6 (wr_sum T n 6 p3).1).1) = _ from y1, jz_bV]
              have eco : wr_cond T n (wr_unit T n 6) p3 = wr_loop T n (wr_truth T n (wr_unit T n 6)) wr_opO (n + 1) (wr_truth T n (wr_unit T n 6) p3).1 a1' := by
                show wq (wr_truth T n (wr_unit T n 6) p3) _ = _
                rw [wq_s e1]
              obtain ⟨g3, g4⟩ := lO.2 N1 _ (wflat S) a1' hb tr2 (by omega)
              rw [← eco] at g3 g4
              cases e2 : (wr_cond T n (wr_unit T n 6) p3).2 with
              | none =>
                obtain ⟨N', y3, y4⟩ := g4 e2
                rw [show ja_x true (dd + 60) 233 [jr 137] (atR (rM N1 t 0 (wflat S ++ a1')) (wr_truth T n (wr_unit T n 6) p3).1) = _ from y3, jz_bV]
                refine bad _ N' 1 (y4.C hf) ?_
                rw [wr_body_n hpl, wr_tl_n e2]
              | some a2' =>
                have y3 := g3 a2' e2
                rw [show ja_x true (dd + 60) 233 [jr 137] (atR (rM N1 t 0 (wflat S ++ a1')) (wr_truth T n (wr_unit T n 6) p3).1) = _ from y3, jz_bV]
                exact fol a2' e2 hpl
