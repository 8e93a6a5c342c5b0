/-! switches, statics, arrays, ends -/
theorem jb_tab {z i : Nat} {x : Int} {f : Nat → Option ja_R} {n : Nat} {r : ja_R} : ∀ (os : List Int) (ts : List (Int × Nat)) (k : Int), jc_tab z i k os ts = true → ja_sw x f n ts = some r →
    (∃ o t, 0 ≤ x - k ∧ os[(x - k).toNat]? = some o ∧ o = jc_off z i t ∧ f t = some r) ∨ ((x < k ∨ k + (os.length : Int) - 1 < x) ∧ f n = some r)
  | [], [], k, _, h => by
    refine Or.inr ⟨?_, h⟩
    simp only [List.length_nil]
    omega
  | [], _ :: _, _, h, _ => by cases h
  | _ :: _, [], _, h, _ => by cases h
  | o :: os, (y, t) :: ts, k, h, hs => by
    obtain ⟨h1, h⟩ := jb_and h
    obtain ⟨h2, h⟩ := jb_and h
    have h1 := of_decide_eq_true h1
    have h2 := of_decide_eq_true h2
    subst h1
    by_cases hx : x = y
    · subst hx
      have hs : (if x = x then f t else ja_sw x f n ts) = some r := hs
      rw [if_pos rfl] at hs
      exact Or.inl ⟨o, t, by omega, by rw [show (x - x).toNat = 0 by omega]; rfl, h2, hs⟩
    · have hs : (if x = y then f t else ja_sw x f n ts) = some r := hs
      rw [if_neg hx] at hs
      rcases jb_tab os ts (y + 1) h hs with ⟨o', t', g1, g2, g3, g4⟩ | ⟨g1, g2⟩
      · exact Or.inl ⟨o', t', by omega, by rw [show (x - y).toNat = (x - (y + 1)).toNat + 1 by omega]; exact g2, g3, g4⟩
      · refine Or.inr ⟨?_, g2⟩
        simp only [List.length_cons]
        omega
theorem jb_lok {z i : Nat} {x : Int} {f : Nat → Option ja_R} {n : Nat} {r : ja_R} : ∀ (os : List (Int × Int)) (ts : List (Int × Nat)), jc_lok z i os ts = true → ja_sw x f n ts = some r → ∃ t, Op.lookupswitch.offset os (jc_off z i n) x = jc_off z i t ∧ f t = some r
  | [], [], _, h => ⟨n, rfl, h⟩
  | [], _ :: _, h, _ => by cases h
  | _ :: _, [], h, _ => by cases h
  | (k, o) :: os, (y, t) :: ts, h, hs => by
    obtain ⟨h1, hA⟩ := jb_and h
    obtain ⟨h2, hB⟩ := jb_and hA
    have h1 := of_decide_eq_true h1
    have h2 := of_decide_eq_true h2
    subst h1
    by_cases hx : x = y
    · have hs : (if x = y then f t else ja_sw x f n ts) = some r := hs
      rw [if_pos hx] at hs
      refine ⟨t, ?_, hs⟩
      unfold Op.lookupswitch.offset
      simp [hx, h2]
    · have hs : (if x = y then f t else ja_sw x f n ts) = some r := hs
      rw [if_neg hx] at hs
      obtain ⟨t', g1, g2⟩ := jb_lok os ts hB hs
      refine ⟨t', ?_, g2⟩
      rw [← g1]
      conv => lhs; unfold Op.lookupswitch.offset
      simp [hx, Ne.symm hx]
set_option maxHeartbeats 4000000 in
theorem jw_switch : jb_SH jh_switch jc_switch := by
  intro p l e R s m args below meth c Q G φ z d C0 S0 ad0 lim0 E a i L S M κ r F EO CP ck h hκ hR ad H locs ls I hS
  obtain ⟨⟨hx, hb, hml, hown, hts⟩, ⟨hK, hA⟩, ⟨hfr, hlo⟩, hin, hao⟩ := F
  rcases S with _ | ⟨x0 | x0 | x0, S⟩ <;> first | (cases h; done) | skip
  obtain ⟨o0, hS⟩ := List.forall_mem_cons.mp hS
  have h : ja_sw x0 (fun t => κ t L S M) a.2.2.1 a.2.2.2.2.1 = some r := h
  have hv : (Int32.ofInt x0).toInt = x0 := jn_i o0
  unfold jc_switch at ck
  split at ck
  · rename_i d lo hi offs len hd
    obtain ⟨c1, ck⟩ := jb_and ck
    obtain ⟨c2, ck⟩ := jb_and ck
    have c1 := of_decide_eq_true c1
    have c2 := of_decide_eq_true c2
    rcases jb_tab _ _ _ ck h with ⟨o, t, g1, g2, g3, g4⟩ | ⟨g1, g2⟩
    · have hlt : (x0 - lo).toNat < offs.toList.length := (List.getElem?_eq_some_iff.mp g2).1
      have w := (hκ _ _ _ _ g4).2 ad H locs ls I hS
      refine lv_tableIn hx hb hd (by rw [hv]; omega) (by rw [hv]; omega) (off := o) (by rw [hv, ← Array.getElem?_toList]; exact g2) (by rw [g3]; exact jc_off_eq z i t) w
    · have w := (hκ _ _ _ _ g2).2 ad H locs ls I hS
      refine lv_tableOut hx hb hd (by rw [hv]; omega) (by rw [c1]; exact jc_off_eq z i a.2.2.1) w
  · rename_i d ps len hd
    obtain ⟨c1, ck⟩ := jb_and ck
    obtain ⟨c2, ck⟩ := jb_and ck
    have c1 := of_decide_eq_true c1
    obtain ⟨t, g1, g2⟩ := jb_lok _ _ ck h
    have w := (hκ _ _ _ _ g2).2 ad H locs ls I hS
    exact lv_lookup hx hb hd c2 (by rw [hv, c1]; exact g1) (jc_off_eq z i t) w
  · cases ck

set_option maxHeartbeats 4000000 in
theorem jw_static : jb_SH jh_static jc_static := by
  intro p l e R s m args below meth c Q G φ z d C0 S0 ad0 lim0 E a i L S M κ r F EO CP ck h hκ hR ad H locs ls I hS
  obtain ⟨⟨hx, hb, hml, hown, hts⟩, ⟨hK, hA⟩, ⟨hfr, hlo⟩, hin, hao⟩ := F
  obtain ⟨ck, cs⟩ := jb_and ck
  obtain ⟨hd, hn⟩ := jc_d_of ck
  obtain ⟨q, hq, hq2⟩ := List.any_eq_true.mp cs
  obtain ⟨q1, hq2⟩ := jb_and hq2
  obtain ⟨q2, q3⟩ := jb_and hq2
  have hc := jm_in (js_ok q hq) rfl
  rw [Nat.eq_of_beq_eq_true q1, Nat.eq_of_beq_eq_true q2, Nat.eq_of_beq_eq_true q3] at hc
  have hq3 : a.2.1 = ja_RO ∨ a.2.1 = ja_RO + 1 := by
    rw [← Nat.eq_of_beq_eq_true q3]
    exact (show ∀ q ∈ jm_sl, q.2.2.1 = ja_RO ∨ q.2.2.1 = ja_RO + 1 by decide) q hq
  have h : κ (i + 1) L (jr a.2.1 :: S) M = some r := h
  have w := (hκ _ _ _ _ h).2 ad H locs ls I (List.forall_mem_cons.mpr ⟨trivial, hS⟩)
  rw [hn] at w
  rcases hq3 with e | e
  · rw [e] at hc w
    exact va_gets hx hb I.1.2.2.2.1 I.1.2.2.1 hown (hts _ hc) (fun _ q => q) hd w
  · rw [e] at hc w
    exact va_gets hx hb I.1.2.2.2.2.1 I.1.2.2.1 hown (hts _ hc) (fun _ q => q) hd w

set_option maxHeartbeats 4000000 in
theorem jw_iald : jb_SH jh_iald jc_iald := by
  intro p l e R s m args below meth c Q G φ z d C0 S0 ad0 lim0 E a i L S M κ r F EO CP ck h hκ hR ad H locs ls I hS
  obtain ⟨⟨hx, hb, hml, hown, hts⟩, ⟨hK, hA⟩, ⟨hfr, hlo⟩, hin, hao⟩ := F
  rcases S with _ | ⟨x0 | x0 | x0, _ | ⟨x1 | x1 | x1, S⟩⟩ <;> first | (cases h; done) | skip
  have nA : ∀ k, ja_RO ≤ k → k ≤ ja_RO + 2 → ¬ jb_A G (ad k) ∧ ad k < s.heap.size := by
    intro k k1 k2
    obtain ⟨-, -, -, -, -, ⟨b1, b2, b3⟩, b4⟩ := I.1.2.2.2
    have hk : k = ja_RO ∨ k = ja_RO + 1 ∨ k = ja_RO + 2 := by simp only [ja_RO] at *; omega
    unfold jb_A
    rcases hk with rfl | rfl | rfl
    · exact ⟨by omega, by omega⟩
    · exact ⟨by omega, by omega⟩
    · exact ⟨by omega, by omega⟩
  obtain ⟨hd, hn⟩ := jc_d_of ck
  obtain ⟨o0, hS1⟩ := List.forall_mem_cons.mp hS
  replace hS := (List.forall_mem_cons.mp hS1).2
  clear hS1
  have h : ja_ald φ M x1 x0 (fun v => κ (i + 1) L (ji v :: S) M) = some r := h
  unfold ja_ald at h
  by_cases k0 : Nat.beq (ja_kd x1).1 100 = true
  · rw [k0] at h
    obtain ⟨hokc, h⟩ := jb_cond (show cond (ja_okc φ M x1) _ none = some r from h)
    obtain ⟨hj, h⟩ := jb_if h
    have k0 := Nat.eq_of_beq_eq_true k0
    obtain ⟨h1, h2, h3⟩ := jb_okc hokc I.2.2.1
    obtain ⟨k, rfl⟩ : ∃ k, x1 = k + 1 := ⟨x1 - 1, by omega⟩
    have hat := jb_at (G := G) (φ := φ) (ad := ad) (M := M) h1 h2
    rw [jb_e0 k0] at hat
    obtain ⟨g1, g2⟩ := jn_in hj.1 hj.2 (jk_len _ h3)
    have ov : jb_ok (ji (M (k + 1) x0.toNat)) := jb_numI (I.2.2.1.1 _ _ h1) (jb_lngA k0 (Or.inl rfl))
    have w := (hκ _ _ _ _ h).2 ad H locs ls I (List.forall_mem_cons.mpr ⟨ov, hS⟩)
    rw [hn] at w
    refine va_iald hx hb hK I.1.1 k 0 hat rfl g1 hd ?_
    rw [g2]
    exact w
  rw [Bool.not_eq_true] at k0
  rw [k0] at h
  by_cases k1 : Nat.beq (ja_kd x1).1 110 = true
  · have h : cond (Nat.beq (ja_kd x1).1 110) (if 0 ≤ x0 ∧ x0 < 5 then κ (i + 1) L (ji (ja_ro x1 x0.toNat) :: S) M else none) (cond (Nat.beq (ja_kd x1).1 111) (if 0 ≤ x0 ∧ x0 < M 0 4 then κ (i + 1) L (ji (M x1 x0.toNat) :: S) M else none) none) = some r := h
    rw [k1] at h
    obtain ⟨hj, h⟩ := jb_if (show (if 0 ≤ x0 ∧ x0 < 5 then κ (i + 1) L (ji (ja_ro x1 x0.toNat) :: S) M else none) = some r from h)
    have k1 := Nat.eq_of_beq_eq_true k1
    have hc : x1 = ja_RO ∨ x1 = ja_RO + 1 := by
      rcases Nat.lt_or_ge x1 176 with q | q
      · exact jk_110 x1 q k1
      · rw [jk_out x1 q] at k1
        cases k1
    have hro : ∀ c j, jb_ok (ji (ja_ro c j)) := by
      intro c j
      unfold ja_ro jb_ok
      simp only
      split
      · split <;> decide
      · split <;> decide
    have w := (hκ _ _ _ _ h).2 ad H locs ls I (List.forall_mem_cons.mpr ⟨hro _ _, hS⟩)
    rw [hn] at w
    obtain ⟨g1, g2⟩ := jn_in (n := 5) hj.1 hj.2 (by decide)
    rcases hc with rfl | rfl
    · obtain ⟨n1, n2⟩ := nA ja_RO (by decide) (by decide)
      refine va_sld hx hb I.1.2.2.2.2.2.1 n2 n1 I.1.2.2.1 g1 hd ?_
      rw [g2]
      exact w
    · obtain ⟨n1, n2⟩ := nA (ja_RO + 1) (by decide) (by decide)
      refine va_sld hx hb I.1.2.2.2.2.2.2.1 n2 n1 I.1.2.2.1 g1 hd ?_
      rw [g2]
      exact w
  rw [Bool.not_eq_true] at k1
  have h : cond (Nat.beq (ja_kd x1).1 110) (if 0 ≤ x0 ∧ x0 < 5 then κ (i + 1) L (ji (ja_ro x1 x0.toNat) :: S) M else none) (cond (Nat.beq (ja_kd x1).1 111) (if 0 ≤ x0 ∧ x0 < M 0 4 then κ (i + 1) L (ji (M x1 x0.toNat) :: S) M else none) none) = some r := h
  rw [k1] at h
  obtain ⟨k2, h⟩ := jb_cond (show cond (Nat.beq (ja_kd x1).1 111) (if 0 ≤ x0 ∧ x0 < M 0 4 then κ (i + 1) L (ji (M x1 x0.toNat) :: S) M else none) none = some r from h)
  obtain ⟨hj, h⟩ := jb_if h
  have k2 := Nat.eq_of_beq_eq_true k2
  have hc : x1 = ja_RO + 2 := by
    rcases Nat.lt_or_ge x1 176 with q | q
    · exact jk_111 x1 q k2
    · rw [jk_out x1 q] at k2
      cases k2
  subst hc
  have ov : jb_ok (ji (M (ja_RO + 2) x0.toNat)) := jb_numI (I.2.2.1.1 _ _ (by decide)) (by rfl)
  have w := (hκ _ _ _ _ h).2 ad H locs ls I (List.forall_mem_cons.mpr ⟨ov, hS⟩)
  rw [hn] at w
  obtain ⟨n1, n2⟩ := nA (ja_RO + 2) (by decide) (by decide)
  have hb4 := I.2.2.1.2.2.2.2.1
  have g : vp_in (Int32.ofInt x0) (M 0 4).toNat ∧ (Int32.ofInt x0).toNatClampNeg = x0.toNat := by
    obtain ⟨k, rfl⟩ : ∃ k : Nat, x0 = (k : Int) := ⟨x0.toNat, by omega⟩
    rw [jn_nat, Int.toNat_natCast]
    exact ⟨nI_in (by omega) (by omega), nI_clamp (by omega)⟩
  refine va_sld hx hb I.1.2.2.2.2.2.2.2.1 n2 n1 I.1.2.2.1 g.1 hd ?_
  rw [g.2]
  exact w

set_option maxHeartbeats 4000000 in
theorem jw_bald : jb_SH jh_bald jc_bald := by
  intro p l e R s m args below meth c Q G φ z d C0 S0 ad0 lim0 E a i L S M κ r F EO CP ck h hκ hR ad H locs ls I hS
  obtain ⟨⟨hx, hb, hml, hown, hts⟩, ⟨hK, hA⟩, ⟨hfr, hlo⟩, hin, hao⟩ := F
  rcases S with _ | ⟨x0 | x0 | x0, _ | ⟨x1 | x1 | x1, S⟩⟩ <;> first | (cases h; done) | skip
  obtain ⟨o0, hS1⟩ := List.forall_mem_cons.mp hS
  replace hS := (List.forall_mem_cons.mp hS1).2
  clear hS1
  obtain ⟨hd, hn⟩ := jc_d_of ck
  obtain ⟨hc0, hk9⟩ := jb_cond h
  obtain ⟨hj, hk9⟩ := jb_if hk9
  obtain ⟨hokc, hkd⟩ := jb_and hc0
  have hkd := Nat.eq_of_beq_eq_true hkd
  obtain ⟨h1, h2, h3⟩ := jb_okc hokc I.2.2.1
  obtain ⟨k, rfl⟩ : ∃ k, x1 = k + 1 := ⟨x1 - 1, by omega⟩
  have hat := jb_at (G := G) (φ := φ) (ad := ad) (M := M) h1 h2
  rw [jb_e1 hkd] at hat
  obtain ⟨g1, g2⟩ := jn_in hj.1 hj.2 (jk_len _ h3)
  have ov : jb_ok (ji (M (k + 1) x0.toNat)) := jb_numI (I.2.2.1.1 _ _ h1) (jb_lngA hkd (Or.inr (Or.inl rfl)))
  have w := (hκ _ _ _ _ hk9).2 ad H locs ls I (List.forall_mem_cons.mpr ⟨ov, hS⟩)
  rw [hn] at w
  refine va_zald hx hb hK I.1.1 k 1 hat rfl g1 hd ?_
  rw [g2]
  exact w

set_option maxHeartbeats 4000000 in
theorem jw_lald : jb_SH jh_lald jc_lald := by
  intro p l e R s m args below meth c Q G φ z d C0 S0 ad0 lim0 E a i L S M κ r F EO CP ck h hκ hR ad H locs ls I hS
  obtain ⟨⟨hx, hb, hml, hown, hts⟩, ⟨hK, hA⟩, ⟨hfr, hlo⟩, hin, hao⟩ := F
  rcases S with _ | ⟨x0 | x0 | x0, _ | ⟨x1 | x1 | x1, S⟩⟩ <;> first | (cases h; done) | skip
  obtain ⟨o0, hS1⟩ := List.forall_mem_cons.mp hS
  replace hS := (List.forall_mem_cons.mp hS1).2
  clear hS1
  obtain ⟨hd, hn⟩ := jc_d_of ck
  obtain ⟨hc0, hk9⟩ := jb_cond h
  obtain ⟨hj, hk9⟩ := jb_if hk9
  obtain ⟨hokc, hkd⟩ := jb_and hc0
  have hkd := Nat.eq_of_beq_eq_true hkd
  obtain ⟨h1, h2, h3⟩ := jb_okc hokc I.2.2.1
  obtain ⟨k, rfl⟩ : ∃ k, x1 = k + 1 := ⟨x1 - 1, by omega⟩
  have hat := jb_at (G := G) (φ := φ) (ad := ad) (M := M) h1 h2
  rw [jb_e2 hkd] at hat
  obtain ⟨g1, g2⟩ := jn_in hj.1 hj.2 (jk_len _ h3)
  have ov : jb_ok (jl (M (k + 1) x0.toNat)) := jb_numL (I.2.2.1.1 _ _ h1) (jb_lng2 hkd)
  have w := (hκ _ _ _ _ hk9).2 ad H locs ls I (List.forall_mem_cons.mpr ⟨ov, hS⟩)
  rw [hn] at w
  refine va_lald hx hb hK I.1.1 k 2 hat rfl g1 hd ?_
  rw [g2]
  exact w

set_option maxHeartbeats 4000000 in
theorem jw_aald : jb_SH jh_aald jc_aald := by
  intro p l e R s m args below meth c Q G φ z d C0 S0 ad0 lim0 E a i L S M κ r F EO CP ck h hκ hR ad H locs ls I hS
  obtain ⟨⟨hx, hb, hml, hown, hts⟩, ⟨hK, hA⟩, ⟨hfr, hlo⟩, hin, hao⟩ := F
  rcases S with _ | ⟨x0 | x0 | x0, _ | ⟨x1 | x1 | x1, S⟩⟩ <;> first | (cases h; done) | skip
  obtain ⟨o0, hS1⟩ := List.forall_mem_cons.mp hS
  replace hS := (List.forall_mem_cons.mp hS1).2
  clear hS1
  obtain ⟨hd, hn⟩ := jc_d_of ck
  obtain ⟨hc0, hk9⟩ := jb_cond h
  obtain ⟨hj, hk9⟩ := jb_if hk9
  obtain ⟨hokc, hkd⟩ := jb_and hc0
  have hkd := Nat.eq_of_beq_eq_true hkd
  obtain ⟨h1, h2, h3⟩ := jb_okc hokc I.2.2.1
  obtain ⟨k, rfl⟩ : ∃ k, x1 = k + 1 := ⟨x1 - 1, by omega⟩
  have hat := jb_at (G := G) (φ := φ) (ad := ad) (M := M) h1 h2
  rw [jb_e3 hkd] at hat
  obtain ⟨g1, g2⟩ := jn_in hj.1 hj.2 (jk_len _ h3)
  have w := (hκ _ _ _ _ hk9).2 ad H locs ls I (List.forall_mem_cons.mpr ⟨trivial, hS⟩)
  rw [hn] at w
  refine va_alda hx hb hK I.1.1 k 3 hat rfl g1 hd ?_
  have e : va_rf (if (Int32.ofInt x0).toNatClampNeg < (ja_kd (k + 1)).2 then some (ad (k + 1 + 1 + (Int32.ofInt x0).toNatClampNeg)) else none) = jb_v ad (jr (k + 1 + 1 + x0.toNat)) := by
    rw [g2, if_pos (by omega), show k + 1 + 1 + x0.toNat = (k + 1 + x0.toNat) + 1 by omega]
    rfl
  rw [e]
  exact w

set_option maxHeartbeats 4000000 in
theorem jw_iast : jb_SH jh_iast jc_iast := by
  intro p l e R s m args below meth c Q G φ z d C0 S0 ad0 lim0 E a i L S M κ r F EO CP ck h hκ hR ad H locs ls I hS
  obtain ⟨⟨hx, hb, hml, hown, hts⟩, ⟨hK, hA⟩, ⟨hfr, hlo⟩, hin, hao⟩ := F
  rcases S with _ | ⟨x0 | x0 | x0, _ | ⟨x1 | x1 | x1, _ | ⟨x2 | x2 | x2, S⟩⟩⟩ <;> first | (cases h; done) | skip
  obtain ⟨o0, hS1⟩ := List.forall_mem_cons.mp hS
  replace hS := (List.forall_mem_cons.mp (List.forall_mem_cons.mp hS1).2).2
  clear hS1
  have h : ja_ast φ M x2 x1 x0 (fun M => κ (i + 1) L S M) = some r := h
  unfold ja_ast at h
  obtain ⟨hd, hn⟩ := jc_d_of ck
  obtain ⟨hc0, hk9⟩ := jb_cond h
  obtain ⟨hj, hk9⟩ := jb_if hk9
  obtain ⟨hokc, hkd⟩ := jb_and hc0
  have hkd := Nat.eq_of_beq_eq_true hkd
  obtain ⟨h1, h2, h3⟩ := jb_okc hokc I.2.2.1
  obtain ⟨k, rfl⟩ : ∃ k, x2 = k + 1 := ⟨x2 - 1, by omega⟩
  have hat := jb_at (G := G) (φ := φ) (ad := ad) (M := M) h1 h2
  rw [jb_e0 hkd] at hat
  obtain ⟨g1, g2⟩ := jn_in hj.1 hj.2 (jk_len _ h3)
  have hnum : jb_num (k + 1) x1.toNat x0 := jb_numI' o0 (jb_lngA hkd (Or.inl rfl))
  have hee : jb_e G φ ad (ja_up M (k + 1) x1.toNat x0) (k + 1) = .inl (G.2.1.1, (ja_kd (k + 1)).2, .inl (upd (fun i => Int32.ofInt (M (k + 1) i)) x1.toNat (Int32.ofInt x0))) := by
    rw [jb_e0 hkd]
    have : (fun i => Int32.ofInt (ja_up M (k + 1) x1.toNat x0 (k + 1) i)) = upd (fun i => Int32.ofInt (M (k + 1) i)) x1.toNat (Int32.ofInt x0) := by
      funext j
      unfold upd
      by_cases e : j = x1.toNat
      · subst e
        rw [jb_up_eq, if_pos rfl]
      · rw [jb_up_nej e, if_neg e]
    rw [this]
  obtain ⟨ec, es⟩ := jb_cl_up (M := M) (c := k + 1) (n := x1.toNat) (v := x0) h1
  refine va_iast hx hb hK I.1.1 I.1.2.1 I.1.2.2.1 k 0 hat rfl g1 hd (fun H1 locs1 p1 p2 p3 => ?_)
  rw [g2] at p1 p2
  have w := (hκ _ _ _ _ hk9).2 ad H1 locs1 ls (jb_I_up I h1 h2 h3 hnum (by rw [jb_ppA h3 (by omega)]; exact Nat.zero_le _) hee p1 p2 p3) hS
  rw [hn, ec, es] at w
  exact w

set_option maxHeartbeats 4000000 in
theorem jw_bast : jb_SH jh_bast jc_bast := by
  intro p l e R s m args below meth c Q G φ z d C0 S0 ad0 lim0 E a i L S M κ r F EO CP ck h hκ hR ad H locs ls I hS
  obtain ⟨⟨hx, hb, hml, hown, hts⟩, ⟨hK, hA⟩, ⟨hfr, hlo⟩, hin, hao⟩ := F
  rcases S with _ | ⟨x0 | x0 | x0, _ | ⟨x1 | x1 | x1, _ | ⟨x2 | x2 | x2, S⟩⟩⟩ <;> first | (cases h; done) | skip
  obtain ⟨o0, hS1⟩ := List.forall_mem_cons.mp hS
  replace hS := (List.forall_mem_cons.mp (List.forall_mem_cons.mp hS1).2).2
  clear hS1
  obtain ⟨hd, hn⟩ := jc_d_of ck
  obtain ⟨hc0, hk9⟩ := jb_cond h
  obtain ⟨hj, hk9⟩ := jb_if hk9
  obtain ⟨hokc, hkd⟩ := jb_and hc0
  have hkd := Nat.eq_of_beq_eq_true hkd
  obtain ⟨h1, h2, h3⟩ := jb_okc hokc I.2.2.1
  obtain ⟨k, rfl⟩ : ∃ k, x2 = k + 1 := ⟨x2 - 1, by omega⟩
  have hat := jb_at (G := G) (φ := φ) (ad := ad) (M := M) h1 h2
  rw [jb_e1 hkd] at hat
  obtain ⟨g1, g2⟩ := jn_in hj.1 hj.2 (jk_len _ h3)
  obtain ⟨hB, hk9⟩ := jb_cond hk9
  have hB := jb_isB hB
  have hnar : vp_nar .boolean (Int32.ofInt x0) = Int32.ofInt x0 := by rcases hB with rfl | rfl <;> rfl
  have hnum : jb_num (k + 1) x1.toNat x0 := jb_numI' o0 (jb_lngA hkd (Or.inr (Or.inl rfl)))
  have hee : jb_e G φ ad (ja_up M (k + 1) x1.toNat x0) (k + 1) = .inl (G.2.1.2.1, (ja_kd (k + 1)).2, .inl (upd (fun i => Int32.ofInt (M (k + 1) i)) x1.toNat (Int32.ofInt x0))) := by
    rw [jb_e1 hkd]
    have : (fun i => Int32.ofInt (ja_up M (k + 1) x1.toNat x0 (k + 1) i)) = upd (fun i => Int32.ofInt (M (k + 1) i)) x1.toNat (Int32.ofInt x0) := by
      funext j
      unfold upd
      by_cases e : j = x1.toNat
      · subst e
        rw [jb_up_eq, if_pos rfl]
      · rw [jb_up_nej e, if_neg e]
    rw [this]
  obtain ⟨ec, es⟩ := jb_cl_up (M := M) (c := k + 1) (n := x1.toNat) (v := x0) h1
  refine va_zast hx hb hK I.1.1 I.1.2.1 I.1.2.2.1 k 1 hat rfl g1 hd (fun H1 locs1 p1 p2 p3 => ?_)
  rw [g2, hnar] at p1 p2
  have w := (hκ _ _ _ _ hk9).2 ad H1 locs1 ls (jb_I_up I h1 h2 h3 hnum (by rw [jb_ppA h3 (by omega)]; exact Nat.zero_le _) hee p1 p2 p3) hS
  rw [hn, ec, es] at w
  exact w

theorem updL_eq (f : Nat → Int64) (k : Nat) (x : Int64) (j : Nat) : vp_updL f k x j = if j = k then x else f j := rfl
set_option maxHeartbeats 4000000 in
theorem jw_last : jb_SH jh_last jc_last := by
  intro p l e R s m args below meth c Q G φ z d C0 S0 ad0 lim0 E a i L S M κ r F EO CP ck h hκ hR ad H locs ls I hS
  obtain ⟨⟨hx, hb, hml, hown, hts⟩, ⟨hK, hA⟩, ⟨hfr, hlo⟩, hin, hao⟩ := F
  rcases S with _ | ⟨x0 | x0 | x0, _ | ⟨x1 | x1 | x1, _ | ⟨x2 | x2 | x2, S⟩⟩⟩ <;> first | (cases h; done) | skip
  obtain ⟨o0, hS1⟩ := List.forall_mem_cons.mp hS
  replace hS := (List.forall_mem_cons.mp (List.forall_mem_cons.mp hS1).2).2
  clear hS1
  obtain ⟨hd, hn⟩ := jc_d_of ck
  obtain ⟨hc0, hk9⟩ := jb_cond h
  obtain ⟨hj, hk9⟩ := jb_if hk9
  obtain ⟨hokc, hkd⟩ := jb_and hc0
  have hkd := Nat.eq_of_beq_eq_true hkd
  obtain ⟨h1, h2, h3⟩ := jb_okc hokc I.2.2.1
  obtain ⟨k, rfl⟩ : ∃ k, x2 = k + 1 := ⟨x2 - 1, by omega⟩
  have hat := jb_at (G := G) (φ := φ) (ad := ad) (M := M) h1 h2
  rw [jb_e2 hkd] at hat
  obtain ⟨g1, g2⟩ := jn_in hj.1 hj.2 (jk_len _ h3)
  have hnum : jb_num (k + 1) x1.toNat x0 := jb_numL' o0 (jb_lng2 hkd)
  have hee : jb_e G φ ad (ja_up M (k + 1) x1.toNat x0) (k + 1) = .inl (G.2.1.2.2.1, (ja_kd (k + 1)).2, .inr (.inl (vp_updL (fun i => Int64.ofInt (M (k + 1) i)) x1.toNat (Int64.ofInt x0)))) := by
    rw [jb_e2 hkd]
    have : (fun i => Int64.ofInt (ja_up M (k + 1) x1.toNat x0 (k + 1) i)) = vp_updL (fun i => Int64.ofInt (M (k + 1) i)) x1.toNat (Int64.ofInt x0) := by
      funext j
      rw [updL_eq]
      by_cases e : j = x1.toNat
      · subst e
        rw [jb_up_eq, if_pos rfl]
      · rw [jb_up_nej e, if_neg e]
    rw [this]
  obtain ⟨ec, es⟩ := jb_cl_up (M := M) (c := k + 1) (n := x1.toNat) (v := x0) h1
  refine va_last hx hb hK I.1.1 I.1.2.1 I.1.2.2.1 k 2 hat rfl g1 hd (fun H1 locs1 p1 p2 p3 => ?_)
  rw [g2] at p1 p2
  have w := (hκ _ _ _ _ hk9).2 ad H1 locs1 ls (jb_I_up I h1 h2 h3 hnum (by rw [jb_ppA h3 (by omega)]; exact Nat.zero_le _) hee p1 p2 p3) hS
  rw [hn, ec, es] at w
  exact w

set_option maxHeartbeats 4000000 in
theorem jw_alen : jb_SH jh_alen jc_alen := by
  intro p l e R s m args below meth c Q G φ z d C0 S0 ad0 lim0 E a i L S M κ r F EO CP ck h hκ hR ad H locs ls I hS
  obtain ⟨⟨hx, hb, hml, hown, hts⟩, ⟨hK, hA⟩, ⟨hfr, hlo⟩, hin, hao⟩ := F
  rcases S with _ | ⟨x0 | x0 | x0, S⟩ <;> first | (cases h; done) | skip
  have nA : ∀ k, ja_RO ≤ k → k ≤ ja_RO + 2 → ¬ jb_A G (ad k) ∧ ad k < s.heap.size := by
    intro k k1 k2
    obtain ⟨-, -, -, -, -, ⟨b1, b2, b3⟩, b4⟩ := I.1.2.2.2
    have hk : k = ja_RO ∨ k = ja_RO + 1 ∨ k = ja_RO + 2 := by simp only [ja_RO] at *; omega
    unfold jb_A
    rcases hk with rfl | rfl | rfl
    · exact ⟨by omega, by omega⟩
    · exact ⟨by omega, by omega⟩
    · exact ⟨by omega, by omega⟩
  obtain ⟨hd, hn⟩ := jc_d_of ck
  replace hS := (List.forall_mem_cons.mp hS).2
  have h : ja_aln φ M x0 (fun v => κ (i + 1) L (ji v :: S) M) = some r := h
  unfold ja_aln at h
  by_cases k0 : Nat.beq (ja_kd x0).1 111 = true
  · rw [k0] at h
    have h : κ (i + 1) L (ji (M 0 4) :: S) M = some r := h
    have k0 := Nat.eq_of_beq_eq_true k0
    have hc : x0 = ja_RO + 2 := by
      rcases Nat.lt_or_ge x0 176 with q | q
      · exact jk_111 x0 q k0
      · rw [jk_out x0 q] at k0
        cases k0
    subst hc
    have hb4 := I.2.2.1.2.2.2.2.1
    have w := (hκ _ _ _ _ h).2 ad H locs ls I (List.forall_mem_cons.mpr ⟨(show jb_ok (ji (M 0 4)) by unfold jb_ok; simp only; omega), hS⟩)
    rw [hn] at w
    obtain ⟨n1, n2⟩ := nA (ja_RO + 2) (by decide) (by decide)
    refine va_slen hx hb I.1.2.2.2.2.2.2.2.1 n2 n1 I.1.2.2.1 hd ?_
    have e : Int32.ofNat (M 0 4).toNat = Int32.ofInt (M 0 4) := by
      obtain ⟨k, hk⟩ : ∃ k : Nat, M 0 4 = (k : Int) := ⟨(M 0 4).toNat, by omega⟩
      rw [hk, jn_nat, Int.toNat_natCast]
      rfl
    rw [e]
    exact w
  rw [Bool.not_eq_true] at k0
  rw [k0] at h
  obtain ⟨hc0, hk9⟩ := jb_cond (show cond (ja_okc φ M x0 && (Nat.ble 100 (ja_kd x0).1 && Nat.ble (ja_kd x0).1 103)) (κ (i + 1) L (ji ((ja_kd x0).2 : Int) :: S) M) none = some r from h)
  obtain ⟨hokc, hkd⟩ := jb_and hc0
  obtain ⟨hk1, hk2⟩ := jb_and hkd
  have hk1 := Nat.le_of_ble_eq_true hk1
  have hk2 := Nat.le_of_ble_eq_true hk2
  obtain ⟨h1, h2, h3⟩ := jb_okc hokc I.2.2.1
  obtain ⟨k, rfl⟩ : ∃ k, x0 = k + 1 := ⟨x0 - 1, by omega⟩
  have hlen := jk_len _ h3
  have hat := jb_at (G := G) (φ := φ) (ad := ad) (M := M) h1 h2
  have w := (hκ _ _ _ _ hk9).2 ad H locs ls I (List.forall_mem_cons.mpr ⟨(show jb_ok (ji ((ja_kd (k + 1)).2 : Int)) by unfold jb_ok; simp only; omega), hS⟩)
  rw [hn] at w
  have hk : (ja_kd (k + 1)).1 = 100 ∨ (ja_kd (k + 1)).1 = 101 ∨ (ja_kd (k + 1)).1 = 102 ∨ (ja_kd (k + 1)).1 = 103 := by omega
  rcases hk with q | q | q | q
  · rw [jb_e0 q] at hat
    exact va_alen hx hb hK I.1.1 k 0 hat rfl rfl hd w
  · rw [jb_e1 q] at hat
    exact va_alen hx hb hK I.1.1 k 1 hat rfl rfl hd w
  · rw [jb_e2 q] at hat
    exact va_alen hx hb hK I.1.1 k 2 hat rfl rfl hd w
  · rw [jb_e3 q] at hat
    exact va_alen hx hb hK I.1.1 k 3 hat rfl rfl hd w

set_option maxHeartbeats 4000000 in
theorem jw_iret : jb_SH jh_iret jc_iret := by
  intro p l e R s m args below meth c Q G φ z d C0 S0 ad0 lim0 E a i L S M κ r F EO CP ck h hκ hR ad H locs ls I hS
  obtain ⟨⟨hx, hb, hml, hown, hts⟩, ⟨hK, hA⟩, ⟨hfr, hlo⟩, hin, hao⟩ := F
  rcases S with _ | ⟨x | x | x, _ | ⟨y, S⟩⟩ <;> first | (cases h; done) | skip
  obtain ⟨ck, ct⟩ := jb_and ck
  have ck := of_decide_eq_true ck
  cases h
  exact hR i ad H locs ls L I (fun v hv => by cases hv; exact (List.forall_mem_cons.mp hS).1) (Or.inl ⟨ck, x, rfl, Or.inl (of_decide_eq_true ct)⟩)

set_option maxHeartbeats 4000000 in
theorem jw_zret : jb_SH jh_zret jc_zret := by
  intro p l e R s m args below meth c Q G φ z d C0 S0 ad0 lim0 E a i L S M κ r F EO CP ck h hκ hR ad H locs ls I hS
  obtain ⟨⟨hx, hb, hml, hown, hts⟩, ⟨hK, hA⟩, ⟨hfr, hlo⟩, hin, hao⟩ := F
  rcases S with _ | ⟨x | x | x, _ | ⟨y, S⟩⟩ <;> first | (cases h; done) | skip
  obtain ⟨ck, ct⟩ := jb_and ck
  have ck := of_decide_eq_true ck
  obtain ⟨hB, h⟩ := jb_cond h
  have hB := jb_isB hB
  cases h
  exact hR i ad H locs ls L I (fun v hv => by cases hv; exact (List.forall_mem_cons.mp hS).1) (Or.inl ⟨ck, x, rfl, Or.inr ⟨of_decide_eq_true ct, hB⟩⟩)

set_option maxHeartbeats 4000000 in
theorem jw_lret : jb_SH jh_lret jc_lret := by
  intro p l e R s m args below meth c Q G φ z d C0 S0 ad0 lim0 E a i L S M κ r F EO CP ck h hκ hR ad H locs ls I hS
  obtain ⟨⟨hx, hb, hml, hown, hts⟩, ⟨hK, hA⟩, ⟨hfr, hlo⟩, hin, hao⟩ := F
  rcases S with _ | ⟨x | x | x, _ | ⟨y, S⟩⟩ <;> first | (cases h; done) | skip
  obtain ⟨ck, ct⟩ := jb_and ck
  have ck := of_decide_eq_true ck
  cases h
  exact hR i ad H locs ls L I (fun v hv => by cases hv; exact (List.forall_mem_cons.mp hS).1) (Or.inr (Or.inl ⟨ck, of_decide_eq_true ct, x, rfl⟩))

set_option maxHeartbeats 4000000 in
theorem jw_aret : jb_SH jh_aret jc_aret := by
  intro p l e R s m args below meth c Q G φ z d C0 S0 ad0 lim0 E a i L S M κ r F EO CP ck h hκ hR ad H locs ls I hS
  obtain ⟨⟨hx, hb, hml, hown, hts⟩, ⟨hK, hA⟩, ⟨hfr, hlo⟩, hin, hao⟩ := F
  rcases S with _ | ⟨x | x | x, _ | ⟨y, S⟩⟩ <;> first | (cases h; done) | skip
  obtain ⟨ck, ct⟩ := jb_and ck
  have ck := of_decide_eq_true ck
  obtain ⟨hB, h⟩ := jb_cond h
  cases h
  exact hR i ad H locs ls L I (fun v hv => by cases hv; trivial) (Or.inr (Or.inr (Or.inl ⟨ck, ct, x, rfl⟩)))

set_option maxHeartbeats 4000000 in
theorem jw_vret : jb_SH jh_vret jc_vret := by
  intro p l e R s m args below meth c Q G φ z d C0 S0 ad0 lim0 E a i L S M κ r F EO CP ck h hκ hR ad H locs ls I hS
  obtain ⟨⟨hx, hb, hml, hown, hts⟩, ⟨hK, hA⟩, ⟨hfr, hlo⟩, hin, hao⟩ := F
  rcases S with _ | ⟨y, S⟩ <;> first | (cases h; done) | skip
  obtain ⟨ck, ct⟩ := jb_and ck
  have ck := of_decide_eq_true ck
  cases h
  exact hR i ad H locs ls L I (fun v hv => by cases hv) (Or.inr (Or.inr (Or.inr ⟨ck, of_decide_eq_true ct, rfl⟩)))

set_option maxHeartbeats 4000000 in
theorem jw_mmax : jb_SH jh_mmax (jc_mth 0) := by
  intro p l e R s m args below meth c Q G φ z d C0 S0 ad0 lim0 E a i L S M κ r F EO CP ck h hκ hR ad H locs ls I hS
  obtain ⟨⟨hx, hb, hml, hown, hts⟩, ⟨hK, hA⟩, ⟨hfr, hlo⟩, hin, hao⟩ := F
  rcases S with _ | ⟨x0 | x0 | x0, _ | ⟨x1 | x1 | x1, S⟩⟩ <;> first | (cases h; done) | skip
  obtain ⟨ck, cs⟩ := jb_and ck
  obtain ⟨hd, hn⟩ := jc_d_of ck
  obtain ⟨q, hq, hq2⟩ := List.any_eq_true.mp cs
  obtain ⟨q1, hq2⟩ := jb_and hq2
  obtain ⟨q2, q3⟩ := jb_and hq2
  have hc := jm_in (jt_ok q hq) rfl
  rw [Nat.eq_of_beq_eq_true q1, Nat.eq_of_beq_eq_true q2, Nat.eq_of_beq_eq_true q3] at hc
  obtain ⟨hsz, h⟩ := jb_cond h
  have hsz := Nat.le_of_ble_eq_true hsz
  obtain ⟨o0, hS⟩ := List.forall_mem_cons.mp hS
  obtain ⟨o1, hS⟩ := List.forall_mem_cons.mp hS
  have ov : jb_ok (ji (ja_max x1 x0)) := by unfold ja_max; split <;> assumption
  have w := (hκ _ _ _ _ h).2 ad H locs ls I (List.forall_mem_cons.mpr ⟨ov, hS⟩)
  rw [hn] at w
  have hg : jb_gr M r.2 := (hκ _ _ _ _ h).1
  have hcap : jb_cl M - C0 ≤ R.cells ∧ jb_sl M - S0 ≤ R.slots := by
    obtain ⟨b1, b2⟩ := CP
    have m1 := hg.2.1
    have m2 := hg.2.2.1
    unfold jb_cl jb_sl at *
    omega
  refine va_mmax hx hb (by rw [hml]; exact I.2.1.1.1.symm) hown (hts _ hc) (hts _ jt_s0) (hts _ jt_i) (hts _ jt_c0) (by omega) (by rw [jb_catsum]; omega) hcap.1 hcap.2 hd ?_
  have e : (if Int32.ofInt x1 < Int32.ofInt x0 then Int32.ofInt x0 else Int32.ofInt x1) = Int32.ofInt (ja_max x1 x0) := by
    unfold ja_max
    have := jn_lt o1 o0
    by_cases q : x1 < x0
    · rw [if_pos q, if_pos (this.mpr q)]
    · rw [if_neg q, if_neg (fun w => q (this.mp w))]
  rw [e]
  exact w

set_option maxHeartbeats 4000000 in
theorem jw_mmin : jb_SH jh_mmin (jc_mth 1) := by
  intro p l e R s m args below meth c Q G φ z d C0 S0 ad0 lim0 E a i L S M κ r F EO CP ck h hκ hR ad H locs ls I hS
  obtain ⟨⟨hx, hb, hml, hown, hts⟩, ⟨hK, hA⟩, ⟨hfr, hlo⟩, hin, hao⟩ := F
  rcases S with _ | ⟨x0 | x0 | x0, _ | ⟨x1 | x1 | x1, S⟩⟩ <;> first | (cases h; done) | skip
  obtain ⟨ck, cs⟩ := jb_and ck
  obtain ⟨hd, hn⟩ := jc_d_of ck
  obtain ⟨q, hq, hq2⟩ := List.any_eq_true.mp cs
  obtain ⟨q1, hq2⟩ := jb_and hq2
  obtain ⟨q2, q3⟩ := jb_and hq2
  have hc := jm_in (jt_ok q hq) rfl
  rw [Nat.eq_of_beq_eq_true q1, Nat.eq_of_beq_eq_true q2, Nat.eq_of_beq_eq_true q3] at hc
  obtain ⟨hsz, h⟩ := jb_cond h
  have hsz := Nat.le_of_ble_eq_true hsz
  obtain ⟨o0, hS⟩ := List.forall_mem_cons.mp hS
  obtain ⟨o1, hS⟩ := List.forall_mem_cons.mp hS
  have ov : jb_ok (ji (ja_min x1 x0)) := by unfold ja_min; split <;> assumption
  have w := (hκ _ _ _ _ h).2 ad H locs ls I (List.forall_mem_cons.mpr ⟨ov, hS⟩)
  rw [hn] at w
  have hg : jb_gr M r.2 := (hκ _ _ _ _ h).1
  have hcap : jb_cl M - C0 ≤ R.cells ∧ jb_sl M - S0 ≤ R.slots := by
    obtain ⟨b1, b2⟩ := CP
    have m1 := hg.2.1
    have m2 := hg.2.2.1
    unfold jb_cl jb_sl at *
    omega
  refine va_mmin hx hb (by rw [hml]; exact I.2.1.1.1.symm) hown (hts _ hc) (hts _ jt_s1) (hts _ jt_i) (hts _ jt_c1) (by omega) (by rw [jb_catsum]; omega) hcap.1 hcap.2 hd ?_
  have e : (if Int32.ofInt x0 < Int32.ofInt x1 then Int32.ofInt x0 else Int32.ofInt x1) = Int32.ofInt (ja_min x1 x0) := by
    unfold ja_min
    have := jn_lt o0 o1
    by_cases q : x0 < x1
    · rw [if_pos q, if_pos (this.mpr q)]
    · rw [if_neg q, if_neg (fun w => q (this.mp w))]
  rw [e]
  exact w

set_option maxHeartbeats 4000000 in
theorem jw_mabs : jb_SH jh_mabs (jc_mth 2) := by
  intro p l e R s m args below meth c Q G φ z d C0 S0 ad0 lim0 E a i L S M κ r F EO CP ck h hκ hR ad H locs ls I hS
  obtain ⟨⟨hx, hb, hml, hown, hts⟩, ⟨hK, hA⟩, ⟨hfr, hlo⟩, hin, hao⟩ := F
  rcases S with _ | ⟨x0 | x0 | x0, S⟩ <;> first | (cases h; done) | skip
  obtain ⟨ck, cs⟩ := jb_and ck
  obtain ⟨hd, hn⟩ := jc_d_of ck
  obtain ⟨q, hq, hq2⟩ := List.any_eq_true.mp cs
  obtain ⟨q1, hq2⟩ := jb_and hq2
  obtain ⟨q2, q3⟩ := jb_and hq2
  have hc := jm_in (jt_ok q hq) rfl
  rw [Nat.eq_of_beq_eq_true q1, Nat.eq_of_beq_eq_true q2, Nat.eq_of_beq_eq_true q3] at hc
  obtain ⟨hsz, h⟩ := jb_cond h
  have hsz := Nat.le_of_ble_eq_true hsz
  obtain ⟨o0, hS⟩ := List.forall_mem_cons.mp hS
  have ov : jb_ok (ji (ja_abs x0)) := by unfold ja_abs; split <;> first | assumption | exact jn_w _
  have w := (hκ _ _ _ _ h).2 ad H locs ls I (List.forall_mem_cons.mpr ⟨ov, hS⟩)
  rw [hn] at w
  have hg : jb_gr M r.2 := (hκ _ _ _ _ h).1
  have hcap : jb_cl M - C0 ≤ R.cells ∧ jb_sl M - S0 ≤ R.slots := by
    obtain ⟨b1, b2⟩ := CP
    have m1 := hg.2.1
    have m2 := hg.2.2.1
    unfold jb_cl jb_sl at *
    omega
  refine va_mabs hx hb (by rw [hml]; exact I.2.1.1.1.symm) hown (hts _ hc) (hts _ jt_s2) (hts _ jt_i) (hts _ jt_c2) (by omega) (by rw [jb_catsum]; omega) hcap.1 hcap.2 hd ?_
  have e : (if 0 ≤ Int32.ofInt x0 then Int32.ofInt x0 else 0 - Int32.ofInt x0) = Int32.ofInt (ja_abs x0) := by
    unfold ja_abs
    have : (0 : Int32) ≤ Int32.ofInt x0 ↔ 0 ≤ x0 := jn_le (x := 0) ⟨by decide, by decide⟩ o0
    by_cases q : 0 ≤ x0
    · rw [if_pos q, if_pos (this.mpr q)]
    · rw [if_neg q, if_neg (fun w => q (this.mp w)), jn_sub]
      rfl
  rw [e]
  exact w

set_option maxHeartbeats 4000000 in
theorem jw_lmax : jb_SH jh_lmax (jc_mth 3) := by
  intro p l e R s m args below meth c Q G φ z d C0 S0 ad0 lim0 E a i L S M κ r F EO CP ck h hκ hR ad H locs ls I hS
  obtain ⟨⟨hx, hb, hml, hown, hts⟩, ⟨hK, hA⟩, ⟨hfr, hlo⟩, hin, hao⟩ := F
  rcases S with _ | ⟨x0 | x0 | x0, _ | ⟨x1 | x1 | x1, S⟩⟩ <;> first | (cases h; done) | skip
  obtain ⟨ck, cs⟩ := jb_and ck
  obtain ⟨hd, hn⟩ := jc_d_of ck
  obtain ⟨q, hq, hq2⟩ := List.any_eq_true.mp cs
  obtain ⟨q1, hq2⟩ := jb_and hq2
  obtain ⟨q2, q3⟩ := jb_and hq2
  have hc := jm_in (jt_ok q hq) rfl
  rw [Nat.eq_of_beq_eq_true q1, Nat.eq_of_beq_eq_true q2, Nat.eq_of_beq_eq_true q3] at hc
  obtain ⟨hsz, h⟩ := jb_cond h
  have hsz := Nat.le_of_ble_eq_true hsz
  obtain ⟨o0, hS⟩ := List.forall_mem_cons.mp hS
  obtain ⟨o1, hS⟩ := List.forall_mem_cons.mp hS
  have ov : jb_ok (jl (ja_max x1 x0)) := by unfold ja_max; split <;> assumption
  have w := (hκ _ _ _ _ h).2 ad H locs ls I (List.forall_mem_cons.mpr ⟨ov, hS⟩)
  rw [hn] at w
  have hg : jb_gr M r.2 := (hκ _ _ _ _ h).1
  have hcap : jb_cl M - C0 ≤ R.cells ∧ jb_sl M - S0 ≤ R.slots := by
    obtain ⟨b1, b2⟩ := CP
    have m1 := hg.2.1
    have m2 := hg.2.2.1
    unfold jb_cl jb_sl at *
    omega
  refine va_mmax_long hx hb (by rw [hml]; exact I.2.1.1.1.symm) hown (hts _ hc) (hts _ jt_s3) (hts _ jt_i) (hts _ jt_c3) (by omega) (by rw [jb_catsum]; omega) hcap.1 hcap.2 hd ?_
  have e : (if Int64.ofInt x0 < Int64.ofInt x1 then Int64.ofInt x1 else Int64.ofInt x0) = Int64.ofInt (ja_max x1 x0) := by
    unfold ja_max
    have : Int64.ofInt x0 < Int64.ofInt x1 ↔ x0 < x1 := by rw [Int64.lt_iff_toInt_lt, jn_l o0, jn_l o1]
    rcases Int.lt_trichotomy x0 x1 with q | q | q
    · rw [if_pos (this.mpr q), if_neg (by omega)]
    · subst q
      rw [if_neg (fun w => by have := this.mp w; omega), if_neg (by omega)]
    · rw [if_neg (fun w => by have := this.mp w; omega), if_pos q]
  rw [e]
  exact w

set_option maxHeartbeats 4000000 in
theorem jw_lmin : jb_SH jh_lmin (jc_mth 4) := by
  intro p l e R s m args below meth c Q G φ z d C0 S0 ad0 lim0 E a i L S M κ r F EO CP ck h hκ hR ad H locs ls I hS
  obtain ⟨⟨hx, hb, hml, hown, hts⟩, ⟨hK, hA⟩, ⟨hfr, hlo⟩, hin, hao⟩ := F
  rcases S with _ | ⟨x0 | x0 | x0, _ | ⟨x1 | x1 | x1, S⟩⟩ <;> first | (cases h; done) | skip
  obtain ⟨ck, cs⟩ := jb_and ck
  obtain ⟨hd, hn⟩ := jc_d_of ck
  obtain ⟨q, hq, hq2⟩ := List.any_eq_true.mp cs
  obtain ⟨q1, hq2⟩ := jb_and hq2
  obtain ⟨q2, q3⟩ := jb_and hq2
  have hc := jm_in (jt_ok q hq) rfl
  rw [Nat.eq_of_beq_eq_true q1, Nat.eq_of_beq_eq_true q2, Nat.eq_of_beq_eq_true q3] at hc
  obtain ⟨hsz, h⟩ := jb_cond h
  have hsz := Nat.le_of_ble_eq_true hsz
  obtain ⟨o0, hS⟩ := List.forall_mem_cons.mp hS
  obtain ⟨o1, hS⟩ := List.forall_mem_cons.mp hS
  have ov : jb_ok (jl (ja_min x1 x0)) := by unfold ja_min; split <;> assumption
  have w := (hκ _ _ _ _ h).2 ad H locs ls I (List.forall_mem_cons.mpr ⟨ov, hS⟩)
  rw [hn] at w
  have hg : jb_gr M r.2 := (hκ _ _ _ _ h).1
  have hcap : jb_cl M - C0 ≤ R.cells ∧ jb_sl M - S0 ≤ R.slots := by
    obtain ⟨b1, b2⟩ := CP
    have m1 := hg.2.1
    have m2 := hg.2.2.1
    unfold jb_cl jb_sl at *
    omega
  refine va_mmin_long hx hb (by rw [hml]; exact I.2.1.1.1.symm) hown (hts _ hc) (hts _ jt_s4) (hts _ jt_i) (hts _ jt_c4) (by omega) (by rw [jb_catsum]; omega) hcap.1 hcap.2 hd ?_
  have e : (if Int64.ofInt x0 < Int64.ofInt x1 then Int64.ofInt x0 else Int64.ofInt x1) = Int64.ofInt (ja_min x1 x0) := by
    unfold ja_min
    have : Int64.ofInt x0 < Int64.ofInt x1 ↔ x0 < x1 := by rw [Int64.lt_iff_toInt_lt, jn_l o0, jn_l o1]
    by_cases q : x0 < x1
    · rw [if_pos q, if_pos (this.mpr q)]
    · rw [if_neg q, if_neg (fun w => q (this.mp w))]
  rw [e]
  exact w

set_option maxHeartbeats 4000000 in
theorem jw_objI : jb_SH jh_objI jc_objI := by
  intro p l e R s m args below meth c Q G φ z d C0 S0 ad0 lim0 E a i L S M κ r F EO CP ck h hκ hR ad H locs ls I hS
  obtain ⟨⟨hx, hb, hml, hown, hts⟩, ⟨hK, hA⟩, ⟨hfr, hlo⟩, hin, hao⟩ := F
  rcases S with _ | ⟨x0 | x0 | x0, S⟩ <;> first | (cases h; done) | skip
  obtain ⟨ck, cs⟩ := jb_and ck
  obtain ⟨hd, hn⟩ := jc_d_of ck
  obtain ⟨q, hq, hq2⟩ := List.any_eq_true.mp cs
  obtain ⟨q1, q2⟩ := jb_and hq2
  have hc := jm_in (jo_ok q hq) rfl
  rw [Nat.eq_of_beq_eq_true q1, Nat.eq_of_beq_eq_true q2] at hc
  replace hS := (List.forall_mem_cons.mp hS).2
  obtain ⟨hc0, hk9⟩ := jb_cond h
  obtain ⟨h1, hsz⟩ := jb_and hc0
  have h1 := Nat.le_of_ble_eq_true h1
  have hsz := Nat.le_of_ble_eq_true hsz
  obtain ⟨k, rfl⟩ : ∃ k, x0 = k + 1 := ⟨x0 - 1, by omega⟩
  have w := (hκ _ _ _ _ hk9).2 ad H locs ls I hS
  rw [hn] at w
  refine W.objInit hx hb hown (hts _ hc) (hts _ jo_oiI) (hts _ jo_oiC) rfl (by rw [hml]; exact I.2.1.1.1) rfl hd (by omega) ?_ ?_
  · rw [jb_catsum]
    show 2 * 0 + _ + 12 ≤ _
    omega
  · exact w
