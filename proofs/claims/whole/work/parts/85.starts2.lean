/-! starts: the class, whole -/
theorem js_seekStarts (dd : Nat) {M : ja_M} {K B : Nat} (hH : jH M) (hO : jO M) (hB : M 11 4 = (B : Int)) (hB4 : B ≤ 4) (hK : 0 < K) (hK2 : K ≤ 10) : ∃ N, ja_x true (dd + 11) 131 [jr 77, ji ((K : Int) - 1)] M = some (none, N) ∧ jFr sE M N ∧ pv_enc N (jv_it (rw_st (pv_meet M) K B) none 0 (K ^ B)) := by
  have h0 := hH.b
  have k86 : ∀ b, b < 4 → ja_kd (86 + b) = (100, 4) := by decide
  obtain ⟨N1, l1, l2, l3⟩ := js_look (dd + 5) hH hO
  rw [show dd + 5 + 5 = dd + 10 from rfl] at l1
  have e4 : ∀ N : ja_M, jFr sE M N → N 11 4 = (B : Int) := fun N h => (h.kE.of jk_H 11 4 rfl).trans hB
  have good : ∀ N : ja_M, jFr sE M N ∧ (N 77 5 = (K : Int) - 1 ∧ N 77 6 = -1 ∧ N 77 7 = -1) ∧ (∀ b t : Nat, (b : Int) < M 11 4 → (t : Int) < M 11 3 → N (79 + b) (oX M b t).toNat = aX M b t) → ∀ b a (v : Int), b < 4 → jFr sE M (ja_up N (86 + b) a v) ∧ (ja_up N (86 + b) a v 77 5 = (K : Int) - 1 ∧ ja_up N (86 + b) a v 77 6 = -1 ∧ ja_up N (86 + b) a v 77 7 = -1) ∧ (∀ c t : Nat, (c : Int) < M 11 4 → (t : Int) < M 11 3 → ja_up N (86 + b) a v (79 + c) (oX M c t).toNat = aX M c t) := by
    intro N g b a v hb
    refine ⟨g.1.up ⟨by omega, by omega⟩, ⟨?_, ?_, ?_⟩, fun c t hc ht => ?_⟩
    · rw [jb_up_ne (by omega)]
      exact g.2.1.1
    · rw [jb_up_ne (by omega)]
      exact g.2.1.2.1
    · rw [jb_up_ne (by omega)]
      exact g.2.1.2.2
    · rw [jb_up_ne (by omega)]
      exact g.2.2 c t hc ht
  have inner : ∀ (m a b : Nat) (N : ja_M), a + m = b → b < B → (jFr sE M N ∧ (N 77 5 = (K : Int) - 1 ∧ N 77 6 = -1 ∧ N 77 7 = -1) ∧ (∀ b t : Nat, (b : Int) < M 11 4 → (t : Int) < M 11 3 → N (79 + b) (oX M b t).toNat = aX M b t)) → (∀ j i, i < j → j < b → pv_mask M N j i) → (∀ i, i < a → pv_mask M N b i) → ∃ N', ja_D true (ja_x true (dd + 10)) k_Clock_seekStarts 23 [some (jr 77), none, some (ji (b : Int)), some (ji (a : Int))] [] N = ja_D true (ja_x true (dd + 10)) k_Clock_seekStarts 13 [some (jr 77), none, some (ji ((b : Int) + 1)), none] [] N' ∧ (jFr sE M N' ∧ (N' 77 5 = (K : Int) - 1 ∧ N' 77 6 = -1 ∧ N' 77 7 = -1) ∧ (∀ b t : Nat, (b : Int) < M 11 4 → (t : Int) < M 11 3 → N' (79 + b) (oX M b t).toNat = aX M b t)) ∧ ∀ j i, i < j → j < b + 1 → pv_mask M N' j i := by
    intro m
    induction m with
    | zero =>
      intro a b N e hb g m1 m2
      obtain rfl : a = b := by omega
      refine ⟨N, ?_, g, fun j i hi hj => ?_⟩
      · rw [e_Clock_seekStarts_23, if_neg (by omega), ja_w_id (by omega) (by omega)]
      · by_cases z : j = a
        · subst z
          exact m2 i hi
        · exact m1 j i hi (by omega)
    | succ m ih =>
      intro a b N e hb g m1 m2
      obtain ⟨v, v1, v2, v3⟩ := js_byStarts (dd + 7) (a := b) (b := a) hH hO g.1 g.2.2 (by omega) (by omega)
      rw [show dd + 7 + 3 = dd + 10 from rfl] at v2
      have keep : ∀ j i, (j ≠ b ∨ i ≠ a) → j < 4 → pv_mask M N j i → pv_mask M (ja_up N (86 + b) a (v : Int)) j i := fun j i hji hj ⟨w, w1, w2⟩ => ⟨w, by
        rw [jz_up, if_neg (fun z => hji.elim (fun y => y (by omega)) (fun y => y z.2))]
        exact w1, w2⟩
      obtain ⟨N', g1, g2, g3⟩ := ih (a + 1) b (ja_up N (86 + b) a (v : Int)) (by omega) hb (good N g b a v (by omega)) (fun j i hi hj => keep j i (Or.inl (by omega)) (by omega) (m1 j i hi hj)) (fun i hi => by
        by_cases z : i = a
        · subst z
          refine ⟨v, jb_up_eq, v1, fun x z hx hz => (v3 (9 + x - z) (by omega)).trans ?_⟩
          rw [show ((9 + x - z : Nat) : Int) - 9 = (x : Int) - (z : Int) by omega]
          have ee : ∀ t u : Nat, pv_w M b t + ((x : Int) - (z : Int)) - pv_w M i u = pv_w M b t + (x : Int) - (pv_w M i u + (z : Int)) := fun t u => by omega
          constructor
          · rintro ⟨t, u, y1, y2, y3⟩
            exact ⟨t, u, y1, y2, by rw [← ee]; exact y3⟩
          · rintro ⟨t, u, y1, y2, y3⟩
            exact ⟨t, u, y1, y2, by rw [ee]; exact y3⟩
        · exact keep b i (Or.inr z) (by omega) (m2 i (by omega)))
      refine ⟨N', ?_, g2, g3⟩
      rw [e_Clock_seekStarts_23, if_pos (by omega), if_pos (by omega), show ((b : Int)).toNat = b from rfl, show 85 + 1 + b = 86 + b by omega, jk_ck rfl rfl (by rw [jk_rSs rfl, jk_rSs rfl, jk_rSs rfl, jk_rSs rfl, jk_rSs (jk_rf (by omega))]; rfl), cond_true, v2, jz_bI, jz_ast (n := 4) (k86 b (by omega)) (by omega) (by omega) (by omega) (by omega), show ((a : Int)).toNat = a from rfl, ja_w_id (by omega) (by omega)]
      rw [show ((a + 1 : Nat) : Int) = (a : Int) + 1 by omega] at g1
      exact g1
  have outer : ∀ (m b : Nat) (N : ja_M), b + m = B → (jFr sE M N ∧ (N 77 5 = (K : Int) - 1 ∧ N 77 6 = -1 ∧ N 77 7 = -1) ∧ (∀ b t : Nat, (b : Int) < M 11 4 → (t : Int) < M 11 3 → N (79 + b) (oX M b t).toNat = aX M b t)) → (∀ j i, i < j → j < b → pv_mask M N j i) → ∃ N', ja_D true (ja_x true (dd + 10)) k_Clock_seekStarts 13 [some (jr 77), none, some (ji (b : Int)), none] [] N = some (none, N') ∧ jFr sE M N' ∧ pv_enc N' (jv_it (rw_st (pv_meet M) K B) none 0 (K ^ B)) := by
    intro m
    induction m with
    | zero =>
      intro b N e g m1
      obtain rfl : b = B := by omega
      obtain ⟨N', k1, k2, k3, k4, -⟩ := js_seekStartOf hH g.1 hB hB4 hK hK2 (fun j i hi hj => m1 j i hi hj) (dd + 8 - b) b 0 0 N none (by omega) (jFr.rf N) g.2.1.1 g.2.1.2 (fun a ha => by omega) (fun j i _ hj => by omega)
      rw [show dd + 8 - b + 2 + b = dd + 10 by omega] at k1
      rw [Nat.zero_mul] at k4
      refine ⟨N', ?_, g.1.tr (k2.wk (fun c z => by have : c = 77 ∨ c = 90 := z; exact ⟨by omega, by omega⟩)), k4⟩
      rw [e_Clock_seekStarts_13, js_bands, jz_bI, e4 N g.1, if_neg (by omega)]
      rw [show ja_x true (dd + 10) 133 [jr 77, ji 0, ji 0, ji 0] N = some (none, N') from k1, jz_bV]
    | succ m ih =>
      intro b N e g m1
      obtain ⟨N1, g1, g2, g3⟩ := inner b 0 b N (by omega) (by omega) g m1 (fun i hi => by omega)
      obtain ⟨N', k1, k2, k3⟩ := ih (b + 1) N1 (by omega) g2 g3
      refine ⟨N', ?_, k2, k3⟩
      rw [e_Clock_seekStarts_13, js_bands, jz_bI, e4 N g.1, if_pos (by omega), if_pos (by omega)]
      refine Eq.trans g1 ?_
      rw [show ((b + 1 : Nat) : Int) = (b : Int) + 1 by omega] at k1
      exact k1
  have f1 : jFr sE M N1 := l2.wk (fun c z => ⟨by have := z.1; omega, by have := z.2; omega⟩)
  obtain ⟨N', k1, k2, k3⟩ := outer B 0 (ja_up (ja_up (ja_up N1 77 5 ((K : Int) - 1)) 77 6 (-1)) 77 7 (-1)) (by omega) ⟨((f1.up ⟨by decide, by decide⟩).up ⟨by decide, by decide⟩).up ⟨by decide, by decide⟩, ⟨rfl, rfl, rfl⟩, fun b t hb ht => by
    rw [jb_up_ne (by omega), jb_up_ne (by omega), jb_up_ne (by omega)]
    exact l3 b t hb ht⟩ (fun j i _ hj => by omega)
  refine ⟨N', ?_, k2, k3⟩
  rw [f_Clock_seekStarts, l1, jz_bV]
  exact k1
/-! the other side -/
theorem jv_sum_0iff {f : Nat → Int} (h : ∀ k, 0 ≤ f k) : ∀ n, 0 ≤ jv_sum f n ∧ (jv_sum f n = 0 ↔ ∀ k, k < n → f k = 0)
  | 0 => ⟨Int.le_refl _, fun _ k hk => by omega, fun _ => rfl⟩
  | n + 1 => by
    obtain ⟨h1, h2⟩ := jv_sum_0iff h n
    have h3 := h n
    refine ⟨show 0 ≤ jv_sum f n + f n by omega, ?_⟩
    show jv_sum f n + f n = 0 ↔ _
    constructor
    · intro e k hk
      by_cases z : k = n
      · subst z
        omega
      · exact h2.mp (by omega) k (by omega)
    · intro e
      rw [h2.mpr (fun k hk => e k (by omega)), e n (by omega)]
      rfl
abbrev s155 : Nat → Prop := fun c => c = 155
/-- a row's starts, laid -/
theorem js_R_lay (E : ja_E) {K : Nat} (hK : 0 < K) (hK2 : K ≤ 10) {l2 l3 l4 l5 l6 : Int} : ∀ (b q S R p : Nat) (N : ja_M), b ≤ 4 → q ≤ 100000 → S + 9 * b ≤ 36 → R + 1 ≤ p → p * 10 ^ b ≤ 10000 → ∃ (q' p' : Int) (N' : ja_M), ja_D true E k_R_starts 72 [some (jr 137), some (ji ((K : Int) - 1)), some (ji l2), some (ji l3), some (ji l4), some (ji l5), some (ji l6), some (ji (q : Int)), some (ji (S : Int)), some (ji (R : Int)), some (ji (p : Int)), some (ji ((b : Int) - 1))] [] N = ja_D true E k_R_starts 72 [some (jr 137), some (ji ((K : Int) - 1)), some (ji l2), some (ji l3), some (ji l4), some (ji l5), some (ji l6), some (ji q'), some (ji ((S + rw_s K b q : Nat) : Int)), some (ji ((R + p * rw_c K b q : Nat) : Int)), some (ji p'), some (ji (-1))] [] N' ∧ jFr s155 N N' ∧ (∀ a, a < b → N' 155 a = (rw_d K b q a : Int)) ∧ (∀ a, b ≤ a → N' 155 a = N 155 a)
  | 0, q, S, R, p, N, hb, hq, hS, hR, hp => ⟨q, p, N, rfl, jFr.rf N, fun a ha => by omega, fun a _ => rfl⟩
  | b + 1, q, S, R, p, N, hb, hq, hS, hR, hp => by
    have hd : q % K < 10 := by
      have := Nat.mod_lt q hK
      omega
    have hp1 : p ≤ 10000 := Nat.le_trans (Nat.le_mul_of_pos_right p (Nat.pow_pos (by decide))) hp
    have hpd : p * (q % K) ≤ p * 9 := Nat.mul_le_mul (Nat.le_refl _) (by omega)
    have hq2 : q / K ≤ q := Nat.div_le_self _ _
    have hq3 : (0 : Int) ≤ ((q / K : Nat) : Int) := Int.natCast_nonneg _
    have hp2 : p * 10 * 10 ^ b ≤ 10000 := by
      rw [Nat.pow_succ, Nat.mul_comm (10 ^ b), ← Nat.mul_assoc] at hp
      exact hp
    obtain ⟨q', p', N', g1, g2, g3, g4⟩ := js_R_lay E hK hK2 (l2 := l2) (l3 := l3) (l4 := l4) (l5 := l5) (l6 := l6) b (q / K) (S + q % K) (R + p * (q % K)) (p * 10) (ja_up N 155 b ((q % K : Nat) : Int)) (by omega) (by omega) (by omega) (by omega) hp2
    refine ⟨q', p', N', ?_, jFr.tr (jFr.up (S := s155) (jFr.rf N) rfl) g2, fun a ha => ?_, fun a ha => ?_⟩
    · have es : S + rw_s K (b + 1) q = S + q % K + rw_s K b (q / K) := by
        show S + (rw_s K b (q / K) + q % K) = _
        omega
      have ec : R + p * rw_c K (b + 1) q = R + p * (q % K) + p * 10 * rw_c K b (q / K) := by
        show R + p * (rw_c K b (q / K) * 10 + q % K) = _
        rw [Nat.mul_add, Nat.mul_assoc p 10, Nat.mul_comm 10]
        omega
      rw [es, ec]
      refine Eq.trans ?_ g1
      have is0 : ja_is0 (K : Int) = false := ja_is0_f (by omega)
      rw [e_R_starts_72, if_neg (by omega), show (K : Int) - 1 + 1 = (K : Int) by omega, ja_w_id (x := (K : Int)) (by omega) (by omega), is0, cond_false, cond_false, show ((b + 1 : Nat) : Int) - 1 = (b : Int) by omega, if_pos (by omega), if_pos (by omega), if_pos (by omega), show ((b : Int)).toNat = b from rfl, show ((q : Int)).tmod (K : Int) = ((q % K : Nat) : Int) from rfl, show ((q : Int)).tdiv (K : Int) = ((q / K : Nat) : Int) from rfl, jb_up_eq, ja_w_id (x := ((q / K : Nat) : Int)) (by omega) (by omega), ja_w_id (x := (S : Int) + ((q % K : Nat) : Int)) (by omega) (by omega), show (p : Int) * ((q % K : Nat) : Int) = ((p * (q % K) : Nat) : Int) by rw [Int.natCast_mul], ja_w_id (x := ((p * (q % K) : Nat) : Int)) (by omega) (by omega), ja_w_id (x := (R : Int) + ((p * (q % K) : Nat) : Int)) (by omega) (by omega), ja_w_id (x := (p : Int) * 10) (by omega) (by omega), ja_w_id (x := (b : Int) + -1) (by omega) (by omega), show (b : Int) + -1 = (b : Int) - 1 by omega, show (S : Int) + ((q % K : Nat) : Int) = ((S + q % K : Nat) : Int) by omega, show (R : Int) + ((p * (q % K) : Nat) : Int) = ((R + p * (q % K) : Nat) : Int) by omega, show (p : Int) * 10 = ((p * 10 : Nat) : Int) by omega]
    · show _ = ((if a = b then q % K else rw_d K b (q / K) a : Nat) : Int)
      by_cases z : a = b
      · subst z
        rw [if_pos rfl, g4 a (Nat.le_refl _), jb_up_eq]
      · rw [if_neg z]
        exact g3 a (by omega)
    · rw [g4 a (by omega), jb_up_nej (by omega)]
