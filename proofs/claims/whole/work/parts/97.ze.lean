/-! tables: a search where it can be -/
def tG (N N' : ja_M) : Prop := ∀ d i, ¬ (101 ≤ d ∧ d ≤ 122) → d ≠ 172 → ¬ (d = 93 ∧ (i = 6 ∨ i = 7)) → N' d i = N d i
theorem tG.rf (N : ja_M) : tG N N := fun _ _ _ _ _ => rfl
theorem tG.tr {A B C : ja_M} (h : tG A B) (k : tG B C) : tG A C := fun d i a b c => (k d i a b c).trans (h d i a b c)
theorem tG.of {S : Nat → Prop} {A B : ja_M} (h : jFr S A B) (k : ∀ c, S c → 101 ≤ c ∧ c ≤ 122) : tG A B := fun d i a _ _ => h d i (fun q => a (k d q))
theorem tF.g {A B : ja_M} (h : tF A B) : tG A B := fun d i a b c => h d i (fun q => a (by omega)) b (fun q => c ⟨q.1, Or.inl q.2⟩)
theorem tG.h {A B : ja_M} (h : tG A B) (k : jH A) : jH B := k.kp (fun c i q => h c i (fun e => by
  obtain ⟨e1, e2⟩ := e
  have : ∀ c, c ≤ 122 → 101 ≤ c → ∀ i, kH c i = true → False := fun c h1 h2 i q => by
    unfold kH at q
    split at q <;> first | omega | cases q
  exact this c e2 e1 i q) (fun e => by subst e; cases q) (fun e => by obtain ⟨rfl, -⟩ := e; cases q))
theorem js_fillIf (dd : Nat) {P B f most : Nat} {op : Nat → Nat → Nat → Bool} {N : ja_M} (hH : jH N) (hP5 : P ≤ 5) (hB5 : B ≤ 5) (hm : most ≤ 1000) (h1 : 0 < most) (e3 : N 11 3 = (P : Int)) (e4 : N 11 4 = (B : Int)) (e5 : N 11 5 = (f : Int)) (e0 : N 0 0 = 172) (e9 : N 93 4 = 1) (hr : opRel P B N op) (h6 : N 93 6 = 0) (hI : fI P B N (fun _ => 0) (fun _ _ => none)) : ∃ N', ja_x true (dd + 4 + B * (P + 1) + 1) 160 [jr 93, ji (most : Int)] N = some (none, N') ∧ tG N N' ∧ fI P B N' (fun _ => 0) (fun _ _ => none) ∧ fW most 0 (sols P f op B) N N' := by
  have k0 : tG N (ja_up N 93 7 (most : Int)) := fun d i _ _ h => by
    rw [jz_up, if_neg (fun q => h ⟨q.1, Or.inr q.2⟩)]
  have hr0 : opRel P B (ja_up N 93 7 (most : Int)) op := fun b t hb ht => by
    rw [jb_up_ne (by omega)]
    exact hr b t hb ht
  obtain ⟨N1, op', w1, w2, w3, w4⟩ := js_shutW (dd + B * (P + 1)) (f := f) (M := ja_up N 93 7 (most : Int)) (N := ja_up N 93 7 (most : Int)) ((jb_up_ne (by decide)).trans e3) ((jb_up_ne (by decide)).trans e4) hP5 hB5 (jFr.rf _) hr0
  have k1 : tG N N1 := k0.tr (tG.of w2 (fun c q => by have : 103 ≤ c ∧ c ≤ 107 := q; omega))
  have e17 : N1 93 7 = (most : Int) := (w2 93 7 (by decide)).trans jb_up_eq
  have e16 : N1 93 6 = 0 := ((w2 93 6 (by decide)).trans (jb_up_nej (by decide))).trans h6
  have e172 : ∀ i, N1 172 i = N 172 i := fun i => (w2 172 i (by decide)).trans (jb_up_ne (by decide))
  have hI1 : fI P B N1 (fun _ => 0) (fun _ _ => none) := hI.mv hP5 hB5 (fun d i a1 a2 => (w2 d i (fun q => by have : 103 ≤ d ∧ d ≤ 107 := q; omega)).trans (jb_up_ne (by omega)))
  have loop : ∀ (k b : Nat) (N2 : ja_M), b + k = B → jFr s101 N1 N2 → ∃ N', ja_D true (ja_x true (dd + 4 + B * (P + 1))) k_Finds_fillIfItCanBe 7 [some (jr 93), none, some (ji (b : Int))] [] N2 = some (none, N') ∧ tG N N' ∧ fI P B N' (fun _ => 0) (fun _ _ => none) ∧ fW most 0 (sols P f op' B) N N' := by
    intro k
    induction k with
    | zero =>
      intro b N2 hb hf
      have k2 : tG N N2 := k1.tr (tG.of hf (fun c q => by have : c = 101 := q; omega))
      have hC : tC P B f most op' N2 := ⟨(k2 11 3 (by omega) (by omega) (by omega)).trans e3, (k2 11 4 (by omega) (by omega) (by omega)).trans e4, (k2 11 5 (by omega) (by omega) (by omega)).trans e5, (k2 0 0 (by omega) (by omega) (by omega)).trans e0, (k2 93 4 (by omega) (by omega) (by omega)).trans e9, (hf 93 7 (by decide)).trans e17, fun b t hb ht => (hf (103 + b) t (fun q => by have : 103 + b = 101 := q; omega)).trans (w3 b t hb ht)⟩
      obtain ⟨N', g1, g2, g3, g4⟩ := js_fill0 (dd + 2) hP5 hB5 hm h1 hC ((hf 93 6 (by decide)).trans e16) (hI1.mv hP5 hB5 (fun d i a1 a2 => hf d i (fun q => by have : d = 101 := q; omega)))
      refine ⟨N', ?_, k2.tr g2.g, g3, g4.l (fun i => (hf 172 i (by decide)).trans (e172 i))⟩
      rw [show dd + 2 + 2 + B * (P + 1) = dd + 4 + B * (P + 1) by omega] at g1
      have q := f_Hunt_bands_11 (dd + 3 + B * (P + 1)) N2
      rw [show dd + 3 + B * (P + 1) + 1 = dd + 4 + B * (P + 1) by omega] at q
      rw [e_Finds_fillIfItCanBe_7, q, hC.2.1, jz_bI, if_neg (by omega), g1, jz_bV]
    | succ k ih =>
      intro b N2 hb hf
      have k2 : tG N N2 := k1.tr (tG.of hf (fun c q => by have : c = 101 := q; omega))
      obtain ⟨N3, v1, v2⟩ := js_ways2 (dd + 2 + B * (P + 1)) (b := b) (M := N2) (A := op' b) (k2.h hH) ((k2 11 3 (by omega) (by omega) (by omega)).trans e3) hP5 (by omega) (fun t ht => (hf (103 + b) t (fun q => by have : 103 + b = 101 := q; omega)).trans (w3 b t (by omega) ht))
      rw [show dd + 2 + B * (P + 1) + 2 = dd + 4 + B * (P + 1) by omega] at v1
      have q := f_Hunt_bands_11 (dd + 3 + B * (P + 1)) N2
      rw [show dd + 3 + B * (P + 1) + 1 = dd + 4 + B * (P + 1) by omega] at q
      rw [e_Finds_fillIfItCanBe_7, q, (k2 11 4 (by omega) (by omega) (by omega)).trans e4, jz_bI, if_pos (by omega), if_pos (by omega), show ((b : Int)).toNat = b from rfl, show 102 + 1 + b = 103 + b by omega, jk_ck rfl rfl (by rw [jk_rSs (jk_rf (by omega))]; rfl), cond_true, v1, jz_bI]
      by_cases z : ft (op' b) P 0 P (fun _ => true) = 0
      · rw [if_pos z, sols_no (by omega) z]
        have hf3 := hf.tr v2
        refine ⟨N3, rfl, k1.tr (tG.of hf3 (fun c q => by have : c = 101 := q; omega)), hI1.mv hP5 hB5 (fun d i a1 a2 => hf3 d i (fun q => by have : d = 101 := q; omega)), ?_⟩
        exact (fW.nil (N := N3) ((hf3 93 6 (by decide)).trans e16) (Nat.zero_le _)).l (fun i => (hf3 172 i (by decide)).trans (e172 i))
      · rw [if_neg z, ja_w_id (by omega) (by omega)]
        exact ih (b + 1) N3 (by omega) (hf.tr v2)
  obtain ⟨N', g1, g2⟩ := loop B 0 N1 (by omega) (jFr.rf N1)
  refine ⟨N', ?_, ?_⟩
  · rw [show dd + B * (P + 1) + 4 = dd + 4 + B * (P + 1) by omega] at w1
    rw [f_Finds_fillIfItCanBe, w1, jz_bV]
    exact g1
  · rw [sols_E w4]
    exact g2
