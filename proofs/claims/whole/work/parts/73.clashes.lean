/-! clashes -/
/-- the least of a set of minutes, -1 of none -/
def pv_isMin (C : Int → Prop) (r : Int) : Prop := (r = -1 ∧ ∀ v, ¬ C v) ∨ (C r ∧ ∀ v, C v → r ≤ v)
theorem pv_isMin_u {C : Int → Prop} {r r' : Int} (hC : ∀ v, C v → 0 ≤ v) (h : pv_isMin C r) (h' : pv_isMin C r') : r = r' := by
  rcases h with ⟨a, b⟩ | ⟨a, b⟩ <;> rcases h' with ⟨c, d⟩ | ⟨c, d⟩
  · omega
  · exact absurd c (b _)
  · exact absurd a (d _)
  · have := b _ c
    have := d _ a
    omega
theorem pv_isMin_s {C C' : Int → Prop} {r w : Int} (hC : ∀ v, C v → 0 ≤ v) (hw : 0 ≤ w) (h : pv_isMin C r) (e : ∀ v, C' v ↔ C v ∨ v = w) : pv_isMin C' (if r = -1 then w else if w < r then w else r) := by
  rcases h with ⟨a, b⟩ | ⟨a, b⟩
  · rw [if_pos a]
    refine Or.inr ⟨(e w).mpr (Or.inr rfl), fun v hv => ?_⟩
    rcases (e v).mp hv with q | q
    · exact absurd q (b v)
    · omega
  · have := hC r a
    rw [if_neg (by omega)]
    by_cases q : w < r
    · rw [if_pos q]
      refine Or.inr ⟨(e w).mpr (Or.inr rfl), fun v hv => ?_⟩
      rcases (e v).mp hv with z | z
      · have := b v z
        omega
      · omega
    · rw [if_neg q]
      refine Or.inr ⟨(e r).mpr (Or.inl a), fun v hv => ?_⟩
      rcases (e v).mp hv with z | z
      · exact b v z
      · omega
theorem pv_isMin_c {C C' : Int → Prop} {r : Int} (h : pv_isMin C r) (e : ∀ v, C' v ↔ C v) : pv_isMin C' r := by
  rcases h with ⟨a, b⟩ | ⟨a, b⟩
  · exact Or.inl ⟨a, fun v hv => b v ((e v).mp hv)⟩
  · exact Or.inr ⟨(e r).mpr a, fun v hv => b v ((e v).mp hv)⟩
noncomputable def pv_cl (C : Int → Prop) : Int := @dite Int (∃ r, pv_isMin C r) (Classical.propDecidable _) (fun h => h.choose) (fun _ => -1)
theorem pv_cl_eq {C : Int → Prop} {r : Int} (hC : ∀ v, C v → 0 ≤ v) (h : pv_isMin C r) : pv_cl C = r := by
  have hx : ∃ r, pv_isMin C r := ⟨r, h⟩
  unfold pv_cl
  rw [dif_pos hx]
  exact pv_isMin_u hC hx.choose_spec h
theorem pv_cl_congr {C C' : Int → Prop} (h : ∀ v, C v ↔ C' v) : pv_cl C = pv_cl C' := by
  have : C = C' := funext (fun v => propext (h v))
  rw [this]
/-- two bands clash: at a place of both, within the stay -/
def pv_C (P : Nat) (y : Int) (a a' o o' : Nat → Int) (v : Int) : Prop := ∃ t u, (t < P ∧ u < P) ∧ o t = o' u ∧ pv_ab (a t - a' u) < y ∧ v = ja_max (a t) (a' u)
theorem ja_max_sy (a b : Int) : ja_max a b = ja_max b a := by
  unfold ja_max
  split <;> split <;> omega
theorem pv_C_sy {P : Nat} {y : Int} {a a' o o' : Nat → Int} (v : Int) : pv_C P y a a' o o' v ↔ pv_C P y a' a o' o v := by
  constructor <;> rintro ⟨t, u, ⟨h1, h2⟩, h3, h4, h5⟩ <;> exact ⟨u, t, ⟨h2, h1⟩, h3.symm, by rw [pv_ab_sy]; exact h4, by rw [ja_max_sy]; exact h5⟩
theorem ja_max_b {a b : Int} (ha : 0 ≤ a) : 0 ≤ ja_max a b := by
  unfold ja_max
  split <;> omega
theorem pv_C_0 {P : Nat} {y : Int} {a a' o o' : Nat → Int} (ha : ∀ t, t < P → 0 ≤ a t) (v : Int) (h : pv_C P y a a' o o' v) : 0 ≤ v := by
  obtain ⟨t, u, ⟨h1, h2⟩, h3, h4, h5⟩ := h
  rw [h5]
  exact ja_max_b (ha t h1)
theorem jk_scr {c i : Nat} (h : (77 ≤ c ∧ c ≤ 92) ∨ (101 ≤ c ∧ c ≤ 136) ∨ (22 ≤ c ∧ c ≤ 23)) : jkeep c i = false := by
  have a1 : kT c i = false := by unfold kT; split <;> first | rfl | omega
  have a2 : kH c i = false := by unfold kH; split <;> first | rfl | omega
  have a3 : kO c i = false := by unfold kO; split <;> first | rfl | omega
  have a4 : kW c i = false := by unfold kW; split <;> first | rfl | omega
  have a5 : kP c i = false := by
    unfold kP
    split
    all_goals first | rfl | omega | skip
    cases x : Nat.ble 35 c with
    | false => rfl
    | true =>
      cases z : Nat.ble c 74 with
      | false => rfl
      | true =>
        have := Nat.le_of_ble_eq_true x
        have := Nat.le_of_ble_eq_true z
        omega
  have a6 : kI c i = false := by unfold kI; split <;> first | rfl | omega
  have a7 : kF c i = false := by unfold kF; split <;> first | rfl | omega
  have a8 : kL c i = false := by unfold kL; split <;> first | rfl | omega
  have a9 : kB c i = false := by unfold kB; split <;> first | rfl | omega
  unfold jkeep
  rw [a1, a2, a3, a4, a5, a6, a7, a8, a9]
  rfl
/-- only cells of a kind change -/
def jFr (S : Nat → Prop) (M N : ja_M) : Prop := ∀ c i, ¬ S c → N c i = M c i
theorem jFr.rf {S : Nat → Prop} (M : ja_M) : jFr S M M := fun _ _ _ => rfl
theorem jFr.tr {S : Nat → Prop} {A B C : ja_M} (h : jFr S A B) (k : jFr S B C) : jFr S A C := fun c i q => (k c i q).trans (h c i q)
theorem jFr.up {S : Nat → Prop} {A B : ja_M} (h : jFr S A B) {c i : Nat} {v : Int} (q : S c) : jFr S A (ja_up B c i v) := fun d j r => by
  have ne : d ≠ c := fun e => r (by rw [e]; exact q)
  rw [jb_up_ne ne]
  exact h d j r
theorem jFr.wk {S S' : Nat → Prop} {A B : ja_M} (h : jFr S A B) (k : ∀ c, S c → S' c) : jFr S' A B := fun c i q => h c i (fun x => q (k c x))
theorem jFr.K {S : Nat → Prop} {A B : ja_M} (h : jFr S A B) (k : ∀ c, S c → (77 ≤ c ∧ c ≤ 92) ∨ (101 ≤ c ∧ c ≤ 136) ∨ (22 ≤ c ∧ c ≤ 23)) : jK A B := fun c i q => h c i (fun x => by
  rw [jk_scr (k c x)] at q
  cases q)
theorem jk_79 : ∀ b, b < 6 → ja_kd (79 + b) = (100, 6) := by decide
abbrev sC : Nat → Prop := fun c => 79 ≤ c ∧ c ≤ 84
theorem jFr.kC {A B : ja_M} (h : jFr sC A B) : jK A B := h.K (fun c x => Or.inl ⟨by have := x.1; omega, by have := x.2; omega⟩)
theorem js_look (dd : Nat) {M : ja_M} (hH : jH M) (hO : jO M) : ∃ N, ja_x true (dd + 5) 127 [jr 77] M = some (none, N) ∧ jFr sC M N ∧ ∀ b t : Nat, (b : Int) < M 11 4 → (t : Int) < M 11 3 → N (79 + b) (oX M b t).toNat = aX M b t := by
  have hb0 := hH.b
  obtain ⟨B, hB⟩ : ∃ B : Nat, M 11 4 = (B : Int) := ⟨(M 11 4).toNat, by omega⟩
  obtain ⟨P, hP⟩ : ∃ P : Nat, M 11 3 = (P : Int) := ⟨(M 11 3).toNat, by omega⟩
  rw [f_Clock_lookWhoComesWhen]
  have inner : ∀ (m t b : Nat) (N : ja_M), t + m = P → b < B → jFr sC M N → (∀ u, u < t → N (79 + b) (oX M b u).toNat = aX M b u) → ∃ N', ja_D true (ja_x true (dd + 4)) k_Clock_lookWhoComesWhen 16 [some (jr 77), some (ji (b : Int)), some (ji (pv_lv (M 12) (M 13) (M 32 b) (M 14 b) (M 11 6) (oX M b) t)), some (ji (pv_prev (oX M b) t)), some (ji (t : Int)), none] [] N = ja_D true (ja_x true (dd + 4)) k_Clock_lookWhoComesWhen 2 [some (jr 77), some (ji ((b : Int) + 1)), none, none, none, none] [] N' ∧ jFr sC M N' ∧ (∀ u, u < P → N' (79 + b) (oX M b u).toNat = aX M b u) ∧ ∀ c i, c ≠ 79 + b → N' c i = N c i := by
    intro m
    induction m with
    | zero =>
      intro t b N e hb hf hr
      have : t = P := by omega
      subst this
      refine ⟨N, ?_, hf, hr, fun _ _ _ => rfl⟩
      rw [e_Clock_lookWhoComesWhen_16, js_places, jz_bI, hf.kC 11 3 rfl, hP, if_neg (by omega), ja_w_id (by omega) (by omega)]
    | succ m ih =>
      intro t b N e hb hf hr
      have hbb : (b : Int) < M 11 4 := by omega
      have hv := hO.v hbb
      have hs := (hO.2.2 b hbb).2
      have hk := (hH.2.2.2 b hbb).2
      have hHN : jH N := hH.kp (hf.kC.of jk_H)
      have e3 : N 11 3 = M 11 3 := hf.kC 11 3 rfl
      have e4 : N 11 4 = M 11 4 := hf.kC 11 4 rfl
      have e6 : N 11 6 = M 11 6 := hf.kC 11 6 rfl
      have e12 : N 12 = M 12 := funext (fun i => hf.kC 12 i rfl)
      have e13 : N 13 = M 13 := funext (fun i => hf.kC 13 i rfl)
      have e14 : N 14 b = M 14 b := hf.kC 14 b rfl
      have eo : oX N b t = oX M b t := hf (26 + b) t (by show ¬ (79 ≤ 26 + b ∧ 26 + b ≤ 84); omega)
      have hpl := js_pl (dd + 2) hHN (b := b) (t := t) (by omega) (by omega)
      rw [eo] at hpl
      have hway := js_wayOf dd hHN (b := b) (p := pv_prev (oX M b) t) (q := oX M b t) (by omega) (by rw [e3]; exact pv_prev_pl hv (by omega)) (by rw [e3]; exact Or.inr (hv t (by omega)))
      rw [e12, e13, e14] at hway
      have wy := pv_way_b (pv_st_b hH (pv_prev_pl hv (t := t) (by omega)) (Or.inr (hv t (by omega)))) hk
      have lb := pv_lv_b hH hv hs hk t (by omega)
      have hvt := hv t (by omega)
      have ea : pv_lv (M 12) (M 13) (M 32 b) (M 14 b) (M 11 6) (oX M b) t + pv_st (M 12) (M 13) (pv_prev (oX M b) t) (oX M b t) * M 14 b = aX M b t := rfl
      have el : aX M b t + M 11 6 = pv_lv (M 12) (M 13) (M 32 b) (M 14 b) (M 11 6) (oX M b) (t + 1) := rfl
      have hf2 : jFr sC M (ja_up N (79 + b) (oX M b t).toNat (aX M b t)) := hf.up ⟨by omega, by omega⟩
      obtain ⟨N', g1, g2, g3, g4⟩ := ih (t + 1) b (ja_up N (79 + b) (oX M b t).toNat (aX M b t)) (by omega) hb hf2 (fun u hu => by
        by_cases q : u = t
        · subst q
          exact jb_up_eq
        · have hvu := hv u (by omega)
          rw [jb_up_nej (fun z => q (hO.2.1 b u t hbb (by omega) (by omega) (by show oX M b u = oX M b t; omega)))]
          exact hr u (by omega))
      refine ⟨N', ?_, g2, g3, fun c i hc => (g4 c i hc).trans (jb_up_ne hc)⟩
      rw [e_Clock_lookWhoComesWhen_16, js_places, jz_bI, e3, if_pos (by omega), hpl, jz_bI, hway, jz_bI, js_hasPlace, jz_bI, jz_b0, e3, if_pos hvt, if_pos (by omega), ja_w_id (x := pv_lv (M 12) (M 13) (M 32 b) (M 14 b) (M 11 6) (oX M b) t + _) (by omega) (by omega), ea, show 78 + 1 + ((b : Int)).toNat = 79 + b by omega, jz_ast (n := 6) (jk_79 b (by omega)) (by omega) (by omega) hvt.1 (by omega), f_Hunt_stay_11, jz_bI, jb_up_ne (by omega), e6, ja_w_id (x := aX M b t + M 11 6) (by show _ ≤ pv_arr _ _ _ _ _ _ _ + _; unfold pv_arr; omega) (by show pv_arr _ _ _ _ _ _ _ + _ < _; unfold pv_arr; omega), el, ja_w_id (by omega) (by omega)]
      exact g1
  have outer : ∀ (m b : Nat) (N : ja_M), b + m = B → jFr sC M N → (∀ c u : Nat, c < b → u < P → N (79 + c) (oX M c u).toNat = aX M c u) → ∃ N', ja_D true (ja_x true (dd + 4)) k_Clock_lookWhoComesWhen 2 [some (jr 77), some (ji (b : Int)), none, none, none, none] [] N = some (none, N') ∧ jFr sC M N' ∧ ∀ c u : Nat, c < B → u < P → N' (79 + c) (oX M c u).toNat = aX M c u := by
    intro m
    induction m with
    | zero =>
      intro b N e hf hr
      have : b = B := by omega
      subst this
      refine ⟨N, ?_, hf, hr⟩
      rw [e_Clock_lookWhoComesWhen_2, js_bands, jz_bI, hf.kC 11 4 rfl, hB, if_neg (by omega)]
    | succ m ih =>
      intro b N e hf hr
      have hbb : (b : Int) < M 11 4 := by omega
      have hHN : jH N := hH.kp (hf.kC.of jk_H)
      obtain ⟨N1, g1, g2, g3, g4⟩ := inner P 0 b N (by omega) (by omega) hf (fun u hu => by omega)
      obtain ⟨N', k1, k2, k3⟩ := ih (b + 1) N1 (by omega) g2 (fun c u hc hu => by
        by_cases q : c = b
        · subst q
          exact g3 u hu
        · rw [g4 _ _ (by omega)]
          exact hr c u (by omega) hu)
      refine ⟨N', ?_, k2, k3⟩
      have es : N 32 b = M 32 b := hf.kC 32 b rfl
      rw [e_Clock_lookWhoComesWhen_2, js_bands, jz_bI, hf.kC 11 4 rfl, if_pos hbb, js_startOf (dd + 2) hHN (by rw [hf.kC 11 4 rfl]; omega), jz_bI, show ((b : Int)).toNat = b from rfl, es]
      have g1 : ja_D true (ja_x true (dd + 4)) k_Clock_lookWhoComesWhen 16 [some (jr 77), some (ji (b : Int)), some (ji (M 32 b)), some (ji (-1)), some (ji 0), none] [] N = _ := g1
      rw [g1]
      exact k1
  obtain ⟨N', k1, k2, k3⟩ := outer B 0 M (by omega) (jFr.rf M) (fun c u hc => by omega)
  exact ⟨N', k1, k2, fun b t hb ht => k3 b t (by omega) (by omega)⟩
/-- the class's clash of two bands, the minutes being looked at -/
theorem js_clashOf (dd : Nat) {a b : Nat} {M N : ja_M} (hH : jH M) (hO : jO M) (hf : jFr sC M N) (hc : ∀ b t : Nat, (b : Int) < M 11 4 → (t : Int) < M 11 3 → N (79 + b) (oX M b t).toNat = aX M b t) (ha : (a : Int) < M 11 4) (hb : (b : Int) < M 11 4) : ja_x true (dd + 2) 128 [jr 77, ji (a : Int), ji (b : Int)] N = some (some (ji (pv_cl (pv_C (M 11 3).toNat (M 11 6) (aX M a) (aX M b) (oX M a) (oX M b)))), N) := by
  have hb0 := hH.b
  obtain ⟨P, hP⟩ : ∃ P : Nat, M 11 3 = (P : Int) := ⟨(M 11 3).toNat, by omega⟩
  have eP : (M 11 3).toNat = P := by omega
  have ab : ∀ b : Nat, (b : Int) < M 11 4 → ∀ t : Nat, t < P → 0 ≤ aX M b t ∧ aX M b t ≤ 1700 := fun b hb t ht => pv_arr_b hH (hO.v hb) (hO.2.2 b hb).2 (hH.2.2.2 b hb).2 (by omega)
  have hcb : ∀ b : Nat, (b : Int) < M 11 4 → ∀ p : Nat, p < P → ∃ t, t < P ∧ oX M b t = (p : Int) ∧ N (79 + b) p = aX M b t := fun b hb p hp => by
    obtain ⟨t, ht, e⟩ := jv_perm_surj (hO.perm hb) (by omega) (p := (p : Int)) (by omega)
    have := hc b t hb ht
    have e : oX M b t = (p : Int) := e
    rw [e, show ((p : Int)).toNat = p from rfl] at this
    exact ⟨t, by omega, e, this⟩
  rw [eP, f_Clock_clashOf]
  have e3 : N 11 3 = (P : Int) := (hf.kC 11 3 rfl).trans hP
  have e6 : N 11 6 = M 11 6 := hf.kC 11 6 rfl
  have key : ∀ (m p : Nat) (r : Int), p + m = P → pv_isMin (fun v => ∃ q, q < p ∧ pv_ab (N (79 + a) q - N (79 + b) q) < M 11 6 ∧ v = ja_max (N (79 + a) q) (N (79 + b) q)) r → ∃ r', pv_isMin (fun v => ∃ q, q < P ∧ pv_ab (N (79 + a) q - N (79 + b) q) < M 11 6 ∧ v = ja_max (N (79 + a) q) (N (79 + b) q)) r' ∧ ja_D true (ja_x true (dd + 1)) k_Clock_clashOf 4 [some (jr 77), some (ji (a : Int)), some (ji (b : Int)), some (ji r), some (ji (p : Int)), none, none, none] [] N = some (some (ji r'), N) := by
    intro m
    induction m with
    | zero =>
      intro p r e h
      have : p = P := by omega
      subst this
      refine ⟨r, h, ?_⟩
      rw [e_Clock_clashOf_4, js_places, jz_bI, e3, if_neg (by omega)]
    | succ m ih =>
      intro p r e h
      obtain ⟨t, ht, -, ea⟩ := hcb a ha p (by omega)
      obtain ⟨u, hu, -, eb⟩ := hcb b hb p (by omega)
      have b1 := ab a ha t ht
      have b2 := ab b hb u hu
      have h0 : ∀ v, (∃ q, q < p ∧ pv_ab (N (79 + a) q - N (79 + b) q) < M 11 6 ∧ v = ja_max (N (79 + a) q) (N (79 + b) q)) → 0 ≤ v := fun v ⟨q, hq, _, ev⟩ => by
        obtain ⟨t', ht', -, ea'⟩ := hcb a ha q (by omega)
        rw [ev, ea']
        exact ja_max_b (ab a ha t' ht').1
      have base : ja_D true (ja_x true (dd + 1)) k_Clock_clashOf 4 [some (jr 77), some (ji (a : Int)), some (ji (b : Int)), some (ji r), some (ji (p : Int)), none, none, none] [] N = if pv_ab (N (79 + a) p - N (79 + b) p) < M 11 6 then ja_D true (ja_x true (dd + 1)) k_Clock_clashOf 4 [some (jr 77), some (ji (a : Int)), some (ji (b : Int)), some (ji (if r = -1 then ja_max (N (79 + a) p) (N (79 + b) p) else if ja_max (N (79 + a) p) (N (79 + b) p) < r then ja_max (N (79 + a) p) (N (79 + b) p) else r)), some (ji ((p : Int) + 1)), none, none, none] [] N else ja_D true (ja_x true (dd + 1)) k_Clock_clashOf 4 [some (jr 77), some (ji (a : Int)), some (ji (b : Int)), some (ji r), some (ji ((p : Int) + 1)), none, none, none] [] N := by
        rw [e_Clock_clashOf_4, js_places, jz_bI, e3, if_pos (by omega), if_pos (by omega), show 78 + 1 + ((a : Int)).toNat = 79 + a by omega, jz_ald (n := 6) (jk_79 a (by omega)) (by omega) (by omega) (by omega) (by omega), if_pos (by omega), show 78 + 1 + ((b : Int)).toNat = 79 + b by omega, jz_ald (n := 6) (jk_79 b (by omega)) (by omega) (by omega) (by omega) (by omega), f_Hunt_stay_11, jz_bI, e6, show ((p : Int)).toNat = p from rfl, ja_w_id (x := N (79 + a) p - N (79 + b) p) (by omega) (by omega), jx_abs (by omega), ja_w_id (by omega) (by omega)]
        by_cases q : pv_ab (N (79 + a) p - N (79 + b) p) < M 11 6
        · rw [if_pos q, if_pos q]
          by_cases q2 : r = -1
          · rw [if_pos q2, if_pos q2]
          · rw [if_neg q2, if_neg q2]
            by_cases q3 : ja_max (N (79 + a) p) (N (79 + b) p) < r
            · rw [if_pos q3, if_pos q3]
            · rw [if_neg q3, if_neg q3]
        · rw [if_neg q, if_neg q]
      rw [base]
      by_cases q : pv_ab (N (79 + a) p - N (79 + b) p) < M 11 6
      · rw [if_pos q, show (p : Int) + 1 = ((p + 1 : Nat) : Int) by omega]
        refine ih (p + 1) _ (by omega) (pv_isMin_s h0 (by rw [ea]; exact ja_max_b b1.1) h (fun v => ?_))
        constructor
        · rintro ⟨x, h1, h2, h3⟩
          by_cases z : x = p
          · subst z
            exact Or.inr h3
          · exact Or.inl ⟨x, by omega, h2, h3⟩
        · rintro (⟨x, h1, h2, h3⟩ | h)
          · exact ⟨x, by omega, h2, h3⟩
          · exact ⟨p, by omega, q, h⟩
      · rw [if_neg q, show (p : Int) + 1 = ((p + 1 : Nat) : Int) by omega]
        refine ih (p + 1) _ (by omega) (pv_isMin_c h (fun v => ?_))
        constructor
        · rintro ⟨x, h1, h2, h3⟩
          by_cases z : x = p
          · subst z
            exact absurd h2 q
          · exact ⟨x, by omega, h2, h3⟩
        · rintro ⟨x, h1, h2, h3⟩
          exact ⟨x, by omega, h2, h3⟩
  obtain ⟨r, hr, e⟩ := key P 0 (-1) (by omega) (Or.inl ⟨rfl, fun v ⟨q, hq, _⟩ => by omega⟩)
  have e : ja_D true (ja_x true (dd + 1)) k_Clock_clashOf 4 [some (jr 77), some (ji (a : Int)), some (ji (b : Int)), some (ji (-1)), some (ji 0), none, none, none] [] N = some (some (ji r), N) := e
  rw [e]
  have h2 : pv_isMin (pv_C P (M 11 6) (aX M a) (aX M b) (oX M a) (oX M b)) r := pv_isMin_c hr (fun v => by
    constructor
    · rintro ⟨t, u, ⟨ht, hu⟩, h1, h2, h3⟩
      have hvt := hO.v ha t (by omega)
      have g1 := hc a t ha (by omega)
      have g2 := hc b u hb (by omega)
      rw [← h1] at g2
      exact ⟨(oX M a t).toNat, by omega, by rw [g1, g2]; exact h2, by rw [g1, g2]; exact h3⟩
    · rintro ⟨p, hp, h2, h3⟩
      obtain ⟨t, ht, et, ea⟩ := hcb a ha p hp
      obtain ⟨u, hu, eu, eb⟩ := hcb b hb p hp
      rw [ea, eb] at h2 h3
      exact ⟨t, u, ⟨ht, hu⟩, et.trans eu.symm, h2, h3⟩)
  rw [pv_cl_eq (pv_C_0 (fun t ht => (ab a ha t ht).1)) h2]
theorem js_R_clashOf (dd : Nat) {a b : Nat} {M : ja_M} (hH : jH M) (ha : (a : Int) < M 11 4) (hb : (b : Int) < M 11 4) (hva : ∀ u : Nat, (u : Int) < M 11 3 → 0 ≤ oR M a u ∧ oR M a u < M 11 3) (hsa : 0 ≤ M 155 a ∧ M 155 a ≤ 99) (hvb : ∀ u : Nat, (u : Int) < M 11 3 → 0 ≤ oR M b u ∧ oR M b u < M 11 3) (hsb : 0 ≤ M 155 b ∧ M 155 b ≤ 99) : ja_x true (dd + 4) 277 [jr 137, ji (a : Int), ji (b : Int)] M = some (some (ji (pv_cl (pv_C (M 11 3).toNat (M 11 6) (aR M a) (aR M b) (oR M a) (oR M b)))), M) := by
  have hb0 := hH.b
  obtain ⟨P, hP⟩ : ∃ P : Nat, M 11 3 = (P : Int) := ⟨(M 11 3).toNat, by omega⟩
  have eP : (M 11 3).toNat = P := by omega
  have ab1 : ∀ t : Nat, t < P → 0 ≤ aR M a t ∧ aR M a t ≤ 1700 := fun t ht => pv_arr_b hH hva hsa (hH.2.2.2 a ha).2 (by omega)
  have ab2 : ∀ t : Nat, t < P → 0 ≤ aR M b t ∧ aR M b t ≤ 1700 := fun t ht => pv_arr_b hH hvb hsb (hH.2.2.2 b hb).2 (by omega)
  rw [eP, f_R_clashOf]
  let C : Nat → Nat → Int → Prop := fun t u v => ∃ t' u', (t' < t ∨ (t' = t ∧ u' < u)) ∧ (t' < P ∧ u' < P) ∧ oR M a t' = oR M b u' ∧ pv_ab (aR M a t' - aR M b u') < M 11 6 ∧ v = ja_max (aR M a t') (aR M b u')
  have hC0 : ∀ t u v, C t u v → 0 ≤ v := fun t u v ⟨t', u', _, h1, _, _, ev⟩ => by
    rw [ev]
    exact ja_max_b (ab1 t' h1.1).1
  have inner : ∀ (m u t : Nat) (r : Int), u + m = P → t < P → pv_isMin (C t u) r → ∃ r', pv_isMin (C (t + 1) 0) r' ∧ ja_D true (ja_x true (dd + 3)) k_R_clashOf 10 [some (jr 137), some (ji (a : Int)), some (ji (b : Int)), some (ji r), some (ji (t : Int)), some (ji (u : Int)), none, none] [] M = ja_D true (ja_x true (dd + 3)) k_R_clashOf 4 [some (jr 137), some (ji (a : Int)), some (ji (b : Int)), some (ji r'), some (ji ((t : Int) + 1)), none, none, none] [] M := by
    intro m
    induction m with
    | zero =>
      intro u t r e ht h
      refine ⟨r, pv_isMin_c h (fun v => ?_), ?_⟩
      · constructor
        · rintro ⟨t', u', h1, h2, h3⟩
          exact ⟨t', u', by omega, h2, h3⟩
        · rintro ⟨t', u', h1, h2, h3⟩
          exact ⟨t', u', by omega, h2, h3⟩
      · rw [e_R_clashOf_10, hH.2.1.1, if_neg (by omega), ja_w_id (by omega) (by omega)]
    | succ m ih =>
      intro u t r e ht h
      have b1 := ab1 t ht
      have b2 := ab2 u (by omega)
      have mx : 0 ≤ ja_max (aR M a t) (aR M b u) := ja_max_b b1.1
      have cnd : ja_max (aR M a t) (aR M b u) < ja_min (aR M a t) (aR M b u) + M 11 6 ↔ pv_ab (aR M a t - aR M b u) < M 11 6 := by
        unfold ja_max ja_min pv_ab
        split <;> split <;> split <;> omega
      have mnb : 0 ≤ ja_min (aR M a t) (aR M b u) ∧ ja_min (aR M a t) (aR M b u) ≤ 1700 := by
        unfold ja_min
        split <;> omega
      have c1 := js_comesAt dd hH ha (t := t) (by omega) hva hsa
      have c2 := js_comesAt dd hH hb (t := u) (by omega) hvb hsb
      by_cases q1 : oR M a t = oR M b u ∧ pv_ab (aR M a t - aR M b u) < M 11 6
      · obtain ⟨r', g1, g2⟩ := ih (u + 1) t (if r = -1 then ja_max (aR M a t) (aR M b u) else if ja_max (aR M a t) (aR M b u) < r then ja_max (aR M a t) (aR M b u) else r) (by omega) ht (pv_isMin_s (hC0 t u) mx h (fun v => by
          constructor
          · rintro ⟨t', u', h1, h2, h3⟩
            by_cases z : t' = t ∧ u' = u
            · obtain ⟨rfl, rfl⟩ := z
              exact Or.inr h3.2.2
            · exact Or.inl ⟨t', u', by omega, h2, h3⟩
          · rintro (⟨t', u', h1, h2, h3⟩ | h)
            · exact ⟨t', u', by omega, h2, h3⟩
            · exact ⟨t, u, by omega, ⟨ht, by omega⟩, q1.1, q1.2, h⟩))
        refine ⟨r', g1, ?_⟩
        rw [e_R_clashOf_10, hH.2.1.1, if_pos (by omega), c1, jz_bI, c2, jz_bI, c1, jz_bI, c2, jz_bI, js_of (dd + 2) hH ha (by omega), jz_bI, js_of (dd + 2) hH hb (by omega), jz_bI, if_pos q1.1, hH.2.1.2.2.2, ja_w_id (x := ja_min (aR M a t) (aR M b u) + M 11 6) (by omega) (by omega), if_pos (cnd.mpr q1.2), ja_w_id (by omega) (by omega)]
        rw [show ((u + 1 : Nat) : Int) = (u : Int) + 1 by omega] at g2
        rw [← g2]
        by_cases q2 : r = -1
        · rw [if_pos q2, if_pos q2]
        · rw [if_neg q2, if_neg q2]
          by_cases q3 : ja_max (aR M a t) (aR M b u) < r
          · rw [if_pos q3, if_pos q3]
          · rw [if_neg q3, if_neg q3]
      · obtain ⟨r', g1, g2⟩ := ih (u + 1) t r (by omega) ht (pv_isMin_c h (fun v => by
          constructor
          · rintro ⟨t', u', h1, h2, h3⟩
            by_cases z : t' = t ∧ u' = u
            · obtain ⟨rfl, rfl⟩ := z
              exact absurd ⟨h3.1, h3.2.1⟩ q1
            · exact ⟨t', u', by omega, h2, h3⟩
          · rintro ⟨t', u', h1, h2, h3⟩
            exact ⟨t', u', by omega, h2, h3⟩))
        refine ⟨r', g1, ?_⟩
        rw [show ((u + 1 : Nat) : Int) = (u : Int) + 1 by omega] at g2
        rw [e_R_clashOf_10, hH.2.1.1, if_pos (by omega), c1, jz_bI, c2, jz_bI, c1, jz_bI, c2, jz_bI, js_of (dd + 2) hH ha (by omega), jz_bI, js_of (dd + 2) hH hb (by omega), jz_bI, hH.2.1.2.2.2, ja_w_id (x := ja_min (aR M a t) (aR M b u) + M 11 6) (by omega) (by omega), ja_w_id (by omega) (by omega), ← g2]
        by_cases q2 : oR M a t = oR M b u
        · rw [if_pos q2, if_neg (fun z => q1 ⟨q2, cnd.mp z⟩)]
        · rw [if_neg q2]
  have outer : ∀ (m t : Nat) (r : Int), t + m = P → pv_isMin (C t 0) r → ∃ r', pv_isMin (C P 0) r' ∧ ja_D true (ja_x true (dd + 3)) k_R_clashOf 4 [some (jr 137), some (ji (a : Int)), some (ji (b : Int)), some (ji r), some (ji (t : Int)), none, none, none] [] M = some (some (ji r'), M) := by
    intro m
    induction m with
    | zero =>
      intro t r e h
      have : t = P := by omega
      subst this
      refine ⟨r, h, ?_⟩
      rw [e_R_clashOf_4, hH.2.1.1, hP, if_neg (by omega)]
    | succ m ih =>
      intro t r e h
      obtain ⟨r1, g1, g2⟩ := inner P 0 t r (by omega) (by omega) h
      obtain ⟨r', k1, k2⟩ := ih (t + 1) r1 (by omega) g1
      refine ⟨r', k1, ?_⟩
      rw [show ((t + 1 : Nat) : Int) = (t : Int) + 1 by omega] at k2
      have g2 : ja_D true (ja_x true (dd + 3)) k_R_clashOf 10 [some (jr 137), some (ji (a : Int)), some (ji (b : Int)), some (ji r), some (ji (t : Int)), some (ji 0), none, none] [] M = ja_D true (ja_x true (dd + 3)) k_R_clashOf 4 [some (jr 137), some (ji (a : Int)), some (ji (b : Int)), some (ji r1), some (ji ((t : Int) + 1)), none, none, none] [] M := g2
      rw [e_R_clashOf_4, hH.2.1.1, if_pos (by omega), g2, k2]
  obtain ⟨r, hr, e⟩ := outer P 0 (-1) (by omega) (Or.inl ⟨rfl, fun v ⟨t', u', h1, _⟩ => by omega⟩)
  have e : ja_D true (ja_x true (dd + 3)) k_R_clashOf 4 [some (jr 137), some (ji (a : Int)), some (ji (b : Int)), some (ji (-1)), some (ji 0), none, none, none] [] M = some (some (ji r), M) := e
  rw [e]
  have h2 : pv_isMin (pv_C P (M 11 6) (aR M a) (aR M b) (oR M a) (oR M b)) r := pv_isMin_c hr (fun v => by
    constructor
    · rintro ⟨t, u, h1, h2⟩
      exact ⟨t, u, by omega, h1, h2⟩
    · rintro ⟨t, u, -, h1, h2⟩
      exact ⟨t, u, h1, h2⟩)
  rw [pv_cl_eq (pv_C_0 (fun t ht => (ab1 t ht).1)) h2]
