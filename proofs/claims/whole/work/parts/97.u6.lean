/-! reading: a hunt's places, bands and law, the other side -/
def jFH (M N : ja_M) : Prop := ∀ c i, ¬ (148 ≤ c ∧ c ≤ 150) → ¬ (c = 137 ∧ (i = 3 ∨ i = 4 ∨ (20 ≤ i ∧ i ≤ 23))) → N c i = M c i
theorem jFH.up {M N : ja_M} (h : jFH M N) {c i : Nat} {v : Int} (q : (148 ≤ c ∧ c ≤ 150) ∨ (c = 137 ∧ (i = 3 ∨ i = 4 ∨ (20 ≤ i ∧ i ≤ 23)))) : jFH M (ja_up N c i v) := fun d j x y => by
  have : ¬ (d = c ∧ j = i) := fun e => by
    obtain ⟨rfl, rfl⟩ := e
    rcases q with q | q
    · exact x q
    · exact y q
  rw [jz_up, if_neg this]
  exact h d j x y
theorem tpR.fr {M N : ja_M} {T : Nat → Int} {n : Nat} (h : tpR M T n) (f : jFH M N) : tpR N T n := ⟨(f 137 2 (by omega) (by omega)).trans h.1, fun i hi => (f 138 i (by omega) (by omega)).trans (h.2 i hi)⟩
def rH (D N : ja_M) (pl bl : Int) : Prop := (N 137 20 = pl ∧ N 137 21 = bl ∧ N 137 22 = D 5 5 ∧ N 137 23 = D 5 6) ∧ (∀ j : Nat, (j : Int) < D 5 3 → N 148 j = D 6 j ∧ N 149 j = D 7 j) ∧ ∀ j : Nat, (j : Int) < D 5 4 → N 150 j = D 8 j
theorem hn_put_kp (D : ja_M) (item : Nat) (v : Int) : (hn_put D item v) 4 2 = D 4 2 ∧ (hn_put D item v) 5 3 = D 5 3 ∧ (hn_put D item v) 5 4 = D 5 4 := by
  unfold hn_put
  split <;> exact ⟨rfl, rfl, rfl⟩
theorem hn_val_kp (T : Nat → Int) (n item p : Nat) (D : ja_M) : (hn_val T n item p D).2.2 4 2 = D 4 2 ∧ (hn_val T n item p D).2.2 5 3 = D 5 3 ∧ (hn_val T n item p D).2.2 5 4 = D 5 4 := by
  cases e : (tk T n 2 p).2 with
  | none =>
    rw [hn_val_0 e]
    exact ⟨rfl, rfl, rfl⟩
  | some v =>
    by_cases q : v < ja_ro 173 item ∨ ja_ro 174 item < v
    · rw [hn_val_o e q]
      exact ⟨rfl, rfl, rfl⟩
    · rw [hn_val_i e q]
      exact hn_put_kp D item v
theorem hn_items_kp (T : Nat → Int) (n p : Nat) (k : Int) (D : ja_M) : (hn_items T n k p D).2.2 4 2 = D 4 2 ∧ (hn_items T n k p D).2.2 5 3 = D 5 3 ∧ (hn_items T n k p D).2.2 5 4 = D 5 4 := by
  cases e : hn_it k (sg T n (sk T n p)) with
  | none =>
    rw [hn_items_0 e]
    exact ⟨rfl, rfl, rfl⟩
  | some i =>
    have vk := hn_val_kp T n i (sk T n p + 1) D
    cases hv : hn_val T n i (sk T n p + 1) D with
    | mk r1 rest =>
      obtain ⟨ok, D1⟩ := rest
      rw [hv] at vk
      rw [hn_items_s e hv]
      cases ok with
      | false => exact vk
      | true =>
        rw [if_pos rfl]
        cases e2 : hn_it k (sg T n (sk T n r1)) with
        | none =>
          rw [hn_2_0 e2]
          exact vk
        | some j =>
          rw [hn_2_s e2]
          by_cases z : j = i
          · rw [if_pos z]
            exact vk
          · rw [if_neg z]
            have wk := hn_val_kp T n j (sk T n r1 + 1) D1
            exact ⟨wk.1.trans vk.1, wk.2.1.trans vk.2.1, wk.2.2.trans vk.2.2⟩
/-- a value, the other side -/
theorem js_R_val (dd : Nat) {N : ja_M} {T : Nat → Int} {n p i : Nat} {D : ja_M} {lo hi : Int} (hR : tpR N T n) (hn : n ≤ 160) (hp : p ≤ n) (h4 : N 137 4 = -1) (hlo : ja_ro 173 i = lo) (hhi : ja_ro 174 i = hi) : ∃ (a : Int) (N3 : ja_M), ja_x true (dd + 3) 211 [jr 137, ji lo, ji hi] (atR N p) = some (some (ji a), atR N3 (hn_val T n i p D).1) ∧ ((N3 = N ∧ (hn_val T n i p D).2 = (true, hn_put D i a)) ∨ (N3 = ja_up N 137 4 ((hn_val T n i p D).1 : Int) ∧ (hn_val T n i p D).2.1 = false)) := by
  obtain ⟨g1, g2⟩ := js_R_number dd (lo := lo) (hi := hi) hR hn hp h4
  cases e : (tk T n 2 p).2 with
  | none =>
    obtain ⟨a, ha⟩ := g1 e
    rw [hn_val_0 e]
    exact ⟨a, ja_up N 137 4 ((tk T n 2 p).1 : Int), by rw [ha, ja_up_cm (by omega)], Or.inr ⟨rfl, rfl⟩⟩
  | some v =>
    obtain ⟨k1, k2⟩ := g2 v e
    by_cases q : v < ja_ro 173 i ∨ ja_ro 174 i < v
    · obtain ⟨a, ha⟩ := k1 (by omega)
      rw [hn_val_o e q]
      exact ⟨a, ja_up N 137 4 (((tk T n 2 p).1 - 1 : Nat) : Int), by rw [ha, ja_up_cm (by omega)], Or.inr ⟨rfl, rfl⟩⟩
    · rw [hn_val_i e q]
      exact ⟨v, N, k2 (by omega), Or.inl ⟨rfl, rfl⟩⟩
def kk (a b c : Int) : Int := if c = a then 0 else if c = b then 1 else -1
theorem js_R_kk (dd : Nat) {N : ja_M} {T : Nat → Int} {n r : Nat} (ht : tpok T n) (hR : tpR N T n) (hr : r ≤ n) {a b : Int} (ha : 1 ≤ a) (hb : 1 ≤ b) (K : Int → ja_M → Option ja_R) : ja_bI (ja_x true (dd + 2) 207 [jr 137] (atR N r)) (fun x6 M5 => if x6 = a then K 0 M5 else ja_bI (ja_x true (dd + 2) 207 [jr 137] M5) (fun x8 M7 => if x8 = b then K 1 M7 else K (-1) M7)) = K (kk a b (sg T n (sk T n r))) (atR N (sk T n r)) := by
  have hs := sk_b (T := T) hr
  unfold kk
  rw [js_R_look dd hR ht.1 hr, jz_bI]
  by_cases h1 : sg T n (sk T n r) = a
  · rw [if_pos h1, if_pos ((sr_sg ht a ha).mpr h1)]
  · rw [if_neg h1, if_neg (fun q => h1 ((sr_sg ht a ha).mp q)), js_R_look dd hR ht.1 hs.2, jz_bI, sk_i hr]
    by_cases h2 : sg T n (sk T n r) = b
    · rw [if_pos h2, if_pos ((sr_sg ht b hb).mpr h2)]
    · rw [if_neg h2, if_neg (fun q => h2 ((sr_sg ht b hb).mp q))]
theorem js_R_pstep (dd : Nat) {M0 N : ja_M} {T : Nat → Int} {n p i : Nat} {g : Int} {D : ja_M} (ht : tpok T n) (hi : i = 0 ∨ i = 1) (hg : ja_and (ja_shr g (i : Int)) 1 = 0) (hp : p < n) (hF : jFH M0 N) (hR0 : tpR M0 T n) (h4 : N 137 4 = -1) (hD : hn_ok D) (hc : 1 ≤ D 5 3) (hr : rH D N (D 5 3 - 1) (D 5 4)) : ∃ N', ja_D true (ja_x true (dd + 3)) k_R_placeText 34 [some (jr 137), some (ji g), some (ji (i : Int)), none] [] (atR N p) = ja_D true (ja_x true (dd + 3)) k_R_placeText 34 [some (jr 137), some (ji (ja_or g (ja_shl 1 (i : Int)))), some (ji (kk 120 121 (sg T n (sk T n (hn_val T n i (p + 1) D).1)))), none] [] (atR N' (sk T n (hn_val T n i (p + 1) D).1)) ∧ jFH M0 N' ∧ N' 137 20 = D 5 3 - 1 ∧ (((hn_val T n i (p + 1) D).2.1 = true ∧ N' 137 4 = -1 ∧ rH (hn_val T n i (p + 1) D).2.2 N' (D 5 3 - 1) (D 5 4)) ∨ ((hn_val T n i (p + 1) D).2.1 = false ∧ N' 137 4 = ((hn_val T n i (p + 1) D).1 : Int))) := by
  have hn := ht.1
  have h1 := hD.1
  have hro := hn_ro i (by omega)
  have e2 : (atR N p) 137 3 = (p : Int) := jb_up_eq
  have e4 : (atR N p) 137 4 = -1 := (jb_up_nej (by decide)).trans h4
  obtain ⟨a, N3, g1, g2⟩ := js_R_val dd (i := i) (D := D) (p := p + 1) (lo := 0) (hi := 20) (hR0.fr hF) hn (by omega) h4 (by rw [hro.1, if_neg (by omega)]) (by rw [hro.2]; rcases hi with rfl | rfl <;> rfl)
  have vb := hn_val_b (T := T) (n := n) (p := p + 1) (item := i) (by omega) hD (by unfold hn_can; omega)
  have st := e_R_placeText_34 (ja_x true (dd + 3)) g (i : Int) (atR N p)
  rw [e4, if_pos rfl, if_neg (by omega), f_R_has, hg, if_neg (by decide), jz_bI, if_pos rfl, e2, ja_w_id (by omega) (by omega), ja_up_up, show (p : Int) + 1 = ((p + 1 : Nat) : Int) by omega, g1, jz_bI] at st
  have n20 : N3 137 20 = D 5 3 - 1 := by
    rcases g2 with ⟨rfl, -⟩ | ⟨rfl, -⟩
    · exact hr.1.1
    · exact (jb_up_nej (by decide)).trans hr.1.1
  have f3 : jFH M0 N3 := by
    rcases g2 with ⟨rfl, -⟩ | ⟨rfl, -⟩
    · exact hF
    · exact hF.up (by omega)
  generalize hv : hn_val T n i (p + 1) D = r at st g2 vb
  obtain ⟨r1, ok, D1⟩ := r
  have v1 : r1 ≤ n := vb.1.1
  have m20 : (atR N3 r1) 137 20 = D 5 3 - 1 := (jb_up_nej (by decide)).trans n20
  have b6 : 0 ≤ D 5 3 - 1 ∧ D 5 3 - 1 < 6 := by omega
  rcases hi with rfl | rfl
  · have x20 : (ja_up (atR N3 r1) 148 (D 5 3 - 1).toNat a) 137 20 = D 5 3 - 1 := (jb_up_ne (by decide)).trans m20
    rw [if_pos (by decide), m20, if_pos b6, if_neg (by decide), x20, if_pos b6, if_pos b6, ja_up_self rfl, ja_up_cm (by omega), show ((0 : Nat) : Int) = 0 from rfl] at st
    have f4 : jFH M0 (ja_up N3 148 (D 5 3 - 1).toNat a) := f3.up (by omega)
    refine ⟨ja_up N3 148 (D 5 3 - 1).toNat a, st.trans (js_R_kk (dd + 1) ht (hR0.fr f4) v1 (by decide) (by decide) (fun k M => ja_D true (ja_x true (dd + 3)) k_R_placeText 34 [some (jr 137), some (ji (ja_or g (ja_shl 1 0))), some (ji k), none] [] M)), f4, (jb_up_ne (by decide)).trans n20, ?_⟩
    rcases g2 with ⟨rfl, q⟩ | ⟨rfl, q⟩
    · have q : (ok, D1) = (true, hn_put D 0 a) := q
      cases q
      refine Or.inl ⟨rfl, (jb_up_ne (by decide)).trans h4, hr.1, fun j hj => ?_, hr.2.2⟩
      have hj : (j : Int) < D 5 3 := hj
      show (ja_up N3 148 (D 5 3 - 1).toNat a) 148 j = (ja_up D 6 (D 5 3 - 1).toNat a) 6 j ∧ N3 149 j = D 7 j
      refine ⟨?_, (hr.2.1 j hj).2⟩
      by_cases z : j = (D 5 3 - 1).toNat
      · rw [z, jb_up_eq, jb_up_eq]
      · rw [jb_up_nej z, jb_up_nej z]
        exact (hr.2.1 j hj).1
    · exact Or.inr ⟨q, by rw [jb_up_ne (by decide), jb_up_eq]⟩
  · have s148 : ja_up (atR N3 r1) 148 (D 5 3 - 1).toNat ((atR N3 r1) 148 (D 5 3 - 1).toNat) = atR N3 r1 := ja_up_self rfl
    rw [if_neg (by decide), m20, if_pos b6, if_pos b6, if_pos (by decide), s148, m20, if_pos b6, ja_up_cm (by omega), show ((1 : Nat) : Int) = 1 from rfl] at st
    have f4 : jFH M0 (ja_up N3 149 (D 5 3 - 1).toNat a) := f3.up (by omega)
    refine ⟨ja_up N3 149 (D 5 3 - 1).toNat a, st.trans (js_R_kk (dd + 1) ht (hR0.fr f4) v1 (by decide) (by decide) (fun k M => ja_D true (ja_x true (dd + 3)) k_R_placeText 34 [some (jr 137), some (ji (ja_or g (ja_shl 1 1))), some (ji k), none] [] M)), f4, (jb_up_ne (by decide)).trans n20, ?_⟩
    rcases g2 with ⟨rfl, q⟩ | ⟨rfl, q⟩
    · have q : (ok, D1) = (true, hn_put D 1 a) := q
      cases q
      refine Or.inl ⟨rfl, (jb_up_ne (by decide)).trans h4, hr.1, fun j hj => ?_, hr.2.2⟩
      have hj : (j : Int) < D 5 3 := hj
      show N3 148 j = D 6 j ∧ (ja_up N3 149 (D 5 3 - 1).toNat a) 149 j = (ja_up D 7 (D 5 3 - 1).toNat a) 7 j
      refine ⟨(hr.2.1 j hj).1, ?_⟩
      by_cases z : j = (D 5 3 - 1).toNat
      · rw [z, jb_up_eq, jb_up_eq]
      · rw [jb_up_nej z, jb_up_nej z]
        exact (hr.2.1 j hj).2
    · exact Or.inr ⟨q, by rw [jb_up_ne (by decide), jb_up_eq]⟩
