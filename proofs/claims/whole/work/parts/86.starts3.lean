/-! starts: the other side, whole -/
theorem js_R_nc (dd : Nat) {M N : ja_M} {x : Nat → Nat} (hH : jH M) (hO : jO M) (kh : jKs kH M N) (ho : ∀ b t : Nat, (b : Int) < M 11 4 → (t : Int) < M 11 3 → oR N b t = oX M b t) (h4 : M 11 4 ≠ 0) (hx : ∀ a : Nat, (a : Int) < M 11 4 → N 155 a = (x a : Int) ∧ x a < 10) : ∃ n, ja_x true (dd + 5) 276 [jr 137, ji 0] N = some (some (ji n), N) ∧ (n = 0 ↔ ∀ j i, i < j → j < (M 11 4).toNat → ¬ pv_meet M j i (x j) (x i)) := by
  have h0 := hH.b
  have hHN := hH.kp kh
  have a3 : N 11 3 = M 11 3 := kh 11 3 rfl
  have a4 : N 11 4 = M 11 4 := kh 11 4 rfl
  have a6 : N 11 6 = M 11 6 := kh 11 6 rfl
  have a12 : N 12 = M 12 := funext fun i => kh 12 i rfl
  have a13 : N 13 = M 13 := funext fun i => kh 13 i rfl
  obtain ⟨n, r, g1, g2, -⟩ := js_R_clashes dd (w := 0) hHN (by omega) (by decide) (fun b hb u hu => by
    rw [ho b u (by omega) (by omega), a3]
    exact hO.v (by omega) u (by omega)) (fun b hb => by
    have := hx b (by omega)
    omega)
  have ea : ∀ a t : Nat, (a : Int) < M 11 4 → (t : Int) < M 11 3 → aR N a t = pv_w M a t + (x a : Int) := fun a t ha ht => by
    show pv_arr (N 12) (N 13) (N 155 a) (N 14 a) (N 11 6) (oR N a) t = _
    rw [a12, a13, kh 14 a rfl, a6, (hx a ha).1, pv_arr_congr (o' := oX M a) (fun u hu => ho a u ha (by omega)), pv_arr_0]
    exact Int.add_comm _ _
  have hcr : ∀ j i : Nat, (j : Int) < M 11 4 → (i : Int) < M 11 4 → (pv_cr N j i = -1 ↔ ¬ pv_meet M j i (x j) (x i)) := fun j i hj hi => by
    have hc0 : ∀ v, pv_C (N 11 3).toNat (N 11 6) (aR N j) (aR N i) (oR N j) (oR N i) v → 0 ≤ v := fun v => pv_C_0 (fun t ht => by
      have := pv_w_b hH hO hj (t := t) (by omega)
      rw [ea j t hj (by omega)]
      omega) v
    rw [show (pv_cr N j i = -1) = (pv_cl (pv_C (N 11 3).toNat (N 11 6) (aR N j) (aR N i) (oR N j) (oR N i)) = -1) from rfl, pv_cl_none hc0, a3, a6]
    constructor
    · rintro h ⟨t, u, y1, y2, y3⟩
      refine h _ ⟨t, u, y1, ?_, ?_, rfl⟩
      · rw [ho j t hj (by omega), ho i u hi (by omega)]
        exact y2
      · rw [ea j t hj (by omega), ea i u hi (by omega)]
        exact y3
    · rintro h v ⟨t, u, y1, y2, y3, -⟩
      rw [ho j t hj (by omega), ho i u hi (by omega)] at y2
      rw [ea j t hj (by omega), ea i u hi (by omega)] at y3
      exact h ⟨t, u, y1, y2, y3⟩
  refine ⟨n, g1, ?_⟩
  rw [g2, a4]
  have n0 : ∀ (p : Prop), 0 ≤ @ite Int p (Classical.propDecidable _) 0 1 := fun p => by split <;> omega
  have hin : ∀ a, 0 ≤ jv_sum (fun b => @ite Int (pv_cr N a b = -1) (Classical.propDecidable _) 0 1) a := fun a => (jv_sum_0iff (fun b => n0 _) a).1
  rw [(jv_sum_0iff hin _).2]
  constructor
  · intro h j i hi hj
    have := (jv_sum_0iff (fun b => n0 _) j).2.mp (h j hj) i hi
    rw [← hcr j i (by omega) (by omega)]
    by_cases z : pv_cr N j i = -1
    · exact z
    · rw [if_neg z] at this
      omega
  · intro h j hj
    refine (jv_sum_0iff (fun b => n0 _) j).2.mpr (fun i hi => ?_)
    rw [if_pos ((hcr j i (by omega) (by omega)).mpr (h j i hi hj))]
def pv_enc2 (l4 l5 : Int) (st : Option (Nat × Nat)) : Prop := match st with
  | none => l4 = -1
  | some x => l4 = (x.2 : Int) ∧ l5 = (x.1 : Int)
theorem js_R_starts (dd : Nat) {M N0 : ja_M} {K B : Nat} {w : Int} (hH : jH M) (hO : jO M) (kk : jK M N0) (hB : M 11 4 = (B : Int)) (hB0 : B ≠ 0) (hB4 : B ≤ 4) (hK : 0 < K) (hK2 : K ≤ 10) : ∃ (l4 l5 : Int) (N : ja_M), ja_D true (ja_x true (dd + 5)) k_R_starts 25 [some (jr 137), some (ji ((K : Int) - 1)), some (ji w), some (ji 1), some (ji 0), none, none, none, none, none, none, none] [] N0 = some (some (ji (if l4 = -1 then l4 else if w = 1 then l4 else l5)), N) ∧ pv_enc2 l4 l5 (jv_it (rw_st (pv_meet M) K B) none 0 (K ^ B)) ∧ (∀ c i, c ≠ 157 → N c i = N0 c i) := by
  have h0 := hH.b
  have hpow : ∀ b, b ≤ 4 → K ^ b ≤ 10000 := fun b hb => by
    refine Nat.le_trans (Nat.pow_le_pow_left hK2 b) ?_
    have : b = 0 ∨ b = 1 ∨ b = 2 ∨ b = 3 ∨ b = 4 := by omega
    rcases this with rfl | rfl | rfl | rfl | rfl <;> decide
  have e28 : N0 137 28 = (B : Int) := (kk.of jk_H 137 28 rfl).trans (hH.2.1.2.1.trans hB)
  -- the starts are saved
  have save : ∀ (m i : Nat) (N : ja_M), i + m = 6 → (∀ c j, c ≠ 157 → N c j = N0 c j) → (∀ j, j < i → N 157 j = N0 155 j) → ∃ N', ja_D true (ja_x true (dd + 5)) k_R_starts 25 [some (jr 137), some (ji ((K : Int) - 1)), some (ji w), some (ji ((K ^ (min i B) : Nat) : Int)), some (ji (i : Int)), none, none, none, none, none, none, none] [] N = ja_D true (ja_x true (dd + 5)) k_R_starts 56 [some (jr 137), some (ji ((K : Int) - 1)), some (ji w), some (ji ((K ^ B : Nat) : Int)), some (ji (-1)), some (ji 0), some (ji 0), none, none, none, none, none] [] N' ∧ (∀ c j, c ≠ 157 → N' c j = N0 c j) ∧ ∀ j, j < 6 → N' 157 j = N0 155 j := by
    intro m
    induction m with
    | zero =>
      intro i N e h1 h2
      obtain rfl : i = 6 := by omega
      refine ⟨N, ?_, h1, h2⟩
      rw [e_R_starts_25, if_neg (by decide), show min 6 B = B by omega]
    | succ m ih =>
      intro i N e h1 h2
      obtain ⟨N', g1, g2⟩ := ih (i + 1) (ja_up N 157 i (N 155 i)) (by omega) (fun c j hc => (jb_up_ne hc).trans (h1 c j hc)) (fun j hj => by
        by_cases z : j = i
        · subst z
          rw [jb_up_eq]
          exact h1 155 j (by decide)
        · rw [jb_up_nej z]
          exact h2 j (by omega))
      refine ⟨N', ?_, g2⟩
      refine Eq.trans ?_ g1
      have hp := hpow (min i B) (by omega)
      rw [e_R_starts_25, if_pos (by omega), if_pos (by omega), if_pos (by omega), show ((i : Int)).toNat = i from rfl, jb_up_ne (by decide), h1 137 28 (by decide), e28, show (K : Int) - 1 + 1 = (K : Int) by omega, ja_w_id (x := (K : Int)) (by omega) (by omega), ja_w_id (x := (i : Int) + 1) (by omega) (by omega), show (i : Int) + 1 = ((i + 1 : Nat) : Int) by omega]
      by_cases q : i < B
      · have hp2 := hpow (i + 1) (by omega)
        rw [if_pos (by omega), show min (i + 1) B = i + 1 by omega, show min i B = i by omega, show ((K ^ i : Nat) : Int) * (K : Int) = ((K ^ (i + 1) : Nat) : Int) by rw [Nat.pow_succ, Int.natCast_mul], ja_w_id (by omega) (by omega)]
      · rw [if_neg (by omega), show min (i + 1) B = B by omega, show min i B = B by omega, Int.mul_one, ja_w_id (by have := hpow B hB4; omega) (by have := hpow B hB4; omega)]
  obtain ⟨N1, s1, s2, s3⟩ := save 6 0 N0 rfl (fun _ _ _ => rfl) (fun j hj => by omega)
  rw [show min 0 B = 0 by omega, Nat.pow_zero] at s1
  -- all rows
  have rows : ∀ (m r : Nat) (N : ja_M) (l4 l5 : Int) (st : Option (Nat × Nat)), r + m = K ^ B → jFr s155 N1 N → (∀ a, B ≤ a → N 155 a = N1 155 a) → pv_enc2 l4 l5 st → ∃ (l4' l5' : Int) (N' : ja_M), ja_D true (ja_x true (dd + 5)) k_R_starts 56 [some (jr 137), some (ji ((K : Int) - 1)), some (ji w), some (ji ((K ^ B : Nat) : Int)), some (ji l4), some (ji l5), some (ji (r : Int)), none, none, none, none, none] [] N = ja_D true (ja_x true (dd + 5)) k_R_starts 129 [some (jr 137), none, some (ji w), none, some (ji l4'), some (ji l5'), some (ji 0), none, none, none, none, none] [] N' ∧ jFr s155 N1 N' ∧ (∀ a, B ≤ a → N' 155 a = N1 155 a) ∧ pv_enc2 l4' l5' (jv_it (rw_st (pv_meet M) K B) st r m) := by
    intro m
    induction m with
    | zero =>
      intro r N l4 l5 st e hf hk he
      refine ⟨l4, l5, N, ?_, hf, hk, he⟩
      rw [e_R_starts_56, if_neg (by omega)]
    | succ m ih =>
      intro r N l4 l5 st e hf hk he
      have hpB := hpow B hB4
      obtain ⟨q', p', N2, g1, g2, g3, g4⟩ := js_R_lay (ja_x true (dd + 5)) hK hK2 (l2 := w) (l3 := ((K ^ B : Nat) : Int)) (l4 := l4) (l5 := l5) (l6 := (r : Int)) B r 0 0 1 N hB4 (by omega) (by omega) (by omega) (by
        rw [Nat.one_mul]
        have : B = 1 ∨ B = 2 ∨ B = 3 ∨ B = 4 := by omega
        rcases this with rfl | rfl | rfl | rfl <;> decide)
      have hf2 : jFr s155 N1 N2 := hf.tr g2
      have hk2 : ∀ a, B ≤ a → N2 155 a = N1 155 a := fun a ha => (g4 a ha).trans (hk a ha)
      rw [Nat.zero_add, Nat.zero_add, Nat.one_mul] at g1
      have e28' : N 137 28 = (B : Int) := (hf 137 28 (by decide)).trans ((s2 137 28 (by decide)).trans e28)
      have sb := rw_s_b hK hK2 B r
      have kh2 : jKs kH M N2 := fun c i z => by
        have c1 : c ≠ 155 := fun y => by subst y; cases z
        have c2 : c ≠ 157 := fun y => by subst y; cases z
        exact (hf2 c i c1).trans ((s2 c i c2).trans (kk.of jk_H c i z))
      obtain ⟨n, n1, n2⟩ := js_R_nc dd (N := N2) (x := fun a => rw_d K B r a) hH hO kh2 (fun b t hb ht => by
        show N2 154 (6 * b + t) = _
        rw [hf2 154 _ (by decide), s2 154 _ (by decide), kk.of jk_O 154 _ rfl]
        exact hO.eq (by omega) (by omega)) (by omega) (fun a ha => ⟨g3 a (by omega), by have := rw_d_b hK B r a; omega⟩)
      rw [show (M 11 4).toNat = B by omega] at n2
      have hstep : ja_D true (ja_x true (dd + 5)) k_R_starts 56 [some (jr 137), some (ji ((K : Int) - 1)), some (ji w), some (ji ((K ^ B : Nat) : Int)), some (ji l4), some (ji l5), some (ji (r : Int)), none, none, none, none, none] [] N = ja_D true (ja_x true (dd + 5)) k_R_starts 72 [some (jr 137), some (ji ((K : Int) - 1)), some (ji w), some (ji ((K ^ B : Nat) : Int)), some (ji l4), some (ji l5), some (ji (r : Int)), some (ji q'), some (ji (rw_s K B r : Int)), some (ji (rw_c K B r : Int)), some (ji p'), some (ji (-1))] [] N2 := by
        rw [e_R_starts_56, if_pos (by omega), e28', ja_w_id (by omega) (by omega)]
        exact g1
      rw [e_R_starts_72, if_pos (by decide), n1, jz_bI, ja_w_id (x := (r : Int) + 1) (by omega) (by omega), show (r : Int) + 1 = ((r + 1 : Nat) : Int) by omega] at hstep
      have sp : jv_it (rw_st (pv_meet M) K B) st r (m + 1) = jv_it (rw_st (pv_meet M) K B) (rw_st (pv_meet M) K B st r) (r + 1) m := by
        rw [Nat.add_comm m 1, jv_it_add]
        rfl
      rw [sp]
      have yes : rw_bet st (rw_s K B r) → n = 0 → ja_D true (ja_x true (dd + 5)) k_R_starts 56 [some (jr 137), some (ji ((K : Int) - 1)), some (ji w), some (ji ((K ^ B : Nat) : Int)), some (ji l4), some (ji l5), some (ji (r : Int)), none, none, none, none, none] [] N = ja_D true (ja_x true (dd + 5)) k_R_starts 56 [some (jr 137), some (ji ((K : Int) - 1)), some (ji w), some (ji ((K ^ B : Nat) : Int)), some (ji (rw_c K B r : Int)), some (ji (rw_s K B r : Int)), some (ji ((r + 1 : Nat) : Int)), none, none, none, none, none] [] N2 → ∃ (l4' l5' : Int) (N' : ja_M), ja_D true (ja_x true (dd + 5)) k_R_starts 56 [some (jr 137), some (ji ((K : Int) - 1)), some (ji w), some (ji ((K ^ B : Nat) : Int)), some (ji l4), some (ji l5), some (ji (r : Int)), none, none, none, none, none] [] N = ja_D true (ja_x true (dd + 5)) k_R_starts 129 [some (jr 137), none, some (ji w), none, some (ji l4'), some (ji l5'), some (ji 0), none, none, none, none, none] [] N' ∧ jFr s155 N1 N' ∧ (∀ a, B ≤ a → N' 155 a = N1 155 a) ∧ pv_enc2 l4' l5' (jv_it (rw_st (pv_meet M) K B) (rw_st (pv_meet M) K B st r) (r + 1) m) := by
        intro b1 b2 b3
        rw [rw_st_p ⟨b1, n2.mp b2⟩]
        obtain ⟨x4, x5, N', y1, y2⟩ := ih (r + 1) N2 _ _ (some (rw_s K B r, rw_c K B r)) (by omega) hf2 hk2 ⟨rfl, rfl⟩
        exact ⟨x4, x5, N', b3.trans y1, y2⟩
      have no : ¬ (rw_bet st (rw_s K B r) ∧ n = 0) → ja_D true (ja_x true (dd + 5)) k_R_starts 56 [some (jr 137), some (ji ((K : Int) - 1)), some (ji w), some (ji ((K ^ B : Nat) : Int)), some (ji l4), some (ji l5), some (ji (r : Int)), none, none, none, none, none] [] N = ja_D true (ja_x true (dd + 5)) k_R_starts 56 [some (jr 137), some (ji ((K : Int) - 1)), some (ji w), some (ji ((K ^ B : Nat) : Int)), some (ji l4), some (ji l5), some (ji ((r + 1 : Nat) : Int)), none, none, none, none, none] [] N2 → ∃ (l4' l5' : Int) (N' : ja_M), ja_D true (ja_x true (dd + 5)) k_R_starts 56 [some (jr 137), some (ji ((K : Int) - 1)), some (ji w), some (ji ((K ^ B : Nat) : Int)), some (ji l4), some (ji l5), some (ji (r : Int)), none, none, none, none, none] [] N = ja_D true (ja_x true (dd + 5)) k_R_starts 129 [some (jr 137), none, some (ji w), none, some (ji l4'), some (ji l5'), some (ji 0), none, none, none, none, none] [] N' ∧ jFr s155 N1 N' ∧ (∀ a, B ≤ a → N' 155 a = N1 155 a) ∧ pv_enc2 l4' l5' (jv_it (rw_st (pv_meet M) K B) (rw_st (pv_meet M) K B st r) (r + 1) m) := by
        intro b1 b3
        rw [rw_st_n (fun z => b1 ⟨z.1, n2.mpr z.2⟩)]
        obtain ⟨x4, x5, N', y1, y2⟩ := ih (r + 1) N2 l4 l5 st (by omega) hf2 hk2 he
        exact ⟨x4, x5, N', b3.trans y1, y2⟩
      cases st with
      | none =>
        have he : l4 = -1 := he
        rw [if_pos he] at hstep
        by_cases z : n = 0
        · rw [if_pos z] at hstep
          exact yes (fun x hx => by cases hx) z hstep
        · rw [if_neg z] at hstep
          exact no (fun y => z y.2) hstep
      | some x =>
        have he4 : l4 = (x.2 : Int) := he.1
        have he5 : l5 = (x.1 : Int) := he.2
        rw [if_neg (by omega)] at hstep
        by_cases q : rw_s K B r < x.1
        · rw [if_pos (by omega)] at hstep
          by_cases z : n = 0
          · rw [if_pos z] at hstep
            exact yes (fun y hy => by cases hy; exact q) z hstep
          · rw [if_neg z] at hstep
            exact no (fun y => z y.2) hstep
        · rw [if_neg (by omega)] at hstep
          exact no (fun y => q (y.1 x rfl)) hstep
  obtain ⟨l4, l5, N2, r1, r2, r3, r4⟩ := rows (K ^ B) 0 N1 (-1) 0 none (by omega) (jFr.rf N1) (fun _ _ => rfl) rfl
  -- the starts come back
  have back : ∀ (m i : Nat) (N : ja_M), i + m = 6 → jFr s155 N1 N → (∀ j, j < i → N 155 j = N0 155 j) → (∀ j, 6 ≤ j → N 155 j = N0 155 j) → ∃ N', ja_D true (ja_x true (dd + 5)) k_R_starts 129 [some (jr 137), none, some (ji w), none, some (ji l4), some (ji l5), some (ji (i : Int)), none, none, none, none, none] [] N = some (some (ji (if l4 = -1 then l4 else if w = 1 then l4 else l5)), N') ∧ jFr s155 N1 N' ∧ ∀ j, N' 155 j = N0 155 j := by
    intro m
    induction m with
    | zero =>
      intro i N e h1 h2 h3
      obtain rfl : i = 6 := by omega
      refine ⟨N, ?_, h1, fun j => ?_⟩
      · rw [e_R_starts_129, if_neg (by decide)]
        by_cases a : l4 = -1
        · rw [if_pos a, if_pos a]
        · rw [if_neg a, if_neg a]
          by_cases b : w = 1
          · rw [if_pos b, if_pos b]
          · rw [if_neg b, if_neg b]
      · by_cases z : j < 6
        · exact h2 j z
        · exact h3 j (by omega)
    | succ m ih =>
      intro i N e h1 h2 h3
      have e157 : N 157 i = N0 155 i := (h1 157 i (by decide)).trans (s3 i (by omega))
      obtain ⟨N', g1, g2⟩ := ih (i + 1) (ja_up N 155 i (N0 155 i)) (by omega) (h1.up rfl) (fun j hj => by
        by_cases z : j = i
        · subst z
          exact jb_up_eq
        · rw [jb_up_nej z]
          exact h2 j (by omega)) (fun j hj => by
        rw [jb_up_nej (by omega)]
        exact h3 j hj)
      refine ⟨N', ?_, g2⟩
      refine Eq.trans ?_ g1
      rw [e_R_starts_129, if_pos (by omega), if_pos (by omega), if_pos (by omega), show ((i : Int)).toNat = i from rfl, e157, ja_w_id (x := (i : Int) + 1) (by omega) (by omega), show (i : Int) + 1 = ((i + 1 : Nat) : Int) by omega]
  obtain ⟨N3, t1, t2, t3⟩ := back 6 0 N2 rfl r2 (fun j hj => by omega) (fun j hj => (r3 j (by omega)).trans (s2 155 j (by decide)))
  refine ⟨l4, l5, N3, s1.trans (r1.trans t1), r4, fun c i hc => ?_⟩
  by_cases z : c = 155
  · subst z
    exact t3 i
  · exact (t2 c i z).trans (s2 c i hc)
theorem jy_p22 : jy_o22 := by
  intro a w ra rw_
  refine jOp.read (fun M hJ => ?_)
  obtain ⟨⟨hT, hH, hO⟩, -⟩ := hJ
  have h0 := hH.b
  have hX := f_X_starts 1999 a w M
  rw [js_isTold 1998, jz_bI, jz_b0] at hX
  have pure : ∀ v, jy_E 130 [jr 1, ji a, ji w] M = some (some (ji v), M) → jy_E 278 [jr 137, ji a, ji w] M = some (some (ji v), M) → ∃ v M1, jy_E 130 [jr 1, ji a, ji w] M = some (some (ji v), M1) ∧ jK M M1 ∧ (∀ i, M1 0 i = M 0 i) ∧ ∃ M2, jy_E 278 [jr 137, ji a, ji w] M1 = some (some (ji v), M2) ∧ jK M1 M2 ∧ (∀ i, M2 0 i = M1 0 i) := fun v h1 h2 => ⟨v, M, h1, jKs.rf M, fun _ => rfl, M, h2, jKs.rf M, fun _ => rfl⟩
  by_cases h1 : 0 < M 11 3
  · rw [if_pos h1] at hX
    have R1 : ∀ N : ja_M, jK M N → jy_E 278 [jr 137, ji a, ji w] N = if 0 ≤ a ∧ a ≤ 9 then if 0 ≤ w ∧ w ≤ 1 then if 4 < M 11 4 then some (some (ji (-1000000)), N) else ja_D true (ja_x true 1999) k_R_starts 25 [some (jr 137), some (ji a), some (ji w), some (ji 1), some (ji 0), none, none, none, none, none, none, none] [] N else some (some (ji (-1)), N) else some (some (ji (-1)), N) := fun N kk => by
      have e28 : N 137 28 = M 11 4 := (kk.of jk_H 137 28 rfl).trans hH.2.1.2.1
      have hR := f_R_starts 1999 a w N
      rw [e28, if_neg (by omega), js_in 1998, jz_bI, jz_b0, js_in 1998, jz_bI, jz_b0, e28] at hR
      exact hR
    have RM := R1 M (jKs.rf M)
    by_cases h2 : 0 ≤ a ∧ a ≤ 9
    · rw [if_neg (by omega), if_pos (by omega)] at hX
      rw [if_pos h2] at RM
      by_cases h3 : 0 ≤ w ∧ w ≤ 1
      · rw [if_neg (by omega), if_neg (by omega), js_bands 1998, jz_bI] at hX
        rw [if_pos h3] at RM
        by_cases h4 : 4 < M 11 4
        · rw [if_pos h4] at hX RM
          exact pure _ hX RM
        · rw [if_neg h4] at hX
          obtain ⟨B, hB⟩ : ∃ B : Nat, M 11 4 = (B : Int) := ⟨(M 11 4).toNat, by omega⟩
          obtain ⟨K, rfl⟩ : ∃ K : Nat, a = (K : Int) - 1 := ⟨(a + 1).toNat, by omega⟩
          obtain ⟨N, g1, g2, g3⟩ := js_seekStarts 1988 (K := K) hH hO hB (by omega) (by omega) (by omega)
          have kk := g2.kE
          obtain ⟨l4, l5, N', k1, k2, k3⟩ := js_R_starts 1994 (K := K) (w := w) hH hO kk hB (by omega) (by omega) (by omega) (by omega)
          have RN := R1 N kk
          rw [if_pos h2, if_pos h3, if_neg h4, k1] at RN
          have hXv : jy_E 130 [jr 1, ji ((K : Int) - 1), ji w] M = some (some (ji (if l4 = -1 then l4 else if w = 1 then l4 else l5)), N) := by
            refine hX.trans ?_
            rw [g1, jz_bV, f_Clock_leastSum, f_Clock_leastRow, jz_bI, jz_bI]
            revert g3 k2
            cases jv_it (rw_st (pv_meet M) K B) none 0 (K ^ B) with
            | none =>
              intro g3 k2
              have k2 : l4 = -1 := k2
              rw [g3.1, g3.2, if_pos k2, k2]
              split <;> rfl
            | some x =>
              intro g3 k2
              have e1 : N 77 6 = (x.1 : Int) := g3.1
              have e2 : N 77 7 = (x.2 : Int) := g3.2
              have e3 : l4 = (x.2 : Int) := k2.1
              have e4 : l5 = (x.1 : Int) := k2.2
              rw [e1, e2, e3, e4]
              by_cases z : w = 0
              · rw [if_pos z, if_neg (show ¬ (x.2 : Int) = -1 by omega), if_neg (by omega)]
              · rw [if_neg z, if_neg (show ¬ (x.2 : Int) = -1 by omega), if_pos (by omega)]
          refine ⟨_, N, hXv, kk, fun i => g2 0 i (fun z => by have := z.1; omega), N', RN, fun c i z => k3 c i (fun y => by subst y; cases z), fun i => k3 0 i (by decide)⟩
      · rw [if_neg h3] at RM
        refine pure _ (hX.trans ?_) RM
        by_cases z : w < 0
        · rw [if_pos z]
        · rw [if_neg z, if_pos (by omega)]
    · rw [if_neg h2] at RM
      refine pure _ (hX.trans ?_) RM
      by_cases z : a < 0
      · rw [if_pos z]
      · rw [if_neg z, if_neg (by omega)]
  · rw [if_neg h1] at hX
    have hR := f_R_starts 1999 a w M
    rw [hH.2.1.2.1, if_pos (by omega)] at hR
    exact pure _ hX hR
