/-! fault and text -/
theorem wM_fr {M : ja_M} {ws : List Int} {r c i : Nat} (h1 : ¬ (c = 2 ∧ i = 2)) (h2 : ¬ (c = 9 ∧ i = 2)) (h3 : c ≠ 10) : (atX (wM M ws) r) c i = M c i := by
  show ja_up (wM M ws) 2 2 (r : Int) c i = M c i
  rw [jz_up, if_neg h1]
  unfold wM
  rw [if_neg h2, if_neg (fun q => h3 q.1)]
theorem wM_K {M : ja_M} {ws : List Int} {r : Nat} : jK M (atX (wM M ws) r) := fun c i q => wM_fr (fun e => by
  obtain ⟨rfl, rfl⟩ := e
  cases q) (fun e => by
  obtain ⟨rfl, rfl⟩ := e
  cases q) (fun e => by
  subst e
  cases q)
theorem rF3_4K {A B : ja_M} (h : rF3 A 4 B) : jK A B := fun c i q => h c i (fun e => by
  obtain ⟨rfl, e⟩ := e
  rcases e with rfl | rfl | rfl | rfl <;> cases q) (fun e => by
  have b : Nat.blt i 1360 = false := by
    cases z : Nat.blt i 1360 with
    | false => rfl
    | true =>
      have := Nat.le_of_ble_eq_true z
      omega
  obtain ⟨e1, e2⟩ := e
  rcases e1 with rfl | rfl
  · have q : (false || (false || (false || (Nat.blt i 1360 || (false || (false || (false || (false || false)))))))) = true := q
    rw [b] at q
    cases q
  · have q : (false || (false || (false || (Nat.blt i 1360 || (false || (false || (false || (false || false)))))))) = true := q
    rw [b] at q
    cases q) (fun e => by
  obtain ⟨e1, rfl⟩ := e
  rcases e1 with rfl | rfl <;> cases q) (fun e => by
  have b : Nat.blt i 360 = false := by
    cases z : Nat.blt i 360 with
    | false => rfl
    | true =>
      have := Nat.le_of_ble_eq_true z
      omega
  obtain ⟨e1, e2⟩ := e
  have e1 : c = 143 ∨ c = 144 ∨ c = 145 := by omega
  rcases e1 with rfl | rfl | rfl
  · have q : (false || (false || (false || (Nat.blt i 360 || (false || (false || (false || (false || false)))))))) = true := q
    rw [b] at q
    cases q
  · have q : (false || (false || (false || (Nat.blt i 360 || (false || (false || (false || (false || false)))))))) = true := q
    rw [b] at q
    cases q
  · have q : (false || (false || (false || (Nat.blt i 360 || (false || (false || (false || (false || false)))))))) = true := q
    rw [b] at q
    cases q)
theorem jy_fault1 : jOp (jy_E 19 [jr 1, ji 1]) (jy_E 205 [jr 137, ji 1]) := by
  refine jOp.read (fun M hJ => ?_)
  obtain ⟨⟨hT, hH, hO⟩, -⟩ := hJ
  obtain ⟨ws', r, g1, g2⟩ := js_X_worth 1937 hT
  have hX := f_X_fault 1999 1 M
  rw [if_neg (by decide), if_pos rfl, show ja_x true 1999 39 [jr 9] M = _ from g1, jz_bI] at hX
  have kk : jK M (atX (wM M ws') r) := wM_K
  obtain ⟨N', k1, k2, -⟩ := js_R_worth 1937 (t := 4) hT (hn_tr hT (kk 137 2 rfl) (fun i => kk 138 i rfl)) (by decide)
  have hR := f_R_fault 1999 1 (atX (wM M ws') r)
  rw [if_neg (by decide), if_pos rfl, show ja_x true 1999 217 [jr 137, ji 4] (atX (wM M ws') r) = _ from k1, jz_bI] at hR
  refine ⟨_, _, hX, kk, fun i => wM_fr (by omega) (by omega) (by decide), N', hR, rF3_4K k2, fun i => k2 0 i (by omega) (by omega) (by omega) (by omega)⟩
theorem jy_p2 : jy_o2 := by
  intro a _
  by_cases h0 : a = 0
  · subst h0
    exact jy_fault0
  · by_cases h1 : a = 1
    · subst h1
      exact jy_fault1
    · refine jOp.pure (fun M _ => ⟨-2, ?_, ?_⟩)
      · have := f_X_fault 1999 a M
        rw [if_neg h0, if_neg h1] at this
        exact this
      · have := f_R_fault 1999 a M
        rw [if_neg h0, if_neg h1] at this
        exact this
/-! a worth kept -/
theorem rM_code {N : ja_M} {t d : Nat} : ∀ (c pre post cs : jw_C), cs = pre ++ (c ++ post) → jw_code (rM N t d cs) t pre.length c
  | [], _, _, _, _ => trivial
  | (o, v) :: r, pre, post, cs, e => by
    have hl : pre.length < cs.length := by
      rw [e, List.length_append, List.length_append, List.length_cons]
      omega
    have hg : cs.getD pre.length (0, 0) = (o, v) := by
      rw [e, List.getD_eq_getElem?_getD, List.getElem?_append_right (Nat.le_refl _), Nat.sub_self]
      rfl
    have h1 : (rM N t d cs) 139 (340 * t + pre.length) = (o : Int) := by
      unfold rM
      rw [if_neg (fun q => by omega), if_neg (fun q => by omega), if_pos ⟨rfl, by omega, by omega⟩, show 340 * t + pre.length - 340 * t = pre.length by omega, hg]
    have h2 : (rM N t d cs) 140 (340 * t + pre.length) = v := by
      unfold rM
      rw [if_neg (fun q => by omega), if_neg (fun q => by omega), if_neg (fun q => by omega), if_pos ⟨rfl, by omega, by omega⟩, show 340 * t + pre.length - 340 * t = pre.length by omega, hg]
    refine ⟨⟨h1, h2⟩, ?_⟩
    have := rM_code (N := N) (t := t) (d := d) r (pre ++ [(o, v)]) post cs (by rw [e]; simp)
    rw [List.length_append, List.length_singleton] at this
    exact this
theorem rM_mod {N : ja_M} {t d : Nat} : ∀ (S : jw_S) (pre cs : jw_C) (c : Nat), md N t c pre.length S → cs = pre ++ wflat S → jw_mod (rM N t d cs) t c pre.length S
  | [], _, _, _, _, _ => trivial
  | (a, b) :: r, pre, cs, c, hm, e => by
    refine ⟨hm.1, rM_code (a ++ b) pre (wflat r) cs e, ?_⟩
    have := rM_mod (N := N) (t := t) (d := d) r (pre ++ (a ++ b)) cs (c + 1) (by
      rw [List.length_append, List.length_append, ← Nat.add_assoc]
      exact hm.2) (by
      rw [e, List.append_assoc]
      rfl)
    rw [List.length_append, List.length_append, ← Nat.add_assoc] at this
    exact this
theorem tx_k {c i : Nat} (h : c = 2 ∨ c = 9 ∨ c = 10 ∨ c = 15 ∨ (17 ≤ c ∧ c ≤ 21) ∨ (139 ≤ c ∧ c ≤ 145)) : kH c i = false ∧ kO c i = false ∧ kP c i = false ∧ kI c i = false ∧ kF c i = false ∧ kL c i = false ∧ kB c i = false := by
  have : c = 2 ∨ c = 9 ∨ c = 10 ∨ c = 15 ∨ c = 17 ∨ c = 18 ∨ c = 19 ∨ c = 20 ∨ c = 21 ∨ c = 139 ∨ c = 140 ∨ c = 141 ∨ c = 142 ∨ c = 143 ∨ c = 144 ∨ c = 145 := by omega
  rcases this with rfl | rfl | rfl | rfl | rfl | rfl | rfl | rfl | rfl | rfl | rfl | rfl | rfl | rfl | rfl | rfl <;> exact ⟨rfl, rfl, rfl, rfl, rfl, rfl, rfl⟩
theorem tx_137 {i : Nat} (h : i = 2 ∨ i = 3 ∨ i = 4 ∨ i = 5 ∨ i = 13 ∨ i = 14) : kH 137 i = false ∧ kO 137 i = false ∧ kP 137 i = false ∧ kI 137 i = false ∧ kF 137 i = false ∧ kL 137 i = false ∧ kB 137 i = false := by
  rcases h with rfl | rfl | rfl | rfl | rfl | rfl <;> exact ⟨rfl, rfl, rfl, rfl, rfl, rfl, rfl⟩
/-- what a text of worths may change -/
def tx_fr (M N : ja_M) : Prop := ∀ c i, ¬ (c = 2 ∨ c = 9 ∨ c = 10 ∨ c = 15 ∨ (17 ≤ c ∧ c ≤ 21) ∨ (139 ≤ c ∧ c ≤ 145)) → ¬ (c = 137 ∧ (i = 2 ∨ i = 3 ∨ i = 4 ∨ i = 5 ∨ i = 13 ∨ i = 14)) → N c i = M c i
theorem tx_fr.k {M N : ja_M} (h : tx_fr M N) : jKs kH M N ∧ jKs kO M N ∧ jKs kP M N ∧ jKs kI M N ∧ jKs kF M N ∧ jKs kL M N ∧ jKs kB M N := by
  have key : ∀ κ : Nat → Nat → Bool, (∀ c i, (c = 2 ∨ c = 9 ∨ c = 10 ∨ c = 15 ∨ (17 ≤ c ∧ c ≤ 21) ∨ (139 ≤ c ∧ c ≤ 145)) → κ c i = false) → (∀ i, (i = 2 ∨ i = 3 ∨ i = 4 ∨ i = 5 ∨ i = 13 ∨ i = 14) → κ 137 i = false) → jKs κ M N := fun κ h1 h2 c i q => h c i (fun e => by
    rw [h1 c i e] at q
    cases q) (fun e => by
    obtain ⟨rfl, e⟩ := e
    rw [h2 i e] at q
    cases q)
  exact ⟨key kH (fun c i e => (tx_k e).1) (fun i e => (tx_137 e).1), key kO (fun c i e => (tx_k e).2.1) (fun i e => (tx_137 e).2.1), key kP (fun c i e => (tx_k e).2.2.1) (fun i e => (tx_137 e).2.2.1), key kI (fun c i e => (tx_k e).2.2.2.1) (fun i e => (tx_137 e).2.2.2.1), key kF (fun c i e => (tx_k e).2.2.2.2.1) (fun i e => (tx_137 e).2.2.2.2.1), key kL (fun c i e => (tx_k e).2.2.2.2.2.1) (fun i e => (tx_137 e).2.2.2.2.2.1), key kB (fun c i e => (tx_k e).2.2.2.2.2.2) (fun i e => (tx_137 e).2.2.2.2.2.2)⟩
theorem jJ_tx {M N : ja_M} (h : jJ M) (f : tx_fr M N) (hT : jT N) (hW : jW N) : jJ N := by
  obtain ⟨⟨h1, h2, h3⟩, ⟨h4, h5, h6⟩, h7, h8, h9⟩ := h
  obtain ⟨k1, k2, k3, k4, k5, k6, k7⟩ := f.k
  exact ⟨⟨hT, h2.kp k1, h3.kp h2 k2⟩, ⟨hW, h5.kp k3, h6.kp k4⟩, h7.kp h2 k5, h8.kp k6, h9.kp k7⟩
/-- the worths below the k-th stay -/
theorem jw_at_row {M N : ja_M} {j k : Nat} {cs : jw_S} (h : jw_at M j cs) (hj : j < k) (h1 : ∀ i, i < 340 * k → N 139 i = M 139 i ∧ N 140 i = M 140 i) (h2 : ∀ i, i < 90 * k → N 143 i = M 143 i ∧ N 144 i = M 144 i ∧ N 145 i = M 145 i) (h3 : N 142 j = M 142 j) (h4 : N 21 j = M 21 j) (h5 : ∀ i, N (17 + j) i = M (17 + j) i) : jw_at N j cs := by
  obtain ⟨⟨w1, w2, w3⟩, ⟨m1, m2⟩, c1, c2, c3⟩ := h
  refine ⟨⟨w1, w2, w3⟩, ⟨h3.trans m1, jw_mod_congr cs 0 0 (fun i a b => h1 _ (by omega)) (fun i a b => h2 _ (by omega)) m2⟩, h4.trans c1, c2, fun i x hx => (h5 i).trans (c3 i x hx)⟩
