/-! drawn -/
def jv_lcg (x : Int) : Int := ja_W (ja_W (x * 6364136223846793005) + 1442695040888963407)
def jv_dj (x : Int) (n : Nat) : Nat := (ja_w ((ja_lush (jv_lcg x) 33).tmod (n : Int))).toNat
theorem jx_lush33 (x : Int) : 0 ≤ ja_lush x 33 ∧ ja_lush x 33 < 2147483648 := by
  unfold ja_lush
  have e : ((Int64.ofInt x).toUInt64 >>> ((Int32.ofInt 33).toInt64.toUInt64 &&& Int64.toUInt64 63)).toInt64.toBitVec = (Int64.ofInt x).toBitVec >>> 33 := rfl
  have h : ((Int64.ofInt x).toBitVec >>> 33).toNat < 2147483648 := by
    rw [BitVec.toNat_ushiftRight, Nat.shiftRight_eq_div_pow]
    have := (Int64.ofInt x).toBitVec.isLt
    omega
  show 0 ≤ BitVec.toInt (((Int64.ofInt x).toUInt64 >>> ((Int32.ofInt 33).toInt64.toUInt64 &&& Int64.toUInt64 63)).toInt64.toBitVec) ∧ BitVec.toInt (((Int64.ofInt x).toUInt64 >>> ((Int32.ofInt 33).toInt64.toUInt64 &&& Int64.toUInt64 63)).toInt64.toBitVec) < 2147483648
  rw [e, BitVec.toInt_eq_toNat_of_lt (by omega)]
  omega
theorem jv_dj_eq (x : Int) {n : Nat} (h : 0 < n) (h2 : n ≤ 6) : ja_w ((ja_lush (jv_lcg x) 33).tmod (n : Int)) = (jv_dj x n : Int) ∧ jv_dj x n < n := by
  have hl := jx_lush33 (jv_lcg x)
  have hm : (ja_lush (jv_lcg x) 33).tmod (n : Int) = ja_lush (jv_lcg x) 33 % (n : Int) := jz_tmod hl.1
  have h3 := Int.emod_nonneg (ja_lush (jv_lcg x) 33) (show (n : Int) ≠ 0 by omega)
  have h4 := Int.emod_lt_of_pos (ja_lush (jv_lcg x) 33) (show (0 : Int) < (n : Int) by omega)
  unfold jv_dj
  rw [hm, ja_w_id (by omega) (by omega)]
  omega
def jv_swp (o : Nat → Int) (i j : Nat) : Nat → Int := fun t => if t = j then o i else if t = i then o j else o t
/-- what the draws make: the next number, the order -/
def jv_shf : Nat → Int → (Nat → Int) → Int × (Nat → Int)
  | 0, x, o => (x, o)
  | i + 1, x, o => jv_shf i (jv_lcg x) (jv_swp o (i + 1) (jv_dj x (i + 2)))
theorem jv_swp_perm {n : Int} {o : Nat → Int} {i j : Nat} (h : jv_perm n o) (hi : (i : Int) < n) (hj : (j : Int) < n) : jv_perm n (jv_swp o i j) := by
  have ex : ∀ t : Nat, (t : Int) < n → ∃ u : Nat, (u : Int) < n ∧ jv_swp o i j t = o u ∧ (u = if t = j then i else if t = i then j else t) := fun t ht => by
    unfold jv_swp
    by_cases q : t = j
    · rw [if_pos q, if_pos q]
      exact ⟨i, hi, rfl, rfl⟩
    · rw [if_neg q, if_neg q]
      by_cases r : t = i
      · rw [if_pos r, if_pos r]
        exact ⟨j, hj, rfl, rfl⟩
      · rw [if_neg r, if_neg r]
        exact ⟨t, ht, rfl, rfl⟩
  refine ⟨fun t ht => ?_, fun t u ht hu e => ?_⟩
  · obtain ⟨u, h1, h2, -⟩ := ex t ht
    rw [h2]
    exact h.1 u h1
  · obtain ⟨a, a1, a2, a3⟩ := ex t ht
    obtain ⟨b, b1, b2, b3⟩ := ex u hu
    rw [a2, b2] at e
    have := h.2 a b a1 b1 e
    subst this
    (repeat' split at a3) <;> (repeat' split at b3) <;> omega
theorem jv_shf_perm {n : Int} : ∀ (k : Nat) (x : Int) (o : Nat → Int), (k : Int) < n → n ≤ 6 → jv_perm n o → jv_perm n (jv_shf k x o).2
  | 0, _, _, _, _, h => h
  | k + 1, x, o, hk, hn, h => by
    have hd := jv_dj_eq x (n := k + 2) (by omega) (by omega)
    exact jv_shf_perm k (jv_lcg x) _ (by omega) hn (jv_swp_perm h (by omega) (by omega))
/-- of all bands: the number ahead of each, its order -/
def jv_dx (P : Nat) (x : Int) : Nat → Int
  | 0 => x
  | b + 1 => (jv_shf (P - 1) (jv_dx P x b) (fun t => (t : Int))).1
def jv_do (P : Nat) (x : Int) (b : Nat) : Nat → Int := (jv_shf (P - 1) (jv_dx P x b) (fun t => (t : Int))).2
theorem jv_id_perm (n : Int) : jv_perm n (fun t => (t : Int)) := ⟨fun t ht => by dsimp only; omega, fun t u ht hu e => by dsimp only at e; omega⟩
theorem js_nextDraw (dd : Nat) {n : Nat} {M : ja_M} (h : 0 < n) (h2 : n ≤ 6) : ja_x true (dd + 1) 188 [jr 24, ji (n : Int)] M = some (some (ji (jv_dj (M 24 3) n : Int)), ja_up M 24 3 (jv_lcg (M 24 3))) := by
  rw [f_Table_nextDraw, if_pos (by omega), jz_is0 (by omega), cond_false, jb_up_eq]
  have := (jv_dj_eq (M 24 3) h h2).1
  unfold jv_lcg at this ⊢
  rw [this]
theorem js_drawOrder (dd : Nat) {b : Nat} {M : ja_M} (hH : jH M) (hb4 : (b : Int) < M 11 4) : ja_x true (dd + 2) 187 [jr 24, jr (26 + b)] M = some (none, ja_up (ja_row M (26 + b) (M 11 3).toNat (jv_shf ((M 11 3).toNat - 1) (M 24 3) (fun t => (t : Int))).2) 24 3 (jv_shf ((M 11 3).toNat - 1) (M 24 3) (fun t => (t : Int))).1) := by
  have hb := hH.b
  obtain ⟨P, hP⟩ : ∃ P : Nat, M 11 3 = (P : Int) := ⟨(M 11 3).toNat, by omega⟩
  have hk := jk_row26 b (by omega)
  rw [f_Table_drawOrder, jk_ck rfl (by rw [jk_rLs rfl, jk_rLs (jk_rf (by omega))]; rfl) rfl, cond_true, js_places, jz_bI, jz_aln hk (by omega) (by omega), show ja_min (M 11 3) ((6 : Nat) : Int) = (P : Int) by unfold ja_min; rw [if_neg (by omega)]; exact hP]
  have w := jz_loop (F := fun N k => ja_D true (ja_x true (dd + 1)) k_Table_drawOrder 9 [some (jr 24), some (jr (26 + b)), some (ji (P : Int)), some (ji k), none, none] [] N) (N := fun n => ja_row M (26 + b) n (fun t => (t : Int))) (n := P) P 0 (by omega) (fun k _ hk2 => by
    show ja_D true (ja_x true (dd + 1)) k_Table_drawOrder 9 _ [] _ = _
    rw [e_Table_drawOrder_9, if_pos (by omega), jz_ast (n := 6) hk (by omega) (by omega) (by omega) (by omega), ja_w_id (by omega) (by omega), show ((k : Int)).toNat = k from rfl, ja_row_up M (26 + b) k (fun t => (t : Int))])
  have w : ja_D true (ja_x true (dd + 1)) k_Table_drawOrder 9 [some (jr 24), some (jr (26 + b)), some (ji (P : Int)), some (ji 0), none, none] [] (ja_row M (26 + b) 0 (fun t => (t : Int))) = ja_D true (ja_x true (dd + 1)) k_Table_drawOrder 9 [some (jr 24), some (jr (26 + b)), some (ji (P : Int)), some (ji (P : Int)), none, none] [] (ja_row M (26 + b) P (fun t => (t : Int))) := w
  rw [ja_row0e] at w
  rw [w, e_Table_drawOrder_9, if_neg (by omega), ja_w_id (by omega) (by omega)]
  have key : ∀ (k : Nat) (N : ja_M) (o : Nat → Int), k < P → (∀ c i, ¬ (c = 26 + b ∧ i < P) → ¬ (c = 24 ∧ i = 3) → N c i = M c i) → (∀ t, t < P → N (26 + b) t = o t) → ja_D true (ja_x true (dd + 1)) k_Table_drawOrder 22 [some (jr 24), some (jr (26 + b)), none, some (ji (k : Int)), none, none] [] N = some (none, ja_up (ja_row M (26 + b) P (jv_shf k (N 24 3) o).2) 24 3 (jv_shf k (N 24 3) o).1) := by
    intro k
    induction k with
    | zero =>
      intro N o _ h1 h2
      rw [e_Table_drawOrder_22, if_pos (by decide)]
      congr 2
      funext c i
      show N c i = ja_up (ja_row M (26 + b) P o) 24 3 (N 24 3) c i
      rw [jz_up]
      by_cases q : c = 24 ∧ i = 3
      · rw [if_pos q, q.1, q.2]
      · rw [if_neg q]
        by_cases r : c = 26 + b ∧ i < P
        · rw [r.1, ja_row_in r.2]
          exact h2 i r.2
        · unfold ja_row
          rw [if_neg r]
          exact h1 c i r q
    | succ k ih =>
      intro N o hk2 h1 h2
      have hd := jv_dj_eq (N 24 3) (n := k + 2) (by omega) (by omega)
      have hn := js_nextDraw dd (n := k + 2) (M := N) (by omega) (by omega)
      rw [e_Table_drawOrder_22, if_neg (by omega), jk_ck rfl (by rw [jk_rLs rfl, jk_rLs (jk_rf (by omega))]; rfl) rfl, cond_true, ja_w_id (x := ((k + 1 : Nat) : Int) + 1) (by omega) (by omega), show ((k + 1 : Nat) : Int) + 1 = ((k + 2 : Nat) : Int) by omega, hn, jz_bI]
      obtain ⟨j, hj⟩ : ∃ j, j = jv_dj (N 24 3) (k + 2) := ⟨_, rfl⟩
      rw [← hj] at hd ⊢
      have e1 : ∀ t, ja_up N 24 3 (jv_lcg (N 24 3)) (26 + b) t = N (26 + b) t := fun t => jb_up_ne (by omega)
      rw [jz_ald (n := 6) hk (by omega) (by omega) (by omega) (by omega), jz_ald (n := 6) hk (by omega) (by omega) (by omega) (by omega), jz_ast (n := 6) hk (by omega) (by omega) (by omega) (by omega), jz_ast (n := 6) hk (by omega) (by omega) (by omega) (by omega), ja_w_id (by omega) (by omega), show ((k + 1 : Nat) : Int) + -1 = (k : Int) by omega, show (((k + 1 : Nat) : Int)).toNat = k + 1 from rfl, show ((j : Int)).toNat = j from rfl, e1, e1, h2 j (by omega), h2 (k + 1) (by omega)]
      have e24 : ja_up (ja_up (ja_up N 24 3 (jv_lcg (N 24 3))) (26 + b) (k + 1) (o j)) (26 + b) j (o (k + 1)) 24 3 = jv_lcg (N 24 3) := by rw [jb_up_ne (by omega), jb_up_ne (by omega), jb_up_eq]
      rw [ih _ (jv_swp o (k + 1) j) (by omega) (fun c i x y => ?_) (fun t ht => ?_), e24]
      · show _ = some (none, ja_up (ja_row M (26 + b) P (jv_shf k (jv_lcg (N 24 3)) (jv_swp o (k + 1) (jv_dj (N 24 3) (k + 2)))).2) 24 3 (jv_shf k (jv_lcg (N 24 3)) (jv_swp o (k + 1) (jv_dj (N 24 3) (k + 2)))).1)
        rw [← hj]
      · rw [jz_up, if_neg (fun q => x ⟨q.1, by omega⟩), jz_up, if_neg (fun q => x ⟨q.1, by omega⟩), jz_up, if_neg y]
        exact h1 c i x y
      · unfold jv_swp
        by_cases q : t = j
        · rw [if_pos q, q, jb_up_eq]
        · rw [if_neg q, jb_up_nej q]
          by_cases r : t = k + 1
          · rw [if_pos r, r, jb_up_eq]
          · rw [if_neg r, jb_up_nej r, e1]
            exact h2 t ht
  have := key (P - 1) (ja_row M (26 + b) P (fun t => (t : Int))) (fun t => (t : Int)) (by omega) (fun c i x y => by unfold ja_row; rw [if_neg x]) (fun t ht => ja_row_in ht)
  rw [ja_row_ne (by omega), show (((P - 1 : Nat)) : Int) = (P : Int) - 1 by omega] at this
  rw [this, hP]
  rfl
theorem ja_up_row (R : ja_M) (b P : Nat) (f : Nat → Int) (v w : Int) : ja_up (ja_row (ja_up R 24 3 v) (26 + b) P f) 24 3 w = ja_up (ja_row R (26 + b) P f) 24 3 w := by
  funext c i
  rw [jz_up, jz_up]
  by_cases q : c = 24 ∧ i = 3
  · rw [if_pos q, if_pos q]
  · rw [if_neg q, if_neg q]
    unfold ja_row
    split
    · rfl
    · rw [jz_up, if_neg q]
theorem js_drawOrders (dd : Nat) {x : Int} {M : ja_M} (hH : jH M) : ja_x true (dd + 3) 186 [jr 24, jl x] M = some (none, ja_up (ja_rows M (M 11 4).toNat (M 11 3).toNat (jv_do (M 11 3).toNat x)) 24 3 (jv_dx (M 11 3).toNat x (M 11 4).toNat)) := by
  have hb := hH.b
  obtain ⟨B, hB⟩ : ∃ B : Nat, M 11 4 = (B : Int) := ⟨(M 11 4).toNat, by omega⟩
  rw [f_Table_drawOrders]
  have K : ∀ n v, n ≤ 6 → jKs kH M (ja_up (ja_rows M n (M 11 3).toNat (jv_do (M 11 3).toNat x)) 24 3 v) := fun n v hn => ((jKs.rf M).rows hn jk_H26).up rfl
  have w := jz_loop (F := fun N k => ja_D true (ja_x true (dd + 2)) k_Table_drawOrders 5 [some (jr 24), none, none, some (ji k)] [] N) (N := fun n => ja_up (ja_rows M n (M 11 3).toNat (jv_do (M 11 3).toNat x)) 24 3 (jv_dx (M 11 3).toNat x n)) (n := B) B 0 (by omega) (fun k _ hk => by
    show ja_D true (ja_x true (dd + 2)) k_Table_drawOrders 5 _ [] _ = _
    have Kk := K k (jv_dx (M 11 3).toNat x k) (by omega)
    have hd := js_drawOrder dd (b := k) (hH.kp Kk) (by rw [Kk 11 4 rfl]; omega)
    rw [Kk 11 3 rfl, jb_up_eq, ja_up_row] at hd
    rw [e_Table_drawOrders_5, js_bands, jz_bI, Kk 11 4 rfl, if_pos (by omega), if_pos (by omega), show ((k : Int)).toNat = k from rfl, show 25 + 1 + k = 26 + k by omega, jk_ck rfl rfl (by rw [jk_rSs (jk_rf (by omega))]; rfl), cond_true, hd, jz_bV, ja_w_id (by omega) (by omega)]
    have e := ja_rows_s M k (M 11 3).toNat (jv_do (M 11 3).toNat x)
    unfold jv_do at e ⊢
    rw [e]
    rfl)
  have w : ja_D true (ja_x true (dd + 2)) k_Table_drawOrders 5 [some (jr 24), none, none, some (ji 0)] [] (ja_up (ja_rows M 0 (M 11 3).toNat (jv_do (M 11 3).toNat x)) 24 3 x) = ja_D true (ja_x true (dd + 2)) k_Table_drawOrders 5 [some (jr 24), none, none, some (ji (B : Int))] [] (ja_up (ja_rows M B (M 11 3).toNat (jv_do (M 11 3).toNat x)) 24 3 (jv_dx (M 11 3).toNat x B)) := w
  rw [ja_rows_0] at w
  have Kk := K B (jv_dx (M 11 3).toNat x B) (by omega)
  rw [w, e_Table_drawOrders_5, js_bands, jz_bI, Kk 11 4 rfl, hB, if_neg (by omega)]
  rfl
/-- the reference's rows of all bands -/
def ja_segs (Q : ja_M) (B P : Nat) (f : Nat → Nat → Int) : ja_M := fun c j => if c = 154 ∧ (j / 6 < B ∧ j % 6 < P) then f (j / 6) (j % 6) else Q c j
theorem ja_segs_0 (Q : ja_M) (P : Nat) (f : Nat → Nat → Int) : ja_segs Q 0 P f = Q := by
  funext c j
  exact if_neg (fun q => by omega)
theorem ja_segs_ne {Q : ja_M} {B P c j : Nat} {f : Nat → Nat → Int} (h : c ≠ 154) : ja_segs Q B P f c j = Q c j := if_neg (fun q => h q.1)
theorem ja_segs_in {Q : ja_M} {B P b t : Nat} {f : Nat → Nat → Int} (h1 : b < B) (h2 : t < P) (h3 : P ≤ 6) : ja_segs Q B P f 154 (6 * b + t) = f b t := by
  unfold ja_segs
  rw [show (6 * b + t) / 6 = b by omega, show (6 * b + t) % 6 = t by omega, if_pos ⟨rfl, h1, h2⟩]
theorem ja_segs_s (Q : ja_M) (B P : Nat) (f : Nat → Nat → Int) (h : P ≤ 6) : ja_seg (ja_segs Q B P f) 154 (6 * B) P (f B) = ja_segs Q (B + 1) P f := by
  funext c j
  unfold ja_seg ja_segs
  by_cases q : c = 154 ∧ (6 * B ≤ j ∧ j < 6 * B + P)
  · rw [if_pos q, if_pos ⟨q.1, by omega, by omega⟩, show j / 6 = B by omega, show j % 6 = j - 6 * B by omega]
  · rw [if_neg q]
    by_cases r : c = 154 ∧ (j / 6 < B ∧ j % 6 < P)
    · rw [if_pos r, if_pos ⟨r.1, by omega, r.2.2⟩]
    · rw [if_neg r, if_neg (fun z => by
        rcases Nat.lt_or_ge (j / 6) B with y | y
        · exact r ⟨z.1, y, z.2.2⟩
        · exact q ⟨z.1, by omega⟩)]
theorem js_R_draw1 (E : ja_E) {x : Int} {b : Nat} {M : ja_M} (hH : jH M) (hb4 : (b : Int) < M 11 4) : ja_D true E k_R_drawn 17 [some (jr 137), none, none, some (jl x), none, some (ji (b : Int)), some (ji 0), none, none] [] M = ja_D true E k_R_drawn 11 [some (jr 137), none, none, some (jl (jv_shf ((M 11 3).toNat - 1) x (fun t => (t : Int))).1), none, some (ji ((b : Int) + 1)), none, none, none] [] (ja_seg M 154 (6 * b) (M 11 3).toNat (jv_shf ((M 11 3).toNat - 1) x (fun t => (t : Int))).2) := by
  have hb := hH.b
  obtain ⟨P, hP⟩ : ∃ P : Nat, M 11 3 = (P : Int) := ⟨(M 11 3).toNat, by omega⟩
  have w := jz_loop (F := fun N k => ja_D true E k_R_drawn 17 [some (jr 137), none, none, some (jl x), none, some (ji (b : Int)), some (ji k), none, none] [] N) (N := fun n => ja_seg M 154 (6 * b) n (fun t => (t : Int))) (n := P) P 0 (by omega) (fun k _ hk => by
    show ja_D true E k_R_drawn 17 _ [] _ = _
    rw [e_R_drawn_17, ja_seg_ne (by decide), hH.2.1.1, if_pos (by omega), ja_w_id (x := 6 * (b : Int)) (by omega) (by omega), ja_w_id (x := 6 * (b : Int) + (k : Int)) (by omega) (by omega), if_pos (by omega), ja_w_id (by omega) (by omega), show (6 * (b : Int) + (k : Int)).toNat = 6 * b + k by omega, ja_seg_s M 154 (6 * b) k (fun t => (t : Int))])
  have w : ja_D true E k_R_drawn 17 [some (jr 137), none, none, some (jl x), none, some (ji (b : Int)), some (ji 0), none, none] [] (ja_seg M 154 (6 * b) 0 (fun t => (t : Int))) = ja_D true E k_R_drawn 17 [some (jr 137), none, none, some (jl x), none, some (ji (b : Int)), some (ji (P : Int)), none, none] [] (ja_seg M 154 (6 * b) P (fun t => (t : Int))) := w
  rw [ja_seg_0] at w
  rw [w, e_R_drawn_17, ja_seg_ne (by decide), hH.2.1.1, hP, if_neg (by omega), ja_w_id (by omega) (by omega)]
  have key : ∀ (k : Nat) (N : ja_M) (x : Int) (o : Nat → Int), k < P → (∀ c i, ¬ (c = 154 ∧ (6 * b ≤ i ∧ i < 6 * b + P)) → N c i = M c i) → (∀ t, t < P → N 154 (6 * b + t) = o t) → ja_D true E k_R_drawn 37 [some (jr 137), none, none, some (jl x), none, some (ji (b : Int)), some (ji (k : Int)), none, none] [] N = ja_D true E k_R_drawn 11 [some (jr 137), none, none, some (jl (jv_shf k x o).1), none, some (ji ((b : Int) + 1)), none, none, none] [] (ja_seg M 154 (6 * b) P (jv_shf k x o).2) := by
    intro k
    induction k with
    | zero =>
      intro N x o _ h1 h2
      rw [e_R_drawn_37, if_neg (by decide), ja_w_id (by omega) (by omega)]
      congr 1
      funext c i
      show N c i = ja_seg M 154 (6 * b) P o c i
      by_cases r : c = 154 ∧ (6 * b ≤ i ∧ i < 6 * b + P)
      · unfold ja_seg
        rw [if_pos r, r.1, ← h2 (i - 6 * b) (by omega), show 6 * b + (i - 6 * b) = i by omega]
      · unfold ja_seg
        rw [if_neg r]
        exact h1 c i r
    | succ k ih =>
      intro N x o hk2 h1 h2
      have hd := jv_dj_eq x (n := k + 2) (by omega) (by omega)
      have hl : jv_lcg x = ja_W (ja_W (x * 6364136223846793005) + 1442695040888963407) := rfl
      rw [e_R_drawn_37, if_pos (by omega), ja_w_id (x := ((k + 1 : Nat) : Int) + 1) (by omega) (by omega), jz_is0 (by omega), cond_false, ja_w_id (x := 6 * (b : Int)) (by omega) (by omega), ja_w_id (x := 6 * (b : Int) + ((k + 1 : Nat) : Int)) (by omega) (by omega), if_pos (by omega), ← hl, show ((k + 1 : Nat) : Int) + 1 = ((k + 2 : Nat) : Int) by omega, hd.1]
      obtain ⟨j, hj⟩ : ∃ j, j = jv_dj x (k + 2) := ⟨_, rfl⟩
      rw [← hj] at hd ⊢
      rw [ja_w_id (x := 6 * (b : Int) + (j : Int)) (by omega) (by omega), if_pos (by omega), if_pos (by omega), if_pos (by omega), ja_w_id (by omega) (by omega), show ((k + 1 : Nat) : Int) + -1 = (k : Int) by omega, show (6 * (b : Int) + ((k + 1 : Nat) : Int)).toNat = 6 * b + (k + 1) by omega, show (6 * (b : Int) + (j : Int)).toNat = 6 * b + j by omega, h2 j (by omega), h2 (k + 1) (by omega)]
      rw [ih _ (jv_lcg x) (jv_swp o (k + 1) j) (by omega) (fun c i y => ?_) (fun t ht => ?_)]
      · show _ = ja_D true E k_R_drawn 11 [some (jr 137), none, none, some (jl (jv_shf k (jv_lcg x) (jv_swp o (k + 1) (jv_dj x (k + 2)))).1), none, some (ji ((b : Int) + 1)), none, none, none] [] (ja_seg M 154 (6 * b) P (jv_shf k (jv_lcg x) (jv_swp o (k + 1) (jv_dj x (k + 2)))).2)
        rw [← hj]
      · rw [jz_up, if_neg (fun q => y ⟨q.1, by omega⟩), jz_up, if_neg (fun q => y ⟨q.1, by omega⟩)]
        exact h1 c i y
      · unfold jv_swp
        by_cases q : t = j
        · rw [if_pos q, q, jb_up_eq]
        · rw [if_neg q, jb_up_nej (by omega)]
          by_cases r : t = k + 1
          · rw [if_pos r, r, jb_up_eq]
          · rw [if_neg r, jb_up_nej (by omega)]
            exact h2 t ht
  have := key (P - 1) (ja_seg M 154 (6 * b) P (fun t => (t : Int))) x (fun t => (t : Int)) (by omega) (fun c i y => by unfold ja_seg; rw [if_neg y]) (fun t ht => ja_seg_in ht)
  rw [show (((P - 1 : Nat)) : Int) = (P : Int) - 1 by omega] at this
  rw [this]
  rfl
theorem js_R_draws (E : ja_E) {x : Int} {M : ja_M} (hH : jH M) : ja_D true E k_R_drawn 11 [some (jr 137), none, none, some (jl x), none, some (ji 0), none, none, none] [] M = some (some (ji (M 137 35)), ja_segs M (M 11 4).toNat (M 11 3).toNat (jv_do (M 11 3).toNat x)) := by
  have hb := hH.b
  obtain ⟨B, hB⟩ : ∃ B : Nat, M 11 4 = (B : Int) := ⟨(M 11 4).toNat, by omega⟩
  have K : ∀ n, jKs kH M (ja_segs M n (M 11 3).toNat (jv_do (M 11 3).toNat x)) := fun n c i h => ja_segs_ne (fun e => by rw [e] at h; cases h)
  have w := jz_loop (F := fun N k => ja_D true E k_R_drawn 11 [some (jr 137), none, none, some (jl N.1), none, some (ji k), none, none, none] [] N.2) (N := fun n => (jv_dx (M 11 3).toNat x n, ja_segs M n (M 11 3).toNat (jv_do (M 11 3).toNat x))) (n := B) B 0 (by omega) (fun k _ hk => by
    show ja_D true E k_R_drawn 11 [some (jr 137), none, none, some (jl (jv_dx (M 11 3).toNat x k)), none, some (ji (k : Int)), none, none, none] [] (ja_segs M k (M 11 3).toNat (jv_do (M 11 3).toNat x)) = _
    have h1 := js_R_draw1 E (x := jv_dx (M 11 3).toNat x k) (b := k) (hH.kp (K k)) (by rw [(K k) 11 4 rfl]; omega)
    rw [(K k) 11 3 rfl] at h1
    have e := ja_segs_s M k (M 11 3).toNat (jv_do (M 11 3).toNat x) (by omega)
    rw [e_R_drawn_11, (K k) 137 28 rfl, hH.2.1.2.1, if_pos (by omega), h1]
    unfold jv_do at e ⊢
    rw [e]
    rfl)
  have w : ja_D true E k_R_drawn 11 [some (jr 137), none, none, some (jl x), none, some (ji 0), none, none, none] [] (ja_segs M 0 (M 11 3).toNat (jv_do (M 11 3).toNat x)) = ja_D true E k_R_drawn 11 [some (jr 137), none, none, some (jl (jv_dx (M 11 3).toNat x B)), none, some (ji (B : Int)), none, none, none] [] (ja_segs M B (M 11 3).toNat (jv_do (M 11 3).toNat x)) := w
  rw [ja_segs_0] at w
  rw [w, e_R_drawn_11, (K B) 137 28 rfl, hH.2.1.2.1, hB, if_neg (by omega), ja_segs_ne (by decide)]
  rfl
theorem jy_p31 : jy_o31 := by
  intro a b ra rb M hJ
  generalize ja_lor (ja_lshl a 32) (ja_land b 4294967295) = x
  have hJ0 := hJ
  obtain ⟨⟨hT, hH, hO⟩, ⟨hW, hP, hI⟩, hF, hL, hB⟩ := hJ
  have hb := hH.b
  have hX := f_X_drawn 1999 x M
  rw [js_isTold 1998, jz_bI, jz_b0] at hX
  by_cases h0 : 0 < M 11 3
  · obtain ⟨p1, p2, p3, -⟩ := id hP
    have K1 := jv_rem_K M p1
    have hH1 : jH (jv_rem M) := hH.kp (K1.of jn_H)
    have hd := js_drawOrders 1996 (x := x) hH1
    rw [K1 11 3 rfl, K1 11 4 rfl] at hd
    rw [if_pos h0, js_remember 1994 hH hO hP, jz_bV, hd, jz_bV, f_Past_acts 1998, jz_bI, jb_up_ne (by decide), ja_rows_ne (by omega)] at hX
    have e34 : jv_rem M 33 4 = if M 33 4 = 40 then 40 else M 33 4 + 1 := jb_up_eq
    rw [e34] at hX
    have hN1 : ∀ c i, ¬ (26 ≤ c ∧ c ≤ 32) → c ≠ 24 → ja_up (ja_rows (jv_rem M) (M 11 4).toNat (M 11 3).toNat (jv_do (M 11 3).toNat x)) 24 3 (jv_dx (M 11 3).toNat x (M 11 4).toNat) c i = jv_rem M c i := fun c i y z => by rw [jb_up_ne z, ja_rows_ne (by omega)]
    have hN26 : ∀ b t : Nat, (b : Int) < M 11 4 → (t : Int) < M 11 3 → ja_up (ja_rows (jv_rem M) (M 11 4).toNat (M 11 3).toNat (jv_do (M 11 3).toNat x)) 24 3 (jv_dx (M 11 3).toNat x (M 11 4).toNat) (26 + b) t = jv_do (M 11 3).toNat x b t := fun b t hb4 ht => by rw [jb_up_ne (by omega), ja_rows_in (by omega) (by omega)]
    have hN32 : ∀ b, ja_up (ja_rows (jv_rem M) (M 11 4).toNat (M 11 3).toNat (jv_do (M 11 3).toNat x)) 24 3 (jv_dx (M 11 3).toNat x (M 11 4).toNat) 32 b = M 32 b := fun b => by rw [jb_up_ne (by decide), ja_rows_ne (by omega), jv_rem_c p1 (by decide) (by decide)]
    have KN : jKs kN M (ja_up (ja_rows (jv_rem M) (M 11 4).toNat (M 11 3).toNat (jv_do (M 11 3).toNat x)) 24 3 (jv_dx (M 11 3).toNat x (M 11 4).toNat)) := (K1.rows (by omega) jk_N26).up rfl
    generalize ja_up (ja_rows (jv_rem M) (M 11 4).toNat (M 11 3).toNat (jv_do (M 11 3).toNat x)) 24 3 (jv_dx (M 11 3).toNat x (M 11 4).toNat) = N at *
    have hHN : jH N := hH.kp (KN.of jn_H)
    have hR := f_R_drawn 1999 x N
    have e35 : N 137 35 = ((M 33 4).toNat : Int) := by
      rw [hN1 _ _ (by decide) (by decide), jv_rem_c p1 (by decide) (by decide), p3]
      omega
    rw [KN 137 28 rfl, hH.2.1.2.1, if_neg (by omega), js_R_keep 1998 (by omega) e35, jz_bV] at hR
    generalize hKd : (if (M 33 4).toNat = 40 then jv_kp40 N else jv_kpn N (M 33 4).toNat) = Q at hR
    have KQ : jKs kN N Q := by
      rw [← hKd]
      exact jv_kp_K
    have hHQ : jH Q := hHN.kp (KQ.of jn_H)
    have e113' : Q 11 3 = M 11 3 := (KQ 11 3 rfl).trans (KN 11 3 rfl)
    have e114' : Q 11 4 = M 11 4 := (KQ 11 4 rfl).trans (KN 11 4 rfl)
    have eQ35 : Q 137 35 = if M 33 4 = 40 then 40 else M 33 4 + 1 := by
      rw [← hKd, jv_kp_35 (by omega)]
      by_cases q : M 33 4 = 40
      · rw [if_pos q, if_pos (by omega)]
      · rw [if_neg q, if_neg (by omega)]
        omega
    rw [js_R_draws _ hHQ, e113', e114', eQ35] at hR
    have KF : jKs kN M (ja_segs Q (M 11 4).toNat (M 11 3).toNat (jv_do (M 11 3).toNat x)) := fun c i h => by
      rw [ja_segs_ne (fun e => by rw [e] at h; cases h)]
      exact (KN.tr KQ) c i h
    have hQc : ∀ c i, c ≠ 156 → c ≠ 137 → Q c i = N c i := fun c i y z => by
      rw [← hKd]
      exact jv_kp_c y (fun e => z e.1)
    refine ⟨_, _, _, hX, hR, hJ0.acts KF ?_ (jPs_acts (N := N) hH hO hP hN1 (fun c i y z => by rw [ja_segs_ne y, hKd])), jrm.same (fun i => by rw [ja_segs_ne (by decide), hQc _ _ (by decide) (by decide), hN1 _ _ (by decide) (by decide), jv_rem_c p1 (by decide) (by decide)]) (KF 93 4 rfl)⟩
    refine jO_new (jv_do (M 11 3).toNat x) ?_ ?_ ?_ ?_ <;> rw [KF 11 4 rfl]
    · intro b hb4
      rw [KF 11 3 rfl]
      exact jv_shf_perm _ _ _ (by omega) (by omega) (jv_id_perm _)
    · intro b t hb4 ht
      rw [KF 11 3 rfl] at ht
      rw [ja_segs_ne (by omega), hQc _ _ (by omega) (by omega)]
      exact hN26 b t hb4 ht
    · intro b t hb4 ht
      rw [KF 11 3 rfl] at ht
      exact ja_segs_in (by omega) (by omega) (by omega)
    · intro b hb4
      rw [ja_segs_ne (by decide), ja_segs_ne (by decide), hQc _ _ (by decide) (by decide), hQc _ _ (by decide) (by decide), hN32, hN1 _ _ (by decide) (by decide), jv_rem_c p1 (by decide) (by decide)]
      exact hO.2.2 b hb4
  · rw [if_neg h0] at hX
    have hR := f_R_drawn 1999 x M
    rw [hH.2.1.2.1, if_pos (by omega)] at hR
    exact ⟨_, _, _, hX, hR, hJ0, jrm.same (fun _ => rfl) rfl⟩
