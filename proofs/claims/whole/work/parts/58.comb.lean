/-! counting: lists of numbers below n -/
theorem jc_len : ∀ (n : Nat) (l : List Nat), l.Nodup → (∀ x ∈ l, x < n) → l.length ≤ n
  | 0, l, _, h => by
    cases l with
    | nil => exact Nat.le_refl _
    | cons x l => exact absurd (h x List.mem_cons_self) (Nat.not_lt_zero _)
  | n + 1, l, hn, h => by
    by_cases hm : n ∈ l
    · have h1 := jc_len n (l.erase n) (hn.erase n) (fun x hx => by
        have h2 := (List.Nodup.mem_erase_iff hn).mp hx
        have := h x h2.2
        omega)
      have h3 := List.length_erase_of_mem hm
      omega
    · have h1 := jc_len n l hn (fun x hx => by
        have := h x hx
        have : x ≠ n := fun e => hm (e ▸ hx)
        omega)
      omega
/-- so many different ones are all -/
theorem jc_full {n : Nat} {l : List Nat} (hn : l.Nodup) (h : ∀ x ∈ l, x < n) (hl : l.length = n) {x : Nat} (hx : x < n) : x ∈ l := by
  refine Classical.byContradiction (fun hm => ?_)
  have h1 := jc_len n (x :: l) (List.nodup_cons.mpr ⟨hm, hn⟩) (fun y hy => by
    rcases List.mem_cons.mp hy with rfl | hy
    · exact hx
    · exact h y hy)
  rw [List.length_cons] at h1
  omega
/-- what has all of them with no more than so many has each once -/
theorem jc_cover : ∀ (n : Nat) (l : List Nat), (∀ x, x < n → x ∈ l) → l.length ≤ n → l.Nodup ∧ ∀ x ∈ l, x < n
  | 0, l, _, h => by
    cases l with
    | nil => exact ⟨List.nodup_nil, fun x hx => absurd hx List.not_mem_nil⟩
    | cons x l => simp at h
  | n + 1, l, h, hl => by
    have hm := h n (Nat.lt_succ_self n)
    have h3 := List.length_erase_of_mem hm
    obtain ⟨h1, h2⟩ := jc_cover n (l.erase n) (fun x hx => (List.mem_erase_of_ne (by omega)).mpr (h x (by omega))) (by omega)
    have hp := List.perm_cons_erase hm
    refine ⟨hp.nodup_iff.mpr (List.nodup_cons.mpr ⟨fun q => ?_, h1⟩), fun x hx => ?_⟩
    · have := h2 n q
      omega
    · rcases List.mem_cons.mp (hp.mem_iff.mp hx) with rfl | hx
      · omega
      · have := h2 x hx
        omega
theorem jc_nodup_map {α : Type} {f : Nat → α} {n : Nat} (h : ∀ t u, t < n → u < n → f t = f u → t = u) : ((List.range n).map f).Nodup := by
  induction n with
  | zero => exact List.nodup_nil
  | succ n ih =>
    rw [List.range_succ, List.map_append]
    refine List.nodup_append.mpr ⟨ih (fun t u a b e => h t u (by omega) (by omega) e), by simp, ?_⟩
    intro a ha b hb
    obtain ⟨t, ht, rfl⟩ := List.mem_map.mp ha
    simp at hb
    subst hb
    intro e
    have ht := List.mem_range.mp ht
    have := h t n (by omega) (by omega) e
    omega
theorem jc_inj_map {α : Type} {f : Nat → α} : ∀ {n : Nat}, ((List.range n).map f).Nodup → ∀ t u, t < n → u < n → f t = f u → t = u := by
  intro n h t u ht hu e
  have h1 : ((List.range n).map f)[t]? = ((List.range n).map f)[u]? := by
    rw [List.getElem?_map, List.getElem?_map, List.getElem?_range ht, List.getElem?_range hu]
    show some (f t) = some (f u)
    rw [e]
  exact (List.getElem?_inj (by simp; exact ht) h).mp h1
/-- an order has each place in one turn -/
theorem jv_perm_surj {n : Int} {f : Nat → Int} (h : jv_perm n f) (h0 : 0 ≤ n) {p : Int} (hp : 0 ≤ p ∧ p < n) : ∃ t : Nat, (t : Int) < n ∧ f t = p := by
  have hn : ((List.range n.toNat).map (fun t => (f t).toNat)).Nodup := jc_nodup_map (fun t u ht hu e => by
    have a := h.1 t (by omega)
    have b := h.1 u (by omega)
    exact h.2 t u (by omega) (by omega) (by omega))
  have hm := jc_full (n := n.toNat) hn (fun x hx => by
    obtain ⟨t, ht, rfl⟩ := List.mem_map.mp hx
    have ht := List.mem_range.mp ht
    have a := h.1 t (by omega)
    omega) (by simp) (x := p.toNat) (by omega)
  obtain ⟨t, ht, e⟩ := List.mem_map.mp hm
  have ht := List.mem_range.mp ht
  have a := h.1 t (by omega)
  exact ⟨t, by omega, by omega⟩
/-! digits -/
theorem jz_fold_snoc {α : Type} (st : Int → α → α) : ∀ (m : Nat) (t : Int) (a : α), jz_fold st (m + 1) t a = st (t + m) (jz_fold st m t a)
  | 0, t, a => by
    show st t a = st (t + 0) a
    rw [Int.add_zero]
  | m + 1, t, a => by
    show jz_fold st (m + 1) (t + 1) (st t a) = st (t + (m + 1 : Nat)) (jz_fold st m (t + 1) (st t a))
    rw [jz_fold_snoc st m (t + 1) (st t a)]
    congr 1
    omega
theorem jv_dig_eq (M : ja_M) (b : Int) : jv_dig M b = jv_digs (fun t => M (26 + b.toNat) t) (M 11 3).toNat := by
  unfold jv_dig
  generalize (M 11 3).toNat = n
  induction n with
  | zero => rfl
  | succ n ih =>
    rw [jz_fold_snoc, ih]
    show _ * 10 + jv_of M b (0 + n) = jv_digs _ n * 10 + M (26 + b.toNat) n
    unfold jv_of
    rw [show (0 + (n : Int)).toNat = n by omega]
theorem jv_digs_congr {f g : Nat → Int} : ∀ n, (∀ t, t < n → f t = g t) → jv_digs f n = jv_digs g n
  | 0, _ => rfl
  | n + 1, h => by
    show jv_digs f n * 10 + f n = jv_digs g n * 10 + g n
    rw [jv_digs_congr n (fun t ht => h t (by omega)), h n (by omega)]
theorem jv_digs_b {f : Nat → Int} : ∀ n, (∀ t, t < n → 0 ≤ f t ∧ f t ≤ 9) → 0 ≤ jv_digs f n ∧ jv_digs f n < 10 ^ n
  | 0, _ => by
    show (0 : Int) ≤ 0 ∧ (0 : Int) < 1
    omega
  | n + 1, h => by
    have h1 := jv_digs_b n (fun t ht => h t (by omega))
    have h2 := h n (by omega)
    show 0 ≤ jv_digs f n * 10 + f n ∧ jv_digs f n * 10 + f n < 10 ^ (n + 1)
    rw [Int.pow_succ]
    omega
theorem jv_10p {n : Nat} (h : n ≤ 6) : (10 : Int) ^ n ≤ 1000000 := by
  have : n = 0 ∨ n = 1 ∨ n = 2 ∨ n = 3 ∨ n = 4 ∨ n = 5 ∨ n = 6 := by omega
  rcases this with rfl | rfl | rfl | rfl | rfl | rfl | rfl <;> decide
/-- a row's first n places written -/
def ja_row (M : ja_M) (c n : Nat) (f : Nat → Int) : ja_M := fun d j => if d = c ∧ j < n then f j else M d j
theorem ja_row_ne {M : ja_M} {c n d j : Nat} {f : Nat → Int} (h : d ≠ c) : ja_row M c n f d j = M d j := if_neg (fun q => h q.1)
theorem ja_row_in {M : ja_M} {c n j : Nat} {f : Nat → Int} (h : j < n) : ja_row M c n f c j = f j := if_pos ⟨rfl, h⟩
theorem ja_row_out {M : ja_M} {c n j : Nat} {f : Nat → Int} (h : n ≤ j) : ja_row M c n f c j = M c j := if_neg (fun q => by omega)
theorem jKs.row {κ : Nat → Nat → Bool} {A B : ja_M} (h : jKs κ A B) {c n : Nat} {f : Nat → Int} (q : ∀ i, κ c i = false) : jKs κ A (ja_row B c n f) := fun d j r => by
  rw [ja_row_ne (fun e => by rw [e, q] at r; cases r)]
  exact h d j r
