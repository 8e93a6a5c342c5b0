/-! THE WALK'S INVARIANT -/
def jb_lv (ad : Nat → Nat) : Nat → ja_L → List (Nat × Value)
  | _, [] => []
  | k, none :: L => jb_lv ad (k + 1) L
  | k, some v :: L => (k, jb_v ad v) :: jb_lv ad (k + 1) L
theorem jb_lv_of {ad : Nat → Nat} : ∀ (L : ja_L) (j k : Nat) (v : ja_V), L[k]? = some (some v) → (j + k, jb_v ad v) ∈ jb_lv ad j L
  | [], _, _, _, h => by simp at h
  | none :: L, j, 0, _, h => by simp at h
  | some w :: L, j, 0, v, h => by
    simp at h
    subst h
    exact List.mem_cons_self
  | none :: L, j, k + 1, v, h => by
    have := jb_lv_of (ad := ad) L (j + 1) k v (by simpa using h)
    rw [show j + (k + 1) = j + 1 + k by omega]
    exact this
  | some w :: L, j, k + 1, v, h => by
    have := jb_lv_of (ad := ad) L (j + 1) k v (by simpa using h)
    rw [show j + (k + 1) = j + 1 + k by omega]
    exact List.mem_cons_of_mem _ this
theorem jb_lv_mem {ad : Nat → Nat} : ∀ (L : ja_L) (j : Nat) (q : Nat × Value), q ∈ jb_lv ad j L → ∃ k v, L[k]? = some (some v) ∧ q = (j + k, jb_v ad v)
  | [], _, _, h => absurd h List.not_mem_nil
  | none :: L, j, q, h => by
    obtain ⟨k, v, h1, h2⟩ := jb_lv_mem L (j + 1) q h
    exact ⟨k + 1, v, by simpa using h1, by rw [h2, show j + 1 + k = j + (k + 1) by omega]⟩
  | some w :: L, j, q, h => by
    rcases List.mem_cons.mp h with h | h
    · exact ⟨0, w, rfl, h⟩
    · obtain ⟨k, v, h1, h2⟩ := jb_lv_mem L (j + 1) q h
      exact ⟨k + 1, v, by simpa using h1, by rw [h2, show j + 1 + k = j + (k + 1) by omega]⟩
theorem lv_less {ls : Array Slot} {nL : Nat} {l l' : List (Nat × Value)} (h : lv_has ls nL l) (hs : ∀ q ∈ l', q ∈ l) : lv_has ls nL l' := ⟨h.1, h.2.1, fun q hq => h.2.2 q (hs q hq)⟩
theorem jb_lget {ad : Nat → Nat} {ls : Array Slot} {nL k : Nat} {L : ja_L} {v : ja_V} (h : lv_has ls nL (jb_lv ad 0 L)) (hk : L[k]? = some (some v)) : ls[k]? = some (.val (jb_v ad v)) := by
  have := h.2.2 _ (jb_lv_of L 0 k v hk)
  simpa using this
theorem jb_cat (ad : Nat → Nat) (v : ja_V) : (jb_v ad v).category = ja_cat v := by
  rcases v with x | x | x
  · rfl
  · rfl
  · cases x <;> rfl
theorem jb_catsum (ad : Nat → Nat) : ∀ S : List ja_V, ((S.map (jb_v ad)).map fun v => v.category).sum = ja_sz S
  | [] => rfl
  | v :: S => by
    simp only [List.map_cons, List.sum_cons]
    rw [jb_cat, jb_catsum ad S]
    rfl
theorem jb_kl_get {L : ja_L} {i k : Nat} {v : ja_V} (h : (ja_kl L i)[k]? = some (some v)) : L[k]? = some (some v) ∧ ¬ (k + 1 = i ∧ ja_cat v = 2) := by
  cases i with
  | zero => exact ⟨h, fun q => by omega⟩
  | succ j =>
    have h2 : (match L[j]? with
      | some (some (.inr (.inl _))) => L.set j none
      | _ => L)[k]? = some (some v) := h
    clear h
    split at h2
    · rename_i x hx
      rw [List.getElem?_set] at h2
      split at h2
      · split at h2
        · cases h2
        · cases h2
      · rename_i hne
        exact ⟨h2, fun q => hne (by omega)⟩
    · rename_i hx
      refine ⟨h2, fun q => ?_⟩
      have e : k = j := by omega
      subst e
      rcases v with y | y | y
      · simp [ja_cat] at q
      · exact hx _ h2
      · simp [ja_cat] at q
theorem ja_kl_len (L : ja_L) (i : Nat) : (ja_kl L i).length = L.length := by
  cases i with
  | zero => rfl
  | succ j =>
    show (match L[j]? with
      | some (some (.inr (.inl _))) => L.set j none
      | _ => L).length = L.length
    split <;> simp
theorem jb_set1_sub {ad : Nat → Nat} {L : ja_L} {i : Nat} {v : ja_V} (hi : i < L.length) : ∀ q ∈ jb_lv ad 0 (ja_set1 L i v), q ∈ (i, jb_v ad v) :: (jb_lv ad 0 L).filter (fun q => !(q.1 == i) && !(q.1 + 1 == i && q.2.category == 2)) := by
  intro q hq
  obtain ⟨k, w, h1, rfl⟩ := jb_lv_mem _ _ _ hq
  unfold ja_set1 at h1
  rw [List.getElem?_set] at h1
  split at h1
  · rename_i e
    subst e
    split at h1
    · cases h1
      simp
    · cases h1
  · rename_i hne
    obtain ⟨h2, h3⟩ := jb_kl_get h1
    refine List.mem_cons_of_mem _ (List.mem_filter.mpr ⟨jb_lv_of L 0 k w h2, ?_⟩)
    have h4 : (jb_v ad w).category = ja_cat w := jb_cat ad w
    simp only [Nat.zero_add, h4, Bool.and_eq_true, Bool.not_eq_true', beq_eq_false_iff_ne, ne_eq, Bool.and_eq_false_iff]
    refine ⟨fun q => hne q.symm, ?_⟩
    by_cases hk : k + 1 = i
    · exact Or.inr (fun q => h3 ⟨hk, q⟩)
    · exact Or.inl hk
theorem jb_set2_sub {ad : Nat → Nat} {L : ja_L} {i : Nat} {v : ja_V} (hi : i + 1 < L.length) : ∀ q ∈ jb_lv ad 0 (ja_set2 L i v), q ∈ (i, jb_v ad v) :: (jb_lv ad 0 L).filter (fun q => !(q.1 == i) && (!(q.1 == i + 1) && !(q.1 + 1 == i && q.2.category == 2))) := by
  intro q hq
  obtain ⟨k, w, h1, rfl⟩ := jb_lv_mem _ _ _ hq
  unfold ja_set2 at h1
  rw [List.getElem?_set] at h1
  split at h1
  · split at h1
    · cases h1
    · cases h1
  · rename_i hne1
    rw [List.getElem?_set] at h1
    split at h1
    · rename_i e
      subst e
      split at h1
      · cases h1
        simp
      · cases h1
    · rename_i hne
      obtain ⟨h2, h3⟩ := jb_kl_get h1
      refine List.mem_cons_of_mem _ (List.mem_filter.mpr ⟨jb_lv_of L 0 k w h2, ?_⟩)
      have h4 : (jb_v ad w).category = ja_cat w := jb_cat ad w
      simp only [Nat.zero_add, h4, Bool.and_eq_true, Bool.not_eq_true', beq_eq_false_iff_ne, ne_eq, Bool.and_eq_false_iff]
      refine ⟨fun q => hne q.symm, fun q => hne1 q.symm, ?_⟩
      by_cases hk : k + 1 = i
      · exact Or.inr (fun q => h3 ⟨hk, q⟩)
      · exact Or.inl hk
theorem jb_set1_ok {L : ja_L} {i : Nat} {v : ja_V} (h : ∀ w, some w ∈ L → jb_ok w) (hv : jb_ok v) : ∀ w, some w ∈ ja_set1 L i v → jb_ok w := by
  intro w hw
  obtain ⟨k, hk⟩ := List.getElem?_of_mem hw
  unfold ja_set1 at hk
  rw [List.getElem?_set] at hk
  split at hk
  · split at hk
    · cases hk
      exact hv
    · cases hk
  · exact h w (List.mem_of_getElem? (jb_kl_get hk).1)
theorem jb_set2_ok {L : ja_L} {i : Nat} {v : ja_V} (h : ∀ w, some w ∈ L → jb_ok w) (hv : jb_ok v) : ∀ w, some w ∈ ja_set2 L i v → jb_ok w := by
  intro w hw
  obtain ⟨k, hk⟩ := List.getElem?_of_mem hw
  unfold ja_set2 at hk
  rw [List.getElem?_set] at hk
  split at hk
  · split at hk
    · cases hk
    · cases hk
  · rw [List.getElem?_set] at hk
    split at hk
    · split at hk
      · cases hk
        exact hv
      · cases hk
    · exact h w (List.mem_of_getElem? (jb_kl_get hk).1)
theorem ja_set1_len (L : ja_L) (i : Nat) (v : ja_V) : (ja_set1 L i v).length = L.length := by unfold ja_set1; simp [ja_kl_len]
theorem ja_set2_len (L : ja_L) (i : Nat) (v : ja_V) : (ja_set2 L i v).length = L.length := by unfold ja_set2; simp [ja_kl_len]
theorem ja_mask_len : ∀ (bs : List Bool) (L : ja_L), (ja_mask bs L).length = L.length
  | [], _ => rfl
  | _ :: _, [] => rfl
  | _ :: bs, _ :: L => by
    show (ja_mask bs L).length + 1 = L.length + 1
    rw [ja_mask_len bs L]
theorem ja_mask_get : ∀ (bs : List Bool) (L : ja_L) (k : Nat) (v : ja_V), (ja_mask bs L)[k]? = some (some v) → L[k]? = some (some v)
  | [], _, _, _, h => h
  | _ :: _, [], _, _, h => h
  | true :: _, _ :: _, 0, _, h => h
  | false :: _, _ :: _, 0, _, h => by simp [ja_mask] at h
  | _ :: bs, _ :: L, k + 1, v, h => ja_mask_get bs L k v h
/-! the cells' numbers within their bounds -/
def jb_lng (c i : Nat) : Bool := Nat.beq (ja_kd c).1 102 || (Nat.blt (ja_kd c).1 13 && Nat.beq (ja_ft (ja_kd c).1 i) 2)
def jb_num (c i : Nat) (x : Int) : Prop := if jb_lng c i = true then jb_ok (jl x) else jb_ok (ji x)
/-- no cell names one that isn't made yet -/
def jb_refM (φ : Bool) (M : ja_M) : Prop := ∀ c, 1 ≤ c → c ≤ (M 0 0).toNat → (∀ i, ja_rd φ M c i ≤ (M 0 0).toNat) ∧ ((ja_kd c).1 = 103 → c + (ja_kd c).2 ≤ (M 0 0).toNat)
def jb_Mok (φ : Bool) (M : ja_M) : Prop := (∀ c i, 1 ≤ c → jb_num c i (M c i)) ∧ (0 ≤ M 0 0 ∧ M 0 0 ≤ (ja_N0 : Int) + 1) ∧ (φ = true → (ja_N0 : Int) ≤ M 0 0) ∧ (0 ≤ M 0 1 ∧ 0 ≤ M 0 2) ∧ (0 ≤ M 0 4 ∧ M 0 4 < 2147483648) ∧ jb_refM φ M
def jb_cl (M : ja_M) : Nat := (M 0 1).toNat
def jb_sl (M : ja_M) : Nat := (M 0 2).toNat
def jb_gr (M M' : ja_M) : Prop := M 0 0 ≤ M' 0 0 ∧ M 0 1 ≤ M' 0 1 ∧ M 0 2 ≤ M' 0 2 ∧ M' 0 4 = M 0 4 ∧ ∀ j, M' (ja_RO + 2) j = M (ja_RO + 2) j
theorem jb_gr.rf (M : ja_M) : jb_gr M M := ⟨Int.le_refl _, Int.le_refl _, Int.le_refl _, rfl, fun _ => rfl⟩
theorem jb_gr.tr {A B C : ja_M} (h : jb_gr A B) (k : jb_gr B C) : jb_gr A C := ⟨Int.le_trans h.1 k.1, Int.le_trans h.2.1 k.2.1, Int.le_trans h.2.2.1 k.2.2.1, k.2.2.2.1.trans h.2.2.2.1, fun j => (k.2.2.2.2 j).trans (h.2.2.2.2 j)⟩
def jb_ro (G : jb_G) (ad : Nat → Nat) (M : ja_M) (U : State) : Prop :=
  va_Z "HuntTable$HuntReader" "LEAST" "[I" (.ref (ad ja_RO)) (jb_A G) U U.heap ∧ va_Z "HuntTable$HuntReader" "MOST" "[I" (.ref (ad (ja_RO + 1))) (jb_A G) U U.heap ∧
  va_X (ad ja_RO) 5 (fun j => Int32.ofInt (ja_ro ja_RO j)) U U.heap ∧ va_X (ad (ja_RO + 1)) 5 (fun j => Int32.ofInt (ja_ro (ja_RO + 1) j)) U U.heap ∧
  va_X (ad (ja_RO + 2)) (M 0 4).toNat (fun j => Int32.ofInt (M (ja_RO + 2) j)) U U.heap ∧ (ad ja_RO < G.2.2 ∧ ad (ja_RO + 1) < G.2.2 ∧ ad (ja_RO + 2) < G.2.2) ∧ G.2.2 ≤ U.heap.size
theorem jb_ro.to {G : jb_G} {ad ad' : Nat → Nat} {M M' : ja_M} {U : State} (h : jb_ro G ad M U) (hg : jb_gr M M') (ha : ∀ k, ja_RO ≤ k → ad' k = ad k) : jb_ro G ad' M' U := by
  obtain ⟨h1, h2, h3, h4, h5, h6, h7⟩ := h
  unfold jb_ro
  rw [ha ja_RO (Nat.le_refl _), ha (ja_RO + 1) (by decide), ha (ja_RO + 2) (by decide), hg.2.2.2.1]
  refine ⟨h1, h2, h3, h4, ?_, h6, h7⟩
  have e : (fun j => Int32.ofInt (M' (ja_RO + 2) j)) = (fun j => Int32.ofInt (M (ja_RO + 2) j)) := by
    funext j
    rw [hg.2.2.2.2]
  rw [e]
  exact h5
/-- what the walk keeps: the cells, the locals, the numbers' bounds, the room used -/
def jb_I (G : jb_G) (φ : Bool) (s : State) (nL C0 S0 : Nat) (ad0 : Nat → Nat) (lim0 : Nat) (ad : Nat → Nat) (M : ja_M) (H : Heap) (locs : List Loc) (L : ja_L) (ls : Array Slot) : Prop :=
  (va_P G.1 jm_cl (jb_ws G φ ad M) H ∧ va_D (jb_A G) (jb_ws G φ ad M) ∧ va_S (jb_A G) s.heap H locs ∧ jb_ro G ad M s) ∧ (lv_has ls nL (jb_lv ad 0 L) ∧ L.length = nL ∧ ∀ v, some v ∈ L → jb_ok v) ∧ jb_Mok φ M ∧ (C0 ≤ jb_cl M ∧ S0 ≤ jb_sl M) ∧ (∀ k, k ≤ lim0 ∨ ja_RO ≤ k → ad k = ad0 k) ∧ lim0 ≤ (M 0 0).toNat
