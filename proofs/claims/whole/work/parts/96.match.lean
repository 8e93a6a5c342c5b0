/-! helpers: who can be joined -/
theorem jc_sub {l : List Nat} : ∀ {V : List Nat}, l.Nodup → (∀ x ∈ l, x ∈ V) → l.length ≤ V.length := by
  induction l with
  | nil => exact fun _ _ => Nat.zero_le _
  | cons a l ih =>
    intro V hn h
    have ha := h a (List.mem_cons_self ..)
    rw [List.nodup_cons] at hn
    have := ih (V := V.erase a) hn.2 (fun x hx => (List.mem_erase_of_ne (fun e : x = a => hn.1 (e ▸ hx))).mpr (h x (List.mem_cons_of_mem _ hx)))
    rw [List.length_erase_of_mem ha] at this
    have hp : 0 < V.length := List.length_pos_of_mem ha
    rw [List.length_cons]
    omega
/-- all of a list can go on to different ones -/
def mt_can (E : Nat → Nat → Bool) (n : Nat) (L : List Nat) : Prop := ∃ g : Nat → Nat, (∀ a ∈ L, g a < n ∧ E a (g a) = true) ∧ ∀ a ∈ L, ∀ c ∈ L, g a = g c → a = c
/-- too few to go on to -/
theorem mt_hall {E : Nat → Nat → Bool} {n : Nat} {L A V : List Nat} (hA : A.Nodup) (hAL : ∀ a ∈ A, a ∈ L) (hV : ∀ a ∈ A, ∀ j, j < n → E a j = true → j ∈ V) (hlt : V.length < A.length) : ¬ mt_can E n L := by
  rintro ⟨g, h1, h2⟩
  have hn : (A.map g).Nodup := by
    clear hlt hV
    induction A with
    | nil => exact List.nodup_nil
    | cons a A ih =>
      rw [List.nodup_cons] at hA
      rw [List.map_cons, List.nodup_cons]
      refine ⟨fun hm => ?_, ih hA.2 (fun x hx => hAL x (List.mem_cons_of_mem _ hx))⟩
      obtain ⟨c, hc, e⟩ := List.mem_map.mp hm
      exact hA.1 (h2 c (hAL c (List.mem_cons_of_mem _ hc)) a (hAL a (List.mem_cons_self ..)) e ▸ hc)
  have := jc_sub (V := V) hn (fun x hx => by
    obtain ⟨a, ha, rfl⟩ := List.mem_map.mp hx
    have := h1 a (hAL a ha)
    exact hV a ha (g a) this.1 this.2)
  rw [List.length_map] at this
  omega
/-- those who are joined, the first k asked in turn -/
noncomputable def mt_J (E : Nat → Nat → Bool) (n : Nat) : Nat → List Nat
  | 0 => []
  | k + 1 => @ite _ (mt_can E n (k :: mt_J E n k)) (Classical.propDecidable _) (k :: mt_J E n k) (mt_J E n k)
theorem mt_J_lt {E : Nat → Nat → Bool} {n : Nat} : ∀ k, ∀ a ∈ mt_J E n k, a < k
  | 0, a, h => by cases h
  | k + 1, a, h => by
    unfold mt_J at h
    by_cases z : mt_can E n (k :: mt_J E n k)
    · rw [if_pos z] at h
      rcases List.mem_cons.mp h with rfl | h
      · exact Nat.lt_succ_self _
      · exact Nat.lt_succ_of_lt (mt_J_lt k a h)
    · rw [if_neg z] at h
      exact Nat.lt_succ_of_lt (mt_J_lt k a h)
theorem mt_J_nd {E : Nat → Nat → Bool} {n : Nat} : ∀ k, (mt_J E n k).Nodup
  | 0 => List.nodup_nil
  | k + 1 => by
    unfold mt_J
    by_cases z : mt_can E n (k :: mt_J E n k)
    · rw [if_pos z, List.nodup_cons]
      exact ⟨fun h => Nat.lt_irrefl _ (mt_J_lt k k h), mt_J_nd k⟩
    · rw [if_neg z]
      exact mt_J_nd k
theorem mt_J_y {E : Nat → Nat → Bool} {n k : Nat} (h : mt_can E n (k :: mt_J E n k)) : mt_J E n (k + 1) = k :: mt_J E n k := by
  show @ite _ (mt_can E n (k :: mt_J E n k)) (Classical.propDecidable _) _ _ = _
  rw [if_pos h]
theorem mt_J_n {E : Nat → Nat → Bool} {n k : Nat} (h : ¬ mt_can E n (k :: mt_J E n k)) : mt_J E n (k + 1) = mt_J E n k := by
  show @ite _ (mt_can E n (k :: mt_J E n k)) (Classical.propDecidable _) _ _ = _
  rw [if_neg h]
/-- a joining, kept by who is ahead: m j is -1, or the one ahead of j -/
def mt_ok (E : Nat → Nat → Bool) (n : Nat) (m : Nat → Int) (L : List Nat) : Prop := (∀ j, j < n → m j = -1 ∨ ∃ a : Nat, m j = (a : Int) ∧ a ∈ L ∧ E a j = true) ∧ (∀ a ∈ L, ∃ j, j < n ∧ m j = (a : Int)) ∧ ∀ i j, i < n → j < n → m i = m j → m i ≠ -1 → i = j
theorem mt_ok_can {E : Nat → Nat → Bool} {n : Nat} {m : Nat → Int} {L : List Nat} (h : mt_ok E n m L) : mt_can E n L := by
  have hx : ∀ a, ∃ j, a ∈ L → j < n ∧ m j = (a : Int) := fun a => by
    by_cases q : a ∈ L
    · obtain ⟨j, h1, h2⟩ := h.2.1 a q
      exact ⟨j, fun _ => ⟨h1, h2⟩⟩
    · exact ⟨0, fun z => absurd z q⟩
  refine ⟨fun a => (hx a).choose, fun a ha => ?_, fun a ha c hc e => ?_⟩
  · obtain ⟨h1, h2⟩ := (hx a).choose_spec ha
    refine ⟨h1, ?_⟩
    rcases h.1 _ h1 with z | ⟨b, z1, z2, z3⟩
    · omega
    · have : b = a := by omega
      rw [this] at z3
      exact z3
  · have h1 := ((hx a).choose_spec ha).2
    have h2 := ((hx c).choose_spec hc).2
    have e : (hx a).choose = (hx c).choose := e
    rw [e] at h1
    omega
/-- a failing search: the ones looked at are all joined, and nobody goes on to others -/
theorem mt_fail {E : Nat → Nat → Bool} {n k : Nat} {m : Nat → Int} {L V : List Nat} (h : mt_ok E n m L) (hk : k ∉ L) (hVn : V.Nodup) (hV : ∀ j ∈ V, j < n ∧ m j ≠ -1) (hk2 : ∀ j, j < n → E k j = true → j ∈ V) (hout : ∀ j ∈ V, ∀ i, i < n → E (m j).toNat i = true → i ∈ V) : ¬ mt_can E n (k :: L) := by
  have hm : ∀ j ∈ V, (m j).toNat ∈ L ∧ m j = ((m j).toNat : Int) := fun j hj => by
    rcases h.1 j (hV j hj).1 with z | ⟨a, z1, z2, -⟩
    · exact absurd z (hV j hj).2
    · rw [z1]
      exact ⟨z2, rfl⟩
  refine mt_hall (A := k :: V.map (fun j => (m j).toNat)) (V := V) ?_ ?_ ?_ (by rw [List.length_cons, List.length_map]; omega)
  · rw [List.nodup_cons]
    refine ⟨fun z => ?_, ?_⟩
    · obtain ⟨j, hj, e⟩ := List.mem_map.mp z
      exact hk (e ▸ (hm j hj).1)
    · have key : ∀ W : List Nat, W.Nodup → (∀ j ∈ W, j ∈ V) → (W.map (fun j => (m j).toNat)).Nodup := by
        intro W
        induction W with
        | nil => exact fun _ _ => List.nodup_nil
        | cons a W ih =>
          intro hW hWV
          rw [List.nodup_cons] at hW
          rw [List.map_cons, List.nodup_cons]
          refine ⟨fun z => ?_, ih hW.2 (fun x hx => hWV x (List.mem_cons_of_mem _ hx))⟩
          obtain ⟨j, hj, e⟩ := List.mem_map.mp z
          have e : (m j).toNat = (m a).toNat := e
          have ha := hWV a (List.mem_cons_self ..)
          have hj' := hWV j (List.mem_cons_of_mem _ hj)
          have e1 := (hm j hj').2
          have e2 := (hm a ha).2
          have : j = a := h.2.2 j a (hV j hj').1 (hV a ha).1 (by omega) (hV j hj').2
          exact hW.1 (this ▸ hj)
      exact key V hVn (fun j hj => hj)
  · intro a ha
    rcases List.mem_cons.mp ha with rfl | ha
    · exact List.mem_cons_self ..
    · obtain ⟨j, hj, rfl⟩ := List.mem_map.mp ha
      exact List.mem_cons_of_mem _ (hm j hj).1
  · intro a ha i hi e
    rcases List.mem_cons.mp ha with rfl | ha
    · exact hk2 i hi e
    · obtain ⟨j, hj, rfl⟩ := List.mem_map.mp ha
      exact hout j hj i hi e
