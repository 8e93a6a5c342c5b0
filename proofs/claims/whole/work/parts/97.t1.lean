/-! helpers: the class's search in breadth -/
def jF133 (M N : ja_M) : Prop := ∀ c i, ¬ (133 ≤ c ∧ c ≤ 136) → ¬ (c = 123 ∧ i = 10) → N c i = M c i
/-- who is next, the other way round -/
def mt_nx (n : Nat) (m x : Nat → Int) (L : List Nat) : Prop := ∀ a, a < n → (a ∈ L → ∃ j : Nat, j < n ∧ x a = (j : Int) ∧ m j = (a : Int)) ∧ (a ∉ L → x a = -1)
abbrev mt_wo (m : Nat → Int) (x : Nat) : Nat → Int := fun j => if j = x then -1 else m j
theorem mt_add {E : Nat → Nat → Bool} {n : Nat} {m m' : Nat → Int} {L : List Nat} {k x : Nat} (h : mt_ok E n (mt_wo m x) L) (hx : x < n) (hk : k ∉ L) (e : E k x = true) (hm : ∀ j, m' j = if j = x then (k : Int) else m j) : mt_ok E n m' (k :: L) := by
  have w : ∀ j, j ≠ x → mt_wo m x j = m j := fun j z => if_neg z
  have nk : ∀ j, j < n → j ≠ x → m j ≠ (k : Int) := fun j hj z y => by
    rcases h.1 j hj with q | ⟨a, q1, q2, -⟩
    · rw [w j z] at q
      omega
    · rw [w j z] at q1
      exact hk (by rw [show k = a by omega]; exact q2)
  refine ⟨fun j hj => ?_, fun a ha => ?_, fun i j hi hj q q' => ?_⟩
  · by_cases z : j = x
    · exact Or.inr ⟨k, by rw [hm, if_pos z], List.mem_cons_self .., by rw [z]; exact e⟩
    · rw [hm, if_neg z]
      rcases h.1 j hj with q | ⟨a, q1, q2, q3⟩
      · rw [w j z] at q
        exact Or.inl q
      · rw [w j z] at q1
        exact Or.inr ⟨a, q1, List.mem_cons_of_mem _ q2, q3⟩
  · rcases List.mem_cons.mp ha with z | ha
    · exact ⟨x, hx, by rw [hm, if_pos rfl, z]⟩
    · obtain ⟨j, j1, j2⟩ := h.2.1 a ha
      have z : j ≠ x := fun z => by
        have : mt_wo m x j = -1 := if_pos z
        omega
      rw [w j z] at j2
      exact ⟨j, j1, by rw [hm, if_neg z]; exact j2⟩
  · rw [hm, hm] at q
    rw [hm] at q'
    by_cases z : i = x
    · by_cases z' : j = x
      · omega
      · rw [if_pos z, if_neg z'] at q
        exact absurd q.symm (nk j hj z')
    · by_cases z' : j = x
      · rw [if_neg z, if_pos z'] at q
        exact absurd q (nk i hi z)
      · rw [if_neg z, if_neg z'] at q
        rw [if_neg z] at q'
        exact h.2.2 i j hi hj (by rw [w i z, w j z']; exact q) (by rw [w i z]; exact q')
theorem mt_addx {n : Nat} {m m' x x' : Nat → Int} {L : List Nat} {k y : Nat} (h : mt_nx n (mt_wo m y) x L) (hy : y < n) (hm : ∀ j, m' j = if j = y then (k : Int) else m j) (hx : ∀ a, x' a = if a = k then (y : Int) else x a) : mt_nx n m' x' (k :: L) := by
  intro a ha
  refine ⟨fun q => ?_, fun q => ?_⟩
  · by_cases z : a = k
    · exact ⟨y, hy, by rw [hx, if_pos z], by rw [hm, if_pos rfl, z]⟩
    · obtain ⟨j, j1, j2, j3⟩ := (h a ha).1 (by
        rcases List.mem_cons.mp q with e | e
        · exact absurd e z
        · exact e)
      have zj : j ≠ y := fun e => by
        have : mt_wo m y j = -1 := if_pos e
        omega
      have e3 : mt_wo m y j = m j := if_neg zj
      exact ⟨j, j1, by rw [hx, if_neg z]; exact j2, by rw [hm, if_neg zj]; omega⟩
  · have z : a ≠ k := fun e => q (e ▸ List.mem_cons_self ..)
    rw [hx, if_neg z]
    exact (h a ha).2 (fun e => q (List.mem_cons_of_mem _ e))
theorem mt_move {E : Nat → Nat → Bool} {n : Nat} {m m' : Nat → Int} {L : List Nat} {a x y : Nat} (h : mt_ok E n (mt_wo m x) L) (hx : x < n) (hy : y < n) (hyx : y ≠ x) (ha : m y = (a : Int)) (haL : a ∈ L) (e : E a x = true) (hm : ∀ j, m' j = if j = x then (a : Int) else m j) : mt_ok E n (mt_wo m' y) L := by
  have w : ∀ j, j ≠ x → mt_wo m x j = m j := fun j z => if_neg z
  have vx : mt_wo m' y x = (a : Int) := (if_neg (fun z => hyx z.symm)).trans ((hm x).trans (if_pos rfl))
  have vy : mt_wo m' y y = -1 := if_pos rfl
  have vo : ∀ j, j ≠ x → j ≠ y → mt_wo m' y j = m j := fun j z z' => (if_neg z').trans ((hm j).trans (if_neg z))
  have na : ∀ j, j < n → j ≠ x → j ≠ y → m j ≠ (a : Int) := fun j hj z z' q => z' (h.2.2 j y hj hy (by rw [w j z, w y hyx]; omega) (by rw [w j z]; omega))
  refine ⟨fun j hj => ?_, fun b hb => ?_, fun i j hi hj q q' => ?_⟩
  · by_cases z : j = x
    · rw [z]
      exact Or.inr ⟨a, vx, haL, e⟩
    · by_cases z' : j = y
      · rw [z']
        exact Or.inl vy
      · rw [vo j z z']
        have := h.1 j hj
        rw [w j z] at this
        exact this
  · obtain ⟨j, j1, j2⟩ := h.2.1 b hb
    have z : j ≠ x := fun z => by
      have : mt_wo m x j = -1 := if_pos z
      omega
    rw [w j z] at j2
    by_cases z' : j = y
    · rw [z'] at j2
      exact ⟨x, hx, by rw [vx]; omega⟩
    · exact ⟨j, j1, by rw [vo j z z']; exact j2⟩
  · have zi : i ≠ y := fun z => q' (by rw [z]; exact vy)
    have zj : j ≠ y := fun z => q' (by rw [q, z]; exact vy)
    by_cases z : i = x
    · by_cases z' : j = x
      · omega
      · rw [z, vx, vo j z' zj] at q
        exact absurd q.symm (na j hj z' zj)
    · by_cases z' : j = x
      · rw [z', vx, vo i z zi] at q
        exact absurd q (na i hi z zi)
      · rw [vo i z zi, vo j z' zj] at q
        rw [vo i z zi] at q'
        exact h.2.2 i j hi hj (by rw [w i z, w j z']; exact q) (by rw [w i z]; exact q')
theorem mt_movex {n : Nat} {m m' X X' : Nat → Int} {L : List Nat} {a x y : Nat} (h : mt_nx n (mt_wo m x) X L) (hx : x < n) (hyx : y ≠ x) (ha : m y = (a : Int)) (haL : a ∈ L) (hm : ∀ j, m' j = if j = x then (a : Int) else m j) (hX : ∀ b, X' b = if b = a then (x : Int) else X b) : mt_nx n (mt_wo m' y) X' L := by
  intro b hb
  refine ⟨fun q => ?_, fun q => ?_⟩
  · by_cases z : b = a
    · refine ⟨x, hx, by rw [hX, if_pos z], ?_⟩
      rw [z]
      exact (if_neg (fun z => hyx z.symm)).trans ((hm x).trans (if_pos rfl))
    · obtain ⟨j, j1, j2, j3⟩ := (h b hb).1 q
      have zj : j ≠ x := fun e => by
        have : mt_wo m x j = -1 := if_pos e
        omega
      have e3 : mt_wo m x j = m j := if_neg zj
      have zy : j ≠ y := fun e => by
        rw [e] at e3 j3
        omega
      exact ⟨j, j1, by rw [hX, if_neg z]; exact j2, (if_neg zy).trans (((hm j).trans (if_neg zj)).trans (e3.symm.trans j3))⟩
  · have z : b ≠ a := fun e => q (e ▸ haL)
    rw [hX, if_neg z]
    exact (h b hb).2 q
theorem js_giveWay {E : Nat → Nat → Bool} {n k : Nat} {L : List Nat} {N0 : ja_M} {q : Nat → Nat} (hn : n ≤ 36) (h9 : N0 123 9 = (n : Int)) (hk : k < n) (hkL : k ∉ L) (hL : ∀ x ∈ L, x < n) (hq0 : q 0 = k) (dd : Nat) : ∀ (i x c : Nat) (N : ja_M), jF133 N0 N → x < n → q i < n → N 135 x = (q i : Int) → E (q i) x = true → c + i + 1 ≤ n → mt_ok E n (mt_wo (N 134) x) L → mt_nx n (mt_wo (N 134) x) (N 133) L → (∀ a b, a ≤ i → b ≤ i → q a = q b → a = b) → (∀ i', 1 ≤ i' → i' ≤ i → q i' ∈ L ∧ ∀ j, j < n → mt_wo (N 134) x j = (q i' : Int) → ∃ i'', i'' < i' ∧ N 135 j = (q i'' : Int) ∧ E (q i'') j = true) → ∃ N', ja_D true (ja_x true dd) k_HelperCount_giveWay 4 [some (jr 123), none, some (ji (x : Int)), some (ji (c : Int)), none, none] [] N = some (none, N') ∧ jF133 N0 N' ∧ mt_ok E n (N' 134) (k :: L) ∧ mt_nx n (N' 134) (N' 133) (k :: L) := by
  intro i
  induction i using Nat.strongRecOn with
  | ind i ih =>
    intro x c N hf hx hqi hl hE hc hok hnx hinj hQ
    have e9 : N 123 9 = (n : Int) := (hf 123 9 (by omega) (by omega)).trans h9
    have st := e_HelperCount_giveWay_4 (ja_x true dd) (x : Int) (c : Int) N
    rw [e9, if_pos (by omega), if_neg (by omega), if_pos (by omega), show ((x : Int)).toNat = x from rfl, hl, if_neg (by omega), if_pos (by omega), if_pos (by omega), if_pos (by omega), show ((q i : Nat) : Int).toNat = q i from rfl, ja_w_id (x := (c : Int) + 1) (by omega) (by omega)] at st
    have m1 : ∀ j, (ja_up (ja_up N 133 (q i) (x : Int)) 134 x (q i : Int)) 134 j = if j = x then (q i : Int) else N 134 j := fun j => by
      by_cases z : j = x
      · rw [z, jb_up_eq, if_pos rfl]
      · rw [jb_up_nej z, jb_up_ne (by decide), if_neg z]
    have x1 : ∀ a, (ja_up (ja_up N 133 (q i) (x : Int)) 134 x (q i : Int)) 133 a = if a = q i then (x : Int) else N 133 a := fun a => by
      rw [jb_up_ne (by decide)]
      by_cases z : a = q i
      · rw [z, jb_up_eq, if_pos rfl]
      · rw [jb_up_nej z, if_neg z]
    have l1 : ∀ j, (ja_up (ja_up N 133 (q i) (x : Int)) 134 x (q i : Int)) 135 j = N 135 j := fun j => by rw [jb_up_ne (by decide), jb_up_ne (by decide)]
    have f1 : jF133 N0 (ja_up (ja_up N 133 (q i) (x : Int)) 134 x (q i : Int)) := fun c i y z => by
      rw [jb_up_ne (fun e => y (by omega)), jb_up_ne (fun e => y (by omega))]
      exact hf c i y z
    generalize (ja_up (ja_up N 133 (q i) (x : Int)) 134 x (q i : Int)) = N1 at st m1 x1 l1 f1
    rcases Nat.eq_zero_or_pos i with z | z
    · subst z
      rw [hq0] at m1 x1 st hE
      have nk : N 133 k = -1 := (hnx k hk).2 hkL
      refine ⟨N1, st.trans ?_, f1, mt_add hok hx hkL hE m1, mt_addx hnx hx m1 x1⟩
      rw [nk, e_HelperCount_giveWay_4]
      by_cases y : (c : Int) + 1 < N1 123 9
      · rw [if_pos y, if_pos rfl]
      · rw [if_neg y]
    · obtain ⟨qL, qj⟩ := hQ i z (Nat.le_refl _)
      obtain ⟨y, y1, y2, y3⟩ := (hnx (q i) hqi).1 qL
      have yx : y ≠ x := fun e => by
        have : mt_wo (N 134) x y = -1 := if_pos e
        omega
      have my : N 134 y = (q i : Int) := by
        have : mt_wo (N 134) x y = N 134 y := if_neg yx
        omega
      obtain ⟨i2, i21, i22, i23⟩ := qj y y1 y3
      have hq2 : q i2 < n := by
        rcases Nat.eq_zero_or_pos i2 with w | w
        · rw [w, hq0]
          exact hk
        · exact hL _ (hQ i2 w (by omega)).1
      obtain ⟨N', g1, g2⟩ := ih i2 i21 y (c + 1) N1 f1 y1 hq2 (by rw [l1]; exact i22) i23 (by omega) (mt_move hok hx y1 yx my qL hE m1) (mt_movex hnx hx yx my qL m1 x1) (fun a b ha hb => hinj a b (by omega) (by omega)) (fun i' h1 h2 => ⟨(hQ i' h1 (by omega)).1, fun j hj w => by
        have zy : j ≠ y := fun e => by
          have : mt_wo (N1 134) y j = -1 := if_pos e
          omega
        have w1 : mt_wo (N1 134) y j = N1 134 j := if_neg zy
        have w2 := m1 j
        have zx : j ≠ x := fun e => by
          rw [if_pos e] at w2
          have := hinj i i' (Nat.le_refl _) (by omega) (by omega)
          omega
        rw [if_neg zx] at w2
        have w3 : mt_wo (N 134) x j = N 134 j := if_neg zx
        rw [l1]
        exact (hQ i' h1 (by omega)).2 j hj (by omega)⟩)
      refine ⟨N', ?_, g2⟩
      rw [st, y2]
      exact g1
