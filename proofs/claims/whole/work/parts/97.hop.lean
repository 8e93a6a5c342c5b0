/-! helpers: where one can be in so many moves -/
def hp_A (M : ja_M) (a : Int) (p q : Nat) : Bool := decide (pv_st (M 12) (M 13) (p : Int) (q : Int) ≤ a)
def hp_s (A : Nat → Nat → Bool) (P : Nat) (f : Nat → Bool) : Nat → Bool := fun q => (List.range P).any (fun p => f p && A p q)
/-- the last move last -/
def hp_it (A : Nat → Nat → Bool) (P : Nat) (f : Nat → Bool) : Nat → Nat → Bool
  | 0 => f
  | d + 1 => hp_s A P (hp_it A P f d)
/-- the first move first -/
def hp_rc (A : Nat → Nat → Bool) (P : Nat) : Nat → Nat → Nat → Bool
  | 0, p, q => q == p
  | d + 1, p, q => (List.range P).any (fun r => A p r && hp_rc A P d r q)
theorem jv_any_iff {f : Nat → Bool} {n : Nat} : (List.range n).any f = true ↔ ∃ k, k < n ∧ f k = true := by
  rw [List.any_eq_true]
  exact ⟨fun ⟨k, h1, h2⟩ => ⟨k, List.mem_range.mp h1, h2⟩, fun ⟨k, h1, h2⟩ => ⟨k, List.mem_range.mpr h1, h2⟩⟩
theorem hp_rc_last {A : Nat → Nat → Bool} {P : Nat} : ∀ d p q, p < P → q < P → (hp_rc A P (d + 1) p q = true ↔ ∃ r, r < P ∧ hp_rc A P d p r = true ∧ A r q = true)
  | 0, p, q, hp, hq => by
    show (List.range P).any (fun r => A p r && (q == r)) = true ↔ ∃ r, r < P ∧ (r == p) = true ∧ A r q = true
    rw [jv_any_iff]
    constructor
    · rintro ⟨r, h1, h2⟩
      rw [Bool.and_eq_true, beq_iff_eq] at h2
      obtain ⟨h2, rfl⟩ := h2
      exact ⟨p, hp, beq_self_eq_true p, h2⟩
    · rintro ⟨r, h1, h2, h3⟩
      rw [beq_iff_eq] at h2
      subst h2
      exact ⟨q, hq, by rw [h3, beq_self_eq_true]; rfl⟩
  | d + 1, p, q, hp, hq => by
    show (List.range P).any (fun r => A p r && hp_rc A P (d + 1) r q) = true ↔ ∃ r, r < P ∧ (List.range P).any (fun s => A p s && hp_rc A P d s r) = true ∧ A r q = true
    rw [jv_any_iff]
    constructor
    · rintro ⟨s, h1, h2⟩
      rw [Bool.and_eq_true] at h2
      obtain ⟨r, r1, r2, r3⟩ := (hp_rc_last d s q h1 hq).mp h2.2
      exact ⟨r, r1, jv_any_iff.mpr ⟨s, h1, by rw [h2.1, r2]; rfl⟩, r3⟩
    · rintro ⟨r, r1, r2, r3⟩
      obtain ⟨s, s1, s2⟩ := jv_any_iff.mp r2
      rw [Bool.and_eq_true] at s2
      exact ⟨s, s1, by rw [s2.1, (hp_rc_last d s q s1 hq).mpr ⟨r, r1, s2.2, r3⟩]; rfl⟩
/-- both are the same places -/
theorem hp_eq {A : Nat → Nat → Bool} {P p : Nat} (hp : p < P) : ∀ d q, q < P → hp_it A P (fun i => i == p) d q = hp_rc A P d p q
  | 0, q, hq => rfl
  | d + 1, q, hq => by
    rw [Bool.eq_iff_iff, hp_rc_last d p q hp hq]
    show (List.range P).any (fun r => hp_it A P (fun i => i == p) d r && A r q) = true ↔ _
    rw [jv_any_iff]
    constructor
    · rintro ⟨r, r1, r2⟩
      rw [Bool.and_eq_true, hp_eq hp d r r1] at r2
      exact ⟨r, r1, r2.1, r2.2⟩
    · rintro ⟨r, r1, r2, r3⟩
      exact ⟨r, r1, by rw [hp_eq hp d r r1, r2, r3]; rfl⟩
theorem js_R_hop (dd : Nat) {M : ja_M} {a : Int} {f : Nat → Bool} {d : Nat} (hH : jH M) (hd : d ≤ 6) : ja_x true (dd + 2) 293 [jr 137, ji ((jv_set f (M 11 3).toNat : Nat) : Int), ji a, ji (d : Int)] M = some (some (ji ((jv_set (hp_it (hp_A M a) (M 11 3).toNat f d) (M 11 3).toNat : Nat) : Int)), M) := by
  have h0 := hH.b
  obtain ⟨P, hP⟩ : ∃ P : Nat, M 11 3 = (P : Int) := ⟨(M 11 3).toNat, by omega⟩
  have eP : (M 11 3).toNat = P := by omega
  rw [eP]
  have e27 : M 137 27 = (P : Int) := hH.2.1.1.trans hP
  have row : ∀ (g h : Nat → Bool) (i p : Nat), i ≤ 6 → p < P → ja_D true (ja_x true (dd + 1)) k_R_hop 17 [some (jr 137), none, some (ji a), some (ji (d : Int)), some (ji ((jv_set g P : Nat) : Int)), some (ji (i : Int)), some (ji ((jv_set h P : Nat) : Int)), some (ji (p : Int)), some (ji 0)] [] M = ja_D true (ja_x true (dd + 1)) k_R_hop 11 [some (jr 137), none, some (ji a), some (ji (d : Int)), some (ji ((jv_set g P : Nat) : Int)), some (ji (i : Int)), some (ji ((jv_set (fun q => h q || (g p && hp_A M a p q)) P : Nat) : Int)), some (ji ((p : Int) + 1)), none] [] M := by
    intro g h i p hi hp
    have h64 := jv_set_64 g (n := P) (by omega)
    have w := jz_loop (F := fun (v : Int) k => ja_D true (ja_x true (dd + 1)) k_R_hop 17 [some (jr 137), none, some (ji a), some (ji (d : Int)), some (ji ((jv_set g P : Nat) : Int)), some (ji (i : Int)), some (ji v), some (ji (p : Int)), some (ji k)] [] M) (N := fun n => ((jv_set (fun q => h q || (decide (q < n) && (g p && hp_A M a p q))) P : Nat) : Int)) (n := P) P 0 (by omega) (fun k _ hk => by
      show ja_D true (ja_x true (dd + 1)) k_R_hop 17 _ [] M = ja_D true (ja_x true (dd + 1)) k_R_hop 17 [_, _, _, _, _, _, some (ji ((jv_set (fun q => h q || (decide (q < k + 1) && (g p && hp_A M a p q))) P : Nat) : Int)), _, _] [] M
      have v64 := jv_set_64 (fun q => h q || (decide (q < k) && (g p && hp_A M a p q))) (n := P) (by omega)
      have same : (g p && hp_A M a p k) = false → jv_set (fun q => h q || (decide (q < k + 1) && (g p && hp_A M a p q))) P = jv_set (fun q => h q || (decide (q < k) && (g p && hp_A M a p q))) P := fun z => jv_set_congr P (fun q _ => by
        by_cases y : q = k
        · subst y
          rw [z]
          simp
        · rw [show decide (q < k + 1) = decide (q < k) from decide_eq_decide.mpr ⟨fun _ => by omega, fun _ => by omega⟩])
      have more : (g p && hp_A M a p k) = true → jv_set (fun q => h q || (decide (q < k) && (g p && hp_A M a p q))) P ||| 2 ^ k = jv_set (fun q => h q || (decide (q < k + 1) && (g p && hp_A M a p q))) P := fun z => jv_set_eq (fun q => by
        rw [Nat.testBit_or, jv_set_bit, Nat.testBit_two_pow]
        by_cases y : q = k
        · subst y
          rw [z]
          simp [hk]
        · have y2 : ¬ k = q := fun e => y e.symm
          rw [show decide (q < k + 1) = decide (q < k) from decide_eq_decide.mpr ⟨fun _ => by omega, fun _ => by omega⟩]
          simp [y2])
      have or0 : ja_or ((jv_set (fun q => h q || (decide (q < k) && (g p && hp_A M a p q))) P : Nat) : Int) 0 = ((jv_set (fun q => h q || (decide (q < k) && (g p && hp_A M a p q))) P : Nat) : Int) := by
        have := jx_or (a := jv_set (fun q => h q || (decide (q < k) && (g p && hp_A M a p q))) P) (b := 0) (by omega) (by decide)
        rw [Nat.or_zero] at this
        exact this
      have hbit : (jv_set g P).testBit p = g p := by
        rw [jv_set_bit]
        simp [hp]
      rw [e_R_hop_17, e27, if_pos (by omega), f_R_has, jx_bit (by omega) (by omega), hbit, or0, ja_w_id (x := (k : Int) + 1) (by omega) (by omega)]
      cases hg : g p with
      | false =>
        rw [if_neg (by decide), jz_bI, if_pos rfl]
        have := same (by rw [hg]; rfl)
        rw [hg] at this
        rw [this]
      | true =>
        rw [if_pos rfl, if_pos rfl, jz_bI, if_neg (by decide), js_R_steps dd hH (Or.inr (by omega)) (by omega), jz_bI]
        by_cases y : a < pv_st (M 12) (M 13) (p : Int) (k : Int)
        · have z : hp_A M a p k = false := decide_eq_false (by omega)
          rw [if_pos y]
          have := same (by rw [z, Bool.and_false])
          rw [hg] at this
          rw [this]
        · have z : hp_A M a p k = true := decide_eq_true (by omega)
          have := more (by rw [hg, z]; rfl)
          rw [hg] at this v64
          rw [if_neg y, jx_shl1 (by omega), jx_or (by omega) (jx_p2 (by omega)), this])
    have w : ja_D true (ja_x true (dd + 1)) k_R_hop 17 [some (jr 137), none, some (ji a), some (ji (d : Int)), some (ji ((jv_set g P : Nat) : Int)), some (ji (i : Int)), some (ji ((jv_set (fun q => h q || (decide (q < 0) && (g p && hp_A M a p q))) P : Nat) : Int)), some (ji (p : Int)), some (ji 0)] [] M = ja_D true (ja_x true (dd + 1)) k_R_hop 17 [some (jr 137), none, some (ji a), some (ji (d : Int)), some (ji ((jv_set g P : Nat) : Int)), some (ji (i : Int)), some (ji ((jv_set (fun q => h q || (decide (q < P) && (g p && hp_A M a p q))) P : Nat) : Int)), some (ji (p : Int)), some (ji (P : Int))] [] M := w
    rw [jv_set_congr P (f := fun q => h q || (decide (q < 0) && (g p && hp_A M a p q))) (g := h) (fun q _ => by simp), jv_set_congr P (f := fun q => h q || (decide (q < P) && (g p && hp_A M a p q))) (g := fun q => h q || (g p && hp_A M a p q)) (fun q hq => by simp [hq])] at w
    rw [w, e_R_hop_17, e27, if_neg (by omega), ja_w_id (by omega) (by omega)]
  have move : ∀ (g : Nat → Bool) (i : Nat), i ≤ 6 → ja_D true (ja_x true (dd + 1)) k_R_hop 11 [some (jr 137), none, some (ji a), some (ji (d : Int)), some (ji ((jv_set g P : Nat) : Int)), some (ji (i : Int)), some (ji 0), some (ji 0), none] [] M = ja_D true (ja_x true (dd + 1)) k_R_hop 4 [some (jr 137), none, some (ji a), some (ji (d : Int)), some (ji ((jv_set (hp_s (hp_A M a) P g) P : Nat) : Int)), some (ji ((i : Int) + 1)), none, none, none] [] M := by
    intro g i hi
    have w := jz_loop (F := fun (v : Int) k => ja_D true (ja_x true (dd + 1)) k_R_hop 11 [some (jr 137), none, some (ji a), some (ji (d : Int)), some (ji ((jv_set g P : Nat) : Int)), some (ji (i : Int)), some (ji v), some (ji k), none] [] M) (N := fun n => ((jv_set (fun q => (List.range n).any (fun p => g p && hp_A M a p q)) P : Nat) : Int)) (n := P) P 0 (by omega) (fun k _ hk => by
      show ja_D true (ja_x true (dd + 1)) k_R_hop 11 _ [] M = ja_D true (ja_x true (dd + 1)) k_R_hop 11 [_, _, _, _, _, _, some (ji ((jv_set (fun q => (List.range (k + 1)).any (fun p => g p && hp_A M a p q)) P : Nat) : Int)), _, _] [] M
      rw [e_R_hop_11, e27, if_pos (by omega), row g _ i k hi hk, jv_set_congr P (f := fun q => (List.range (k + 1)).any (fun p => g p && hp_A M a p q)) (fun q _ => jv_any_s _ k)])
    have w : ja_D true (ja_x true (dd + 1)) k_R_hop 11 [some (jr 137), none, some (ji a), some (ji (d : Int)), some (ji ((jv_set g P : Nat) : Int)), some (ji (i : Int)), some (ji ((jv_set (fun _ => false) P : Nat) : Int)), some (ji 0), none] [] M = ja_D true (ja_x true (dd + 1)) k_R_hop 11 [some (jr 137), none, some (ji a), some (ji (d : Int)), some (ji ((jv_set g P : Nat) : Int)), some (ji (i : Int)), some (ji ((jv_set (hp_s (hp_A M a) P g) P : Nat) : Int)), some (ji (P : Int)), none] [] M := w
    rw [jv_set_0 (f := fun _ => false) (jv_cnt_none P (fun _ _ => rfl)), show ((0 : Nat) : Int) = 0 from rfl] at w
    rw [w, e_R_hop_11, e27, if_neg (by omega), ja_w_id (by omega) (by omega)]
  have w := jz_loop (F := fun (v : Int) k => ja_D true (ja_x true (dd + 1)) k_R_hop 4 [some (jr 137), none, some (ji a), some (ji (d : Int)), some (ji v), some (ji k), none, none, none] [] M) (N := fun n => ((jv_set (hp_it (hp_A M a) P f n) P : Nat) : Int)) (n := d) d 0 (by omega) (fun k _ hk => by
    show ja_D true (ja_x true (dd + 1)) k_R_hop 4 _ [] M = _
    rw [e_R_hop_4, if_pos (by omega), move _ k (by omega)]
    rfl)
  have w : ja_D true (ja_x true (dd + 1)) k_R_hop 4 [some (jr 137), none, some (ji a), some (ji (d : Int)), some (ji ((jv_set f P : Nat) : Int)), some (ji 0), none, none, none] [] M = ja_D true (ja_x true (dd + 1)) k_R_hop 4 [some (jr 137), none, some (ji a), some (ji (d : Int)), some (ji ((jv_set (hp_it (hp_A M a) P f d) P : Nat) : Int)), some (ji (d : Int)), none, none, none] [] M := w
  rw [f_R_hop, w, e_R_hop_4, if_neg (by omega)]
