/-! tables: a band set at a place, and taken away -/
theorem jv_set_add {f : Nat → Bool} {P p : Nat} (hp : p < P) : jv_set f P ||| 2 ^ p = jv_set (fun q => f q || q == p) P := jv_set_eq (fun i => by
  rw [Nat.testBit_or, jv_set_bit, Nat.testBit_two_pow]
  by_cases z : i = p
  · subst z
    simp [hp]
  · have z2 : ¬ p = i := fun e => z e.symm
    have z3 : (i == p) = false := beq_eq_false_iff_ne.mpr z
    simp [z2, z3])
theorem g_any1 {P b t p q : Nat} {g : Nat → Nat → Option Nat} (ht : t < P) (hn : g b t = none) : (List.range P).any (fun t' => gup g b t (some p) b t' == some q) = ((List.range P).any (fun t' => g b t' == some q) || q == p) := by
  rw [Bool.eq_iff_iff, Bool.or_eq_true, jv_any_iff, jv_any_iff, beq_iff_eq]
  constructor
  · rintro ⟨u, h1, h2⟩
    rw [beq_iff_eq] at h2
    by_cases z : u = t
    · have : gup g b t (some p) b u = some p := if_pos ⟨rfl, z⟩
      rw [this] at h2
      cases h2
      exact Or.inr rfl
    · have : gup g b t (some p) b u = g b u := if_neg (fun e => z e.2)
      rw [this] at h2
      exact Or.inl ⟨u, h1, beq_iff_eq.mpr h2⟩
  · rintro (⟨u, h1, h2⟩ | rfl)
    · rw [beq_iff_eq] at h2
      have z : u ≠ t := fun e => by
        rw [e, hn] at h2
        cases h2
      exact ⟨u, h1, beq_iff_eq.mpr ((if_neg (fun e => z e.2)).trans h2)⟩
    · exact ⟨t, ht, beq_iff_eq.mpr (if_pos ⟨rfl, rfl⟩)⟩
theorem g_any2 {B b t p q : Nat} {g : Nat → Nat → Option Nat} (hb : b < B) (hn : g b t = none) : (List.range B).any (fun b' => gup g b t (some p) b' t == some q) = ((List.range B).any (fun b' => g b' t == some q) || q == p) := by
  rw [Bool.eq_iff_iff, Bool.or_eq_true, jv_any_iff, jv_any_iff, beq_iff_eq]
  constructor
  · rintro ⟨u, h1, h2⟩
    rw [beq_iff_eq] at h2
    by_cases z : u = b
    · have : gup g b t (some p) u t = some p := if_pos ⟨z, rfl⟩
      rw [this] at h2
      cases h2
      exact Or.inr rfl
    · have : gup g b t (some p) u t = g u t := if_neg (fun e => z e.1)
      rw [this] at h2
      exact Or.inl ⟨u, h1, beq_iff_eq.mpr h2⟩
  · rintro (⟨u, h1, h2⟩ | rfl)
    · rw [beq_iff_eq] at h2
      have z : u ≠ b := fun e => by
        rw [e, hn] at h2
        cases h2
      exact ⟨u, h1, beq_iff_eq.mpr ((if_neg (fun e => z e.1)).trans h2)⟩
    · exact ⟨b, hb, beq_iff_eq.mpr (if_pos ⟨rfl, rfl⟩)⟩
theorem gcnt_b (P : Nat) (g : Nat → Nat → Option Nat) (x y : Nat) : 0 ≤ gcnt P g x y ∧ gcnt P g x y ≤ ((P - 1 : Nat) : Int) := jv_cnt_b _ _
/-- the search's row of orders, changed for a band -/
abbrev rup (ρ : Nat → Int) (b : Nat) (v : Int) : Nat → Int := fun b' => if b' = b then v else ρ b'
theorem js_place (dd : Nat) {N : ja_M} {P B b t p : Nat} {ρ : Nat → Int} {g : Nat → Nat → Option Nat} (hP5 : P ≤ 5) (hB5 : B ≤ 5) (hI : fI P B N ρ g) (hb : b < B) (ht : t < P) (hp : p < P) (hn : g b t = none) (hf1 : ∀ t', g b t' ≠ some p) (hf2 : ∀ b', b' < B → g b' t ≠ some p) (hU : gU B g) (hρ : 0 ≤ ρ b ∧ ρ b < 1000000) (k : ja_M → Option ja_R) : ∃ N', ja_bV (ja_x true (dd + 1) 166 [jr 93, ji (b : Int), ji (t : Int), ji (p : Int)] N) (fun M11 => ja_bV (ja_x true (dd + 1) 167 [jr 93, ji (b : Int), ji (gAh N t p), ji 1] M11) (fun M12 => ja_bV (ja_x true (dd + 1) 167 [jr 93, ji (gBh P N t p), ji (b : Int), ji 1] M12) k)) = k N' ∧ fI P B N' (rup ρ b (ρ b * 10 + (p : Int))) (gup g b t (some p)) ∧ jFr s108 N N' := by
  obtain ⟨i1, i2, i3, i4, i5⟩ := hI
  have ha := gAh_i ⟨i1, i2, i3, i4, i5⟩ ht hp
  have hh := gBh_i (t := t) ⟨i1, i2, i3, i4, i5⟩ hp
  have e108 := i1 b (by omega)
  have e109 := i2 b hb
  have e110 := i3 t ht
  have a64 := jv_set_64 (fun q => (List.range P).any (fun t' => g b t' == some q)) (n := P) (by omega)
  have c64 := jv_set_64 (fun q => (List.range B).any (fun b' => g b' t == some q)) (n := P) (by omega)
  have st := f_Finds_set dd (b : Int) (t : Int) (p : Int) N
  have m1 : (ja_up N 108 b (ρ b * 10 + (p : Int))) 109 b = ((jv_set (fun q => (List.range P).any (fun t' => g b t' == some q)) P : Nat) : Int) := (jb_up_ne (by decide)).trans e109
  have m2 : (ja_up (ja_up N 108 b (ρ b * 10 + (p : Int))) 109 b ((jv_set (fun q => (List.range P).any (fun t' => g b t' == some q) || q == p) P : Nat) : Int)) 110 t = ((jv_set (fun q => (List.range B).any (fun b' => g b' t == some q)) P : Nat) : Int) := ((jb_up_ne (by decide)).trans (jb_up_ne (by decide))).trans e110
  rw [if_pos (by omega), if_pos (by omega), if_pos (by omega), if_pos (by omega), if_pos (by omega), if_pos (by omega), if_pos (by omega), show ((b : Int)).toNat = b from rfl, show ((t : Int)).toNat = t from rfl, e108, ja_w_id (x := ρ b * 10) (by omega) (by omega), ja_w_id (x := ρ b * 10 + (p : Int)) (by omega) (by omega), m1, jx_shl1 (by omega), jx_or (by omega) (jx_p2 (by omega)), jv_set_add hp, m2, jx_or (by omega) (jx_p2 (by omega)), jv_set_add hp, show 111 + 1 + t = 112 + t by omega, jz_ast (n := 5) (jk_112 t (by omega)) (by omega) (by omega) (by omega) (by omega), show ((p : Int)).toNat = p from rfl] at st
  have n108 : ∀ i, (ja_up (ja_up (ja_up (ja_up N 108 b (ρ b * 10 + (p : Int))) 109 b ((jv_set (fun q => (List.range P).any (fun t' => g b t' == some q) || q == p) P : Nat) : Int)) 110 t ((jv_set (fun q => (List.range B).any (fun b' => g b' t == some q) || q == p) P : Nat) : Int)) (112 + t) p (b : Int)) 108 i = if i = b then ρ b * 10 + (p : Int) else N 108 i := fun i => by
    rw [jb_up_ne (by omega), jb_up_ne (by decide), jb_up_ne (by decide)]
    by_cases z : i = b
    · rw [z, jb_up_eq, if_pos rfl]
    · rw [jb_up_nej z, if_neg z]
  have n109 : ∀ i, (ja_up (ja_up (ja_up (ja_up N 108 b (ρ b * 10 + (p : Int))) 109 b ((jv_set (fun q => (List.range P).any (fun t' => g b t' == some q) || q == p) P : Nat) : Int)) 110 t ((jv_set (fun q => (List.range B).any (fun b' => g b' t == some q) || q == p) P : Nat) : Int)) (112 + t) p (b : Int)) 109 i = if i = b then ((jv_set (fun q => (List.range P).any (fun t' => g b t' == some q) || q == p) P : Nat) : Int) else N 109 i := fun i => by
    rw [jb_up_ne (by omega), jb_up_ne (by decide)]
    by_cases z : i = b
    · rw [z, jb_up_eq, if_pos rfl]
    · rw [jb_up_nej z, jb_up_ne (by decide), if_neg z]
  have n110 : ∀ i, (ja_up (ja_up (ja_up (ja_up N 108 b (ρ b * 10 + (p : Int))) 109 b ((jv_set (fun q => (List.range P).any (fun t' => g b t' == some q) || q == p) P : Nat) : Int)) 110 t ((jv_set (fun q => (List.range B).any (fun b' => g b' t == some q) || q == p) P : Nat) : Int)) (112 + t) p (b : Int)) 110 i = if i = t then ((jv_set (fun q => (List.range B).any (fun b' => g b' t == some q) || q == p) P : Nat) : Int) else N 110 i := fun i => by
    rw [jb_up_ne (by omega)]
    by_cases z : i = t
    · rw [z, jb_up_eq, if_pos rfl]
    · rw [jb_up_nej z, jb_up_ne (by decide), jb_up_ne (by decide), if_neg z]
  have n112 : ∀ t' q, (ja_up (ja_up (ja_up (ja_up N 108 b (ρ b * 10 + (p : Int))) 109 b ((jv_set (fun q => (List.range P).any (fun t' => g b t' == some q) || q == p) P : Nat) : Int)) 110 t ((jv_set (fun q => (List.range B).any (fun b' => g b' t == some q) || q == p) P : Nat) : Int)) (112 + t) p (b : Int)) (112 + t') q = if t' = t ∧ q = p then (b : Int) else N (112 + t') q := fun t' q => by
    by_cases z : t' = t ∧ q = p
    · rw [z.1, z.2, jb_up_eq, if_pos ⟨rfl, rfl⟩]
    · rw [jz_up, if_neg (fun e => z ⟨by omega, e.2⟩), jb_up_ne (by omega), jb_up_ne (by omega), jb_up_ne (by omega), if_neg z]
  have nfr : jFr s108 N (ja_up (ja_up (ja_up (ja_up N 108 b (ρ b * 10 + (p : Int))) 109 b ((jv_set (fun q => (List.range P).any (fun t' => g b t' == some q) || q == p) P : Nat) : Int)) 110 t ((jv_set (fun q => (List.range B).any (fun b' => g b' t == some q) || q == p) P : Nat) : Int)) (112 + t) p (b : Int)) := ((((jFr.rf N).up (by decide)).up (by decide)).up (by decide)).up (show 108 ≤ 112 + t ∧ 112 + t ≤ 122 by omega)
  have n118 : ∀ x y, (ja_up (ja_up (ja_up (ja_up N 108 b (ρ b * 10 + (p : Int))) 109 b ((jv_set (fun q => (List.range P).any (fun t' => g b t' == some q) || q == p) P : Nat) : Int)) 110 t ((jv_set (fun q => (List.range B).any (fun b' => g b' t == some q) || q == p) P : Nat) : Int)) (112 + t) p (b : Int)) (118 + x) y = N (118 + x) y := fun x y => by
    rw [jb_up_ne (by omega), jb_up_ne (by omega), jb_up_ne (by omega), jb_up_ne (by omega)]
  generalize (ja_up (ja_up (ja_up (ja_up N 108 b (ρ b * 10 + (p : Int))) 109 b ((jv_set (fun q => (List.range P).any (fun t' => g b t' == some q) || q == p) P : Nat) : Int)) 110 t ((jv_set (fun q => (List.range B).any (fun b' => g b' t == some q) || q == p) P : Nat) : Int)) (112 + t) p (b : Int)) = N1 at st n108 n109 n110 n112 nfr n118
  obtain ⟨N2, N3, w1, w2, w3, w4⟩ := js_follow2 dd (N := N1) (P := P) (c := 1) hB5 hb (Or.inl rfl) hU (fun x y hx hy => by
    rw [n118, i5 x y hx hy]
    have := gcnt_b P g x y
    omega) ha hh hf1
  refine ⟨N3, by rw [st, jz_bV, w1, jz_bV, w2, jz_bV], ⟨fun b' hb' => ?_, fun b' hb' => ?_, fun t' ht' => ?_, fun t' q ht' hq => ⟨fun b' hb' e => ?_, fun h => ?_⟩, fun x y hx hy => ?_⟩, fun c i hc => (w4 c i (fun e => hc (by have := e; show 108 ≤ c ∧ c ≤ 122; omega))).trans (nfr c i hc)⟩
  · rw [w4 108 b' (by omega), n108]
    show _ = if b' = b then ρ b * 10 + (p : Int) else ρ b'
    by_cases z : b' = b
    · rw [if_pos z, if_pos z]
    · rw [if_neg z, if_neg z]
      exact i1 b' hb'
  · rw [w4 109 b' (by omega), n109]
    by_cases z : b' = b
    · subst z
      rw [if_pos rfl, jv_set_congr P (fun q _ => (g_any1 (q := q) (p := p) ht hn).symm)]
    · rw [if_neg z, i2 b' hb', jv_set_congr P (g := fun q => (List.range P).any (fun t' => gup g b t (some p) b' t' == some q)) (fun q _ => by
        congr 1
        funext t'
        rw [show gup g b t (some p) b' t' = g b' t' from if_neg (fun e => z e.1)])]
  · rw [w4 110 t' (by omega), n110]
    by_cases z : t' = t
    · subst z
      rw [if_pos rfl, jv_set_congr P (fun q _ => (g_any2 (q := q) (p := p) hb hn).symm)]
    · rw [if_neg z, i3 t' ht', jv_set_congr P (g := fun q => (List.range B).any (fun b' => gup g b t (some p) b' t' == some q)) (fun q _ => by
        congr 1
        funext b'
        rw [show gup g b t (some p) b' t' = g b' t' from if_neg (fun e => z e.2)])]
  · rw [w4 (112 + t') q (by omega), n112]
    by_cases z : t' = t ∧ q = p
    · rw [if_pos z]
      by_cases y : b' = b
      · rw [y]
      · have : gup g b t (some p) b' t' = g b' t' := if_neg (fun e => y e.1)
        rw [this, z.1, z.2] at e
        exact absurd e (hf2 b' hb')
    · rw [if_neg z]
      refine (i4 t' q ht' hq).1 b' hb' ?_
      by_cases y : b' = b ∧ t' = t
      · have : gup g b t (some p) b' t' = some p := if_pos y
        rw [this] at e
        cases e
        exact absurd ⟨y.2, rfl⟩ z
      · have : gup g b t (some p) b' t' = g b' t' := if_neg y
        rw [this] at e
        exact e
  · rw [w4 (112 + t') q (by omega), n112, if_neg (fun z => h b hb (by rw [z.2]; exact if_pos ⟨rfl, z.1⟩))]
    refine (i4 t' q ht' hq).2 (fun b' hb' e => ?_)
    by_cases y : b' = b ∧ t' = t
    · rw [y.1, y.2, hn] at e
      cases e
    · exact h b' hb' ((if_neg y).trans e)
  · rw [w3 x y hx hy, n118, i5 x y hx hy, gcnt_up ht hn hf1 x y]
theorem js_follow2r (dd : Nat) {N : ja_M} {P B b t p : Nat} {g : Nat → Nat → Option Nat} {ah bh c : Int} (hB5 : B ≤ 5) (hb : b < B) (hc : c = 1 ∨ c = -1) (hU : gU B g) (hbd : ∀ x y, x < B → y < B → -100 ≤ N (118 + x) y ∧ N (118 + x) y ≤ 100) (ha : (∃ y, y < B ∧ ah = (y : Int) ∧ 1 ≤ t ∧ g y (t - 1) = some p) ∨ (ah = -1 ∧ ∀ y, y < B → ¬ (1 ≤ t ∧ g y (t - 1) = some p))) (hh : (∃ x, x < B ∧ bh = (x : Int) ∧ t + 1 < P ∧ g x (t + 1) = some p) ∨ (bh = -1 ∧ ∀ x, x < B → ¬ (t + 1 < P ∧ g x (t + 1) = some p))) (hp : ∀ t', g b t' ≠ some p) : ∃ N1 N', ja_x true (dd + 1) 167 [jr 93, ji bh, ji (b : Int), ji c] N = some (none, N1) ∧ ja_x true (dd + 1) 167 [jr 93, ji (b : Int), ji ah, ji c] N1 = some (none, N') ∧ (∀ x y, x < B → y < B → N' (118 + x) y = N (118 + x) y + (if x = b ∧ (1 ≤ t ∧ g y (t - 1) = some p) then c else 0) + (if y = b ∧ (t + 1 < P ∧ g x (t + 1) = some p) then c else 0)) ∧ ∀ d i, ¬ (118 ≤ d ∧ d ≤ 122) → N' d i = N d i := by
  have first : ∃ N1, ja_x true (dd + 1) 167 [jr 93, ji bh, ji (b : Int), ji c] N = some (none, N1) ∧ (∀ x y, x < B → y < B → N1 (118 + x) y = N (118 + x) y + (if y = b ∧ (t + 1 < P ∧ g x (t + 1) = some p) then c else 0)) ∧ ∀ d i, ¬ (118 ≤ d ∧ d ≤ 122) → N1 d i = N d i := by
    clear ha
    rcases hh with ⟨x0, x1, rfl, x3, x4⟩ | ⟨rfl, x2⟩
    · have bd := hbd x0 b x1 hb
      refine ⟨_, js_follow dd (by omega) (by omega), fun x y hx hy => ?_, fun d i h => jb_up_ne (fun e => h (by omega))⟩
      rw [ja_w_id (by omega) (by omega)]
      by_cases z : x = x0 ∧ y = b
      · rw [z.1, z.2, jb_up_eq, if_pos ⟨rfl, x3, x4⟩]
      · rw [jz_up, if_neg (fun e => z ⟨by omega, e.2⟩), if_neg (fun q => z ⟨hU x x0 (t + 1) p hx x1 q.2.2 x4, q.1⟩), Int.add_zero]
    · refine ⟨N, js_follow_n dd (Or.inl rfl), fun x y hx hy => ?_, fun _ _ _ => rfl⟩
      rw [if_neg (fun q => x2 x hx q.2), Int.add_zero]
  obtain ⟨N1, f1, f2, f3⟩ := first
  clear hh
  rcases ha with ⟨y0, y1, rfl, y3, y4⟩ | ⟨rfl, y2⟩
  · have bd := hbd b y0 hb y1
    have yb : y0 ≠ b := fun e => hp (t - 1) (e ▸ y4)
    have e1 := f2 b y0 hb y1
    rw [if_neg (fun q => yb q.1), Int.add_zero] at e1
    refine ⟨N1, _, f1, js_follow dd (by omega) (by omega), fun x y hx hy => ?_, fun d i h => (jb_up_ne (fun e => h (by omega))).trans (f3 d i h)⟩
    rw [e1, ja_w_id (by omega) (by omega)]
    by_cases z : x = b ∧ y = y0
    · rw [z.1, z.2, jb_up_eq, if_pos ⟨rfl, y3, y4⟩, if_neg (fun q => yb q.1), Int.add_zero]
    · rw [jz_up, if_neg (fun e => z ⟨by omega, e.2⟩), f2 x y hx hy, if_neg (c := x = b ∧ _) (fun q => z ⟨q.1, hU y y0 (t - 1) p hy y1 q.2.2 y4⟩), Int.add_zero]
  · refine ⟨N1, N1, f1, js_follow_n dd (Or.inr rfl), fun x y hx hy => ?_, f3⟩
    rw [f2 x y hx hy, if_neg (c := x = b ∧ _) (fun q => y2 y hy q.2), Int.add_zero]
theorem js_unplace (dd : Nat) {N0 N : ja_M} {P B b t p : Nat} {ρ ρ0 : Nat → Int} {g : Nat → Nat → Option Nat} {o : Int} (hP5 : P ≤ 5) (hB5 : B ≤ 5) (hI0 : fI P B N0 ρ0 g) (hI : fI P B N ρ (gup g b t (some p))) (hb : b < B) (ht : t < P) (hp : p < P) (hn : g b t = none) (hf1 : ∀ t', g b t' ≠ some p) (hf2 : ∀ b', b' < B → g b' t ≠ some p) (hU : gU B g) (k : ja_M → Option ja_R) : ∃ N', ja_bV (ja_x true (dd + 1) 167 [jr 93, ji (gBh P N0 t p), ji (b : Int), ji (-1)] N) (fun M15 => ja_bV (ja_x true (dd + 1) 167 [jr 93, ji (b : Int), ji (gAh N0 t p), ji (-1)] M15) (fun M16 => ja_bV (ja_x true (dd + 1) 168 [jr 93, ji (b : Int), ji (t : Int), ji (p : Int), ji o] M16) k)) = k N' ∧ fI P B N' (rup ρ b o) g ∧ jFr s108 N N' := by
  have ha := gAh_i hI0 ht hp
  have hh := gBh_i (t := t) hI0 hp
  obtain ⟨i1, i2, i3, i4, i5⟩ := hI
  obtain ⟨N2, N3, w1, w2, w3, w4⟩ := js_follow2r dd (N := N) (P := P) (c := -1) hB5 hb (Or.inr rfl) hU (fun x y hx hy => by
    rw [i5 x y hx hy]
    have := gcnt_b P (gup g b t (some p)) x y
    omega) ha hh hf1
  clear ha hh
  have a64 := jv_set_64 (fun q => (List.range P).any (fun t' => gup g b t (some p) b t' == some q)) (n := P) (by omega)
  have c64 := jv_set_64 (fun q => (List.range B).any (fun b' => gup g b t (some p) b' t == some q)) (n := P) (by omega)
  have e109 : N3 109 b = _ := (w4 109 b (by omega)).trans (i2 b hb)
  have e110 : N3 110 t = _ := (w4 110 t (by omega)).trans (i3 t ht)
  have r1 : jv_set (fun q => (List.range P).any (fun t' => gup g b t (some p) b t' == some q) && !(q == p)) P = jv_set (fun q => (List.range P).any (fun t' => g b t' == some q)) P := jv_set_congr P (fun q _ => by
    rw [g_any1 ht hn]
    by_cases z : q = p
    · subst z
      have : (List.range P).any (fun t' => g b t' == some q) = false := by
        rw [List.any_eq_false]
        intro u _
        rw [beq_iff_eq]
        exact hf1 u
      simp [this]
    · have z2 : (q == p) = false := beq_eq_false_iff_ne.mpr z
      simp [z2])
  have r2 : jv_set (fun q => (List.range B).any (fun b' => gup g b t (some p) b' t == some q) && !(q == p)) P = jv_set (fun q => (List.range B).any (fun b' => g b' t == some q)) P := jv_set_congr P (fun q _ => by
    rw [g_any2 hb hn]
    by_cases z : q = p
    · subst z
      have : (List.range B).any (fun b' => g b' t == some q) = false := by
        rw [List.any_eq_false]
        intro u hu
        rw [beq_iff_eq]
        exact hf2 u (List.mem_range.mp hu)
      simp [this]
    · have z2 : (q == p) = false := beq_eq_false_iff_ne.mpr z
      simp [z2])
  have st := f_Finds_unset dd (b : Int) (t : Int) (p : Int) o N3
  have m1 : (ja_up N3 108 b o) 109 b = _ := (jb_up_ne (by decide)).trans e109
  have m2 : (ja_up (ja_up N3 108 b o) 109 b ((jv_set (fun q => (List.range P).any (fun t' => g b t' == some q)) P : Nat) : Int)) 110 t = _ := ((jb_up_ne (by decide)).trans (jb_up_ne (by decide))).trans e110
  rw [if_pos (by omega), if_pos (by omega), if_pos (by omega), if_pos (by omega), if_pos (by omega), if_pos (by omega), show ((b : Int)).toNat = b from rfl, show ((t : Int)).toNat = t from rfl, m1, jx_shl1 (by omega), jx_less (by omega) (jx_p2 (by omega)), jv_set_less (by omega), r1, m2, jx_less (by omega) (jx_p2 (by omega)), jv_set_less (by omega), r2, show 111 + 1 + t = 112 + t by omega, jz_ast (n := 5) (jk_112 t (by omega)) (by omega) (by omega) (by omega) (by omega), show ((p : Int)).toNat = p from rfl] at st
  refine ⟨_, by rw [w1, jz_bV, w2, jz_bV, st, jz_bV], ⟨fun b' hb' => ?_, fun b' hb' => ?_, fun t' ht' => ?_, fun t' q ht' hq => ⟨fun b' hb' e => ?_, fun h => ?_⟩, fun x y hx hy => ?_⟩, fun c i hc => ?_⟩
  · rw [jb_up_ne (by omega), jb_up_ne (by decide), jb_up_ne (by decide)]
    show _ = if b' = b then o else ρ b'
    by_cases z : b' = b
    · rw [z, jb_up_eq, if_pos rfl]
    · rw [jb_up_nej z, if_neg z, w4 108 b' (by omega)]
      exact i1 b' hb'
  · rw [jb_up_ne (by omega), jb_up_ne (by decide)]
    by_cases z : b' = b
    · rw [z, jb_up_eq]
    · rw [jb_up_nej z, jb_up_ne (by decide), w4 109 b' (by omega), i2 b' hb', jv_set_congr P (g := fun q => (List.range P).any (fun t' => g b' t' == some q)) (fun q _ => by
        congr 1
        funext t'
        rw [show gup g b t (some p) b' t' = g b' t' from if_neg (fun e => z e.1)])]
  · rw [jb_up_ne (by omega)]
    by_cases z : t' = t
    · rw [z, jb_up_eq]
    · rw [jb_up_nej z, jb_up_ne (by decide), jb_up_ne (by decide), w4 110 t' (by omega), i3 t' ht', jv_set_congr P (g := fun q => (List.range B).any (fun b' => g b' t' == some q)) (fun q _ => by
        congr 1
        funext b'
        rw [show gup g b t (some p) b' t' = g b' t' from if_neg (fun e => z e.2)])]
  · by_cases z : t' = t ∧ q = p
    · rw [z.1, z.2] at e
      exact absurd e (hf2 b' hb')
    · rw [jz_up, if_neg (fun w => z ⟨by omega, w.2⟩), jb_up_ne (by omega), jb_up_ne (by omega), jb_up_ne (by omega), w4 (112 + t') q (by omega)]
      refine (i4 t' q ht' hq).1 b' hb' ((if_neg (fun y => ?_)).trans e)
      rw [y.1, y.2, hn] at e
      cases e
  · by_cases z : t' = t ∧ q = p
    · rw [z.1, z.2, jb_up_eq]
    · rw [jz_up, if_neg (fun w => z ⟨by omega, w.2⟩), jb_up_ne (by omega), jb_up_ne (by omega), jb_up_ne (by omega), w4 (112 + t') q (by omega)]
      refine (i4 t' q ht' hq).2 (fun b' hb' e => ?_)
      by_cases y : b' = b ∧ t' = t
      · have : gup g b t (some p) b' t' = some p := if_pos y
        rw [this] at e
        cases e
        exact z ⟨y.2, rfl⟩
      · have : gup g b t (some p) b' t' = g b' t' := if_neg y
        rw [this] at e
        exact h b' hb' e
  · rw [jb_up_ne (by omega), jb_up_ne (by omega), jb_up_ne (by omega), jb_up_ne (by omega), w3 x y hx hy, i5 x y hx hy, gcnt_up ht hn hf1 x y]
    by_cases z1 : x = b ∧ (1 ≤ t ∧ g y (t - 1) = some p)
    · by_cases z2 : y = b ∧ (t + 1 < P ∧ g x (t + 1) = some p)
      · rw [if_pos z1, if_pos z2, if_pos z1, if_pos z2]
        omega
      · rw [if_pos z1, if_neg z2, if_pos z1, if_neg z2]
        omega
    · by_cases z2 : y = b ∧ (t + 1 < P ∧ g x (t + 1) = some p)
      · rw [if_neg z1, if_pos z2, if_neg z1, if_pos z2]
        omega
      · rw [if_neg z1, if_neg z2, if_neg z1, if_neg z2]
        omega
  · have hc2 : ¬ (108 ≤ c ∧ c ≤ 122) := hc
    rw [jb_up_ne (fun e => hc2 (by omega)), jb_up_ne (fun e => hc2 (by omega)), jb_up_ne (fun e => hc2 (by omega)), jb_up_ne (fun e => hc2 (by omega))]
    exact w4 c i (fun e => hc2 (by omega))
