/-! tables: the search over one turn of one band -/
def tC (P B f most : Nat) (op : Nat → Nat → Nat → Bool) (N : ja_M) : Prop := N 11 3 = (P : Int) ∧ N 11 4 = (B : Int) ∧ N 11 5 = (f : Int) ∧ N 0 0 = 172 ∧ N 93 4 = 1 ∧ N 93 7 = (most : Int) ∧ opRel P B N op
def tF (N N' : ja_M) : Prop := ∀ d i, ¬ (108 ≤ d ∧ d ≤ 122) → d ≠ 172 → ¬ (d = 93 ∧ i = 6) → N' d i = N d i
theorem tF.rf (N : ja_M) : tF N N := fun _ _ _ _ _ => rfl
theorem tF.tr {A B C : ja_M} (h : tF A B) (k : tF B C) : tF A C := fun d i a b c => (k d i a b c).trans (h d i a b c)
theorem tF.of {A B : ja_M} (h : jFr s108 A B) : tF A B := fun d i a _ _ => h d i a
theorem tC.mv {P B f most : Nat} {op : Nat → Nat → Nat → Bool} {N N' : ja_M} (hB5 : B ≤ 5) (h : tC P B f most op N) (k : tF N N') : tC P B f most op N' := by
  obtain ⟨h1, h2, h3, h4, h5, h6, h7⟩ := h
  refine ⟨(k 11 3 (by omega) (by omega) (by omega)).trans h1, (k 11 4 (by omega) (by omega) (by omega)).trans h2, (k 11 5 (by omega) (by omega) (by omega)).trans h3, (k 0 0 (by omega) (by omega) (by omega)).trans h4, (k 93 4 (by omega) (by omega) (by omega)).trans h5, (k 93 7 (by omega) (by omega) (by omega)).trans h6, fun b t hb ht => ?_⟩
  rw [k (103 + b) t (by omega) (by omega) (by omega)]
  exact h7 b t hb ht
def fW (most c : Nat) (L : List (List (List Nat))) (N N' : ja_M) : Prop := N' 93 6 = ((min (c + L.length) most : Nat) : Int) ∧ (∀ (i b : Nat) (tb : List (List Nat)) (o : List Nat), L[i]? = some tb → c + i < most → b < 5 → tb[b]? = some o → N' 172 (5 * (c + i) + b) = jv_num o) ∧ ∀ i, i < 5 * c → N' 172 i = N 172 i
theorem fW.nil {most c : Nat} {N : ja_M} (h : N 93 6 = (c : Int)) (hc : c ≤ most) : fW most c [] N N := by
  refine ⟨?_, (fun i b tb o e => by cases e), fun _ _ => rfl⟩
  rw [h]
  show (c : Int) = ((min (c + 0) most : Nat) : Int)
  omega
theorem fW.all {most c : Nat} {L : List (List (List Nat))} {N : ja_M} (h : N 93 6 = (c : Int)) (hc : c = most) : fW most c L N N := by
  refine ⟨?_, (fun i b tb o e h2 => by omega), fun _ _ => rfl⟩
  rw [h]
  omega
theorem fW.app {most c : Nat} {L1 L2 : List (List (List Nat))} {N N1 N2 : ja_M} (h1 : fW most c L1 N N1) (h2 : fW most (min (c + L1.length) most) L2 N1 N2) (hc : c ≤ most) : fW most c (L1 ++ L2) N N2 := by
  obtain ⟨a1, a2, a3⟩ := h1
  obtain ⟨b1, b2, b3⟩ := h2
  refine ⟨?_, fun i b tb o e hi hb ho => ?_, fun i hi => ?_⟩
  · rw [b1, List.length_append]
    omega
  · by_cases z : i < L1.length
    · rw [List.getElem?_append_left z] at e
      rw [b3 _ (by omega)]
      exact a2 i b tb o e hi hb ho
    · rw [List.getElem?_append_right (by omega)] at e
      have := b2 (i - L1.length) b tb o e (by omega) hb ho
      rw [show min (c + L1.length) most + (i - L1.length) = c + i by omega] at this
      exact this
  · rw [b3 i (by omega)]
    exact a3 i hi
theorem fW.l {most c : Nat} {L : List (List (List Nat))} {N N0 N' : ja_M} (h : fW most c L N N') (e : ∀ i, N 172 i = N0 172 i) : fW most c L N0 N' := ⟨h.1, h.2.1, fun i hi => (h.2.2 i hi).trans (e i)⟩
theorem fW.r {most c : Nat} {L : List (List (List Nat))} {N N' N'' : ja_M} (h : fW most c L N N') (e : ∀ i, N'' 172 i = N' 172 i) (e6 : N'' 93 6 = N' 93 6) : fW most c L N N'' := ⟨e6.trans h.1, fun i b tb o a1 a2 a3 a4 => (e _).trans (h.2.1 i b tb o a1 a2 a3 a4), fun i hi => (e i).trans (h.2.2 i hi)⟩
theorem fl_cnt {N : ja_M} {P B b t p f : Nat} {ρ : Nat → Int} {g : Nat → Nat → Option Nat} (hI : fI P B N ρ g) (hU : gU B g) (hb : b < B) (ht : t < P) (hp : p < P) (hn : g b t = none) (hf1 : ∀ t', g b t' ≠ some p) (hle : ∀ x y, x < B → y < B → gcnt P g x y ≤ (f : Int)) (ha : gAh N t p = -1 ∨ N (118 + b) (gAh N t p).toNat < (f : Int)) (hh : gBh P N t p = -1 ∨ N (118 + (gBh P N t p).toNat) b < (f : Int)) (x y : Nat) (hx : x < B) (hy : y < B) : gcnt P (gup g b t (some p)) x y ≤ (f : Int) := by
  rw [gcnt_up ht hn hf1 x y]
  have h0 := hle x y hx hy
  by_cases z1 : x = b ∧ (1 ≤ t ∧ g y (t - 1) = some p)
  · rw [if_pos z1, if_neg (fun q => hf1 (t - 1) (by rw [← q.1]; exact z1.2.2))]
    rcases gAh_i hI ht hp with ⟨y', y1, y2, y3, y4⟩ | ⟨y1, y2⟩
    · have : y = y' := hU y y' (t - 1) p hy y1 z1.2.2 y4
      subst this
      rw [y2, show ((y : Int)).toNat = y from rfl, hI.2.2.2.2 b y hb hy] at ha
      rw [z1.1]
      omega
    · exact absurd z1.2 (y2 y hy)
  · rw [if_neg z1]
    by_cases z2 : y = b ∧ (t + 1 < P ∧ g x (t + 1) = some p)
    · rw [if_pos z2]
      rcases gBh_i (t := t) hI hp with ⟨x', y1, y2, y3, y4⟩ | ⟨y1, y2⟩
      · have : x = x' := hU x x' (t + 1) p hx y1 z2.2.2 y4
        subst this
        rw [y2, show ((x : Int)).toNat = x from rfl, hI.2.2.2.2 x b hx hb] at hh
        rw [z2.1]
        omega
      · exact absurd z2.2 (y2 x hx)
    · rw [if_neg z2]
      omega
theorem fl_blA {N : ja_M} {P B b t p f : Nat} {ρ : Nat → Int} {g : Nat → Nat → Option Nat} (hI : fI P B N ρ g) (hb : b < B) (ht : t < P) (hp : p < P) (hn : g b t = none) (hf1 : ∀ t', g b t' ≠ some p) (ha : ¬ (gAh N t p = -1 ∨ N (118 + b) (gAh N t p).toNat < (f : Int))) : ∃ y t', y < B ∧ g y t' = some p ∧ (f : Int) < gcnt P (gup g b t (some p)) b y := by
  rcases gAh_i hI ht hp with ⟨y, y1, y2, y3, y4⟩ | ⟨y1, y2⟩
  · refine ⟨y, t - 1, y1, y4, ?_⟩
    rw [y2, show ((y : Int)).toNat = y from rfl, hI.2.2.2.2 b y hb y1] at ha
    rw [gcnt_up ht hn hf1 b y, if_pos ⟨rfl, y3, y4⟩]
    have h : ¬ gcnt P g b y < (f : Int) := fun q => ha (Or.inr q)
    by_cases z : y = b ∧ (t + 1 < P ∧ g b (t + 1) = some p)
    · rw [if_pos z]
      omega
    · rw [if_neg z]
      omega
  · exact absurd (Or.inl y1) ha
theorem fl_blB {N : ja_M} {P B b t p f : Nat} {ρ : Nat → Int} {g : Nat → Nat → Option Nat} (hI : fI P B N ρ g) (hb : b < B) (ht : t < P) (hp : p < P) (hn : g b t = none) (hf1 : ∀ t', g b t' ≠ some p) (ha : ¬ (gBh P N t p = -1 ∨ N (118 + (gBh P N t p).toNat) b < (f : Int))) : ∃ y t', y < B ∧ g y t' = some p ∧ (f : Int) < gcnt P (gup g b t (some p)) y b := by
  rcases gBh_i (t := t) hI hp with ⟨y, y1, y2, y3, y4⟩ | ⟨y1, y2⟩
  · refine ⟨y, t + 1, y1, y4, ?_⟩
    rw [y2, show ((y : Int)).toNat = y from rfl, hI.2.2.2.2 y b y1 hb] at ha
    rw [gcnt_up ht hn hf1 y b, if_pos (c := b = b ∧ _) ⟨rfl, y3, y4⟩]
    have h : ¬ gcnt P g y b < (f : Int) := fun q => ha (Or.inr q)
    by_cases z : y = b ∧ (1 ≤ t ∧ g b (t - 1) = some p)
    · rw [if_pos z]
      omega
    · rw [if_neg z]
      omega
  · exact absurd (Or.inl y1) ha
abbrev flp (P f : Nat) (op : Nat → Nat → Nat → Bool) (D : List (List Nat)) (pre : List Nat) (m p : Nat) : List (List (List Nat)) := if pre.contains p = true then [] else fl P f op D (pre ++ [p]) m
def tS (d P B f most : Nat) (op : Nat → Nat → Nat → Bool) (D : List (List Nat)) (pre : List Nat) (L : List (List (List Nat))) : Prop := ∀ (N : ja_M) (c : Nat), c < most → tC P B f most op N → N 93 6 = (c : Int) → fI P B N (rh D pre) (Gd D pre) → ∃ N', ja_x true d 163 [jr 93, ji (D.length : Int), ji (pre.length : Int)] N = some (none, N') ∧ tF N N' ∧ fI P B N' (rh D pre) (Gd D pre) ∧ fW most c L N N'
abbrev flf (P B : Nat) (op : Nat → Nat → Nat → Bool) (D : List (List Nat)) (pre : List Nat) (q : Nat) : Bool := (op D.length pre.length q && !((List.range P).any (fun t => Gd D pre D.length t == some q))) && !((List.range B).any (fun x => Gd D pre x pre.length == some q))
theorem fl_loop (dd : Nat) {P B f most m : Nat} {op : Nat → Nat → Nat → Bool} {D : List (List Nat)} {pre : List Nat} (hP5 : P ≤ 5) (hB5 : B ≤ 5) (hok : fOk P B f op D pre) (hb : D.length < B) (hl : pre.length < P) (rec : ∀ p, p < P → fOk P B f op D (pre ++ [p]) → tS (dd + 2) P B f most op D (pre ++ [p]) (fl P f op D (pre ++ [p]) m)) : ∀ (k p : Nat) (N : ja_M) (c : Nat), p + k = P → c ≤ most → tC P B f most op N → N 93 6 = (c : Int) → fI P B N (rh D pre) (Gd D pre) → ∃ N', flD (ja_x true (dd + 2)) D.length pre.length ((jv_set (flf P B op D pre) P : Nat) : Int) p N = some (none, N') ∧ tF N N' ∧ fI P B N' (rh D pre) (Gd D pre) ∧ fW most c ((List.range' p k).flatMap (flp P f op D pre m)) N N'
  | 0, p, N, c, hk, hc, hC, h6, hI => by
    have : p = P := by omega
    subst this
    exact ⟨N, fl_end dd hC.1, tF.rf N, hI, fW.nil h6 hc⟩
  | k + 1, p, N, c, hk, hc, hC, h6, hI => by
    have hp : p < P := by omega
    rw [fl_step dd hC.1 hP5 (by omega) hl hp, h6, hC.2.2.2.2.2.1, List.range'_succ, List.flatMap_cons]
    by_cases c1 : c < most
    case neg =>
      rw [if_neg (by omega)]
      exact ⟨N, rfl, tF.rf N, hI, fW.all h6 (by omega)⟩
    have skip : flp P f op D pre m p = [] → ∃ N', flD (ja_x true (dd + 2)) D.length pre.length ((jv_set (flf P B op D pre) P : Nat) : Int) (p + 1) N = some (none, N') ∧ tF N N' ∧ fI P B N' (rh D pre) (Gd D pre) ∧ fW most c (flp P f op D pre m p ++ (List.range' (p + 1) k).flatMap (flp P f op D pre m)) N N' := fun e => by
      rw [e]
      exact fl_loop dd hP5 hB5 hok hb hl rec k (p + 1) N c (by omega) hc hC h6 hI
    have hn : Gd D pre D.length pre.length = none := Gd_at.trans (List.getElem?_eq_none (Nat.le_refl _))
    rw [if_pos (by omega), jx_bit (Nat.lt_of_lt_of_le (jv_set_64 _ (by omega)) (by decide)) (by omega), jv_set_bit, decide_eq_true hp, Bool.true_and]
    by_cases c2 : flf P B op D pre p = true
    case neg =>
      rw [if_neg (c := flf P B op D pre p = true) c2, if_neg (by decide)]
      refine skip ?_
      show (if pre.contains p = true then [] else fl P f op D (pre ++ [p]) m) = []
      by_cases z : pre.contains p = true
      · rw [if_pos z]
      · rw [if_neg z]
        refine fl_no (B := B) hl ?_
        by_cases o1 : op D.length pre.length p = true
        · right
          left
          have zz : ¬ p ∈ pre := fun q => z (by simpa using q)
          have o2 : ((List.range P).any (fun t => Gd D pre D.length t == some p)) = false := by
            rw [List.any_eq_false]
            intro t _ e
            rw [beq_iff_eq, Gd_at] at e
            exact zz (List.mem_of_getElem? e)
          have o3 : ((List.range B).any (fun x => Gd D pre x pre.length == some p)) = true := by
            cases e : ((List.range B).any (fun x => Gd D pre x pre.length == some p)) with
            | true => rfl
            | false =>
              refine absurd ?_ c2
              show ((op D.length pre.length p && !((List.range P).any (fun t => Gd D pre D.length t == some p))) && !((List.range B).any (fun x => Gd D pre x pre.length == some p))) = true
              rw [o1, o2, e]
              rfl
          obtain ⟨x, x1, x2⟩ := jv_any_iff.mp o3
          rw [beq_iff_eq] at x2
          rcases Nat.lt_trichotomy x D.length with w | w | w
          · exact ⟨x, w, x2⟩
          · rw [w, hn] at x2
            cases x2
          · rw [Gd_gt w] at x2
            cases x2
        · left
          exact Bool.eq_false_iff.mpr o1
    have c3 : ((op D.length pre.length p && !((List.range P).any (fun t => Gd D pre D.length t == some p))) && !((List.range B).any (fun x => Gd D pre x pre.length == some p))) = true := c2
    rw [Bool.and_eq_true, Bool.and_eq_true, Bool.not_eq_true', Bool.not_eq_true', List.any_eq_false, List.any_eq_false] at c3
    obtain ⟨⟨ho, hu⟩, hv⟩ := c3
    have hf1 : ∀ t', Gd D pre D.length t' ≠ some p := fun t' e => by
      rw [Gd_at] at e
      obtain ⟨q, -⟩ := List.getElem?_eq_some_iff.mp e
      exact hu t' (List.mem_range.mpr (by omega)) (by rw [beq_iff_eq, Gd_at]; exact e)
    have hf2 : ∀ b', b' < B → Gd D pre b' pre.length ≠ some p := fun b' hb' e => hv b' (List.mem_range.mpr hb') (beq_iff_eq.mpr e)
    have hni : ¬ p ∈ pre := fun q => by
      obtain ⟨t', e⟩ := List.getElem?_of_mem q
      exact hf1 t' (Gd_at.trans e)
    have hnc : ¬ pre.contains p = true := fun q => hni (by simpa using q)
    have efl : flp P f op D pre m p = fl P f op D (pre ++ [p]) m := if_neg hnc
    have low : ∀ y t', Gd D pre y t' = some p → y < D.length := fun y t' e => by
      rcases Nat.lt_trichotomy y D.length with w | w | w
      · exact w
      · rw [w] at e
        exact absurd e (hf1 t')
      · rw [Gd_gt w] at e
        cases e
    have ha := gAh_i hI hl hp
    have hh := gBh_i (t := pre.length) hI hp
    have ba : gAh N pre.length p = -1 ∨ (0 ≤ gAh N pre.length p ∧ gAh N pre.length p < 5) := by
      rcases ha with ⟨y, y1, y2, -⟩ | ⟨y1, -⟩
      · exact Or.inr ⟨by omega, by omega⟩
      · exact Or.inl y1
    have bb : gBh P N pre.length p = -1 ∨ (0 ≤ gBh P N pre.length p ∧ gBh P N pre.length p < 5) := by
      rcases hh with ⟨y, y1, y2, -⟩ | ⟨y1, -⟩
      · exact Or.inr ⟨by omega, by omega⟩
      · exact Or.inl y1
    clear ha hh
    rw [if_pos (c := flf P B op D pre p = true) c2, if_pos rfl, js_mayF dd hC.2.2.1 (Or.inr ⟨by omega, by omega⟩) ba, jz_bI, jz_b0, show ((D.length : Int)).toNat = D.length from rfl]
    by_cases g1 : gAh N pre.length p = -1 ∨ N (118 + D.length) (gAh N pre.length p).toNat < (f : Int)
    case neg =>
      rw [if_neg (fun q => by rcases q with q | q; omega; exact g1 q)]
      refine skip ?_
      rw [efl]
      obtain ⟨y, t', y1, y2, y3⟩ := fl_blA hI hb hl hp hn hf1 g1
      rw [Gd_snoc] at y3
      exact fl_no (B := B) hl (Or.inr (Or.inr (Or.inl ⟨y, low y t' y2, y3⟩)))
    rw [if_pos (Or.inr g1), js_mayF dd hC.2.2.1 bb (Or.inr ⟨by omega, by omega⟩), jz_bI, jz_b0, show ((D.length : Int)).toNat = D.length from rfl]
    by_cases g2 : gBh P N pre.length p = -1 ∨ N (118 + (gBh P N pre.length p).toNat) D.length < (f : Int)
    case neg =>
      rw [if_neg (fun q => by rcases q with q | q | q; exact g2 (Or.inl q); omega; exact g2 (Or.inr q))]
      refine skip ?_
      rw [efl]
      obtain ⟨y, t', y1, y2, y3⟩ := fl_blB hI hb hl hp hn hf1 g2
      rw [Gd_snoc] at y3
      exact fl_no (B := B) hl (Or.inr (Or.inr (Or.inr ⟨y, low y t' y2, y3⟩)))
    rw [if_pos (by rcases g2 with q | q; exact Or.inl q; exact Or.inr (Or.inr q))]
    have hok2 : fOk P B f op D (pre ++ [p]) := hok.s hl hp hni ho hf2 (fun x y hx hy => by
      rw [← Gd_snoc]
      exact fl_cnt hI hok.2.2.2.1 hb hl hp hn hf1 hok.2.2.2.2 g1 g2 x y hx hy)
    have hρ : 0 ≤ rh D pre D.length ∧ rh D pre D.length < 1000000 := by
      rw [rh_at]
      exact jv_num_lt (fun q hq => by have := hok.2.1.2.1 q hq; omega) (by omega)
    obtain ⟨N1, p1, p2, p3⟩ := js_place (dd + 1) hP5 hB5 hI hb hl hp hn hf1 hf2 hok.2.2.2.1 hρ (fun M13 => ja_bV (ja_x true (dd + 2) 163 [jr 93, ji (D.length : Int), ji ((pre.length + 1 : Nat) : Int)] M13) (fun M14 => ja_bV (ja_x true (dd + 2) 167 [jr 93, ji (gBh P N pre.length p), ji (D.length : Int), ji (-1)] M14) (fun M15 => ja_bV (ja_x true (dd + 2) 167 [jr 93, ji (D.length : Int), ji (gAh N pre.length p), ji (-1)] M15) (fun M16 => ja_bV (ja_x true (dd + 2) 168 [jr 93, ji (D.length : Int), ji (pre.length : Int), ji (p : Int), ji (N 108 D.length)] M16) (fun M17 => flD (ja_x true (dd + 2)) D.length pre.length ((jv_set (flf P B op D pre) P : Nat) : Int) (p + 1) M17)))))
    rw [p1]
    rw [rh_snoc, Gd_snoc] at p2
    have k1 := tF.of p3
    obtain ⟨N2, q1, q2, q3, q4⟩ := rec p hp hok2 N1 c c1 (hC.mv hB5 k1) ((p3 93 6 (by decide)).trans h6) p2
    rw [List.length_append] at q1
    rw [show ja_x true (dd + 2) 163 [jr 93, ji (D.length : Int), ji ((pre.length + 1 : Nat) : Int)] N1 = some (none, N2) from q1, jz_bV]
    rw [← Gd_snoc] at q3
    obtain ⟨N3, r1, r2, r3⟩ := js_unplace (dd + 1) (o := N 108 D.length) hP5 hB5 hI q3 hb hl hp hn hf1 hf2 hok.2.2.2.1 (fun M17 => flD (ja_x true (dd + 2)) D.length pre.length ((jv_set (flf P B op D pre) P : Nat) : Int) (p + 1) M17)
    rw [r1]
    rw [hI.1 D.length (by omega), rh_back] at r2
    have k3 := (k1.tr q2).tr (tF.of r3)
    have w3 : fW most c (fl P f op D (pre ++ [p]) m) N N3 := (q4.l (fun i => p3 172 i (by decide))).r (fun i => r3 172 i (by decide)) (r3 93 6 (by decide))
    obtain ⟨N4, s1, s2, s3, s4⟩ := fl_loop dd hP5 hB5 hok hb hl rec k (p + 1) N3 _ (by omega) (Nat.min_le_right _ _) (hC.mv hB5 k3) w3.1 r2
    refine ⟨N4, s1, k3.tr s2, s3, ?_⟩
    rw [efl]
    exact w3.app s4 hc
