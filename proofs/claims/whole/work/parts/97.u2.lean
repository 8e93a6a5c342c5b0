/-! reading: a hunt, the class -/
abbrev hnR : Type := Nat × Bool × ja_M
def hn_put (D : ja_M) (item : Nat) (v : Int) : ja_M := match item with
  | 0 => ja_up D 6 (D 5 3 - 1).toNat v
  | 1 => ja_up D 7 (D 5 3 - 1).toNat v
  | 2 => ja_up D 8 (D 5 4 - 1).toNat v
  | 3 => ja_up D 5 5 v
  | _ => ja_up D 5 6 v
def hn_it (k c : Int) : Option Nat := if k = 112 then (if c = 120 then some 0 else if c = 121 then some 1 else none) else if k = 98 then (if c = 115 then some 2 else none) else if c = 102 then some 3 else if c = 107 then some 4 else none
noncomputable def hn_val (T : Nat → Int) (n item p : Nat) (D : ja_M) : hnR := match (tk T n 2 p).2 with
  | none => ((tk T n 2 p).1, false, D)
  | some v => if v < ja_ro 173 item ∨ ja_ro 174 item < v then ((tk T n 2 p).1 - 1, false, D) else ((tk T n 2 p).1, true, hn_put D item v)
noncomputable def hn_2 (T : Nat → Int) (n : Nat) (k : Int) (i p : Nat) (D : ja_M) : hnR := match hn_it k (sg T n (sk T n p)) with
  | none => (sk T n p, true, D)
  | some j => if j = i then (sk T n p, true, D) else hn_val T n j (sk T n p + 1) D
noncomputable def hn_items (T : Nat → Int) (n : Nat) (k : Int) (p : Nat) (D : ja_M) : hnR := match hn_it k (sg T n (sk T n p)) with
  | none => (sk T n p, true, D)
  | some i => if (hn_val T n i (sk T n p + 1) D).2.1 = true then hn_2 T n k i (hn_val T n i (sk T n p + 1) D).1 (hn_val T n i (sk T n p + 1) D).2.2 else hn_val T n i (sk T n p + 1) D
def hn_addP (D : ja_M) : ja_M := ja_up (ja_up (ja_up D 6 (D 5 3).toNat 0) 7 (D 5 3).toNat 0) 5 3 (D 5 3 + 1)
def hn_addB (D : ja_M) : ja_M := ja_up (ja_up D 8 (D 5 4).toNat 1) 5 4 (D 5 4 + 1)
noncomputable def hn_clause (T : Nat → Int) (n p : Nat) (D : ja_M) : hnR := if sg T n (sk T n p) = 112 then (if D 5 3 = 6 then (sk T n p, false, D) else hn_items T n 112 (sk T n p + 1) (hn_addP D)) else if sg T n (sk T n p) = 98 then (if D 5 4 = 6 then (sk T n p, false, D) else hn_items T n 98 (sk T n p + 1) (hn_addB D)) else if sg T n (sk T n p) = 108 ∧ D 4 2 = 0 then hn_items T n 108 (sk T n p + 1) (ja_up D 4 2 1) else (sk T n p, false, D)
noncomputable def hn_read (T : Nat → Int) (n : Nat) : Nat → Nat → ja_M → Int × ja_M
  | 0, p, D => ((p : Int), D)
  | m + 1, p, D => if (hn_clause T n p D).2.1 = true then (if n ≤ sk T n (hn_clause T n p D).1 then (if 2 ≤ (hn_clause T n p D).2.2 5 3 ∧ 1 ≤ (hn_clause T n p D).2.2 5 4 then (-1, (hn_clause T n p D).2.2) else ((n : Int), (hn_clause T n p D).2.2)) else if sg T n (sk T n (hn_clause T n p D).1) = 59 then hn_read T n m (sk T n (hn_clause T n p D).1 + 1) (hn_clause T n p D).2.2 else ((sk T n (hn_clause T n p D).1 : Int), (hn_clause T n p D).2.2)) else (((hn_clause T n p D).1 : Int), (hn_clause T n p D).2.2)
/-- a draft -/
def hn_ok (D : ja_M) : Prop := (0 ≤ D 5 3 ∧ D 5 3 ≤ 6) ∧ (0 ≤ D 5 4 ∧ D 5 4 ≤ 6) ∧ (0 ≤ D 5 5 ∧ D 5 5 ≤ 9) ∧ (0 ≤ D 5 6 ∧ D 5 6 ≤ 30) ∧ (∀ j : Nat, (j : Int) < D 5 3 → (0 ≤ D 6 j ∧ D 6 j ≤ 20) ∧ (0 ≤ D 7 j ∧ D 7 j ≤ 20)) ∧ (∀ j : Nat, (j : Int) < D 5 4 → 1 ≤ D 8 j ∧ D 8 j ≤ 5) ∧ (D 4 2 = 0 ∨ D 4 2 = 1)
abbrev s4 : Nat → Prop := fun c => 4 ≤ c ∧ c ≤ 8
theorem tpX.fr {D D' : ja_M} {T : Nat → Int} {n : Nat} (h : tpX D T n) (f : jFr s4 D D') : tpX D' T n := ⟨(f 2 1 (by decide)).trans h.1, fun i hi => (f 3 i (by decide)).trans (h.2 i hi)⟩
/-- where an item can be put -/
def hn_can (D : ja_M) (item : Nat) : Prop := (item = 0 ∧ 1 ≤ D 5 3) ∨ (item = 1 ∧ 1 ≤ D 5 3) ∨ (item = 2 ∧ 1 ≤ D 5 4) ∨ item = 3 ∨ item = 4
theorem hn_put_fr (D : ja_M) (item : Nat) (v : Int) : jFr s4 D (hn_put D item v) := by
  unfold hn_put
  split <;> exact (jFr.rf D).up (by decide)
theorem hn_ro : ∀ i, i < 5 → ja_ro 173 i = (if i = 2 then 1 else 0) ∧ ja_ro 174 i = (if i = 0 then 20 else if i = 1 then 20 else if i = 2 then 5 else if i = 3 then 9 else 30) := by decide
theorem hn_put_ok {D : ja_M} {item : Nat} {v : Int} (h : hn_ok D) (hc : hn_can D item) (hv : ¬ (v < ja_ro 173 item ∨ ja_ro 174 item < v)) : hn_ok (hn_put D item v) ∧ (hn_put D item v) 5 3 = D 5 3 ∧ (hn_put D item v) 5 4 = D 5 4 ∧ (hn_put D item v) 4 2 = D 4 2 := by
  obtain ⟨h1, h2, h3, h4, h5, h6, h7⟩ := h
  have hr := hn_ro item (by unfold hn_can at hc; omega)
  rw [hr.1, hr.2] at hv
  rcases hc with ⟨rfl, hc⟩ | ⟨rfl, hc⟩ | ⟨rfl, hc⟩ | rfl | rfl
  · have hv : ¬ (v < 0 ∨ 20 < v) := hv
    refine ⟨⟨h1, h2, h3, h4, fun j hj => ?_, h6, h7⟩, rfl, rfl, rfl⟩
    have hj : (j : Int) < D 5 3 := hj
    show (0 ≤ (ja_up D 6 (D 5 3 - 1).toNat v) 6 j ∧ (ja_up D 6 (D 5 3 - 1).toNat v) 6 j ≤ 20) ∧ (0 ≤ D 7 j ∧ D 7 j ≤ 20)
    by_cases z : j = (D 5 3 - 1).toNat
    · rw [z, jb_up_eq]
      exact ⟨by omega, (h5 _ (by omega)).2⟩
    · rw [jb_up_nej z]
      exact h5 j hj
  · have hv : ¬ (v < 0 ∨ 20 < v) := hv
    refine ⟨⟨h1, h2, h3, h4, fun j hj => ?_, h6, h7⟩, rfl, rfl, rfl⟩
    have hj : (j : Int) < D 5 3 := hj
    show (0 ≤ D 6 j ∧ D 6 j ≤ 20) ∧ (0 ≤ (ja_up D 7 (D 5 3 - 1).toNat v) 7 j ∧ (ja_up D 7 (D 5 3 - 1).toNat v) 7 j ≤ 20)
    by_cases z : j = (D 5 3 - 1).toNat
    · rw [z, jb_up_eq]
      exact ⟨(h5 _ (by omega)).1, by omega⟩
    · rw [jb_up_nej z]
      exact h5 j hj
  · have hv : ¬ (v < 1 ∨ 5 < v) := hv
    refine ⟨⟨h1, h2, h3, h4, h5, fun j hj => ?_, h7⟩, rfl, rfl, rfl⟩
    have hj : (j : Int) < D 5 4 := hj
    show 1 ≤ (ja_up D 8 (D 5 4 - 1).toNat v) 8 j ∧ (ja_up D 8 (D 5 4 - 1).toNat v) 8 j ≤ 5
    by_cases z : j = (D 5 4 - 1).toNat
    · rw [z, jb_up_eq]
      omega
    · rw [jb_up_nej z]
      exact h6 j hj
  · have hv : ¬ (v < 0 ∨ 9 < v) := hv
    exact ⟨⟨h1, h2, (by show 0 ≤ v ∧ v ≤ 9; omega), h4, h5, h6, h7⟩, rfl, rfl, rfl⟩
  · have hv : ¬ (v < 0 ∨ 30 < v) := hv
    exact ⟨⟨h1, h2, h3, (by show 0 ≤ v ∧ v ≤ 30; omega), h5, h6, h7⟩, rfl, rfl, rfl⟩
theorem hn_val_0 {T : Nat → Int} {n item p : Nat} {D : ja_M} (e : (tk T n 2 p).2 = none) : hn_val T n item p D = ((tk T n 2 p).1, false, D) := by
  unfold hn_val
  rw [e]
theorem hn_val_o {T : Nat → Int} {n item p : Nat} {D : ja_M} {v : Int} (e : (tk T n 2 p).2 = some v) (q : v < ja_ro 173 item ∨ ja_ro 174 item < v) : hn_val T n item p D = ((tk T n 2 p).1 - 1, false, D) := by
  unfold hn_val
  rw [e]
  exact if_pos q
theorem hn_val_i {T : Nat → Int} {n item p : Nat} {D : ja_M} {v : Int} (e : (tk T n 2 p).2 = some v) (q : ¬ (v < ja_ro 173 item ∨ ja_ro 174 item < v)) : hn_val T n item p D = ((tk T n 2 p).1, true, hn_put D item v) := by
  unfold hn_val
  rw [e]
  exact if_neg q
theorem hn_val_b {T : Nat → Int} {n item p : Nat} {D : ja_M} (hp : p ≤ n) (h : hn_ok D) (hc : hn_can D item) : ((hn_val T n item p D).1 ≤ n ∧ p ≤ (hn_val T n item p D).1) ∧ jFr s4 D (hn_val T n item p D).2.2 ∧ hn_ok (hn_val T n item p D).2.2 ∧ (hn_val T n item p D).2.2 5 3 = D 5 3 ∧ (hn_val T n item p D).2.2 5 4 = D 5 4 ∧ (hn_val T n item p D).2.2 4 2 = D 4 2 := by
  have tb := tk_b (T := T) (n := n) (m := 2) hp (by decide)
  cases e : (tk T n 2 p).2 with
  | none =>
    rw [hn_val_0 e]
    exact ⟨⟨tb.2.1, tb.1⟩, jFr.rf D, h, rfl, rfl, rfl⟩
  | some v =>
    have ts := tk_s (T := T) (n := n) (m := 1) hp (by decide) e
    have ts : p < (tk T n 2 p).1 := ts
    by_cases q : v < ja_ro 173 item ∨ ja_ro 174 item < v
    · rw [hn_val_o e q]
      exact ⟨⟨by show (tk T n 2 p).1 - 1 ≤ n; omega, by show p ≤ (tk T n 2 p).1 - 1; omega⟩, jFr.rf D, h, rfl, rfl, rfl⟩
    · rw [hn_val_i e q]
      exact ⟨⟨tb.2.1, tb.1⟩, hn_put_fr D item v, hn_put_ok h hc q⟩
theorem js_put (dd : Nat) {D : ja_M} {item p : Nat} {v : Int} (h : hn_ok D) (hc : hn_can D item) : ja_x true (dd + 1) 35 [jr 5, ji (item : Int), ji v] (atX D p) = some (none, atX (hn_put D item v) p) := by
  have e3 : (atX D p) 5 3 = D 5 3 := jb_up_ne (by decide)
  have e4 : (atX D p) 5 4 = D 5 4 := jb_up_ne (by decide)
  have h1 := h.1
  have h2 := h.2.1
  rw [f_Hunt_put_5, e3, e4]
  rcases hc with ⟨rfl, hc⟩ | ⟨rfl, hc⟩ | ⟨rfl, hc⟩ | rfl | rfl
  · rw [ja_w_id (x := D 5 3 - 1) (by omega) (by omega), if_pos (by decide), if_pos (by omega), if_pos (by omega), ja_up_cm (by omega)]
    rfl
  · rw [ja_w_id (x := D 5 3 - 1) (by omega) (by omega), if_neg (by decide), if_pos (by decide), if_pos (by omega), if_pos (by omega), ja_up_cm (by omega)]
    rfl
  · rw [ja_w_id (x := D 5 4 - 1) (by omega) (by omega), if_neg (by decide), if_neg (by decide), if_pos (by decide), if_pos (by omega), if_pos (by omega), ja_up_cm (by omega)]
    rfl
  · rw [if_neg (by decide), if_neg (by decide), if_neg (by decide), if_pos (by decide), ja_up_cm (by omega)]
    rfl
  · rw [if_neg (by decide), if_neg (by decide), if_neg (by decide), if_neg (by decide), if_pos (by decide), ja_up_cm (by omega)]
    rfl
theorem js_readValue (dd : Nat) {T : Nat → Int} {n item p : Nat} {D : ja_M} (hX : tpX D T n) (hn : n ≤ 160) (hp : p ≤ n) (h : hn_ok D) (hc : hn_can D item) : ja_x true (dd + 3) 31 [jr 4, ji (item : Int)] (atX D p) = some (some (ji (if (hn_val T n item p D).2.1 = true then 1 else 0)), atX (hn_val T n item p D).2.2 (hn_val T n item p D).1) := by
  have tb := tk_b (T := T) (n := n) (m := 2) hp (by decide)
  have i5 : 0 ≤ (item : Int) ∧ (item : Int) < 5 := by
    unfold hn_can at hc
    omega
  have tn := js_takeNumber dd (m := 2) hX hn hp (by decide)
  rw [f_HuntReader_readValue, show ja_x true (dd + 2) 32 [jr 2, ji 2] (atX D p) = _ from tn, jz_bI, show ((item : Int)).toNat = item from rfl]
  cases e : (tk T n 2 p).2 with
  | none =>
    rw [hn_val_0 e]
    rfl
  | some v =>
    have ts := tk_s (T := T) (n := n) (m := 1) hp (by decide) e
    have ts : p < (tk T n 2 p).1 := ts
    have hv := tb.2.2 v e
    have e2 : (atX D (tk T n 2 p).1) 2 2 = ((tk T n 2 p).1 : Int) := jb_up_eq
    have back : ja_x true (dd + 2) 34 [jr 2] (atX D (tk T n 2 p).1) = some (none, atX D ((tk T n 2 p).1 - 1)) := by
      rw [f_Tape_stepBack, e2, if_pos (by omega), ja_up_up, ja_w_id (by omega) (by omega), show ((tk T n 2 p).1 : Int) - 1 = (((tk T n 2 p).1 - 1 : Nat) : Int) by omega]
    rw [show (some v).getD (-1) = v from rfl, if_neg (by omega), if_pos i5]
    by_cases q1 : v < ja_ro 173 item
    · rw [hn_val_o e (Or.inl q1), if_pos q1, back, jz_bV]
      rfl
    · rw [if_neg q1, if_pos i5]
      by_cases q2 : ja_ro 174 item < v
      · rw [hn_val_o e (Or.inr q2), if_pos q2, back, jz_bV]
        rfl
      · have q : ¬ (v < ja_ro 173 item ∨ ja_ro 174 item < v) := fun w => by
          rcases w with w | w
          · exact q1 w
          · exact q2 w
        rw [hn_val_i e q, if_neg q2, js_put (dd + 1) h hc, jz_bV]
        rfl
theorem hn_2_0 {T : Nat → Int} {n i p : Nat} {k : Int} {D : ja_M} (e : hn_it k (sg T n (sk T n p)) = none) : hn_2 T n k i p D = (sk T n p, true, D) := by
  unfold hn_2
  rw [e]
theorem hn_2_s {T : Nat → Int} {n i p : Nat} {k : Int} {D : ja_M} {j : Nat} (e : hn_it k (sg T n (sk T n p)) = some j) : hn_2 T n k i p D = if j = i then (sk T n p, true, D) else hn_val T n j (sk T n p + 1) D := by
  unfold hn_2
  rw [e]
theorem hn_items_0 {T : Nat → Int} {n p : Nat} {k : Int} {D : ja_M} (e : hn_it k (sg T n (sk T n p)) = none) : hn_items T n k p D = (sk T n p, true, D) := by
  unfold hn_items
  rw [e]
theorem hn_items_s {T : Nat → Int} {n p : Nat} {k : Int} {D : ja_M} {i : Nat} (e : hn_it k (sg T n (sk T n p)) = some i) {r : Nat} {ok : Bool} {D1 : ja_M} (hv : hn_val T n i (sk T n p + 1) D = (r, ok, D1)) : hn_items T n k p D = if ok = true then hn_2 T n k i r D1 else (r, ok, D1) := by
  unfold hn_items
  rw [e]
  show (if (hn_val T n i (sk T n p + 1) D).2.1 = true then hn_2 T n k i (hn_val T n i (sk T n p + 1) D).1 (hn_val T n i (sk T n p + 1) D).2.2 else hn_val T n i (sk T n p + 1) D) = _
  rw [hv]
