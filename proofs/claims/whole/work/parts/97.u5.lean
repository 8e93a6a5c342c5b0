/-! reading: the other side's tape and numbers -/
abbrev atR (N : ja_M) (p : Nat) : ja_M := ja_up N 137 3 (p : Int)
def tpR (N : ja_M) (T : Nat → Int) (n : Nat) : Prop := N 137 2 = (n : Int) ∧ ∀ i, i < n → N 138 i = T i
theorem js_R_here (dd : Nat) {N : ja_M} {T : Nat → Int} {n p : Nat} (hR : tpR N T n) (hn : n ≤ 160) : ja_x true (dd + 1) 208 [jr 137] (atR N p) = some (some (ji (sr T n p)), atR N p) := by
  have e1 : (atR N p) 137 2 = (n : Int) := (jb_up_nej (by decide)).trans hR.1
  have e2 : (atR N p) 137 3 = (p : Int) := jb_up_eq
  rw [f_R_here, e1, e2]
  unfold sr
  by_cases h : p < n
  · have e3 : (atR N p) 138 p = T p := (jb_up_ne (by decide)).trans (hR.2 p h)
    rw [if_pos (by omega), if_pos (by omega), if_pos h, show ((p : Int)).toNat = p from rfl, e3]
  · rw [if_neg (by omega), if_neg h]
theorem js_R_look_D (dd : Nat) {N : ja_M} {T : Nat → Int} {n : Nat} (hR : tpR N T n) (hn : n ≤ 160) : ∀ (m p : Nat), p + m = n → ja_D true (ja_x true (dd + 1)) k_R_look 0 [some (jr 137)] [] (atR N p) = some (some (ji (sr T n (sk T n p))), atR N (sk T n p)) := by
  intro m
  induction m with
  | zero =>
    intro p e
    have s : sr T n p = -1 := if_neg (by omega)
    rw [e_R_look, js_R_here dd hR hn, jz_bI, s, if_neg (by decide), js_R_here dd hR hn, jz_bI, sk_0 (by omega)]
  | succ m ih =>
    intro p e
    have s : sr T n p = T p := if_pos (by omega)
    have e2 : (atR N p) 137 3 = (p : Int) := jb_up_eq
    rw [e_R_look, js_R_here dd hR hn, jz_bI, s]
    by_cases h : T p = 32
    · rw [if_pos h, e2, ja_w_id (by omega) (by omega), ja_up_up, sk_s (by omega) h]
      exact ih (p + 1) (by omega)
    · rw [if_neg h, js_R_here dd hR hn, jz_bI, sk_0 (fun q => h q.2)]
theorem js_R_look (dd : Nat) {N : ja_M} {T : Nat → Int} {n p : Nat} (hR : tpR N T n) (hn : n ≤ 160) (hp : p ≤ n) : ja_x true (dd + 2) 207 [jr 137] (atR N p) = some (some (ji (sr T n (sk T n p))), atR N (sk T n p)) := ((f_R_look (dd + 1) _).trans (e_R_look (ja_x true (dd + 1)) _).symm).trans (js_R_look_D dd hR hn (n - p) p (by omega))
theorem js_R_bad (dd : Nat) {N : ja_M} {p : Nat} (h : N 137 4 = -1) : ja_x true (dd + 1) 213 [jr 137] (atR N p) = some (none, ja_up (atR N p) 137 4 (p : Int)) := by
  have e2 : (atR N p) 137 3 = (p : Int) := jb_up_eq
  have e4 : (atR N p) 137 4 = -1 := (jb_up_nej (by decide)).trans h
  rw [f_R_bad, e4, if_pos rfl, e2]
theorem js_R_isDigit (dd : Nat) (a : Int) (M : ja_M) : ja_x true (dd + 1) 212 [ji a] M = some (some (ji (if dg a then 1 else 0)), M) := by
  rw [f_R_isDigit]
  by_cases h1 : a < 48
  · rw [if_pos h1, if_neg (fun q : dg a => by omega)]
  · by_cases h2 : 57 < a
    · rw [if_neg h1, if_pos h2, if_neg (fun q : dg a => by omega)]
    · rw [if_neg h1, if_neg h2, if_pos (show dg a from ⟨by omega, by omega⟩)]
theorem dg_sr {T : Nat → Int} {n p : Nat} : dg (sr T n p) ↔ dg (sg T n p) := by
  unfold sr sg
  by_cases q : p < n
  · rw [if_pos q, if_pos q]
  · rw [if_neg q, if_neg q]
    constructor
    · intro h
      have : 48 ≤ (-1 : Int) := h.1
      omega
    · intro h
      have : 48 ≤ (0 : Int) := h.1
      omega
theorem dg_sg {T : Nat → Int} {n p : Nat} : dg (sg T n p) ↔ p < n ∧ dg (T p) := by
  unfold sg
  by_cases q : p < n
  · rw [if_pos q]
    exact ⟨fun h => ⟨q, h⟩, fun h => h.2⟩
  · rw [if_neg q]
    constructor
    · intro h
      have : 48 ≤ (0 : Int) := h.1
      omega
    · exact fun h => absurd h.1 q
theorem js_R_number (dd : Nat) {N : ja_M} {T : Nat → Int} {n p : Nat} {lo hi : Int} (hR : tpR N T n) (hn : n ≤ 160) (hp : p ≤ n) (h4 : N 137 4 = -1) : ((tk T n 2 p).2 = none → ∃ a, ja_x true (dd + 3) 211 [jr 137, ji lo, ji hi] (atR N p) = some (some (ji a), ja_up (atR N (tk T n 2 p).1) 137 4 ((tk T n 2 p).1 : Int))) ∧ ∀ v, (tk T n 2 p).2 = some v → (¬ (lo ≤ v ∧ v ≤ hi) → ∃ a, ja_x true (dd + 3) 211 [jr 137, ji lo, ji hi] (atR N p) = some (some (ji a), ja_up (atR N ((tk T n 2 p).1 - 1)) 137 4 (((tk T n 2 p).1 - 1 : Nat) : Int))) ∧ (lo ≤ v ∧ v ≤ hi → ja_x true (dd + 3) 211 [jr 137, ji lo, ji hi] (atR N p) = some (some (ji v), atR N (tk T n 2 p).1)) := by
  have hs := sk_b (T := T) hp
  have e2 : ∀ q : Nat, (atR N q) 137 3 = (q : Int) := fun q => jb_up_eq
  have st := f_R_number (dd + 2) lo hi (atR N p)
  rw [js_R_look dd hR hn hp, jz_bI, js_R_isDigit, jz_bI, jz_b0] at st
  by_cases d0 : dg (sg T n (sk T n p))
  · have q0 := dg_sg.mp d0
    have q1 : 48 ≤ T (sk T n p) ∧ T (sk T n p) ≤ 57 := q0.2
    have s0 : sr T n (sk T n p) = T (sk T n p) := if_pos q0.1
    rw [if_pos (dg_sr.mpr d0), js_R_here (dd + 1) hR hn, jz_bI, s0, e2, ja_w_id (x := (sk T n p : Int) + 1) (by omega) (by omega), ja_up_up, show ((sk T n p : Int) + 1) = ((sk T n p + 1 : Nat) : Int) by omega, js_R_here (dd + 1) hR hn, jz_bI, js_R_isDigit, jz_bI, jz_b0, ja_w_id (x := T (sk T n p) - 48) (by omega) (by omega)] at st
    by_cases d1 : dg (sg T n (sk T n p + 1))
    · have q2 := dg_sg.mp d1
      have q3 : 48 ≤ T (sk T n p + 1) ∧ T (sk T n p + 1) ≤ 57 := q2.2
      have s1 : sr T n (sk T n p + 1) = T (sk T n p + 1) := if_pos q2.1
      have ed : tp_dg T n 2 (sk T n p) 0 = (sk T n p + 1 + 1, (0 * 10 + (T (sk T n p) - 48)) * 10 + (T (sk T n p + 1) - 48)) := by
        unfold tp_dg
        rw [if_pos q0]
        unfold tp_dg
        rw [if_pos q2]
        rfl
      have ev : 10 * (T (sk T n p) - 48) + T (sk T n p + 1) - 48 = (0 * 10 + (T (sk T n p) - 48)) * 10 + (T (sk T n p + 1) - 48) := by omega
      rw [if_pos (dg_sr.mpr d1), js_R_here (dd + 1) hR hn, jz_bI, s1, e2, ja_w_id (x := ((sk T n p + 1 : Nat) : Int) + 1) (by omega) (by omega), ja_up_up, show (((sk T n p + 1 : Nat) : Int) + 1) = ((sk T n p + 1 + 1 : Nat) : Int) by omega, js_R_here (dd + 1) hR hn, jz_bI, js_R_isDigit, jz_bI, jz_b0, ja_w_id (x := 10 * (T (sk T n p) - 48)) (by omega) (by omega), ja_w_id (x := 10 * (T (sk T n p) - 48) + T (sk T n p + 1)) (by omega) (by omega), ja_w_id (x := 10 * (T (sk T n p) - 48) + T (sk T n p + 1) - 48) (by omega) (by omega), ev, js_in (dd + 1), jz_bI, jz_b0] at st
      unfold tk
      rw [if_pos d0, ed]
      generalize (0 * 10 + (T (sk T n p) - 48)) * 10 + (T (sk T n p + 1) - 48) = v at st ed
      by_cases d2 : dg (sg T n (sk T n p + 1 + 1))
      · rw [if_pos (dg_sr.mpr d2), js_R_bad (dd + 1) h4, jz_bV] at st
        refine ⟨fun _ => ⟨_, st⟩, fun w hw => ?_⟩
        have hw : (if dg (sg T n (sk T n p + 1 + 1)) then none else some v) = some w := hw
        rw [if_pos d2] at hw
        cases hw
      · rw [if_neg (fun q => d2 (dg_sr.mp q))] at st
        refine ⟨fun hw => ?_, fun w hw => ?_⟩
        · have hw : (if dg (sg T n (sk T n p + 1 + 1)) then none else some v) = none := hw
          rw [if_neg d2] at hw
          cases hw
        · have hw : (if dg (sg T n (sk T n p + 1 + 1)) then none else some v) = some w := hw
          rw [if_neg d2] at hw
          cases hw
          refine ⟨fun ho => ⟨v, ?_⟩, fun hi2 => ?_⟩
          · rw [st, if_neg ho, e2, ja_up_up, ja_w_id (x := ((sk T n p + 1 + 1 : Nat) : Int) - 1) (by omega) (by omega), show ((sk T n p + 1 + 1 : Nat) : Int) - 1 = ((sk T n p + 1 + 1 - 1 : Nat) : Int) by omega, js_R_bad (dd + 1) h4, jz_bV]
          · rw [st, if_pos hi2]
    · have ed : tp_dg T n 2 (sk T n p) 0 = (sk T n p + 1, 0 * 10 + (T (sk T n p) - 48)) := by
        unfold tp_dg
        rw [if_pos q0]
        unfold tp_dg
        rw [if_neg (fun q => d1 (dg_sg.mpr q))]
      rw [if_neg (fun q => d1 (dg_sr.mp q)), js_R_here (dd + 1) hR hn, jz_bI, js_R_isDigit, jz_bI, jz_b0, if_neg (fun q => d1 (dg_sr.mp q)), js_in (dd + 1), jz_bI, jz_b0, show T (sk T n p) - 48 = 0 * 10 + (T (sk T n p) - 48) by omega] at st
      unfold tk
      rw [if_pos d0, ed]
      generalize 0 * 10 + (T (sk T n p) - 48) = v at st ed
      refine ⟨fun hw => ?_, fun w hw => ?_⟩
      · have hw : (if dg (sg T n (sk T n p + 1)) then none else some v) = none := hw
        rw [if_neg d1] at hw
        cases hw
      · have hw : (if dg (sg T n (sk T n p + 1)) then none else some v) = some w := hw
        rw [if_neg d1] at hw
        cases hw
        refine ⟨fun ho => ⟨v, ?_⟩, fun hi2 => ?_⟩
        · rw [st, if_neg ho, e2, ja_up_up, ja_w_id (x := ((sk T n p + 1 : Nat) : Int) - 1) (by omega) (by omega), show ((sk T n p + 1 : Nat) : Int) - 1 = ((sk T n p + 1 - 1 : Nat) : Int) by omega, js_R_bad (dd + 1) h4, jz_bV]
        · rw [st, if_pos hi2]
  · unfold tk
    rw [if_neg d0]
    rw [if_neg (fun q => d0 (dg_sr.mp q)), js_R_bad (dd + 1) h4, jz_bV] at st
    exact ⟨fun _ => ⟨lo, st⟩, fun v hv => by cases hv⟩
