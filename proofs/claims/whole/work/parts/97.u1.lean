/-! reading: the tape, both sides -/
def tp_sk (T : Nat → Int) (n : Nat) : Nat → Nat → Nat
  | 0, p => p
  | m + 1, p => if p < n ∧ T p = 32 then tp_sk T n m (p + 1) else p
/-- the place behind blanks -/
def sk (T : Nat → Int) (n p : Nat) : Nat := tp_sk T n (n - p) p
def sg (T : Nat → Int) (n p : Nat) : Int := if p < n then T p else 0
def sr (T : Nat → Int) (n p : Nat) : Int := if p < n then T p else -1
theorem sk_s {T : Nat → Int} {n p : Nat} (h : p < n) (e : T p = 32) : sk T n p = sk T n (p + 1) := by
  unfold sk
  rw [show n - p = (n - (p + 1)) + 1 by omega]
  show (if p < n ∧ T p = 32 then tp_sk T n (n - (p + 1)) (p + 1) else p) = _
  rw [if_pos ⟨h, e⟩]
theorem sk_0 {T : Nat → Int} {n p : Nat} (h : ¬ (p < n ∧ T p = 32)) : sk T n p = p := by
  unfold sk
  cases n - p with
  | zero => rfl
  | succ m => exact if_neg h
theorem sk_all {T : Nat → Int} {n : Nat} : ∀ (m p : Nat), p + m = n → (p ≤ sk T n p ∧ sk T n p ≤ n) ∧ ¬ (sk T n p < n ∧ T (sk T n p) = 32)
  | 0, p, e => by
    rw [sk_0 (by omega)]
    omega
  | m + 1, p, e => by
    by_cases h : T p = 32
    · rw [sk_s (by omega) h]
      have := sk_all (T := T) (n := n) m (p + 1) (by omega)
      exact ⟨by omega, this.2⟩
    · have : ¬ (p < n ∧ T p = 32) := fun q => h q.2
      rw [sk_0 this]
      exact ⟨by omega, this⟩
theorem sk_b {T : Nat → Int} {n p : Nat} (h : p ≤ n) : p ≤ sk T n p ∧ sk T n p ≤ n := (sk_all (n - p) p (by omega)).1
theorem sk_i {T : Nat → Int} {n p : Nat} (h : p ≤ n) : sk T n (sk T n p) = sk T n p := sk_0 (sk_all (n - p) p (by omega)).2
theorem sg_eq {T : Nat → Int} {n p : Nat} {a : Int} (h : sg T n p = a) (ha : a ≠ 0) : p < n ∧ T p = a := by
  unfold sg at h
  by_cases q : p < n
  · rw [if_pos q] at h
    exact ⟨q, h⟩
  · rw [if_neg q] at h
    exact absurd h.symm ha
/-- a text: its bytes are not 0 -/
def tpok (T : Nat → Int) (n : Nat) : Prop := n ≤ 160 ∧ ∀ i, i < n → 1 ≤ T i ∧ T i ≤ 255
theorem sg_0 {T : Nat → Int} {n p : Nat} (h : tpok T n) : sg T n p = 0 ↔ n ≤ p := by
  unfold sg
  by_cases q : p < n
  · rw [if_pos q]
    have := h.2 p q
    omega
  · rw [if_neg q]
    omega
theorem sr_sg {T : Nat → Int} {n p : Nat} (h : tpok T n) (a : Int) (ha : 1 ≤ a) : sr T n p = a ↔ sg T n p = a := by
  unfold sr sg
  by_cases q : p < n
  · rw [if_pos q, if_pos q]
  · rw [if_neg q, if_neg q]
    omega
theorem sr_n {T : Nat → Int} {n p : Nat} (h : tpok T n) : sr T n p = -1 ↔ n ≤ p := by
  unfold sr
  by_cases q : p < n
  · rw [if_pos q]
    have := h.2 p q
    omega
  · rw [if_neg q]
    omega
theorem ja_up_up {N : ja_M} {c i : Nat} {v w : Int} : ja_up (ja_up N c i v) c i w = ja_up N c i w := by
  funext d j
  rw [jz_up, jz_up, jz_up]
  by_cases h : d = c ∧ j = i
  · rw [if_pos h, if_pos h]
  · rw [if_neg h, if_neg h, if_neg h]
theorem ja_up_self {N : ja_M} {c i : Nat} {v : Int} (h : N c i = v) : ja_up N c i v = N := by
  funext d j
  rw [jz_up]
  by_cases z : d = c ∧ j = i
  · rw [if_pos z, z.1, z.2, h]
  · rw [if_neg z]
theorem ja_up_cm {N : ja_M} {c i d j : Nat} {v w : Int} (h : ¬ (d = c ∧ j = i)) : ja_up (ja_up N c i v) d j w = ja_up (ja_up N d j w) c i v := by
  funext e k
  rw [jz_up, jz_up, jz_up, jz_up]
  by_cases z : e = d ∧ k = j
  · have z2 : ¬ (e = c ∧ k = i) := fun q => h (by omega)
    rw [if_pos z, if_neg z2, if_pos z]
  · rw [if_neg z, if_neg z]
/-- the class's tape at a place -/
abbrev atX (N : ja_M) (p : Nat) : ja_M := ja_up N 2 2 (p : Int)
def tpX (N : ja_M) (T : Nat → Int) (n : Nat) : Prop := N 2 1 = (n : Int) ∧ ∀ i, i < n → N 3 i = T i
theorem js_next_D (E : ja_E) {N : ja_M} {T : Nat → Int} {n : Nat} (hX : tpX N T n) (hn : n ≤ 160) : ∀ (m p : Nat), p + m = n → ja_D true E k_Tape_nextSign 0 [some (jr 2)] [] (atX N p) = some (some (ji (sg T n (sk T n p))), atX N (sk T n p)) := by
  intro m
  induction m with
  | zero =>
    intro p e
    have e1 : (atX N p) 2 1 = (n : Int) := (jb_up_nej (by decide)).trans hX.1
    have e2 : (atX N p) 2 2 = (p : Int) := jb_up_eq
    rw [e_Tape_nextSign, e1, e2, if_neg (by omega), if_neg (by omega), sk_0 (by omega)]
    unfold sg
    rw [if_neg (by omega)]
  | succ m ih =>
    intro p e
    have e1 : (atX N p) 2 1 = (n : Int) := (jb_up_nej (by decide)).trans hX.1
    have e2 : (atX N p) 2 2 = (p : Int) := jb_up_eq
    have e3 : (atX N p) 3 p = T p := (jb_up_ne (by decide)).trans (hX.2 p (by omega))
    rw [e_Tape_nextSign, e1, e2, if_pos (by omega), if_pos (by omega), show ((p : Int)).toNat = p from rfl, e3, ja_w_id (by omega) (by omega)]
    by_cases h : T p = 32
    · rw [if_pos h, ja_up_up, sk_s (by omega) h]
      exact ih (p + 1) (by omega)
    · rw [if_neg h, if_pos (by omega), if_pos (by omega), sk_0 (fun q => h q.2)]
      unfold sg
      rw [if_pos (by omega)]
theorem js_next (dd : Nat) {N : ja_M} {T : Nat → Int} {n p : Nat} (hX : tpX N T n) (hn : n ≤ 160) (hp : p ≤ n) : ja_x true (dd + 1) 24 [jr 2] (atX N p) = some (some (ji (sg T n (sk T n p))), atX N (sk T n p)) := ((f_Tape_nextSign dd _).trans (e_Tape_nextSign (ja_x true dd) _).symm).trans (js_next_D (ja_x true dd) hX hn (n - p) p (by omega))
theorem js_pass (dd : Nat) {N : ja_M} {T : Nat → Int} {n p : Nat} (hX : tpX N T n) (hn : n ≤ 160) (hp : p < n) : ja_x true (dd + 1) 28 [jr 2] (atX N p) = some (none, atX N (p + 1)) := by
  have e1 : (atX N p) 2 1 = (n : Int) := (jb_up_nej (by decide)).trans hX.1
  have e2 : (atX N p) 2 2 = (p : Int) := jb_up_eq
  rw [f_Tape_pass, e1, e2, if_pos (by omega), ja_up_up, ja_w_id (by omega) (by omega)]
  rfl
theorem js_take (dd : Nat) {N : ja_M} {T : Nat → Int} {n p : Nat} (hX : tpX N T n) (hn : n ≤ 160) (hp : p ≤ n) {a : Int} (ha : a ≠ 0) : ja_x true (dd + 2) 38 [jr 2, ji a] (atX N p) = if sg T n (sk T n p) = a then some (some (ji 1), atX N (sk T n p + 1)) else some (some (ji 0), atX N (sk T n p)) := by
  rw [f_Tape_take, js_next dd hX hn hp, jz_bI]
  by_cases h : sg T n (sk T n p) = a
  · rw [if_pos h, if_pos h, js_pass dd hX hn (sg_eq h ha).1, jz_bV]
  · rw [if_neg h, if_neg h]
abbrev dg (c : Int) : Prop := 48 ≤ c ∧ c ≤ 57
theorem js_isDigit (dd : Nat) (a : Int) (M : ja_M) : ja_x true (dd + 1) 33 [ji a] M = some (some (ji (if dg a then 1 else 0)), M) := by
  rw [f_Tape_isDigit]
  by_cases h1 : a < 48
  · rw [if_pos h1, if_neg (fun q : dg a => by omega)]
  · by_cases h2 : 57 < a
    · rw [if_neg h1, if_pos h2, if_neg (fun q : dg a => by omega)]
    · rw [if_neg h1, if_neg h2, if_pos (show dg a from ⟨by omega, by omega⟩)]
def tp_dg (T : Nat → Int) (n : Nat) : Nat → Nat → Int → Nat × Int
  | 0, p, v => (p, v)
  | m + 1, p, v => if p < n ∧ dg (T p) then tp_dg T n m (p + 1) (v * 10 + (T p - 48)) else (p, v)
theorem tp_dg_y {T : Nat → Int} {n m p : Nat} {v : Int} (h : p < n ∧ dg (T p)) : tp_dg T n (m + 1) p v = tp_dg T n m (p + 1) (v * 10 + (T p - 48)) := if_pos h
theorem tp_dg_n {T : Nat → Int} {n m p : Nat} {v : Int} (h : ¬ (p < n ∧ dg (T p))) : tp_dg T n (m + 1) p v = (p, v) := if_neg h
/-- numbers so far, of so many more digits -/
def tp_v (m : Nat) (v : Int) : Prop := 0 ≤ v ∧ v ≤ 9999 ∧ m ≤ 4 ∧ (m = 4 → v = 0) ∧ (m = 3 → v ≤ 9) ∧ (m = 2 → v ≤ 99) ∧ (m = 1 → v ≤ 999)
theorem tp_v_s {m : Nat} {v d : Int} (h : tp_v (m + 1) v) (hd : 0 ≤ d ∧ d ≤ 9) : tp_v m (v * 10 + d) := by
  unfold tp_v at h ⊢
  omega
theorem tp_dg_b {T : Nat → Int} {n : Nat} : ∀ (m p : Nat) (v : Int), p ≤ n → tp_v m v → p ≤ (tp_dg T n m p v).1 ∧ (tp_dg T n m p v).1 ≤ n ∧ (0 ≤ (tp_dg T n m p v).2 ∧ (tp_dg T n m p v).2 ≤ 9999)
  | 0, p, v, hp, hv => ⟨Nat.le_refl _, hp, hv.1, hv.2.1⟩
  | m + 1, p, v, hp, hv => by
    unfold tp_dg
    by_cases h : p < n ∧ dg (T p)
    · rw [if_pos h]
      have h2 : 48 ≤ T p ∧ T p ≤ 57 := h.2
      have := tp_dg_b (T := T) (n := n) m (p + 1) (v * 10 + (T p - 48)) h.1 (tp_v_s hv (by omega))
      exact ⟨by omega, this.2⟩
    · rw [if_neg h]
      exact ⟨Nat.le_refl _, hp, hv.1, hv.2.1⟩
theorem js_takeNumber_D (dd : Nat) {N : ja_M} {T : Nat → Int} {n : Nat} (hX : tpX N T n) (hn : n ≤ 160) : ∀ (m p : Nat) (v : Int), p ≤ n → tp_v m v → ja_D true (ja_x true (dd + 1)) k_Tape_takeNumber 16 [some (jr 2), none, some (ji v), some (ji (ja_min (n : Int) ((p : Int) + (m : Int))))] [] (atX N p) = some (some (ji (if dg (sg T n (tp_dg T n m p v).1) then -1 else (tp_dg T n m p v).2)), atX N (tp_dg T n m p v).1) := by
  have last : ∀ (p : Nat) (v : Int), p ≤ n → (if (atX N p) 2 2 < (atX N p) 2 1 then if 0 ≤ (atX N p) 2 2 ∧ (atX N p) 2 2 < 160 then ja_bI (ja_x true (dd + 1) 33 [ji ((atX N p) 3 ((atX N p) 2 2).toNat)] (atX N p)) (fun x6 M5 => if x6 = 0 then some (some (ji v), M5) else some (some (ji (-1)), M5)) else none else some (some (ji v), atX N p)) = some (some (ji (if dg (sg T n p) then -1 else v)), atX N p) := by
    intro p v hp
    have e1 : (atX N p) 2 1 = (n : Int) := (jb_up_nej (by decide)).trans hX.1
    have e2 : (atX N p) 2 2 = (p : Int) := jb_up_eq
    rw [e1, e2]
    unfold sg
    by_cases h : p < n
    · have e3 : (atX N p) 3 p = T p := (jb_up_ne (by decide)).trans (hX.2 p h)
      rw [if_pos (by omega), if_pos (by omega), show ((p : Int)).toNat = p from rfl, e3, js_isDigit, jz_bI, jz_b0, if_pos h]
      by_cases g : dg (T p)
      · rw [if_pos g, if_pos g]
      · rw [if_neg g, if_neg g]
    · rw [if_neg (by omega), if_neg h, if_neg (by decide)]
  intro m
  induction m with
  | zero =>
    intro p v hp hv
    have e1 : (atX N p) 2 1 = (n : Int) := (jb_up_nej (by decide)).trans hX.1
    have e2 : (atX N p) 2 2 = (p : Int) := jb_up_eq
    have hm : ja_min (n : Int) ((p : Int) + ((0 : Nat) : Int)) = (p : Int) := by
      unfold ja_min
      split <;> omega
    rw [hm, e_Tape_takeNumber_16, if_neg (by rw [e2]; omega)]
    exact last p v hp
  | succ m ih =>
    intro p v hp hv
    have e1 : (atX N p) 2 1 = (n : Int) := (jb_up_nej (by decide)).trans hX.1
    have e2 : (atX N p) 2 2 = (p : Int) := jb_up_eq
    by_cases h : p < n
    · have e3 : (atX N p) 3 p = T p := (jb_up_ne (by decide)).trans (hX.2 p h)
      have hm : (p : Int) < ja_min (n : Int) ((p : Int) + ((m + 1 : Nat) : Int)) := by
        unfold ja_min
        split <;> omega
      rw [e_Tape_takeNumber_16, if_pos (by rw [e2]; exact hm), if_pos (by omega), e2, show ((p : Int)).toNat = p from rfl, e3, js_isDigit, jz_bI, jz_b0]
      by_cases g : dg (T p)
      · have g2 : 48 ≤ T p ∧ T p ≤ 57 := g
        have hv2 := tp_v_s hv (d := T p - 48) (by omega)
        have hvb := hv.1
        have hvc := hv.2.1
        have hvd : v ≤ 999 := by
          unfold tp_v at hv2
          omega
        have := ih (p + 1) (v * 10 + (T p - 48)) h hv2
        rw [show ((p + 1 : Nat) : Int) + (m : Int) = (p : Int) + ((m + 1 : Nat) : Int) by omega] at this
        rw [if_pos g, e2, if_pos (by omega), show ((p : Int)).toNat = p from rfl, e3, ja_w_id (x := v * 10) (by omega) (by omega), ja_w_id (x := v * 10 + T p) (by omega) (by omega), ja_w_id (x := v * 10 + T p - 48) (by omega) (by omega), ja_w_id (x := (p : Int) + 1) (by omega) (by omega), ja_up_up, show v * 10 + T p - 48 = v * 10 + (T p - 48) by omega]
        rw [tp_dg_y ⟨h, g⟩]
        exact this
      · rw [if_neg g, tp_dg_n (fun q => g q.2)]
        exact last p v hp
    · have hm : ¬ ((p : Int) < ja_min (n : Int) ((p : Int) + ((m + 1 : Nat) : Int))) := by
        unfold ja_min
        split <;> omega
      rw [e_Tape_takeNumber_16, if_neg (by rw [e2]; exact hm), tp_dg_n (fun q => h q.1)]
      exact last p v hp
/-- a number of so many digits at most -/
noncomputable def tk (T : Nat → Int) (n m p : Nat) : Nat × Option Int := if dg (sg T n (sk T n p)) then ((tp_dg T n m (sk T n p) 0).1, if dg (sg T n (tp_dg T n m (sk T n p) 0).1) then none else some (tp_dg T n m (sk T n p) 0).2) else (sk T n p, none)
theorem tp_v0 {m : Nat} (h : m ≤ 4) : tp_v m 0 := by
  unfold tp_v
  omega
theorem tk_b {T : Nat → Int} {n m p : Nat} (hp : p ≤ n) (hm : m ≤ 4) : p ≤ (tk T n m p).1 ∧ (tk T n m p).1 ≤ n ∧ ∀ v, (tk T n m p).2 = some v → 0 ≤ v ∧ v ≤ 9999 := by
  have hs := sk_b (T := T) hp
  have hd := tp_dg_b (T := T) (n := n) m (sk T n p) 0 hs.2 (tp_v0 hm)
  unfold tk
  by_cases h : dg (sg T n (sk T n p))
  · rw [if_pos h]
    refine ⟨by show p ≤ (tp_dg T n m (sk T n p) 0).1; omega, hd.2.1, fun v hv => ?_⟩
    have hv : (if dg (sg T n (tp_dg T n m (sk T n p) 0).1) then none else some (tp_dg T n m (sk T n p) 0).2) = some v := hv
    by_cases g : dg (sg T n (tp_dg T n m (sk T n p) 0).1)
    · rw [if_pos g] at hv
      cases hv
    · rw [if_neg g] at hv
      cases hv
      exact hd.2.2
  · rw [if_neg h]
    exact ⟨hs.1, hs.2, fun v hv => by cases hv⟩
theorem tk_s {T : Nat → Int} {n m p : Nat} {v : Int} (hp : p ≤ n) (hm : m + 1 ≤ 4) (h : (tk T n (m + 1) p).2 = some v) : p < (tk T n (m + 1) p).1 := by
  have hs := sk_b (T := T) hp
  unfold tk at h ⊢
  by_cases g : dg (sg T n (sk T n p))
  · rw [if_pos g] at h ⊢
    show p < (tp_dg T n (m + 1) (sk T n p) 0).1
    have g2 : sk T n p < n ∧ dg (T (sk T n p)) := by
      unfold sg at g
      by_cases q : sk T n p < n
      · rw [if_pos q] at g
        exact ⟨q, g⟩
      · rw [if_neg q] at g
        have : 48 ≤ (0 : Int) := g.1
        omega
    have g3 : 48 ≤ T (sk T n p) ∧ T (sk T n p) ≤ 57 := g2.2
    unfold tp_dg
    rw [if_pos g2]
    have := tp_dg_b (T := T) (n := n) m (sk T n p + 1) (0 * 10 + (T (sk T n p) - 48)) g2.1 (tp_v_s (tp_v0 hm) (by omega))
    omega
  · rw [if_neg g] at h
    cases h
theorem js_takeNumber (dd : Nat) {N : ja_M} {T : Nat → Int} {n m p : Nat} (hX : tpX N T n) (hn : n ≤ 160) (hp : p ≤ n) (hm : m ≤ 4) : ja_x true (dd + 2) 32 [jr 2, ji (m : Int)] (atX N p) = some (some (ji ((tk T n m p).2.getD (-1))), atX N (tk T n m p).1) := by
  have hs := sk_b (T := T) hp
  have e1 : (atX N (sk T n p)) 2 1 = (n : Int) := (jb_up_nej (by decide)).trans hX.1
  have e2 : (atX N (sk T n p)) 2 2 = (sk T n p : Int) := jb_up_eq
  rw [f_Tape_takeNumber, js_next dd hX hn hp, jz_bI, js_isDigit, jz_bI, jz_b0]
  unfold tk
  by_cases h : dg (sg T n (sk T n p))
  · rw [if_pos h, if_pos h, e1, e2, ja_w_id (by omega) (by omega), js_takeNumber_D dd hX hn m (sk T n p) 0 hs.2 (tp_v0 hm)]
    by_cases g : dg (sg T n (tp_dg T n m (sk T n p) 0).1)
    · rw [if_pos g, if_pos g]
      rfl
    · rw [if_neg g, if_neg g]
      rfl
  · rw [if_neg h, if_neg h]
    rfl
