/-! reading: worths, the other side's cells -/
def rM (N : ja_M) (t d : Nat) (cs : jw_C) : ja_M := fun c i => if c = 137 ∧ i = 5 then (d : Int) else if c = 141 ∧ i = t then (cs.length : Int) else if c = 139 ∧ (340 * t ≤ i ∧ i < 340 * t + cs.length) then ((cs.getD (i - 340 * t) (0, 0)).1 : Int) else if c = 140 ∧ (340 * t ≤ i ∧ i < 340 * t + cs.length) then (cs.getD (i - 340 * t) (0, 0)).2 else N c i
def bR (N : ja_M) (T : Nat → Int) (n t : Nat) : Prop := tpR N T n ∧ N 137 4 = -1 ∧ N 137 14 = (t : Int) ∧ t < 5
def rF (N : ja_M) (t : Nat) (N' : ja_M) : Prop := ∀ c i, ¬ (c = 137 ∧ (i = 3 ∨ i = 4 ∨ i = 5)) → ¬ ((c = 139 ∨ c = 140) ∧ (340 * t ≤ i ∧ i < 340 * t + 340)) → ¬ (c = 141 ∧ i = t) → N' c i = N c i
/-- a fault was found at f; so many codes at most -/
def fS (N : ja_M) (t f K : Nat) (N' : ja_M) : Prop := N' 137 4 = (f : Int) ∧ N' 137 14 = (t : Int) ∧ (0 ≤ N' 141 t ∧ N' 141 t ≤ (K : Int)) ∧ rF N t N'
theorem fS.mono {N : ja_M} {t f K K' : Nat} {N' : ja_M} (h : fS N t f K N') (k : K ≤ K') : fS N t f K' N' := ⟨h.1, h.2.1, ⟨h.2.2.1.1, by have := h.2.2.1.2; omega⟩, h.2.2.2⟩
theorem fS.up3 {N : ja_M} {t f K : Nat} {N' : ja_M} (h : fS N t f K N') (v : Int) : fS N t f K (ja_up N' 137 3 v) := ⟨h.1, h.2.1, h.2.2.1, fun c i x y z => by
  rw [jz_up, if_neg (fun e => x (by omega))]
  exact h.2.2.2 c i x y z⟩
theorem fS.up5 {N : ja_M} {t f K : Nat} {N' : ja_M} (h : fS N t f K N') (v : Int) : fS N t f K (ja_up N' 137 5 v) := ⟨h.1, h.2.1, h.2.2.1, fun c i x y z => by
  rw [jz_up, if_neg (fun e => x (by omega))]
  exact h.2.2.2 c i x y z⟩
theorem rM_push (N : ja_M) (t d : Nat) (cs : jw_C) (a : Nat) (b : Int) : ja_up (ja_up (ja_up (rM N t d cs) 139 (340 * t + cs.length) (a : Int)) 140 (340 * t + cs.length) b) 141 t ((cs.length : Int) + 1) = rM N t d (cs ++ [(a, b)]) := by
  have gl : ∀ i, i < cs.length → (cs ++ [(a, b)]).getD i (0, 0) = cs.getD i (0, 0) := fun i h => by
    rw [List.getD_eq_getElem?_getD, List.getD_eq_getElem?_getD, List.getElem?_append_left h]
  have gn : (cs ++ [(a, b)]).getD cs.length (0, 0) = (a, b) := by
    rw [List.getD_eq_getElem?_getD, List.getElem?_append_right (Nat.le_refl _), Nat.sub_self]
    rfl
  funext c i
  rw [jz_up, jz_up, jz_up]
  unfold rM
  rw [List.length_append, List.length_singleton]
  by_cases h1 : c = 141 ∧ i = t
  · rw [if_pos h1, if_neg (fun q => by omega), if_pos h1]
    omega
  · rw [if_neg h1]
    by_cases h2 : c = 140
    · by_cases h3 : i = 340 * t + cs.length
      · rw [if_pos ⟨h2, h3⟩, if_neg (fun q => by omega), if_neg h1, if_neg (fun q => by omega), if_pos ⟨h2, by omega⟩, show i - 340 * t = cs.length by omega, gn]
      · rw [if_neg (fun q => h3 q.2), if_neg (c := c = 139 ∧ i = 340 * t + cs.length) (fun q => h3 q.2), if_neg (c := c = 137 ∧ i = 5) (fun q => by omega), if_neg h1, if_neg (c := c = 139 ∧ (340 * t ≤ i ∧ i < 340 * t + cs.length)) (fun q => by omega), if_neg (c := c = 137 ∧ i = 5) (fun q => by omega), if_neg h1, if_neg (c := c = 139 ∧ (340 * t ≤ i ∧ i < 340 * t + (cs.length + 1))) (fun q => by omega)]
        by_cases h4 : 340 * t ≤ i ∧ i < 340 * t + cs.length
        · rw [if_pos ⟨h2, h4⟩, if_pos ⟨h2, by omega⟩, gl _ (by omega)]
        · rw [if_neg (fun q => h4 q.2), if_neg (fun q => by omega)]
    · rw [if_neg (fun q => h2 q.1)]
      by_cases h5 : c = 139
      · by_cases h3 : i = 340 * t + cs.length
        · rw [if_pos ⟨h5, h3⟩, if_neg (fun q => by omega), if_neg h1, if_pos ⟨h5, by omega⟩, show i - 340 * t = cs.length by omega, gn]
        · rw [if_neg (fun q => h3 q.2), if_neg (fun q => by omega), if_neg h1, if_neg (c := c = 137 ∧ i = 5) (fun q => by omega), if_neg h1]
          by_cases h4 : 340 * t ≤ i ∧ i < 340 * t + cs.length
          · rw [if_pos ⟨h5, h4⟩, if_pos ⟨h5, by omega⟩, gl _ (by omega)]
          · rw [if_neg (fun q => h4 q.2), if_neg (fun q => by omega), if_neg (fun q => by omega), if_neg (fun q => by omega)]
      · rw [if_neg (fun q => h5 q.1)]
        by_cases h6 : c = 137 ∧ i = 5
        · rw [if_pos h6, if_pos h6]
        · rw [if_neg h6, if_neg h1, if_neg (fun q => h5 q.1), if_neg (fun q => h2 q.1), if_neg h6, if_neg h1, if_neg (fun q => h5 q.1), if_neg (fun q => h2 q.1)]
theorem rM_d (N : ja_M) (t d e : Nat) (cs : jw_C) : ja_up (rM N t d cs) 137 5 (e : Int) = rM N t e cs := by
  funext c i
  rw [jz_up]
  unfold rM
  by_cases h : c = 137 ∧ i = 5
  · rw [if_pos h, if_pos h]
  · rw [if_neg h, if_neg h, if_neg h]
theorem rM_0 (N : ja_M) (t : Nat) : rM N t 0 [] = ja_up (ja_up N 137 5 0) 141 t 0 := by
  funext c i
  rw [jz_up, jz_up]
  unfold rM
  by_cases h : c = 137 ∧ i = 5
  · rw [if_pos h, if_neg (fun q => by omega), if_pos h]
    rfl
  · rw [if_neg h]
    by_cases h2 : c = 141 ∧ i = t
    · rw [if_pos h2, if_pos h2]
      rfl
    · rw [if_neg h2, if_neg h2, if_neg h, if_neg (fun q => by
        have : ([] : jw_C).length = 0 := rfl
        omega), if_neg (fun q => by
        have : ([] : jw_C).length = 0 := rfl
        omega)]
theorem rM_tp {N : ja_M} {T : Nat → Int} {n t d : Nat} {cs : jw_C} (h : tpR N T n) : tpR (rM N t d cs) T n := ⟨h.1, fun i hi => h.2 i hi⟩
theorem rM_rF {N : ja_M} {t d : Nat} {cs : jw_C} (h : cs.length ≤ 340) : rF N t (rM N t d cs) := fun c i x y z => by
  unfold rM
  rw [if_neg (fun q => x (by omega)), if_neg z, if_neg (fun q => y (by omega)), if_neg (fun q => y (by omega))]
theorem rM_f {N : ja_M} {T : Nat → Int} {n t d p f K : Nat} {cs : jw_C} (hb : bR N T n t) (h : cs.length ≤ K) (hK : K ≤ 340) : fS N t f K (ja_up (atR (rM N t d cs) p) 137 4 (f : Int)) := by
  refine ⟨jb_up_eq, hb.2.2.1, ?_, fun c i x y z => ?_⟩
  · have : (ja_up (atR (rM N t d cs) p) 137 4 (f : Int)) 141 t = (cs.length : Int) := by
      rw [jb_up_ne (by decide)]
      show (ja_up (rM N t d cs) 137 3 (p : Int)) 141 t = _
      rw [jb_up_ne (by decide)]
      unfold rM
      rw [if_neg (fun q => by omega), if_pos ⟨rfl, rfl⟩]
    rw [this]
    omega
  · rw [jz_up, if_neg (fun e => x (by omega))]
    show (ja_up (rM N t d cs) 137 3 (p : Int)) c i = _
    rw [jz_up, if_neg (fun e => x (by omega))]
    exact rM_rF (by omega) c i x y z
theorem js_R_put (dd : Nat) {M : ja_M} {t len : Nat} {a b : Int} (h14 : M 137 14 = (t : Int)) (h141 : M 141 t = (len : Int)) (ht : t < 5) (hl : len < 340) : ja_x true (dd + 1) 223 [jr 137, ji a, ji b] M = some (none, ja_up (ja_up (ja_up M 139 (340 * t + len) a) 140 (340 * t + len) b) 141 t ((len : Int) + 1)) := by
  have e1 : (ja_up M 139 (340 * t + len) a) 137 14 = (t : Int) := (jb_up_ne (by decide)).trans h14
  have e2 : (ja_up M 139 (340 * t + len) a) 141 t = (len : Int) := (jb_up_ne (by decide)).trans h141
  have e3 : (ja_up (ja_up M 139 (340 * t + len) a) 140 (340 * t + len) b) 137 14 = (t : Int) := (jb_up_ne (by decide)).trans e1
  have e4 : (ja_up (ja_up M 139 (340 * t + len) a) 140 (340 * t + len) b) 141 t = (len : Int) := (jb_up_ne (by decide)).trans e2
  have w : (340 * (t : Int) + (len : Int)).toNat = 340 * t + len := by omega
  rw [f_R_put, h14, if_pos (by omega), show ((t : Int)).toNat = t from rfl, h141, ja_w_id (x := 340 * (t : Int)) (by omega) (by omega), ja_w_id (x := 340 * (t : Int) + (len : Int)) (by omega) (by omega), if_pos (by omega), w, e1, if_pos (by omega), show ((t : Int)).toNat = t from rfl, e2, ja_w_id (x := 340 * (t : Int)) (by omega) (by omega), ja_w_id (x := 340 * (t : Int) + (len : Int)) (by omega) (by omega), if_pos (by omega), w, e3, if_pos (by omega), if_pos (by omega), show ((t : Int)).toNat = t from rfl, e4, ja_w_id (x := (len : Int) + 1) (by omega) (by omega)]
theorem js_R_putO (dd : Nat) {N : ja_M} {T : Nat → Int} {n t d p : Nat} {cs : jw_C} {a : Nat} {b : Int} (hb : bR N T n t) (h : cs.length < 340) : ja_x true (dd + 1) 223 [jr 137, ji (a : Int), ji b] (atR (rM N t d cs) p) = some (none, atR (rM N t d (cs ++ [(a, b)])) p) := by
  have e14 : (atR (rM N t d cs) p) 137 14 = (t : Int) := hb.2.2.1
  have e141 : (atR (rM N t d cs) p) 141 t = (cs.length : Int) := by
    show (ja_up (rM N t d cs) 137 3 (p : Int)) 141 t = _
    rw [jb_up_ne (by decide)]
    unfold rM
    rw [if_neg (fun q => by omega), if_pos ⟨rfl, rfl⟩]
  rw [js_R_put dd e14 e141 hb.2.2.2 h, ja_up_cm (c := 137) (d := 139) (by omega), ja_up_cm (c := 137) (d := 140) (by omega), ja_up_cm (c := 137) (d := 141) (by omega), rM_push]
theorem js_R_putF (dd : Nat) {N : ja_M} {t f K : Nat} {N' : ja_M} {a b : Int} (h : fS N t f K N') (ht : t < 5) (hK : K < 340) : ∃ N'', ja_x true (dd + 1) 223 [jr 137, ji a, ji b] N' = some (none, N'') ∧ fS N t f (K + 1) N'' := by
  obtain ⟨h1, h2, h3, h4⟩ := h
  obtain ⟨len, hl⟩ : ∃ len : Nat, N' 141 t = (len : Int) := ⟨(N' 141 t).toNat, by omega⟩
  refine ⟨_, js_R_put dd h2 hl ht (by omega), h1, h2, ?_, fun c i x y z => ?_⟩
  · rw [jb_up_eq]
    omega
  · rw [jz_up, if_neg (fun e => z (by omega)), jz_up, if_neg (fun e => y (by omega)), jz_up, if_neg (fun e => y (by omega))]
    exact h4 c i x y z
