/-! THE STATE that class and reference share, all of it -/
/-- worths: entries of code (sign, number), clauses (test, sum) -/
abbrev jw_C : Type := List (Nat × Int)
abbrev jw_S : Type := List (jw_C × jw_C)
def jw_code (M : ja_M) (k : Nat) : Nat → jw_C → Prop
  | _, [] => True
  | off, (o, v) :: r => (M 139 (340 * k + off) = (o : Int) ∧ M 140 (340 * k + off) = v) ∧ jw_code M k (off + 1) r
def jw_mod (M : ja_M) (k : Nat) : Nat → Nat → jw_S → Prop
  | _, _, [] => True
  | c, off, (t, s) :: r => (M 143 (90 * k + c) = (off : Int) ∧ M 144 (90 * k + c) = ((off + t.length : Nat) : Int) ∧ M 145 (90 * k + c) = ((off + t.length + s.length : Nat) : Int)) ∧ jw_code M k off (t ++ s) ∧ jw_mod M k (c + 1) (off + t.length + s.length) r
def jw_len : jw_S → Nat
  | [] => 0
  | (t, s) :: r => t.length + s.length + jw_len r
def jw_chr : Nat → Int
  | 2 => 43
  | 3 => 45
  | 4 => 42
  | 5 => 47
  | 6 => 61
  | 7 => 60
  | 8 => 62
  | 9 => 33
  | 10 => 38
  | _ => 124
def jw_enc : Nat × Int → Int
  | (0, v) => v
  | (1, v) => 10000 + v
  | (o + 2, _) => 20000 + jw_chr (o + 2)
def jw_words : Nat → jw_S → List Int
  | _, [] => []
  | off, ([], s) :: r => s.map jw_enc ++ 40000 :: jw_words (off + s.length + 1) r
  | off, (x :: t, s) :: r => (x :: t).map jw_enc ++ (30000 + ((off + t.length + s.length + 3 : Nat) : Int)) :: (s.map jw_enc ++ 40000 :: jw_words (off + t.length + s.length + 3) r)
/-- the stack's kinds (true: a truth) behind a code; at most forty wait -/
def jw_ty : List Bool → jw_C → Option (List Bool)
  | σ, [] => some σ
  | σ, (0, v) :: r => if σ.length < 40 ∧ 0 ≤ v ∧ v ≤ 9999 then jw_ty (false :: σ) r else none
  | σ, (1, v) :: r => if σ.length < 40 ∧ 0 ≤ v ∧ v ≤ 4 then jw_ty (false :: σ) r else none
  | true :: σ, (9, _) :: r => jw_ty (true :: σ) r
  | false :: false :: σ, (o + 2, _) :: r => if o < 4 then jw_ty (false :: σ) r else if o < 7 then jw_ty (true :: σ) r else none
  | true :: true :: σ, (o + 2, _) :: r => if o = 8 ∨ o = 9 then jw_ty (true :: σ) r else none
  | _, _ => none
def jw_wf (cs : jw_S) : Prop := ∀ q ∈ cs, (q.1 = [] ∨ jw_ty [] q.1 = some [true]) ∧ jw_ty [] q.2 = some [false]
/-- the worth k of both sides -/
def jw_at (M : ja_M) (k : Nat) (cs : jw_S) : Prop := (jw_wf cs ∧ cs.length ≤ 80 ∧ jw_len cs ≤ 320) ∧ (M 142 k = (cs.length : Int) ∧ jw_mod M k 0 0 cs) ∧ (M 21 k = ((jw_words 0 cs).length : Int) ∧ (jw_words 0 cs).length ≤ 160 ∧ ∀ i x, (jw_words 0 cs)[i]? = some x → M (17 + k) i = x)
def jW (M : ja_M) : Prop := (0 ≤ M 15 4 ∧ M 15 4 ≤ 4) ∧ M 137 13 = M 15 4 ∧ (-1 ≤ M 15 5 ∧ M 15 5 < M 15 4) ∧ M 137 33 = M 15 5 ∧ ∀ k : Nat, (k : Int) < M 15 4 → ∃ cs, jw_at M k cs
/-- digits of a row of places -/
def jv_digs (f : Nat → Int) : Nat → Int
  | 0 => 0
  | t + 1 => jv_digs f t * 10 + f t
/-- a row of n places: an order -/
def jv_perm (n : Int) (f : Nat → Int) : Prop := (∀ t : Nat, (t : Int) < n → 0 ≤ f t ∧ f t < n) ∧ ∀ t u : Nat, (t : Int) < n → (u : Int) < n → f t = f u → t = u
/-- the row of the ring that has the k-th act -/
def jv_ring (r n : Int) (k : Nat) : Nat := ((r + 40 - n + k) % 40).toNat
/-- acts -/
def jPs (M : ja_M) : Prop := (0 ≤ M 33 3 ∧ M 33 3 < 40) ∧ (0 ≤ M 33 4 ∧ M 33 4 ≤ 40) ∧ M 137 35 = M 33 4 ∧
  ∀ k b : Nat, (k : Int) < M 33 4 → (b : Int) < M 11 4 → M (35 + jv_ring (M 33 3) (M 33 4) k) b = jv_digs (fun t => M 156 (36 * k + 6 * b + t)) (M 11 3).toNat ∧ jv_perm (M 11 3) (fun t => M 156 (36 * k + 6 * b + t))
/-- the image -/
def jIm (M : ja_M) : Prop := (M 33 7 = 0 ∨ M 33 7 = 1) ∧ M 137 57 = M 33 7 ∧ (M 33 7 = 1 → ∀ b : Nat, (b : Int) < M 11 4 → (M 75 b = jv_digs (fun t => M 169 (6 * b + t)) (M 11 3).toNat ∧ jv_perm (M 11 3) (fun t => M 169 (6 * b + t))) ∧ M 170 b = M 76 b ∧ (0 ≤ M 76 b ∧ M 76 b ≤ 99))
/-- what is found: the k-th of n finds allows the place p of the band b in the turn t -/
def jv_okf (M : ja_M) (b t p : Nat) (k : Nat) : Bool := !(decide (M 159 k = (b : Int)) && decide (M 160 k = (t : Int))) || (decide (M 161 k = (p : Int)) == decide (M 162 k = 1))
def jv_left (M : ja_M) (b t p : Nat) : Bool := (List.range (M 93 3).toNat).all (jv_okf M b t p)
/-- a set of places as a number -/
def jv_set (f : Nat → Bool) : Nat → Nat
  | 0 => 0
  | p + 1 => jv_set f p + (if f p = true then 2 ^ p else 0)
def jFi (M : ja_M) : Prop := (0 ≤ M 93 3 ∧ M 93 3 ≤ 20) ∧ M 137 43 = M 93 3 ∧
  (∀ k : Nat, (k : Int) < M 93 3 → (0 ≤ M 159 k ∧ M 159 k < M 11 4) ∧ (0 ≤ M 160 k ∧ M 160 k < M 11 3) ∧ (0 ≤ M 161 k ∧ M 161 k < M 11 3) ∧ (M 162 k = 0 ∨ M 162 k = 1)) ∧
  ∀ b t : Nat, (b : Int) < M 11 4 → (t : Int) < M 11 3 → M (95 + b) t = ((jv_set (jv_left M b t) (M 11 3).toNat : Nat) : Int)
/-- the row of tables: made or not -/
def jFl (M : ja_M) : Prop := (M 93 4 = 0 ∧ M 0 0 = 171) ∨ (M 93 4 = 1 ∧ M 0 0 = 172)
/-! tables that fit what is found -/
/-- all orders of n places, rising: the places that are left in a set, so many -/
def jv_ords (n : Nat) : Nat → (Nat → Bool) → List (List Nat)
  | 0, _ => [[]]
  | m + 1, left => (List.range n).flatMap (fun p => if left p = true then (jv_ords n m (fun q => left q && !(q == p))).map (fun o => p :: o) else [])
def jv_all (n : Nat) : List (List Nat) := jv_ords n n (fun _ => true)
def jv_nth (o : List Nat) (t : Nat) : Nat := o.getD t 0
def jv_num (o : List Nat) : Int := o.foldl (fun (a : Int) (p : Nat) => a * 10 + (p : Int)) 0
/-- how often the order a follows the order b -/
def jv_folO (n : Nat) (a b : List Nat) : Nat := (List.range (n - 1)).countP (fun t => jv_nth a (t + 1) == jv_nth b t)
def jv_metO (n : Nat) (a b : List Nat) : Bool := (List.range n).any (fun t => jv_nth a t == jv_nth b t)
def jv_with (n f : Nat) (a b : List Nat) : Bool := !(jv_metO n a b) && (decide (jv_folO n a b ≤ f) && decide (jv_folO n b a ≤ f))
def jv_fit (M : ja_M) (n b : Nat) (o : List Nat) : Bool := (List.range n).all (fun t => jv_left M b t (jv_nth o t))
/-- tables of m more bands behind those of the list (the latest first), rising -/
def jv_tabs (n f : Nat) (fit : Nat → List Nat → Bool) : Nat → List (List Nat) → List (List (List Nat))
  | 0, done => [done.reverse]
  | m + 1, done => (jv_all n).flatMap (fun o => if fit done.length o && done.all (fun d => jv_with n f o d) then jv_tabs n f fit m (o :: done) else [])
def jv_tables (M : ja_M) : List (List (List Nat)) := jv_tabs (M 11 3).toNat (M 11 5).toNat (jv_fit M (M 11 3).toNat) (M 11 4).toNat []
def jTb (M : ja_M) : Prop := (M 93 5 = 0 ∨ M 93 5 = 1) ∧ (M 93 5 = 1 → M 93 4 = 1 ∧ (1 ≤ M 11 3 ∧ M 11 3 ≤ 5) ∧ (M 11 4 ≤ 5) ∧ M 93 6 = ((min (jv_tables M).length 1000 : Nat) : Int) ∧
  ∀ (i b : Nat) (tb : List (List Nat)) (o : List Nat), i < 1000 → (jv_tables M)[i]? = some tb → tb[b]? = some o → M 172 (5 * i + b) = jv_num o)
/-- ALL -/
def jJ (M : ja_M) : Prop := (jT M ∧ jH M ∧ jO M) ∧ (jW M ∧ jPs M ∧ jIm M) ∧ (jFi M ∧ jFl M ∧ jTb M)
/-! the cells of which the state speaks -/
def kT (c i : Nat) : Bool := match c with
  | 2 => Nat.beq i 1
  | 3 => true
  | 137 => Nat.beq i 2
  | 138 => true
  | _ => false
def kH (c i : Nat) : Bool := match c with
  | 11 => Nat.ble 3 i
  | 12 => true
  | 13 => true
  | 14 => true
  | 137 => Nat.ble 27 i && Nat.ble i 30
  | 151 => true
  | 152 => true
  | 153 => true
  | _ => false
def kO (c i : Nat) : Bool := match c with
  | 11 => Nat.beq i 3 || Nat.beq i 4
  | 26 => true
  | 27 => true
  | 28 => true
  | 29 => true
  | 30 => true
  | 31 => true
  | 32 => true
  | 154 => true
  | 155 => true
  | _ => false
def kW (c i : Nat) : Bool := match c with
  | 15 => Nat.beq i 4 || Nat.beq i 5
  | 17 => true
  | 18 => true
  | 19 => true
  | 20 => true
  | 21 => true
  | 137 => Nat.beq i 13 || Nat.beq i 33
  | 139 => Nat.blt i 1360
  | 140 => Nat.blt i 1360
  | 142 => Nat.blt i 4
  | 143 => Nat.blt i 360
  | 144 => Nat.blt i 360
  | 145 => Nat.blt i 360
  | _ => false
def kP (c i : Nat) : Bool := match c with
  | 11 => Nat.beq i 3 || Nat.beq i 4
  | 33 => Nat.beq i 3 || Nat.beq i 4
  | 137 => Nat.beq i 35
  | 156 => true
  | c => Nat.ble 35 c && Nat.ble c 74
def kI (c i : Nat) : Bool := match c with
  | 11 => Nat.beq i 3 || Nat.beq i 4
  | 33 => Nat.beq i 7
  | 75 => true
  | 76 => true
  | 137 => Nat.beq i 57
  | 169 => true
  | 170 => true
  | _ => false
def kF (c i : Nat) : Bool := match c with
  | 11 => Nat.beq i 3 || Nat.beq i 4
  | 93 => Nat.beq i 3
  | 95 => true
  | 96 => true
  | 97 => true
  | 98 => true
  | 99 => true
  | 100 => true
  | 137 => Nat.beq i 43
  | 159 => true
  | 160 => true
  | 161 => true
  | 162 => true
  | _ => false
def kL (c i : Nat) : Bool := match c with
  | 0 => Nat.beq i 0
  | 93 => Nat.beq i 4
  | _ => false
def kB (c i : Nat) : Bool := match c with
  | 11 => Nat.beq i 3 || (Nat.beq i 4 || Nat.beq i 5)
  | 93 => Nat.ble 3 i && Nat.ble i 6
  | 159 => true
  | 160 => true
  | 161 => true
  | 162 => true
  | 172 => true
  | _ => false
def jkeep (c i : Nat) : Bool := kT c i || (kH c i || (kO c i || (kW c i || (kP c i || (kI c i || (kF c i || (kL c i || kB c i)))))))
/-- the cells of a kind stay -/
def jKs (κ : Nat → Nat → Bool) (M M' : ja_M) : Prop := ∀ c i, κ c i = true → M' c i = M c i
abbrev jK : ja_M → ja_M → Prop := jKs jkeep
theorem jKs.rf {κ : Nat → Nat → Bool} (M : ja_M) : jKs κ M M := fun _ _ _ => rfl
theorem jKs.tr {κ : Nat → Nat → Bool} {A B C : ja_M} (h : jKs κ A B) (k : jKs κ B C) : jKs κ A C := fun c i q => (k c i q).trans (h c i q)
theorem jKs.sy {κ : Nat → Nat → Bool} {A B : ja_M} (h : jKs κ A B) : jKs κ B A := fun c i q => (h c i q).symm
theorem jKs.up {κ : Nat → Nat → Bool} {A B : ja_M} (h : jKs κ A B) {c i : Nat} {v : Int} (q : κ c i = false) : jKs κ A (ja_up B c i v) := fun d j r => by
  have : ¬ (d = c ∧ j = i) := fun e => by rw [e.1, e.2, q] at r; cases r
  rw [jz_up, if_neg this]
  exact h d j r
theorem jKs.of {κ κ' : Nat → Nat → Bool} {A B : ja_M} (h : jKs κ' A B) (q : ∀ c i, κ c i = true → κ' c i = true) : jKs κ A B := fun c i r => h c i (q c i r)
theorem jk_T (c i : Nat) (h : kT c i = true) : jkeep c i = true := by unfold jkeep; rw [h]; simp
theorem jk_H (c i : Nat) (h : kH c i = true) : jkeep c i = true := by unfold jkeep; rw [h]; simp
theorem jk_O (c i : Nat) (h : kO c i = true) : jkeep c i = true := by unfold jkeep; rw [h]; simp
theorem jk_W (c i : Nat) (h : kW c i = true) : jkeep c i = true := by unfold jkeep; rw [h]; simp
theorem jk_P (c i : Nat) (h : kP c i = true) : jkeep c i = true := by unfold jkeep; rw [h]; simp
theorem jk_I (c i : Nat) (h : kI c i = true) : jkeep c i = true := by unfold jkeep; rw [h]; simp
theorem jk_F (c i : Nat) (h : kF c i = true) : jkeep c i = true := by unfold jkeep; rw [h]; simp
theorem jk_L (c i : Nat) (h : kL c i = true) : jkeep c i = true := by unfold jkeep; rw [h]; simp
theorem jk_B (c i : Nat) (h : kB c i = true) : jkeep c i = true := by unfold jkeep; rw [h]; simp
theorem jk_26 : ∀ b, b < 6 → ∀ i, kO (26 + b) i = true := by
  intro b hb i
  rcases b with _ | _ | _ | _ | _ | _ | b <;> first | rfl | omega
theorem jk_95 : ∀ b, b < 6 → ∀ i, kF (95 + b) i = true := by
  intro b hb i
  rcases b with _ | _ | _ | _ | _ | _ | b <;> first | rfl | omega
theorem jk_17 : ∀ b, b < 4 → ∀ i, kW (17 + b) i = true := by
  intro b hb i
  rcases b with _ | _ | _ | _ | b <;> first | rfl | omega
theorem jk_35 {b : Nat} (hb : b < 40) (i : Nat) : kP (35 + b) i = true := by
  rcases b with _ | _ | _ | _ | _ | _ | _ | _ | _ | _ | _ | _ | _ | _ | _ | _ | _ | _ | _ | _ | _ | _ | _ | _ | _ | _ | _ | _ | _ | _ | _ | _ | _ | _ | _ | _ | _ | _ | _ | _ | b <;> first | rfl | omega
theorem jT.kp {M M' : ja_M} (h : jT M) (k : jKs kT M M') : jT M' := by
  have e1 : M' 2 1 = M 2 1 := k 2 1 rfl
  have e2 : M' 137 2 = M 137 2 := k 137 2 rfl
  refine ⟨by rw [e1]; exact h.1, by rw [e1, e2]; exact h.2.1, fun j hj => ?_⟩
  rw [k 138 j rfl, k 3 j rfl]
  exact h.2.2 j (by rw [← e1]; exact hj)
theorem jH.kp {M M' : ja_M} (h : jH M) (k : jKs kH M M') : jH M' := by
  have e3 : M' 11 3 = M 11 3 := k 11 3 rfl
  have e4 : M' 11 4 = M 11 4 := k 11 4 rfl
  have e5 : M' 11 5 = M 11 5 := k 11 5 rfl
  have e6 : M' 11 6 = M 11 6 := k 11 6 rfl
  unfold jH
  rw [e3, e4, e5, e6, k 137 27 rfl, k 137 28 rfl, k 137 29 rfl, k 137 30 rfl]
  refine ⟨h.1, h.2.1, fun j hj => ?_, fun j hj => ?_⟩
  · rw [k 151 j rfl, k 152 j rfl, k 12 j rfl, k 13 j rfl]
    exact h.2.2.1 j hj
  · rw [k 153 j rfl, k 14 j rfl]
    exact h.2.2.2 j hj
theorem jO.kp {M M' : ja_M} (h : jO M) (hH : jH M) (k : jKs kO M M') : jO M' := by
  have hb := hH.b
  have e3 : M' 11 3 = M 11 3 := k 11 3 rfl
  have e4 : M' 11 4 = M 11 4 := k 11 4 rfl
  unfold jO
  rw [e3, e4]
  refine ⟨fun b t hb ht => ?_, fun b t u hb ht hu => ?_, fun b hb => ?_⟩
  · rw [k 154 _ rfl, k (26 + b) t (jk_26 b (by omega) t)]
    exact h.1 b t hb ht
  · rw [k (26 + b) t (jk_26 b (by omega) t), k (26 + b) u (jk_26 b (by omega) u)]
    exact h.2.1 b t u hb ht hu
  · rw [k 155 b rfl, k 32 b rfl]
    exact h.2.2 b hb
theorem jw_code_congr {M M' : ja_M} {k : Nat} : ∀ (c : jw_C) (off : Nat), (∀ i, off ≤ i → i < off + c.length → M' 139 (340 * k + i) = M 139 (340 * k + i) ∧ M' 140 (340 * k + i) = M 140 (340 * k + i)) → jw_code M k off c → jw_code M' k off c
  | [], _, _, _ => trivial
  | (o, v) :: r, off, h, hc => by
    obtain ⟨h1, h2⟩ := h off (Nat.le_refl _) (by rw [List.length_cons]; omega)
    refine ⟨⟨h1.trans hc.1.1, h2.trans hc.1.2⟩, jw_code_congr r (off + 1) (fun i a b => h i (by omega) (by rw [List.length_cons]; omega)) hc.2⟩
theorem jw_mod_congr {M M' : ja_M} {k : Nat} : ∀ (cs : jw_S) (c off : Nat), (∀ i, off ≤ i → i < off + jw_len cs → M' 139 (340 * k + i) = M 139 (340 * k + i) ∧ M' 140 (340 * k + i) = M 140 (340 * k + i)) → (∀ i, c ≤ i → i < c + cs.length → M' 143 (90 * k + i) = M 143 (90 * k + i) ∧ M' 144 (90 * k + i) = M 144 (90 * k + i) ∧ M' 145 (90 * k + i) = M 145 (90 * k + i)) → jw_mod M k c off cs → jw_mod M' k c off cs
  | [], _, _, _, _, _ => trivial
  | (t, s) :: r, c, off, h, g, hc => by
    have hl : jw_len ((t, s) :: r) = t.length + s.length + jw_len r := rfl
    rw [hl] at h
    obtain ⟨g1, g2, g3⟩ := g c (Nat.le_refl _) (by rw [List.length_cons]; omega)
    obtain ⟨⟨c1, c2, c3⟩, c4, c5⟩ := hc
    refine ⟨⟨g1.trans c1, g2.trans c2, g3.trans c3⟩, jw_code_congr (t ++ s) off (fun i a b => h i a (by rw [List.length_append] at b; omega)) c4, jw_mod_congr r (c + 1) _ (fun i a b => h i (by omega) (by omega)) (fun i a b => g i (by omega) (by rw [List.length_cons]; omega)) c5⟩
theorem jk_139 {i : Nat} (h : i < 1360) : kW 139 i = true ∧ kW 140 i = true := ⟨Nat.ble_eq_true_of_le h, Nat.ble_eq_true_of_le h⟩
theorem jk_143 {i : Nat} (h : i < 360) : kW 143 i = true ∧ kW 144 i = true ∧ kW 145 i = true := ⟨Nat.ble_eq_true_of_le h, Nat.ble_eq_true_of_le h, Nat.ble_eq_true_of_le h⟩
theorem jw_at_kp {M M' : ja_M} {n : Nat} {cs : jw_S} (hn : n < 4) (h : jw_at M n cs) (k : jKs kW M M') : jw_at M' n cs := by
  obtain ⟨⟨w1, w2, w3⟩, ⟨m1, m2⟩, c1, c2, c3⟩ := h
  refine ⟨⟨w1, w2, w3⟩, ⟨?_, jw_mod_congr cs 0 0 (fun i a b => ⟨k _ _ (jk_139 (by omega)).1, k _ _ (jk_139 (by omega)).2⟩) (fun i a b => ⟨k _ _ (jk_143 (by omega)).1, k _ _ (jk_143 (by omega)).2.1, k _ _ (jk_143 (by omega)).2.2⟩) m2⟩, ?_, c2, fun i x hx => ?_⟩
  · rw [k 142 n (Nat.ble_eq_true_of_le hn)]
    exact m1
  · rw [k 21 n rfl]
    exact c1
  · rw [k (17 + n) i (jk_17 n hn i)]
    exact c3 i x hx
theorem jW.kp {M M' : ja_M} (h : jW M) (k : jKs kW M M') : jW M' := by
  have e4 : M' 15 4 = M 15 4 := k 15 4 rfl
  unfold jW
  rw [e4, k 15 5 rfl, k 137 13 rfl, k 137 33 rfl]
  obtain ⟨h1, h2, h3, h4, h5⟩ := h
  refine ⟨h1, h2, h3, h4, fun n hn => ?_⟩
  obtain ⟨cs, hc⟩ := h5 n hn
  exact ⟨cs, jw_at_kp (by omega) hc k⟩
theorem jv_ring_lt {r n : Int} {k : Nat} : jv_ring r n k < 40 := by
  unfold jv_ring
  omega
theorem jPs.kp {M M' : ja_M} (h : jPs M) (k : jKs kP M M') : jPs M' := by
  unfold jPs
  have e : M' 156 = M 156 := by funext i; exact k 156 i rfl
  rw [k 33 3 rfl, k 33 4 rfl, k 137 35 rfl, k 11 3 rfl, k 11 4 rfl, e]
  obtain ⟨h1, h2, h3, h4⟩ := h
  refine ⟨h1, h2, h3, fun n b hn hb => ?_⟩
  rw [k (35 + jv_ring (M 33 3) (M 33 4) n) b (jk_35 jv_ring_lt b)]
  exact h4 n b hn hb
theorem jIm.kp {M M' : ja_M} (h : jIm M) (k : jKs kI M M') : jIm M' := by
  unfold jIm
  have e : M' 169 = M 169 := by funext i; exact k 169 i rfl
  rw [k 33 7 rfl, k 137 57 rfl, k 11 3 rfl, k 11 4 rfl, e]
  obtain ⟨h1, h2, h3⟩ := h
  refine ⟨h1, h2, fun q b hb => ?_⟩
  rw [k 75 b rfl, k 76 b rfl, k 170 b rfl]
  exact h3 q b hb
theorem jv_left_kp {M M' : ja_M} (e0 : M' 93 3 = M 93 3) (e1 : M' 159 = M 159) (e2 : M' 160 = M 160) (e3 : M' 161 = M 161) (e4 : M' 162 = M 162) : jv_left M' = jv_left M := by
  funext b t p
  unfold jv_left jv_okf
  rw [e0, e1, e2, e3, e4]
theorem jFi.kp {M M' : ja_M} (h : jFi M) (hH : jH M) (k : jKs kF M M') : jFi M' := by
  have hb := hH.b
  unfold jFi
  rw [jv_left_kp (k 93 3 rfl) (funext fun i => k 159 i rfl) (funext fun i => k 160 i rfl) (funext fun i => k 161 i rfl) (funext fun i => k 162 i rfl), k 93 3 rfl, k 137 43 rfl, k 11 3 rfl, k 11 4 rfl]
  obtain ⟨h1, h2, h3, h4⟩ := h
  refine ⟨h1, h2, fun n hn => ?_, fun b t hb ht => ?_⟩
  · rw [k 159 n rfl, k 160 n rfl, k 161 n rfl, k 162 n rfl]
    exact h3 n hn
  · rw [k (95 + b) t (jk_95 b (by omega) t)]
    exact h4 b t hb ht
theorem jFl.kp {M M' : ja_M} (h : jFl M) (k : jKs kL M M') : jFl M' := by
  unfold jFl
  rw [k 93 4 rfl, k 0 0 rfl]
  exact h
theorem jv_tables_kp {M M' : ja_M} (k : jKs kB M M') : jv_tables M' = jv_tables M := by
  have e : jv_fit M' = jv_fit M := by
    funext n b o
    unfold jv_fit
    rw [jv_left_kp (k 93 3 rfl) (funext fun i => k 159 i rfl) (funext fun i => k 160 i rfl) (funext fun i => k 161 i rfl) (funext fun i => k 162 i rfl)]
  unfold jv_tables
  rw [e, k 11 3 rfl, k 11 4 rfl, k 11 5 rfl]
theorem jTb.kp {M M' : ja_M} (h : jTb M) (k : jKs kB M M') : jTb M' := by
  unfold jTb
  have e : M' 172 = M 172 := by funext i; exact k 172 i rfl
  rw [jv_tables_kp k, k 93 5 rfl, k 93 4 rfl, k 93 6 rfl, k 11 3 rfl, k 11 4 rfl, e]
  exact h
theorem jJ.kp {M M' : ja_M} (h : jJ M) (k : jK M M') : jJ M' := by
  obtain ⟨⟨h1, h2, h3⟩, ⟨h4, h5, h6⟩, h7, h8, h9⟩ := h
  exact ⟨⟨h1.kp (k.of jk_T), h2.kp (k.of jk_H), h3.kp h2 (k.of jk_O)⟩, ⟨h4.kp (k.of jk_W), h5.kp (k.of jk_P), h6.kp (k.of jk_I)⟩, h7.kp h2 (k.of jk_F), h8.kp (k.of jk_L), h9.kp (k.of jk_B)⟩
/-! one call of both -/
def jrm (M M' : ja_M) : Prop := M' 0 1 + (if M' 93 4 = 0 then 1 else 0) ≤ M 0 1 + (if M 93 4 = 0 then 1 else 0) + 1 ∧ M' 0 2 + (if M' 93 4 = 0 then 5000 else 0) ≤ M 0 2 + (if M 93 4 = 0 then 5000 else 0) + 6
theorem jrm.same {M M' : ja_M} (h : ∀ i, M' 0 i = M 0 i) (h2 : M' 93 4 = M 93 4) : jrm M M' := by
  unfold jrm
  rw [h, h, h2]
  constructor <;> split <;> omega
/-- both answer alike, and the state stands -/
def jOp (X R : ja_M → Option ja_R) : Prop := ∀ M, jJ M → ∃ v M1 M2, X M = some (some (ji v), M1) ∧ R M1 = some (some (ji v), M2) ∧ jJ M2 ∧ jrm M M2
/-- calls that change nothing of which the state speaks -/
theorem jOp.read {X R : ja_M → Option ja_R} (h : ∀ M, jJ M → ∃ v M1, X M = some (some (ji v), M1) ∧ jK M M1 ∧ (∀ i, M1 0 i = M 0 i) ∧ ∃ M2, R M1 = some (some (ji v), M2) ∧ jK M1 M2 ∧ (∀ i, M2 0 i = M1 0 i)) : jOp X R := by
  intro M hM
  obtain ⟨v, M1, h1, h2, h3, M2, h4, h5, h6⟩ := h M hM
  refine ⟨v, M1, M2, h1, h4, hM.kp (h2.tr h5), jrm.same (fun i => (h6 i).trans (h3 i)) ((h2.tr h5) 93 4 rfl)⟩
/-- calls that change nothing -/
theorem jOp.pure {X R : ja_M → Option ja_R} (h : ∀ M, jJ M → ∃ v, X M = some (some (ji v), M) ∧ R M = some (some (ji v), M)) : jOp X R := by
  intro M hM
  obtain ⟨v, h1, h2⟩ := h M hM
  exact ⟨v, M, M, h1, h2, hM, jrm.same (fun _ => rfl) rfl⟩
