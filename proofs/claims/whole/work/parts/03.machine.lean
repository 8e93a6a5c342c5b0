/-! THE SMALL MACHINE: bytecode over cells of whole numbers. Values: ints, longs, references (0: null, k: the k-th cell that is made) -/
abbrev ja_V : Type := Int ⊕ (Int ⊕ Nat)
abbrev ja_M : Type := Nat → Nat → Int
abbrev ja_L : Type := List (Option ja_V)
abbrev ja_R : Type := Option ja_V × ja_M
abbrev ja_E : Type := Nat → List ja_V → ja_M → Option ja_R
abbrev ja_K : Type := Nat → ja_L → List ja_V → ja_M → Option ja_R
/-- a row of code: its number, a small number, a target, a number, a switch's rows, the locals that live there (none: no loop's head) -/
abbrev ja_I : Type := Nat × Nat × Nat × Int × List (Int × Nat) × List Bool
abbrev ji (x : Int) : ja_V := .inl x
abbrev jl (x : Int) : ja_V := .inr (.inl x)
abbrev jr (k : Nat) : ja_V := .inr (.inr k)
def ja_w (z : Int) : Int := z.bmod 4294967296
def ja_W (z : Int) : Int := z.bmod 18446744073709551616
def ja_nth {α : Type} : List α → Nat → α → α
  | [], _, d => d
  | x :: _, 0, _ => x
  | _ :: xs, n + 1, d => ja_nth xs n d
def ja_mask : List Bool → ja_L → ja_L
  | [], L => L
  | _ :: _, [] => []
  | b :: bs, x :: L => (bif b then x else none) :: ja_mask bs L
/-- memory, with v at the place i of the cell c -/
def ja_up (M : ja_M) (c i : Nat) (v : Int) : ja_M := fun d j => if d = c ∧ j = i then v else M d j
def ja_kd (c : Nat) : Nat × Nat := ja_nth ja_kdL c (0, 0)
def ja_pp (c i : Nat) : Nat := ja_nth (ja_nth ja_ppL c []) i 0
def ja_mut (c i : Nat) : Bool := Nat.beq c ja_cF && Nat.beq i ja_sF
def ja_rd (φ : Bool) (M : ja_M) (c i : Nat) : Nat := bif φ && !(ja_mut c i) then ja_pp c i else if M c i = 0 then 0 else ja_pp c i
def ja_okc (φ : Bool) (M : ja_M) (c : Nat) : Bool := bif φ && (Nat.ble 1 c && Nat.ble c ja_N0) then true else Nat.ble 1 c && Nat.ble c (M 0 0).toNat
def ja_and (x y : Int) : Int := (Int32.ofInt x &&& Int32.ofInt y).toInt
def ja_or (x y : Int) : Int := (Int32.ofInt x ||| Int32.ofInt y).toInt
def ja_xor (x y : Int) : Int := (Int32.ofInt x ^^^ Int32.ofInt y).toInt
def ja_shl (x y : Int) : Int := (Int32.ofInt x <<< (Int32.ofInt y &&& 31)).toInt
def ja_shr (x y : Int) : Int := (Int32.ofInt x >>> (Int32.ofInt y &&& 31)).toInt
def ja_ush (x y : Int) : Int := ((Int32.ofInt x).toUInt32 >>> ((Int32.ofInt y).toUInt32 &&& Int32.toUInt32 31)).toInt32.toInt
def ja_land (x y : Int) : Int := (Int64.ofInt x &&& Int64.ofInt y).toInt
def ja_lor (x y : Int) : Int := (Int64.ofInt x ||| Int64.ofInt y).toInt
def ja_lshl (x y : Int) : Int := (Int64.ofInt x <<< ((Int32.ofInt y).toInt64 &&& 63)).toInt
def ja_lush (x y : Int) : Int := ((Int64.ofInt x).toUInt64 >>> ((Int32.ofInt y).toInt64.toUInt64 &&& Int64.toUInt64 63)).toInt64.toInt
def ja_ib (a : Nat) (x y : Int) : Int := match a with
  | 0 => ja_w (x + y)
  | 1 => ja_w (x - y)
  | 2 => ja_w (x * y)
  | 3 => ja_and x y
  | 4 => ja_or x y
  | 5 => ja_xor x y
  | 6 => ja_shl x y
  | 7 => ja_shr x y
  | _ => ja_ush x y
def ja_lb (a : Nat) (x y : Int) : Int := match a with
  | 0 => ja_W (x + y)
  | 1 => ja_W (x - y)
  | 2 => ja_W (x * y)
  | 3 => ja_land x y
  | _ => ja_lor x y
def ja_cmp {α : Type} (a : Nat) (x y : Int) (t f : α) : α := match a with
  | 0 => if x = y then t else f
  | 1 => if x = y then f else t
  | 2 => if x < y then t else f
  | 3 => if x < y then f else t
  | 4 => if y < x then t else f
  | _ => if y < x then f else t
def ja_sw {α : Type} (x : Int) (k : Nat → α) (n : Nat) : List (Int × Nat) → α
  | [] => k n
  | (a, t) :: r => if x = a then k t else ja_sw x k n r
/-- a long at k - 1 goes when k is written -/
def ja_kl (L : ja_L) : Nat → ja_L
  | 0 => L
  | k + 1 => match L[k]? with
    | some (some (.inr (.inl _))) => L.set k none
    | _ => L
def ja_set1 (L : ja_L) (k : Nat) (v : ja_V) : ja_L := (ja_kl L k).set k (some v)
def ja_set2 (L : ja_L) (k : Nat) (v : ja_V) : ja_L := ((ja_kl L k).set k (some v)).set (k + 1) none
def ja_cat : ja_V → Nat
  | .inr (.inl _) => 2
  | _ => 1
def ja_kind : ja_V → Nat
  | .inl _ => 0
  | .inr (.inl _) => 1
  | .inr (.inr _) => 2
def ja_sz : List ja_V → Nat
  | [] => 0
  | v :: S => ja_cat v + ja_sz S
/-- the greatest cell that a value may name across a call -/
def ja_lim (φ : Bool) (M : ja_M) : Nat := bif φ then ja_N0 else (M 0 0).toNat
def ja_refok (φ : Bool) (M : ja_M) : ja_V → Bool
  | .inr (.inr k) => Nat.ble k (ja_lim φ M) || Nat.ble ja_RO k
  | _ => true
def ja_refsS (φ : Bool) (M : ja_M) : List ja_V → Bool
  | [] => true
  | v :: S => ja_refok φ M v && ja_refsS φ M S
def ja_refsL (φ : Bool) (M : ja_M) : ja_L → Bool
  | [] => true
  | none :: L => ja_refsL φ M L
  | some v :: L => ja_refok φ M v && ja_refsL φ M L
/-- what a call's answer is: none, an int, a long, a reference -/
def ja_bV (o : Option ja_R) (k : ja_M → Option ja_R) : Option ja_R := match o with
  | some (none, M) => k M
  | _ => none
def ja_bI (o : Option ja_R) (k : Int → ja_M → Option ja_R) : Option ja_R := match o with
  | some (some (.inl x), M) => k x M
  | _ => none
def ja_bL (o : Option ja_R) (k : Int → ja_M → Option ja_R) : Option ja_R := match o with
  | some (some (.inr (.inl x)), M) => k x M
  | _ => none
def ja_bR (o : Option ja_R) (k : Nat → ja_M → Option ja_R) : Option ja_R := match o with
  | some (some (.inr (.inr x)), M) => k x M
  | _ => none
/-- the call's answer on the stack, by its kind -/
def ja_back (b : Nat) (o : Option ja_R) (i : Nat) (L : ja_L) (S : List ja_V) (κ : ja_K) : Option ja_R := match b with
  | 0 => ja_bV o (fun M => κ (i + 1) L S M)
  | 1 => ja_bI o (fun x M => κ (i + 1) L (ji x :: S) M)
  | 2 => ja_bL o (fun x M => κ (i + 1) L (jl x :: S) M)
  | _ => ja_bR o (fun x M => κ (i + 1) L (jr x :: S) M)
/-- the list's spine first -/
def ja_fc : ja_L → (ja_L → Option ja_R) → Option ja_R
  | [], k => k []
  | x :: L, k => ja_fc L (fun L' => k (x :: L'))
def ja_code (y : Nat) : List ja_I := ja_nth ja_codes y []
def ja_maxL (y : Nat) : Nat := ja_nth ja_maxLs y 0
def ja_mcls (y : Nat) : Nat := ja_nth ja_mclss y 98
def ja_is0 : Int → Bool
  | .ofNat 0 => true
  | _ => false
def ja_isB : Int → Bool
  | .ofNat 0 => true
  | .ofNat 1 => true
  | _ => false
/-- the int at j of an array of ints; of a static one; of the script -/
def ja_ald (φ : Bool) (M : ja_M) (c : Nat) (j : Int) (k : Int → Option ja_R) : Option ja_R := cond (Nat.beq (ja_kd c).1 100)
      (cond (ja_okc φ M c) (if 0 ≤ j ∧ j < ((ja_kd c).2 : Int) then k (M c j.toNat) else none) none)
      (cond (Nat.beq (ja_kd c).1 110) (if 0 ≤ j ∧ j < 5 then k (ja_ro c j.toNat) else none)
        (cond (Nat.beq (ja_kd c).1 111) (if 0 ≤ j ∧ j < M 0 4 then k (M c j.toNat) else none) none))
def ja_ast (φ : Bool) (M : ja_M) (c : Nat) (j v : Int) (k : ja_M → Option ja_R) : Option ja_R := cond (ja_okc φ M c && Nat.beq (ja_kd c).1 100)
      (if 0 ≤ j ∧ j < ((ja_kd c).2 : Int) then k (ja_up M c j.toNat v) else none) none
def ja_aln (φ : Bool) (M : ja_M) (c : Nat) (k : Int → Option ja_R) : Option ja_R := cond (Nat.beq (ja_kd c).1 111) (k (M 0 4))
      (cond (ja_okc φ M c && (Nat.ble 100 (ja_kd c).1 && Nat.ble (ja_kd c).1 103)) (k ((ja_kd c).2 : Int)) none)
def ja_ckV (φ : Bool) (M : ja_M) (c y : Nat) (S' : List ja_V) (L : ja_L) (S : List ja_V) : Bool := ja_okc φ M c && (Nat.beq (ja_kd c).1 (ja_mcls y) && (Nat.ble (ja_sz S') 8 && (ja_refsL φ M L && ja_refsS φ M S)))
def ja_ckS (φ : Bool) (M : ja_M) (n : Nat) (L : ja_L) (S : List ja_V) : Bool := Nat.ble n S.length && (Nat.ble (ja_sz (S.drop n)) 8 && (ja_refsL φ M L && ja_refsS φ M S))
def ja_ckI (φ : Bool) (M : ja_M) (c : Nat) (S' : List ja_V) (L : ja_L) (S : List ja_V) : Bool := Nat.ble 1 c && (Nat.ble (ja_sz S') 8 && (ja_refsL φ M L && ja_refsS φ M S))
def ja_ckC (φ : Bool) (M : ja_M) (s d : Nat) (S : List ja_V) : Bool := ja_okc φ M d && (Nat.beq (ja_kd d).1 100 && (ja_okc φ M s && (Nat.beq (ja_kd s).1 100 && Nat.ble (ja_sz S) 8)))
abbrev ja_H : Type := Bool → ja_E → ja_I → Nat → ja_L → List ja_V → ja_M → ja_K → Option ja_R
def jh_load : ja_H := fun _ _ a i L S M κ => match L[a.2.1]? with
  | some (some v) => cond (Nat.beq (ja_kind v) a.2.2.1) (κ (i + 1) L (v :: S) M) none
  | _ => none
def jh_ipush : ja_H := fun _ _ a i L S M κ => κ (i + 1) L (ji a.2.2.2.1 :: S) M
def jh_lpush : ja_H := fun _ _ a i L S M κ => κ (i + 1) L (jl a.2.2.2.1 :: S) M
def jh_st1 : ja_H := fun _ _ a i L S M κ => match S with
  | .inl x :: S => cond (Nat.blt a.2.1 L.length && Nat.beq a.2.2.1 0) (ja_fc (ja_set1 L a.2.1 (ji x)) (fun L => κ (i + 1) L S M)) none
  | .inr (.inr x) :: S => cond (Nat.blt a.2.1 L.length && Nat.beq a.2.2.1 2) (ja_fc (ja_set1 L a.2.1 (jr x)) (fun L => κ (i + 1) L S M)) none
  | _ => none
def jh_st2 : ja_H := fun _ _ a i L S M κ => match S with
  | .inr (.inl x) :: S => cond (Nat.blt (a.2.1 + 1) L.length) (ja_fc (ja_set2 L a.2.1 (jl x)) (fun L => κ (i + 1) L S M)) none
  | _ => none
def jh_iinc : ja_H := fun _ _ a i L S M κ => match L[a.2.1]? with
  | some (some (.inl x)) => ja_fc (ja_set1 L a.2.1 (ji (ja_w (x + a.2.2.2.1)))) (fun L => κ (i + 1) L S M)
  | _ => none
def jh_ibin : ja_H := fun _ _ a i L S M κ => match S with
  | .inl y :: .inl x :: S => κ (i + 1) L (ji (ja_ib a.2.1 x y) :: S) M
  | _ => none
def jh_idiv : ja_H := fun _ _ _ i L S M κ => match S with
  | .inl y :: .inl x :: S => cond (ja_is0 y) none (κ (i + 1) L (ji (ja_w (x.tdiv y)) :: S) M)
  | _ => none
def jh_irem : ja_H := fun _ _ _ i L S M κ => match S with
  | .inl y :: .inl x :: S => cond (ja_is0 y) none (κ (i + 1) L (ji (x.tmod y) :: S) M)
  | _ => none
def jh_ineg : ja_H := fun _ _ _ i L S M κ => match S with
  | .inl x :: S => κ (i + 1) L (ji (ja_w (-x)) :: S) M
  | _ => none
def jh_lbin : ja_H := fun _ _ a i L S M κ => match S with
  | .inr (.inl y) :: .inr (.inl x) :: S => κ (i + 1) L (jl (ja_lb a.2.1 x y) :: S) M
  | _ => none
def jh_ldiv : ja_H := fun _ _ _ i L S M κ => match S with
  | .inr (.inl y) :: .inr (.inl x) :: S => cond (ja_is0 y) none (κ (i + 1) L (jl (ja_W (x.tdiv y)) :: S) M)
  | _ => none
def jh_lrem : ja_H := fun _ _ _ i L S M κ => match S with
  | .inr (.inl y) :: .inr (.inl x) :: S => cond (ja_is0 y) none (κ (i + 1) L (jl (x.tmod y) :: S) M)
  | _ => none
def jh_lshl : ja_H := fun _ _ _ i L S M κ => match S with
  | .inl y :: .inr (.inl x) :: S => κ (i + 1) L (jl (ja_lshl x y) :: S) M
  | _ => none
def jh_lush : ja_H := fun _ _ _ i L S M κ => match S with
  | .inl y :: .inr (.inl x) :: S => κ (i + 1) L (jl (ja_lush x y) :: S) M
  | _ => none
def jh_i2l : ja_H := fun _ _ _ i L S M κ => match S with
  | .inl x :: S => κ (i + 1) L (jl x :: S) M
  | _ => none
def jh_l2i : ja_H := fun _ _ _ i L S M κ => match S with
  | .inr (.inl x) :: S => κ (i + 1) L (ji (ja_w x) :: S) M
  | _ => none
def jh_lcmp : ja_H := fun _ _ _ i L S M κ => match S with
  | .inr (.inl y) :: .inr (.inl x) :: S => κ (i + 1) L (ji (if x < y then -1 else if x = y then 0 else 1) :: S) M
  | _ => none
def jh_icmp : ja_H := fun _ _ a i L S M κ => match S with
  | .inl y :: .inl x :: S => ja_cmp a.2.1 x y (κ a.2.2.1 L S M) (κ (i + 1) L S M)
  | _ => none
def jh_ifz : ja_H := fun _ _ a i L S M κ => match S with
  | .inl x :: S => ja_cmp a.2.1 x 0 (κ a.2.2.1 L S M) (κ (i + 1) L S M)
  | _ => none
def jh_ifnull : ja_H := fun _ _ a i L S M κ => match S with
  | .inr (.inr r) :: S => if r = 0 then κ a.2.2.1 L S M else κ (i + 1) L S M
  | _ => none
def jh_ifnon : ja_H := fun _ _ a i L S M κ => match S with
  | .inr (.inr r) :: S => if r = 0 then κ (i + 1) L S M else κ a.2.2.1 L S M
  | _ => none
def jh_goto : ja_H := fun _ _ a _ L S M κ => κ a.2.2.1 L S M
def jh_switch : ja_H := fun _ _ a _ L S M κ => match S with
  | .inl x :: S => ja_sw x (fun t => κ t L S M) a.2.2.1 a.2.2.2.2.1
  | _ => none
def jh_getI : ja_H := fun φ _ a i L S M κ => match S with
  | .inr (.inr c) :: S => cond (ja_okc φ M c && Nat.beq (ja_kd c).1 a.2.1) (κ (i + 1) L (ji (M c a.2.2.1) :: S) M) none
  | _ => none
def jh_getL : ja_H := fun φ _ a i L S M κ => match S with
  | .inr (.inr c) :: S => cond (ja_okc φ M c && Nat.beq (ja_kd c).1 a.2.1) (κ (i + 1) L (jl (M c a.2.2.1) :: S) M) none
  | _ => none
def jh_getR : ja_H := fun φ _ a i L S M κ => match S with
  | .inr (.inr c) :: S => cond (ja_okc φ M c && Nat.beq (ja_kd c).1 a.2.1) (κ (i + 1) L (jr (ja_rd φ M c a.2.2.1) :: S) M) none
  | _ => none
def jh_putI : ja_H := fun φ _ a i L S M κ => match S with
  | .inl v :: .inr (.inr c) :: S => cond (ja_okc φ M c && Nat.beq (ja_kd c).1 a.2.1) (κ (i + 1) L S (ja_up M c a.2.2.1 v)) none
  | _ => none
def jh_putZ : ja_H := fun φ _ a i L S M κ => match S with
  | .inl v :: .inr (.inr c) :: S => cond (ja_okc φ M c && Nat.beq (ja_kd c).1 a.2.1) (cond (ja_isB v) (κ (i + 1) L S (ja_up M c a.2.2.1 v)) none) none
  | _ => none
def jh_putL : ja_H := fun φ _ a i L S M κ => match S with
  | .inr (.inl v) :: .inr (.inr c) :: S => cond (ja_okc φ M c && Nat.beq (ja_kd c).1 a.2.1) (κ (i + 1) L S (ja_up M c a.2.2.1 v)) none
  | _ => none
def jh_putR : ja_H := fun φ _ a i L S M κ => match S with
  | .inr (.inr r) :: .inr (.inr c) :: S => cond (ja_okc φ M c && (Nat.beq (ja_kd c).1 a.2.1 && (Nat.beq r (ja_pp c a.2.2.1) && (ja_okc φ M r && (!φ || ja_mut c a.2.2.1))))) (κ (i + 1) L S (ja_up M c a.2.2.1 1)) none
  | _ => none
def jh_static : ja_H := fun _ _ a i L S M κ => κ (i + 1) L (jr a.2.1 :: S) M
def jh_iald : ja_H := fun φ _ _ i L S M κ => match S with
  | .inl j :: .inr (.inr c) :: S => ja_ald φ M c j (fun v => κ (i + 1) L (ji v :: S) M)
  | _ => none
def jh_bald : ja_H := fun φ _ _ i L S M κ => match S with
  | .inl j :: .inr (.inr c) :: S => cond (ja_okc φ M c && Nat.beq (ja_kd c).1 101) (if 0 ≤ j ∧ j < ((ja_kd c).2 : Int) then κ (i + 1) L (ji (M c j.toNat) :: S) M else none) none
  | _ => none
def jh_lald : ja_H := fun φ _ _ i L S M κ => match S with
  | .inl j :: .inr (.inr c) :: S => cond (ja_okc φ M c && Nat.beq (ja_kd c).1 102) (if 0 ≤ j ∧ j < ((ja_kd c).2 : Int) then κ (i + 1) L (jl (M c j.toNat) :: S) M else none) none
  | _ => none
def jh_aald : ja_H := fun φ _ _ i L S M κ => match S with
  | .inl j :: .inr (.inr c) :: S => cond (ja_okc φ M c && Nat.beq (ja_kd c).1 103) (if 0 ≤ j ∧ j < ((ja_kd c).2 : Int) then κ (i + 1) L (jr (c + 1 + j.toNat) :: S) M else none) none
  | _ => none
def jh_iast : ja_H := fun φ _ _ i L S M κ => match S with
  | .inl v :: .inl j :: .inr (.inr c) :: S => ja_ast φ M c j v (fun M => κ (i + 1) L S M)
  | _ => none
def jh_bast : ja_H := fun φ _ _ i L S M κ => match S with
  | .inl v :: .inl j :: .inr (.inr c) :: S => cond (ja_okc φ M c && Nat.beq (ja_kd c).1 101) (if 0 ≤ j ∧ j < ((ja_kd c).2 : Int) then (cond (ja_isB v) (κ (i + 1) L S (ja_up M c j.toNat v)) none) else none) none
  | _ => none
def jh_last : ja_H := fun φ _ _ i L S M κ => match S with
  | .inr (.inl v) :: .inl j :: .inr (.inr c) :: S => cond (ja_okc φ M c && Nat.beq (ja_kd c).1 102) (if 0 ≤ j ∧ j < ((ja_kd c).2 : Int) then κ (i + 1) L S (ja_up M c j.toNat v) else none) none
  | _ => none
def jh_alen : ja_H := fun φ _ _ i L S M κ => match S with
  | .inr (.inr c) :: S => ja_aln φ M c (fun v => κ (i + 1) L (ji v :: S) M)
  | _ => none
/-- n cells more, of w slots in all; the new cells hold 0 -/
def ja_grow (M : ja_M) (n w : Nat) : ja_M := fun c i => if c = 0 then (match i with
    | 0 => M 0 0 + n
    | 1 => M 0 1 + n
    | 2 => M 0 2 + w
    | i => M 0 i) else if (M 0 0).toNat < c ∧ c ≤ (M 0 0).toNat + n then 0 else M c i
/-- the next cell -/
def ja_nx (φ : Bool) (M : ja_M) : Nat := bif φ then ja_N0 + 1 else (M 0 0).toNat + 1
def ja_new1 (φ : Bool) (M : ja_M) (kind n : Nat) (L : ja_L) (S : List ja_V) : Bool :=
  Nat.beq (ja_kd (ja_nx φ M)).1 kind && (Nat.beq (ja_kd (ja_nx φ M)).2 n && (Nat.ble n 5000 && ((bif φ then Nat.beq (M 0 0).toNat ja_N0 && decide (M ja_cF ja_sF = 0) else true) && (ja_refsL φ M L && ja_refsS φ M S))))
def jh_new : ja_H := fun φ _ a i L S M κ => cond (!φ && ja_new1 φ M a.2.1 a.2.2.1 L S) (κ (i + 1) L (jr ((M 0 0).toNat + 1) :: S) (ja_grow M 1 a.2.2.1)) none
def jh_newa : ja_H := fun φ _ a i L S M κ => match S with
  | .inl n :: S => cond (decide (0 ≤ n) && ja_new1 φ M a.2.1 n.toNat L S) (κ (i + 1) L (jr (ja_nx φ M) :: S) (ja_grow M 1 n.toNat)) none
  | _ => none
def ja_rowsok (c k : Nat) : Nat → Bool
  | 0 => true
  | n + 1 => Nat.beq (ja_kd (c + n + 1)).1 100 && (Nat.beq (ja_kd (c + n + 1)).2 k && ja_rowsok c k n)
def jh_newm : ja_H := fun φ _ _ i L S M κ => match S with
  | .inl k :: .inl n :: S => cond (!φ && (decide (0 ≤ n) && (decide (0 ≤ k) && (decide (k ≤ 5000) && (ja_new1 φ M 103 n.toNat L S && ja_rowsok ((M 0 0).toNat + 1) k.toNat n.toNat))))) (κ (i + 1) L (jr ((M 0 0).toNat + 1) :: S) (ja_grow M (1 + n.toNat) (n.toNat + n.toNat * k.toNat))) none
  | _ => none
def jh_callV : ja_H := fun φ E a i L S M κ => match S.drop a.2.2.1 with
  | .inr (.inr c) :: S' => cond (ja_ckV φ M c a.2.1 S' L S) (ja_back a.2.2.2.1.toNat (E a.2.1 (jr c :: (S.take a.2.2.1).reverse) M) i L S' κ) none
  | _ => none
def jh_callS : ja_H := fun φ E a i L S M κ => cond (ja_ckS φ M a.2.2.1 L S) (ja_back a.2.2.2.1.toNat (E a.2.1 (S.take a.2.2.1).reverse M) i L (S.drop a.2.2.1) κ) none
def jh_callI : ja_H := fun φ E a i L S M κ => match S.drop a.2.2.1 with
  | .inr (.inr c) :: S' => cond (ja_ckI φ M c S' L S) (ja_back 0 (E a.2.1 (jr c :: (S.take a.2.2.1).reverse) M) i L S' κ) none
  | _ => none
def jh_objI : ja_H := fun _ _ _ i L S M κ => match S with
  | .inr (.inr c) :: S => cond (Nat.ble 1 c && Nat.ble (ja_sz S) 8) (κ (i + 1) L S M) none
  | _ => none
def jh_iret : ja_H := fun _ _ _ _ _ S M _ => match S with
  | [.inl v] => some (some (ji v), M)
  | _ => none
def jh_zret : ja_H := fun _ _ _ _ _ S M _ => match S with
  | [.inl v] => cond (ja_isB v) (some (some (ji v), M)) none
  | _ => none
def jh_lret : ja_H := fun _ _ _ _ _ S M _ => match S with
  | [.inr (.inl v)] => some (some (jl v), M)
  | _ => none
def jh_aret : ja_H := fun φ _ _ _ _ S M _ => match S with
  | [.inr (.inr v)] => cond (Nat.ble v (ja_lim φ M)) (some (some (jr v), M)) none
  | _ => none
def jh_vret : ja_H := fun _ _ _ _ _ S M _ => match S with
  | [] => some (none, M)
  | _ => none
def jh_dup : ja_H := fun _ _ _ i L S M κ => match S with
  | .inl x :: S => κ (i + 1) L (ji x :: ji x :: S) M
  | .inr (.inr x) :: S => κ (i + 1) L (jr x :: jr x :: S) M
  | _ => none
def jh_dup2 : ja_H := fun _ _ _ i L S M κ => match S with
  | .inl x :: .inl y :: S => κ (i + 1) L (ji x :: ji y :: ji x :: ji y :: S) M
  | .inl x :: .inr (.inr y) :: S => κ (i + 1) L (ji x :: jr y :: ji x :: jr y :: S) M
  | _ => none
def jh_pop : ja_H := fun _ _ _ i L S M κ => match S with
  | .inl _ :: S => κ (i + 1) L S M
  | .inr (.inr _) :: S => κ (i + 1) L S M
  | _ => none
def ja_cpy (M : ja_M) (s sp d dp n : Nat) : ja_M := fun c i => if c = d ∧ dp ≤ i ∧ i < dp + n then M s (sp + (i - dp)) else M c i
def jh_copy : ja_H := fun φ _ _ i L S M κ => match S with
  | .inl n :: .inl dp :: .inr (.inr d) :: .inl sp :: .inr (.inr s) :: S => cond (ja_ckC φ M s d S) (if 0 ≤ n ∧ 0 ≤ dp ∧ 0 ≤ sp ∧ sp + n ≤ ((ja_kd s).2 : Int) ∧ dp + n ≤ ((ja_kd d).2 : Int) then κ (i + 1) L S (ja_cpy M s sp.toNat d dp.toNat n.toNat) else none) none
  | _ => none
/-- HuntTableLaw.place: what HuntTable.place would answer goes to the long, or 1 for what it throws -/
def jh_place : ja_H := fun φ _ _ i L S M κ => match S with
  | .inr (.inr o) :: .inl w :: .inl p :: .inr (.inr x) :: S => cond (φ && (Nat.beq x 1 && (Nat.beq o ja_cO && (Nat.ble (ja_sz S) 8 && (ja_refsL φ M L && ja_refsS φ M S))))) (if (0 ≤ p ∧ p < M ja_cH 3) ∧ (0 ≤ w ∧ w ≤ 1) then (if M ja_cH 3 ≤ 6 then κ (i + 1) L (ji 0 :: S) (ja_up M ja_cO 0 (if w = 0 then M ja_cX p.toNat else M ja_cY p.toNat)) else none) else κ (i + 1) L (ji 1 :: S) (ja_up (ja_up M 0 1 (M 0 1 + 1)) 0 2 (M 0 2 + 6))) none
  | _ => none
def ja_max (x y : Int) : Int := if x < y then y else x
def ja_min (x y : Int) : Int := if y < x then y else x
def ja_abs (x : Int) : Int := if 0 ≤ x then x else ja_w (0 - x)
def jh_mmax : ja_H := fun _ _ _ i L S M κ => match S with
  | .inl y :: .inl x :: S => cond (Nat.ble (ja_sz S) 8) (κ (i + 1) L (ji (ja_max x y) :: S) M) none
  | _ => none
def jh_mmin : ja_H := fun _ _ _ i L S M κ => match S with
  | .inl y :: .inl x :: S => cond (Nat.ble (ja_sz S) 8) (κ (i + 1) L (ji (ja_min x y) :: S) M) none
  | _ => none
def jh_mabs : ja_H := fun _ _ _ i L S M κ => match S with
  | .inl x :: S => cond (Nat.ble (ja_sz S) 8) (κ (i + 1) L (ji (ja_abs x) :: S) M) none
  | _ => none
def jh_lmax : ja_H := fun _ _ _ i L S M κ => match S with
  | .inr (.inl y) :: .inr (.inl x) :: S => cond (Nat.ble (ja_sz S) 8) (κ (i + 1) L (jl (ja_max x y) :: S) M) none
  | _ => none
def jh_lmin : ja_H := fun _ _ _ i L S M κ => match S with
  | .inr (.inl y) :: .inr (.inl x) :: S => cond (Nat.ble (ja_sz S) 8) (κ (i + 1) L (jl (ja_min x y) :: S) M) none
  | _ => none
def ja_hs : List ja_H := [jh_load, jh_ipush, jh_lpush, jh_st1, jh_st2, jh_iinc, jh_ibin, jh_idiv, jh_irem, jh_ineg, jh_lbin, jh_ldiv, jh_lrem, jh_lshl, jh_lush, jh_i2l, jh_l2i, jh_lcmp, jh_icmp, jh_ifz, jh_ifnull, jh_ifnon, jh_goto, jh_switch, jh_getI, jh_getL, jh_getR, jh_putI, jh_putZ, jh_putL, jh_putR, jh_static, jh_iald, jh_bald, jh_lald, jh_aald, jh_iast, jh_bast, jh_last, jh_alen, jh_new, jh_newa, jh_newm, jh_callV, jh_callS, jh_callI, jh_objI, jh_iret, jh_zret, jh_lret, jh_aret, jh_vret, jh_dup, jh_dup2, jh_pop, jh_copy, jh_place, jh_mmax, jh_mmin, jh_mabs, jh_lmax, jh_lmin]
def jh_none : ja_H := fun _ _ _ _ _ _ _ _ => none
def ja_h (φ : Bool) (E : ja_E) (a : ja_I) : Nat → ja_L → List ja_V → ja_M → ja_K → Option ja_R := ja_nth ja_hs a.1 jh_none φ E a
def ja_row0 : ja_I := (1000, 0, 0, 0, [], [])
def ja_step (φ : Bool) (E : ja_E) (c : List ja_I) (κ : ja_K) : ja_K := fun i L S M => match ja_nth c i ja_row0 with
  | (o, a, n, b, t, ms) => ja_fc (ja_mask ms L) (fun L => ja_h φ E (o, a, n, b, t, ms) i L S M κ)
def ja_it (φ : Bool) (E : ja_E) (c : List ja_I) : Nat → ja_K
  | 0 => fun _ _ _ _ => none
  | n + 1 => ja_step φ E c (ja_it φ E c n)
noncomputable def ja_ever {α : Type} (f : Nat → Option α) : Option α := @dite (Option α) (∃ n, (f n).isSome = true) (Classical.propDecidable _) (fun h => f (Classical.choose h)) (fun _ => none)
noncomputable def ja_D (φ : Bool) (E : ja_E) (c : List ja_I) : ja_K := fun i L S M => ja_ever (fun n => ja_it φ E c n i L S M)
/-- to the next loop's head, k steps at most -/
def ja_goB (φ : Bool) (E : ja_E) (κ : ja_K) (i : Nat) (L : ja_L) (S : List ja_V) (M : ja_M) (nx : ja_K) : ja_I → Option ja_R
  | (o, a, n, b, t, []) => ja_h φ E (o, a, n, b, t, []) i L S M nx
  | (_, _, _, _, _, b :: bs) => ja_fc (ja_mask (b :: bs) L) (fun L => κ i L S M)
def ja_go (φ : Bool) (E : ja_E) (c : List ja_I) (κ : ja_K) : Nat → ja_K
  | 0 => κ
  | k + 1 => fun i L S M => ja_goB φ E κ i L S M (ja_go φ E c κ k) (ja_nth c i ja_row0)
def ja_argL : List ja_V → ja_L
  | [] => []
  | .inr (.inl x) :: r => some (jl x) :: none :: ja_argL r
  | v :: r => some v :: ja_argL r
def ja_pad : Nat → ja_L → ja_L
  | n, [] => List.replicate n none
  | 0, x :: L => x :: L
  | n + 1, x :: L => x :: ja_pad n L
noncomputable def ja_x (φ : Bool) : Nat → ja_E
  | 0 => fun _ _ _ => none
  | d + 1 => fun y as M => cond (Nat.ble (ja_argL as).length (ja_maxL y)) (ja_D φ (ja_x φ d) (ja_code y) 0 (ja_pad (ja_maxL y) (ja_argL as)) [] M) none
