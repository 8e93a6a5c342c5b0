abbrev jm_NM : Nat := 302
abbrev jm_PL : Nat := 38
/-! WHAT EACH ROW OF THE SMALL MACHINE IS IN THE REAL CODE (checked by program below) -/
abbrev jc_F : Type := Nat → Nat → ja_I → Bool
def jc_d (z i : Nat) (ins : Instr) (n : Nat) : Bool := decide (decode (jm_b z) (jm_pc z i) = .ok (ins, n)) && Nat.beq (jm_pc z (i + 1)) (jm_pc z i + n)
def jc_r (z i : Nat) (ins : Instr) : Bool := decide (decode (jm_b z) (jm_pc z i) = .ok (ins, 1))
theorem jc_d_of {z i n : Nat} {ins : Instr} (h : jc_d z i ins n = true) : decode (jm_b z) (jm_pc z i) = .ok (ins, n) ∧ jm_pc z (i + 1) = jm_pc z i + n := by
  unfold jc_d at h
  rw [Bool.and_eq_true] at h
  exact ⟨of_decide_eq_true h.1, Nat.eq_of_beq_eq_true h.2⟩
def jc_off (z i t : Nat) : Int := (jm_pc z t : Int) - (jm_pc z i : Int)
theorem jc_off_eq (z i t : Nat) : (jm_pc z i : Int) + jc_off z i t = (jm_pc z t : Int) := by unfold jc_off; omega
def jc_load : jc_F := fun z i a =>
  (Nat.beq a.2.2.1 0 && (jc_d z i (.iload a.2.1) 2 || (Nat.blt a.2.1 4 && jc_d z i (.iload_n (Fin.ofNat 4 a.2.1)) 1))) ||
  ((Nat.beq a.2.2.1 1 && (jc_d z i (.lload a.2.1) 2 || (Nat.blt a.2.1 4 && jc_d z i (.lload_n (Fin.ofNat 4 a.2.1)) 1))) ||
  (Nat.beq a.2.2.1 2 && (jc_d z i (.aload a.2.1) 2 || (Nat.blt a.2.1 4 && jc_d z i (.aload_n (Fin.ofNat 4 a.2.1)) 1))))
def jc_ipush : jc_F := fun z i a => (decide (-2147483648 ≤ a.2.2.2.1) && decide (a.2.2.2.1 < 2147483648)) && (jc_d z i (.iconst a.2.2.2.1) 1 || ((jc_d z i (.bipush a.2.2.2.1) 2 && decide ((Int8.ofInt a.2.2.2.1).toInt32 = Int32.ofInt a.2.2.2.1)) || ((jc_d z i (.sipush a.2.2.2.1) 3 && decide ((Int16.ofInt a.2.2.2.1).toInt32 = Int32.ofInt a.2.2.2.1)) ||
  (jm_ks.any (fun q => Nat.beq q.1 (jm_own z) && (Nat.beq q.2.1 a.2.1 && decide (q.2.2.1 = a.2.2.2.1))) && (jc_d z i (.ldc a.2.1) 2 || jc_d z i (.ldc_w a.2.1) 3)))))
def jc_lpush : jc_F := fun z i a => (decide (-9223372036854775808 ≤ a.2.2.2.1) && decide (a.2.2.2.1 < 9223372036854775808)) && ((jc_d z i (.lconst (Fin.ofNat 2 a.2.2.2.1.toNat)) 1 && decide (Int64.ofNat (Fin.ofNat 2 a.2.2.2.1.toNat : Fin 2).val = Int64.ofInt a.2.2.2.1)) ||
  (jm_kl.any (fun q => Nat.beq q.1 (jm_own z) && (Nat.beq q.2.1 a.2.1 && decide (q.2.2.1 = a.2.2.2.1))) && jc_d z i (.ldc2_w a.2.1) 3))
def jc_st1 : jc_F := fun z i a =>
  (Nat.beq a.2.2.1 0 && (jc_d z i (.istore a.2.1) 2 || (Nat.blt a.2.1 4 && jc_d z i (.istore_n (Fin.ofNat 4 a.2.1)) 1))) ||
  (Nat.beq a.2.2.1 2 && (jc_d z i (.astore a.2.1) 2 || (Nat.blt a.2.1 4 && jc_d z i (.astore_n (Fin.ofNat 4 a.2.1)) 1)))
def jc_st2 : jc_F := fun z i a => jc_d z i (.lstore a.2.1) 2 || (Nat.blt a.2.1 4 && jc_d z i (.lstore_n (Fin.ofNat 4 a.2.1)) 1)
def jc_iinc : jc_F := fun z i a => jc_d z i (.iinc a.2.1 a.2.2.2.1) 3
def jc_ibI : List Instr := [.iadd, .isub, .imul, .iand, .ior, .ixor, .ishl, .ishr, .iushr]
def jc_ibin : jc_F := fun z i a => Nat.blt a.2.1 9 && jc_d z i (ja_nth jc_ibI a.2.1 .nop) 1
def jc_idiv : jc_F := fun z i _ => jc_d z i .idiv 1
def jc_irem : jc_F := fun z i _ => jc_d z i .irem 1
def jc_ineg : jc_F := fun z i _ => jc_d z i .ineg 1
def jc_lbI : List Instr := [.ladd, .lsub, .lmul, .land, .lor]
def jc_lbin : jc_F := fun z i a => Nat.blt a.2.1 5 && jc_d z i (ja_nth jc_lbI a.2.1 .nop) 1
def jc_ldiv : jc_F := fun z i _ => jc_d z i .ldiv 1
def jc_lrem : jc_F := fun z i _ => jc_d z i .lrem 1
def jc_lshl : jc_F := fun z i _ => jc_d z i .lshl 1
def jc_lush : jc_F := fun z i _ => jc_d z i .lushr 1
def jc_i2l : jc_F := fun z i _ => jc_d z i .i2l 1
def jc_l2i : jc_F := fun z i _ => jc_d z i .l2i 1
def jc_lcmp : jc_F := fun z i _ => jc_d z i .lcmp 1
def jc_icI (a : Nat) (o : Int) : Instr := match a with
  | 0 => .if_icmp .eq o
  | 1 => .if_icmp .ne o
  | 2 => .if_icmp .lt o
  | 3 => .if_icmp .ge o
  | 4 => .if_icmp .gt o
  | _ => .if_icmp .le o
def jc_izI (a : Nat) (o : Int) : Instr := match a with
  | 0 => .ifCond .eq o
  | 1 => .ifCond .ne o
  | 2 => .ifCond .lt o
  | 3 => .ifCond .ge o
  | 4 => .ifCond .gt o
  | _ => .ifCond .le o
def jc_icmp : jc_F := fun z i a => jc_d z i (jc_icI a.2.1 (jc_off z i a.2.2.1)) 3
def jc_ifz : jc_F := fun z i a => jc_d z i (jc_izI a.2.1 (jc_off z i a.2.2.1)) 3
def jc_ifnull : jc_F := fun z i a => jc_d z i (.ifnull (jc_off z i a.2.2.1)) 3
def jc_ifnon : jc_F := fun z i a => jc_d z i (.ifnonnull (jc_off z i a.2.2.1)) 3
def jc_goto : jc_F := fun z i a => decide (decode (jm_b z) (jm_pc z i) = .ok (.goto (jc_off z i a.2.2.1), 3))
/-- the rows of a table: keys lo, lo + 1, .. -/
def jc_tab (z i : Nat) : Int → List Int → List (Int × Nat) → Bool
  | _, [], [] => true
  | k, o :: os, (x, t) :: ts => decide (x = k) && (decide (o = jc_off z i t) && jc_tab z i (k + 1) os ts)
  | _, _, _ => false
def jc_lok (z i : Nat) : List (Int × Int) → List (Int × Nat) → Bool
  | [], [] => true
  | (k, o) :: os, (x, t) :: ts => decide (x = k) && (decide (o = jc_off z i t) && jc_lok z i os ts)
  | _, _ => false
def jc_switch : jc_F := fun z i a => match decode (jm_b z) (jm_pc z i) with
  | .ok (.tableswitch d lo hi offs, _) => decide (d = jc_off z i a.2.2.1) && (decide (hi = lo + (offs.toList.length : Int) - 1) && jc_tab z i lo offs.toList a.2.2.2.2.1)
  | .ok (.lookupswitch d ps, _) => decide (d = jc_off z i a.2.2.1) && ((ps.toList.zip (ps.toList.drop 1)).all (fun (a, next) => a.1 < next.1) && jc_lok z i ps.toList a.2.2.2.2.1)
  | _ => false
def jc_fld (z : Nat) (a : ja_I) : Bool := Nat.blt a.2.1 13 && (Nat.blt a.2.2.1 (jm_N a.2.1) && jm_fl.any (fun q => Nat.beq q.1 (jm_own z) && (Nat.beq q.2.1 a.2.2.2.1.toNat && (Nat.beq q.2.2.1 a.2.1 && Nat.beq q.2.2.2.1 a.2.2.1))))
def jc_getI : jc_F := fun z i a => jc_d z i (.getfield a.2.2.2.1.toNat) 3 && (jc_fld z a && Nat.blt (ja_ft a.2.1 a.2.2.1) 2)
def jc_getL : jc_F := fun z i a => jc_d z i (.getfield a.2.2.2.1.toNat) 3 && (jc_fld z a && Nat.beq (ja_ft a.2.1 a.2.2.1) 2)
def jc_getR : jc_F := fun z i a => jc_d z i (.getfield a.2.2.2.1.toNat) 3 && (jc_fld z a && Nat.beq (ja_ft a.2.1 a.2.2.1) 3)
def jc_putI : jc_F := fun z i a => jc_d z i (.putfield a.2.2.2.1.toNat) 3 && (jc_fld z a && (Nat.beq (ja_ft a.2.1 a.2.2.1) 0 && !(jm_T a.2.1 a.2.2.1).2.2.2))
def jc_putZ : jc_F := fun z i a => jc_d z i (.putfield a.2.2.2.1.toNat) 3 && (jc_fld z a && (Nat.beq (ja_ft a.2.1 a.2.2.1) 1 && !(jm_T a.2.1 a.2.2.1).2.2.2))
def jc_putL : jc_F := fun z i a => jc_d z i (.putfield a.2.2.2.1.toNat) 3 && (jc_fld z a && (Nat.beq (ja_ft a.2.1 a.2.2.1) 2 && !(jm_T a.2.1 a.2.2.1).2.2.2))
def jc_putR : jc_F := fun z i a => jc_d z i (.putfield a.2.2.2.1.toNat) 3 && (jc_fld z a && (Nat.beq (ja_ft a.2.1 a.2.2.1) 3 && (!(jm_T a.2.1 a.2.2.1).2.2.2 || (decide ((jm_nm z).name = "<init>") && Nat.beq a.2.1 (jm_own z)))))
def jc_static : jc_F := fun z i a => jc_d z i (.getstatic a.2.2.2.1.toNat) 3 && jm_sl.any (fun q => Nat.beq q.1 (jm_own z) && (Nat.beq q.2.1 a.2.2.2.1.toNat && Nat.beq q.2.2.1 a.2.1))
def jc_iald : jc_F := fun z i _ => jc_d z i .iaload 1
def jc_bald : jc_F := fun z i _ => jc_d z i .baload 1
def jc_lald : jc_F := fun z i _ => jc_d z i .laload 1
def jc_aald : jc_F := fun z i _ => jc_d z i .aaload 1
def jc_iast : jc_F := fun z i _ => jc_d z i .iastore 1
def jc_bast : jc_F := fun z i _ => jc_d z i .bastore 1
def jc_last : jc_F := fun z i _ => jc_d z i .lastore 1
def jc_alen : jc_F := fun z i _ => jc_d z i .arraylength 1
def jc_new : jc_F := fun z i a => jc_d z i (.new a.2.2.2.1.toNat) 3 && (Nat.blt a.2.1 13 && (Nat.beq a.2.2.1 (jm_N a.2.1) && jm_cls.any (fun q => Nat.beq q.1 (jm_own z) && (Nat.beq q.2.1 a.2.2.2.1.toNat && Nat.beq q.2.2.1 a.2.1))))
def jc_newa : jc_F := fun z i a => (Nat.beq a.2.1 100 && jc_d z i (.newarray .int) 2) || ((Nat.beq a.2.1 101 && jc_d z i (.newarray .boolean) 2) || (Nat.beq a.2.1 102 && jc_d z i (.newarray .long) 2))
def jc_newm : jc_F := fun z i a => jc_d z i (.multianewarray a.2.2.2.1.toNat 2) 4 && jm_c2.any (fun q => Nat.beq q.1 (jm_own z) && Nat.beq q.2.1 a.2.2.2.1.toNat)
def jc_idx (a : ja_I) : Nat := match a.2.2.2.2.1 with
  | (k, _) :: _ => k.toNat
  | [] => 0
def jc_npar (y n : Nat) : Bool := decide ((parseMethodDescriptor (jm_nm y).desc).map (fun d => d.parameters.length) = some n)
def jc_callV : jc_F := fun z i a => jc_d z i (.invokevirtual (jc_idx a)) 3 && (Nat.blt a.2.1 jm_NM && (Nat.beq (jm_mw a.2.1).1 0 && (decide ((jm_nm a.2.1).name ≠ "<init>") && (Nat.blt (ja_mcls a.2.1) 13 && (Nat.beq (ja_mcls a.2.1) (jm_own a.2.1) && (jc_npar a.2.1 a.2.2.1 && jm_ml.any (fun q => Nat.beq q.1 (jm_own z) && (Nat.beq q.2.1 (jc_idx a) && Nat.beq q.2.2.1 a.2.1))))))))
def jc_callS : jc_F := fun z i a => jc_d z i (.invokestatic (jc_idx a)) 3 && (Nat.blt a.2.1 jm_NM && (Nat.beq (jm_mw a.2.1).1 1 && (jc_npar a.2.1 a.2.2.1 && jm_ml.any (fun q => Nat.beq q.1 (jm_own z) && (Nat.beq q.2.1 (jc_idx a) && Nat.beq q.2.2.1 a.2.1)))))
def jc_callI : jc_F := fun z i a => jc_d z i (.invokespecial (jc_idx a)) 3 && (Nat.blt a.2.1 jm_NM && (Nat.beq (jm_mw a.2.1).1 0 && (decide ((jm_nm a.2.1).name = "<init>") && (decide (jm_rt a.2.1 = none) && (jc_npar a.2.1 a.2.2.1 && (jm_ml.any (fun q => Nat.beq q.1 (jm_own z) && (Nat.beq q.2.1 (jc_idx a) && Nat.beq q.2.2.1 a.2.1)) || jm_ne.any (fun q => Nat.beq q.1 (jm_own z) && (Nat.beq q.2.1 (jc_idx a) && Nat.beq q.2.2.1 a.2.1))))))))
def jc_objI : jc_F := fun z i a => jc_d z i (.invokespecial a.2.2.2.1.toNat) 3 && jm_oi.any (fun q => Nat.beq q.1 (jm_own z) && Nat.beq q.2.1 a.2.2.2.1.toNat)
def jc_iret : jc_F := fun z i _ => jc_r z i .ireturn && decide (jm_rt z = some .int)
def jc_zret : jc_F := fun z i _ => jc_r z i .ireturn && decide (jm_rt z = some .boolean)
def jc_lret : jc_F := fun z i _ => jc_r z i .lreturn && decide (jm_rt z = some .long)
def jc_isR : Option FieldType → Bool
  | some (.object _) => true
  | some (.array _) => true
  | _ => false
def jc_aret : jc_F := fun z i _ => jc_r z i .areturn && jc_isR (jm_rt z)
def jc_vret : jc_F := fun z i _ => jc_r z i .return_ && decide (jm_rt z = none)
def jc_dup : jc_F := fun z i _ => jc_d z i .dup 1
def jc_dup2 : jc_F := fun z i _ => jc_d z i .dup2 1
def jc_pop : jc_F := fun z i _ => jc_d z i .pop 1
def jc_copy : jc_F := fun z i a => jc_d z i (.invokestatic a.2.2.2.1.toNat) 3 && jm_ac.any (fun q => Nat.beq q.1 (jm_own z) && Nat.beq q.2.1 a.2.2.2.1.toNat)
def jc_place : jc_F := fun z i a => jc_d z i (.invokestatic a.2.2.2.1.toNat) 3 && (Nat.beq z jm_NM && Nat.beq a.2.2.2.1.toNat jm_PL)
def jc_mth (k : Nat) : jc_F := fun z i a => jc_d z i (.invokestatic a.2.2.2.1.toNat) 3 && jm_mt.any (fun q => Nat.beq q.1 (jm_own z) && (Nat.beq q.2.1 a.2.2.2.1.toNat && Nat.beq q.2.2.1 k))
def jc_s : List jc_F := [jc_load, jc_ipush, jc_lpush, jc_st1, jc_st2, jc_iinc, jc_ibin, jc_idiv, jc_irem, jc_ineg, jc_lbin, jc_ldiv, jc_lrem, jc_lshl, jc_lush, jc_i2l, jc_l2i, jc_lcmp, jc_icmp, jc_ifz, jc_ifnull, jc_ifnon, jc_goto, jc_switch, jc_getI, jc_getL, jc_getR, jc_putI, jc_putZ, jc_putL, jc_putR, jc_static, jc_iald, jc_bald, jc_lald, jc_aald, jc_iast, jc_bast, jc_last, jc_alen, jc_new, jc_newa, jc_newm, jc_callV, jc_callS, jc_callI, jc_objI, jc_iret, jc_zret, jc_lret, jc_aret, jc_vret, jc_dup, jc_dup2, jc_pop, jc_copy, jc_place, (jc_mth 0), (jc_mth 1), (jc_mth 2), (jc_mth 3), (jc_mth 4)]
def jc_row (z i : Nat) (a : ja_I) : Bool := ja_nth jc_s a.1 (fun _ _ _ => false) z i a
def jc_rows (z : Nat) : Nat → List ja_I → Bool
  | _, [] => true
  | i, a :: r => jc_row z i a && jc_rows z (i + 1) r
theorem jc_rows_of {z : Nat} : ∀ (c : List ja_I) (i k : Nat), jc_rows z i c = true → k < c.length → jc_row z (i + k) (ja_nth c k ja_row0) = true
  | [], _, _, _, h => by simp at h
  | a :: r, i, 0, h, _ => by
    unfold jc_rows at h
    rw [Bool.and_eq_true] at h
    exact h.1
  | a :: r, i, k + 1, h, hk => by
    unfold jc_rows at h
    rw [Bool.and_eq_true] at h
    have := jc_rows_of r (i + 1) k h.2 (by simpa using hk)
    rw [show i + (k + 1) = i + 1 + k by omega]
    exact this
theorem ja_nth_out {α : Type} : ∀ (c : List α) (k : Nat) (d : α), c.length ≤ k → ja_nth c k d = d
  | [], _, _, _ => rfl
  | _ :: _, 0, _, h => by simp at h
  | _ :: r, k + 1, d, h => ja_nth_out r k d (by simpa using h)
