/-! EACH ROW OF THE SMALL MACHINE IS WALKED BY THE REAL ONE -/
def va_AOI (U : State) : Prop := (Cond.arrayOver (.array .int)).before #[] U = true ∧ ∀ q ∈ jm_ne, va_Nw (.methodLinkNest (jm_cn q.1) q.2.1 (jm_nm q.2.2.1) "HuntTable") U
def jb_Fix (p : Program) (R : Room) (s : State) (m : MethodId) (args : Array Value) (meth : Method) (c : Code) (G : jb_G) (z d : Nat) : Prop :=
  (p.tables.exec = Jvm.exec ∧ c.code = jm_b z ∧ c.maxLocals = ja_maxL z ∧ s.vm.findClass (jm_cn (jm_own z)) = some m.cls ∧ ∀ w ∈ jm_W, w.before args s = true) ∧ (va_K G.1 jm_cl (jb_tys G) s ∧ ∀ q, s.heap.size ≤ q → jb_A G q) ∧ (d + 1 ≤ R.frames ∧ 40 * d + 60 ≤ R.locals) ∧ ((jm_nm z).name = "<init>" → meth.name = "<init>") ∧ va_AOI s
def jb_Wat (p : Program) (l : Launch) (e : Env) (R : Room) (s : State) (m : MethodId) (args : Array Value) (below : List Frame) (meth : Method) (c : Code) (Q : State → Prop) (G : jb_G) (φ : Bool) (z C0 S0 : Nat) (ad0 : Nat → Nat) (lim0 : Nat) (i : Nat) (L : ja_L) (S : List ja_V) (M : ja_M) : Prop :=
  ∀ (ad : Nat → Nat) (H : Heap) (locs : List Loc) (ls : Array Slot), jb_I G φ s (ja_maxL z) C0 S0 ad0 lim0 ad M H locs L ls → (∀ v ∈ S, jb_ok v) → W p l e R s m args below meth c H locs (jb_cl M - C0) (jb_sl M - S0) Q (F0 m (jm_pc z i) ls (S.map (jb_v ad)))
def jb_ws1 (y : Nat) : List Cond := Cond.code (jm_nm y) (jm_b y) (ja_maxL y) (jm_rt y) :: jm_W
def jb_rm (d mc ms : Nat) : Room := { frames := d, cells := mc, slots := ms, locals := 40 * d + 20 }
def jb_Pc (G : jb_G) (φ : Bool) (ad : Nat → Nat) (as : List ja_V) (M : ja_M) : Array Value → State → Prop := va_Pc (as.map (jb_v ad)) (fun U => va_P G.1 jm_cl (jb_ws G φ ad M) U.heap ∧ va_D (jb_A G) (jb_ws G φ ad M) ∧ va_K G.1 jm_cl (jb_tys G) U ∧ jb_ro G ad M U ∧ va_AOI U)
def jb_Qc (G : jb_G) (φ : Bool) (ad : Nat → Nat) (lim : Nat) (r : ja_R) : Array Value → State → Outcome → State → Prop := fun _ st o t => ∃ ad' : Nat → Nat, (∀ k, k ≤ lim ∨ ja_RO ≤ k → ad' k = ad k) ∧ o = .returned (r.1.map (jb_v ad')) ∧ (va_P G.1 jm_cl (jb_ws G φ ad' r.2) t.heap ∧ va_D (jb_A G) (jb_ws G φ ad' r.2)) ∧ va_F (jb_A G) st t ∧ (∀ v, r.1 = some v → jb_ok v) ∧ jb_Mok φ r.2
def jb_EOK (l : Launch) (G : jb_G) (φ : Bool) (d : Nat) (E : ja_E) : Prop := ∀ (y : Nat) (as : List ja_V) (M : ja_M) (r : ja_R), y < jm_NM → E y as M = some r → jb_gr M r.2 ∧ ∀ ad : Nat → Nat, (∀ v ∈ as, jb_ok v) → jb_Mok φ M →
  Met l (jm_nm y) (jb_ws1 y) (jb_rm d (jb_cl r.2 - jb_cl M) (jb_sl r.2 - jb_sl M)) (jb_Pc G φ ad as M) (jb_Qc G φ ad (ja_lim φ M) r) (jb_cl r.2 - jb_cl M) (jb_sl r.2 - jb_sl M) (jb_A G)
def jb_Cap (R : Room) (C0 S0 : Nat) (M : ja_M) : Prop := jb_cl M ≤ R.cells + C0 ∧ jb_sl M ≤ R.slots + S0
/-- the method's end -/
def jb_End (z i : Nat) (φ : Bool) (r : ja_R) : Prop :=
  (decode (jm_b z) (jm_pc z i) = .ok (.ireturn, 1) ∧ ∃ v, r.1 = some (ji v) ∧ (jm_rt z = some .int ∨ (jm_rt z = some .boolean ∧ (v = 0 ∨ v = 1)))) ∨ (decode (jm_b z) (jm_pc z i) = .ok (.lreturn, 1) ∧ jm_rt z = some .long ∧ ∃ v, r.1 = some (jl v)) ∨
  (decode (jm_b z) (jm_pc z i) = .ok (.areturn, 1) ∧ jc_isR (jm_rt z) = true ∧ ∃ v, r.1 = some (jr v)) ∨ (decode (jm_b z) (jm_pc z i) = .ok (.return_, 1) ∧ jm_rt z = none ∧ r.1 = none)
def jb_Ret (p : Program) (l : Launch) (e : Env) (R : Room) (s : State) (m : MethodId) (args : Array Value) (below : List Frame) (meth : Method) (c : Code) (Q : State → Prop) (G : jb_G) (φ : Bool) (z C0 S0 : Nat) (ad0 : Nat → Nat) (lim0 : Nat) (r : ja_R) : Prop :=
  ∀ (i : Nat) (ad : Nat → Nat) (H : Heap) (locs : List Loc) (ls : Array Slot) (L : ja_L), jb_I G φ s (ja_maxL z) C0 S0 ad0 lim0 ad r.2 H locs L ls → (∀ v, r.1 = some v → jb_ok v) → jb_End z i φ r → W p l e R s m args below meth c H locs (jb_cl r.2 - C0) (jb_sl r.2 - S0) Q (F0 m (jm_pc z i) ls (r.1.toList.map (jb_v ad)))
def jb_SH (h : ja_H) (ck : jc_F) : Prop := ∀ (p : Program) (l : Launch) (e : Env) (R : Room) (s : State) (m : MethodId) (args : Array Value) (below : List Frame) (meth : Method) (c : Code) (Q : State → Prop) (G : jb_G) (φ : Bool) (z d C0 S0 : Nat) (ad0 : Nat → Nat) (lim0 : Nat) (E : ja_E) (a : ja_I) (i : Nat) (L : ja_L) (S : List ja_V) (M : ja_M) (κ : ja_K) (r : ja_R),
  jb_Fix p R s m args meth c G z d → jb_EOK l G φ d E → jb_Cap R C0 S0 r.2 → ck z i a = true → h φ E a i L S M κ = some r →
  (∀ i L S M, κ i L S M = some r → jb_gr M r.2 ∧ jb_Wat p l e R s m args below meth c Q G φ z C0 S0 ad0 lim0 i L S M) → jb_Ret p l e R s m args below meth c Q G φ z C0 S0 ad0 lim0 r → jb_Wat p l e R s m args below meth c Q G φ z C0 S0 ad0 lim0 i L S M
theorem jn_ofw (x : Int) : Int32.ofInt (ja_w x) = Int32.ofInt x := by
  apply Int32.toInt_inj.mp
  rw [jn_i (jn_w _), Int32.toInt_ofInt]
  rfl
theorem jn_ofW (x : Int) : Int64.ofInt (ja_W x) = Int64.ofInt x := by
  apply Int64.toInt_inj.mp
  rw [jn_l (jn_W _), Int64.toInt_ofInt]
  rfl
theorem jn_rem {x y : Int} (hx : -2147483648 ≤ x ∧ x < 2147483648) (hy : -2147483648 ≤ y ∧ y < 2147483648) : Int32.ofInt x - Int32.ofInt x / Int32.ofInt y * Int32.ofInt y = Int32.ofInt (x.tmod y) := by
  rw [← jn_div hx hy, jn_ofw, ← jn_mul, jn_ofw, ← jn_sub, jn_ofw, Int.tmod_def, Int.mul_comm y]
theorem jn_lrem {x y : Int} (hx : -9223372036854775808 ≤ x ∧ x < 9223372036854775808) (hy : -9223372036854775808 ≤ y ∧ y < 9223372036854775808) : Int64.ofInt x - Int64.ofInt x / Int64.ofInt y * Int64.ofInt y = Int64.ofInt (x.tmod y) := by
  rw [← jn_ldiv hx hy, jn_ofW, ← jn_lmul, jn_ofW, ← jn_lsub, jn_ofW, Int.tmod_def, Int.mul_comm y]
theorem jb_or {a b : Bool} (h : (a || b) = true) : a = true ∨ b = true := by cases a <;> simp_all
theorem jb_and {a b : Bool} (h : (a && b) = true) : a = true ∧ b = true := by cases a <;> simp_all
theorem jb_cond {b : Bool} {x : Option ja_R} {r : ja_R} (h : cond b x none = some r) : b = true ∧ x = some r := by cases b <;> simp_all
theorem jb_if {q : Prop} [Decidable q] {x : Option ja_R} {r : ja_R} (h : (if q then x else none) = some r) : q ∧ x = some r := by
  by_cases hq : q
  · rw [if_pos hq] at h
    exact ⟨hq, h⟩
  · rw [if_neg hq] at h
    cases h
theorem jb_and32 (x y : Int) : jb_ok (ji (ja_and x y)) := jn_r _
theorem jb_is0 {y : Int} (h : ja_is0 y = false) : y ≠ 0 := by
  intro q
  subst q
  cases h
theorem jb_cond0 {b : Bool} {x : Option ja_R} {r : ja_R} (h : cond b none x = some r) : b = false ∧ x = some r := by cases b <;> simp_all
theorem jb_i0 {x : Int} (h : jb_ok (ji x)) (hz : x ≠ 0) : ¬ Int32.ofInt x = 0 := by
  intro q
  have := congrArg Int32.toInt q
  rw [jn_i h] at this
  exact hz this
theorem jb_l0 {x : Int} (h : jb_ok (jl x)) (hz : x ≠ 0) : ¬ Int64.ofInt x = 0 := by
  intro q
  have := congrArg Int64.toInt q
  rw [jn_l h] at this
  exact hz this

set_option maxHeartbeats 4000000 in
theorem jw_ipush : jb_SH jh_ipush jc_ipush := by
  intro p l e R s m args below meth c Q G φ z d C0 S0 ad0 lim0 E a i L S M κ r F EO CP ck h hκ hR ad H locs ls I hS
  obtain ⟨⟨hx, hb, hml, hown, hts⟩, ⟨hK, hA⟩, ⟨hfr, hlo⟩, hin, hao⟩ := F
  obtain ⟨ck0, ck⟩ := jb_and ck
  obtain ⟨c1, c2⟩ := jb_and ck0
  have o0 : jb_ok (ji a.2.2.2.1) := ⟨of_decide_eq_true c1, of_decide_eq_true c2⟩
  have w := (hκ _ _ _ _ h).2 ad H locs ls I (List.forall_mem_cons.mpr ⟨o0, hS⟩)
  rcases jb_or ck with ck | ck
  · obtain ⟨hd, hn⟩ := jc_d_of ck
    rw [hn] at w
    exact lv_iconst hx hb hd rfl w
  rcases jb_or ck with ck | ck
  · obtain ⟨ck, hv⟩ := jb_and ck
    obtain ⟨hd, hn⟩ := jc_d_of ck
    rw [hn] at w
    exact lv_bipush hx hb hd (of_decide_eq_true hv) w
  rcases jb_or ck with ck | ck
  · obtain ⟨ck, hv⟩ := jb_and ck
    obtain ⟨hd, hn⟩ := jc_d_of ck
    rw [hn] at w
    exact lv_sipush hx hb hd (of_decide_eq_true hv) w
  obtain ⟨ca, ck⟩ := jb_and ck
  obtain ⟨q, hq, hq2⟩ := List.any_eq_true.mp ca
  obtain ⟨q1, hq2⟩ := jb_and hq2
  obtain ⟨q2, q3⟩ := jb_and hq2
  have hc := jm_in (jk_ok q hq) rfl
  rw [Nat.eq_of_beq_eq_true q1, Nat.eq_of_beq_eq_true q2, of_decide_eq_true q3] at hc
  rcases jb_or ck with ck | ck
  · obtain ⟨hd, hn⟩ := jc_d_of ck
    rw [hn] at w
    exact lv_ldc hx hb hown (hts _ hc) hd w
  · obtain ⟨hd, hn⟩ := jc_d_of ck
    rw [hn] at w
    exact lv_ldcw hx hb hown (hts _ hc) hd w

set_option maxHeartbeats 4000000 in
theorem jw_lpush : jb_SH jh_lpush jc_lpush := by
  intro p l e R s m args below meth c Q G φ z d C0 S0 ad0 lim0 E a i L S M κ r F EO CP ck h hκ hR ad H locs ls I hS
  obtain ⟨⟨hx, hb, hml, hown, hts⟩, ⟨hK, hA⟩, ⟨hfr, hlo⟩, hin, hao⟩ := F
  obtain ⟨ck0, ck⟩ := jb_and ck
  obtain ⟨c1, c2⟩ := jb_and ck0
  have o0 : jb_ok (jl a.2.2.2.1) := ⟨of_decide_eq_true c1, of_decide_eq_true c2⟩
  have w := (hκ _ _ _ _ h).2 ad H locs ls I (List.forall_mem_cons.mpr ⟨o0, hS⟩)
  rcases jb_or ck with ck | ck
  · obtain ⟨ck, hv⟩ := jb_and ck
    obtain ⟨hd, hn⟩ := jc_d_of ck
    rw [hn] at w
    exact lv_lconst hx hb hd (of_decide_eq_true hv) w
  obtain ⟨ca, ck⟩ := jb_and ck
  obtain ⟨q, hq, hq2⟩ := List.any_eq_true.mp ca
  obtain ⟨q1, hq2⟩ := jb_and hq2
  obtain ⟨q2, q3⟩ := jb_and hq2
  have hc := jm_in (jkl_ok q hq) rfl
  rw [Nat.eq_of_beq_eq_true q1, Nat.eq_of_beq_eq_true q2, of_decide_eq_true q3] at hc
  obtain ⟨hd, hn⟩ := jc_d_of ck
  rw [hn] at w
  exact lv_ldc2 hx hb hown (hts _ hc) hd w

set_option maxHeartbeats 4000000 in
theorem jw_load : jb_SH jh_load jc_load := by
  intro p l e R s m args below meth c Q G φ z d C0 S0 ad0 lim0 E a i L S M κ r F EO CP ck h hκ hR ad H locs ls I hS
  obtain ⟨⟨hx, hb, hml, hown, hts⟩, ⟨hK, hA⟩, ⟨hfr, hlo⟩, hin, hao⟩ := F
  have e : jh_load φ E a i L S M κ = (match L[a.2.1]? with
    | some (some v) => cond (Nat.beq (ja_kind v) a.2.2.1) (κ (i + 1) L (v :: S) M) none
    | _ => none) := rfl
  rw [e] at h
  rcases ho : L[a.2.1]? with _ | _ | v
  · rw [ho] at h; cases h
  · rw [ho] at h; cases h
  rw [ho] at h
  obtain ⟨hk, h⟩ := jb_cond h
  have hk := Nat.eq_of_beq_eq_true hk
  have ov : jb_ok v := I.2.1.2.2 v (List.mem_of_getElem? ho)
  have w := (hκ _ _ _ _ h).2 ad H locs ls I (List.forall_mem_cons.mpr ⟨ov, hS⟩)
  have hl := jb_lget I.2.1.1 ho
  rcases jb_or ck with ck | ck
  · obtain ⟨k0, ck⟩ := jb_and ck
    have k0 := Nat.eq_of_beq_eq_true k0
    rcases v with x | x | x <;> first | (simp [ja_kind] at hk; omega) | skip
    rcases jb_or ck with ck | ck
    · obtain ⟨hd, hn⟩ := jc_d_of ck
      rw [hn] at w
      exact lv_iload hx hb hd hl w
    · obtain ⟨c4, ck⟩ := jb_and ck
      obtain ⟨hd, hn⟩ := jc_d_of ck
      rw [hn] at w
      exact lv_iload_n hx hb hd (Nat.mod_eq_of_lt (Nat.blt_eq.mp c4)) hl w
  rcases jb_or ck with ck | ck
  · obtain ⟨k0, ck⟩ := jb_and ck
    have k0 := Nat.eq_of_beq_eq_true k0
    rcases v with x | x | x <;> first | (simp [ja_kind] at hk; omega) | skip
    rcases jb_or ck with ck | ck
    · obtain ⟨hd, hn⟩ := jc_d_of ck
      rw [hn] at w
      exact lv_lload hx hb hd hl w
    · obtain ⟨c4, ck⟩ := jb_and ck
      obtain ⟨hd, hn⟩ := jc_d_of ck
      rw [hn] at w
      exact lv_lload_n hx hb hd (Nat.mod_eq_of_lt (Nat.blt_eq.mp c4)) hl w
  · obtain ⟨k0, ck⟩ := jb_and ck
    have k0 := Nat.eq_of_beq_eq_true k0
    rcases v with x | x | x <;> first | (simp [ja_kind] at hk; omega) | skip
    cases x with
    | zero =>
      rcases jb_or ck with ck | ck
      · obtain ⟨hd, hn⟩ := jc_d_of ck
        rw [hn] at w
        exact lv_aloadN hx hb hd hl w
      · obtain ⟨c4, ck⟩ := jb_and ck
        obtain ⟨hd, hn⟩ := jc_d_of ck
        rw [hn] at w
        exact lv_aload_nN hx hb hd (Nat.mod_eq_of_lt (Nat.blt_eq.mp c4)) hl w
    | succ x =>
      rcases jb_or ck with ck | ck
      · obtain ⟨hd, hn⟩ := jc_d_of ck
        rw [hn] at w
        exact lv_aload hx hb hd hl w
      · obtain ⟨c4, ck⟩ := jb_and ck
        obtain ⟨hd, hn⟩ := jc_d_of ck
        rw [hn] at w
        exact lv_aload_n hx hb hd (Nat.mod_eq_of_lt (Nat.blt_eq.mp c4)) hl w

set_option maxHeartbeats 4000000 in
theorem jw_st1 : jb_SH jh_st1 jc_st1 := by
  intro p l e R s m args below meth c Q G φ z d C0 S0 ad0 lim0 E a i L S M κ r F EO CP ck h hκ hR ad H locs ls I hS
  obtain ⟨⟨hx, hb, hml, hown, hts⟩, ⟨hK, hA⟩, ⟨hfr, hlo⟩, hin, hao⟩ := F
  have st : ∀ (v : ja_V), jb_ok v → a.2.1 < L.length → ∀ ls' : Array Slot, lv_has ls' (ja_maxL z) ((a.2.1, jb_v ad v) :: (jb_lv ad 0 L).filter (fun q => !(q.1 == a.2.1) && !(q.1 + 1 == a.2.1 && q.2.category == 2))) → jb_I G φ s (ja_maxL z) C0 S0 ad0 lim0 ad M H locs (ja_set1 L a.2.1 v) ls' := by
    intro v ov hi ls' hl'
    obtain ⟨I1, ⟨I2, I3, I4⟩, I5⟩ := I
    exact ⟨I1, ⟨lv_less hl' (jb_set1_sub hi), by rw [ja_set1_len]; exact I3, jb_set1_ok I4 ov⟩, I5⟩
  have hlen := I.2.1.2.1
  have hlv := I.2.1.1
  rcases S with _ | ⟨x | x | x, S⟩ <;> first | (cases h; done) | skip
  · obtain ⟨hc, h⟩ := jb_cond h
    obtain ⟨hc, hk⟩ := jb_and hc
    have hi : a.2.1 < L.length := Nat.blt_eq.mp hc
    have hk := Nat.eq_of_beq_eq_true hk
    rw [ja_fc_eq] at h
    obtain ⟨o0, hS⟩ := List.forall_mem_cons.mp hS
    have w := fun ls' hl' => (hκ _ _ _ _ h).2 ad H locs ls' (st (ji x) o0 hi ls' hl') hS
    rcases jb_or ck with ck | ck
    · obtain ⟨-, ck⟩ := jb_and ck
      rcases jb_or ck with ck | ck
      · obtain ⟨hd, hn⟩ := jc_d_of ck
        rw [hn] at w
        exact lv_istore hx hb hd hlv (by omega) rfl w
      · obtain ⟨c4, ck⟩ := jb_and ck
        obtain ⟨hd, hn⟩ := jc_d_of ck
        rw [hn] at w
        exact lv_istore_n hx hb hd (Nat.mod_eq_of_lt (Nat.blt_eq.mp c4)) hlv (by omega) rfl w
    · obtain ⟨k2, -⟩ := jb_and ck
      have k2 := Nat.eq_of_beq_eq_true k2
      omega
  · obtain ⟨hc, h⟩ := jb_cond h
    obtain ⟨hc, hk⟩ := jb_and hc
    have hi : a.2.1 < L.length := Nat.blt_eq.mp hc
    have hk := Nat.eq_of_beq_eq_true hk
    rw [ja_fc_eq] at h
    obtain ⟨o0, hS⟩ := List.forall_mem_cons.mp hS
    have w := fun ls' hl' => (hκ _ _ _ _ h).2 ad H locs ls' (st (jr x) o0 hi ls' hl') hS
    rcases jb_or ck with ck | ck
    · obtain ⟨k2, -⟩ := jb_and ck
      have k2 := Nat.eq_of_beq_eq_true k2
      omega
    · obtain ⟨-, ck⟩ := jb_and ck
      cases x with
      | zero =>
        rcases jb_or ck with ck | ck
        · obtain ⟨hd, hn⟩ := jc_d_of ck
          rw [hn] at w
          exact lv_astoreN hx hb hd hlv (by omega) rfl w
        · obtain ⟨c4, ck⟩ := jb_and ck
          obtain ⟨hd, hn⟩ := jc_d_of ck
          rw [hn] at w
          exact lv_astore_nN hx hb hd (Nat.mod_eq_of_lt (Nat.blt_eq.mp c4)) hlv (by omega) rfl w
      | succ x =>
        rcases jb_or ck with ck | ck
        · obtain ⟨hd, hn⟩ := jc_d_of ck
          rw [hn] at w
          exact lv_astore hx hb hd hlv (by omega) rfl w
        · obtain ⟨c4, ck⟩ := jb_and ck
          obtain ⟨hd, hn⟩ := jc_d_of ck
          rw [hn] at w
          exact lv_astore_n hx hb hd (Nat.mod_eq_of_lt (Nat.blt_eq.mp c4)) hlv (by omega) rfl w

set_option maxHeartbeats 4000000 in
theorem jw_st2 : jb_SH jh_st2 jc_st2 := by
  intro p l e R s m args below meth c Q G φ z d C0 S0 ad0 lim0 E a i L S M κ r F EO CP ck h hκ hR ad H locs ls I hS
  obtain ⟨⟨hx, hb, hml, hown, hts⟩, ⟨hK, hA⟩, ⟨hfr, hlo⟩, hin, hao⟩ := F
  have hlen := I.2.1.2.1
  have hlv := I.2.1.1
  rcases S with _ | ⟨x | x | x, S⟩ <;> first | (cases h; done) | skip
  obtain ⟨hc, h⟩ := jb_cond h
  have hi : a.2.1 + 1 < L.length := Nat.blt_eq.mp hc
  rw [ja_fc_eq] at h
  obtain ⟨o0, hS⟩ := List.forall_mem_cons.mp hS
  have w : ∀ ls' : Array Slot, lv_has ls' (ja_maxL z) ((a.2.1, jb_v ad (jl x)) :: (jb_lv ad 0 L).filter (fun q => !(q.1 == a.2.1) && (!(q.1 == a.2.1 + 1) && !(q.1 + 1 == a.2.1 && q.2.category == 2)))) → _ := fun ls' hl' => (hκ _ _ _ _ h).2 ad H locs ls' (by
    obtain ⟨I1, ⟨I2, I3, I4⟩, I5⟩ := I
    exact ⟨I1, ⟨lv_less hl' (jb_set2_sub hi), by rw [ja_set2_len]; exact I3, jb_set2_ok I4 o0⟩, I5⟩) hS
  rcases jb_or ck with ck | ck
  · obtain ⟨hd, hn⟩ := jc_d_of ck
    rw [hn] at w
    exact lv_lstore hx hb hd hlv (by omega) rfl w
  · obtain ⟨c4, ck⟩ := jb_and ck
    obtain ⟨hd, hn⟩ := jc_d_of ck
    rw [hn] at w
    exact lv_lstore_n hx hb hd (Nat.mod_eq_of_lt (Nat.blt_eq.mp c4)) hlv (by omega) rfl w

set_option maxHeartbeats 4000000 in
theorem jw_iinc : jb_SH jh_iinc jc_iinc := by
  intro p l e R s m args below meth c Q G φ z d C0 S0 ad0 lim0 E a i L S M κ r F EO CP ck h hκ hR ad H locs ls I hS
  obtain ⟨⟨hx, hb, hml, hown, hts⟩, ⟨hK, hA⟩, ⟨hfr, hlo⟩, hin, hao⟩ := F
  have e : jh_iinc φ E a i L S M κ = (match L[a.2.1]? with
    | some (some (.inl x)) => ja_fc (ja_set1 L a.2.1 (ji (ja_w (x + a.2.2.2.1)))) (fun L => κ (i + 1) L S M)
    | _ => none) := rfl
  rw [e] at h
  have hlen := I.2.1.2.1
  have hlv := I.2.1.1
  rcases ho : L[a.2.1]? with _ | _ | x | x | x
  · rw [ho] at h; cases h
  · rw [ho] at h; cases h
  · rw [ho] at h
    have h : ja_fc (ja_set1 L a.2.1 (ji (ja_w (x + a.2.2.2.1)))) (fun L => κ (i + 1) L S M) = some r := h
    rw [ja_fc_eq] at h
    have hi : a.2.1 < L.length := (List.getElem?_eq_some_iff.mp ho).1
    have w : ∀ ls' : Array Slot, lv_has ls' (ja_maxL z) ((a.2.1, jb_v ad (ji (ja_w (x + a.2.2.2.1)))) :: (jb_lv ad 0 L).filter (fun q => !(q.1 == a.2.1) && !(q.1 + 1 == a.2.1 && q.2.category == 2))) → _ := fun ls' hl' => (hκ _ _ _ _ h).2 ad H locs ls' (by
      obtain ⟨I1, ⟨I2, I3, I4⟩, I5⟩ := I
      exact ⟨I1, ⟨lv_less hl' (jb_set1_sub hi), by rw [ja_set1_len]; exact I3, jb_set1_ok I4 (jn_w _)⟩, I5⟩) hS
    obtain ⟨hd, hn⟩ := jc_d_of ck
    rw [hn] at w
    obtain ⟨k, hk⟩ := List.getElem?_of_mem (jb_lv_of (ad := ad) L 0 a.2.1 (ji x) ho)
    rw [Nat.zero_add] at hk
    exact lv_iinc hx hb hd hlv hk (jn_add x a.2.2.2.1).symm (by omega) rfl w
  · rw [ho] at h; cases h
  · rw [ho] at h; cases h

set_option maxHeartbeats 4000000 in
theorem jw_ibin : jb_SH jh_ibin jc_ibin := by
  intro p l e R s m args below meth c Q G φ z d C0 S0 ad0 lim0 E a i L S M κ r F EO CP ck h hκ hR ad H locs ls I hS
  obtain ⟨⟨hx, hb, hml, hown, hts⟩, ⟨hK, hA⟩, ⟨hfr, hlo⟩, hin, hao⟩ := F
  rcases S with _ | ⟨x0 | x0 | x0, _ | ⟨x1 | x1 | x1, S⟩⟩ <;> first | (cases h; done) | skip
  obtain ⟨c9, ck⟩ := jb_and ck
  have c9 : a.2.1 < 9 := Nat.blt_eq.mp c9
  obtain ⟨hd, hn⟩ := jc_d_of ck
  obtain ⟨o0, hS⟩ := List.forall_mem_cons.mp hS
  obtain ⟨o1, hS⟩ := List.forall_mem_cons.mp hS
  have h : κ (i + 1) L (ji (ja_ib a.2.1 x1 x0) :: S) M = some r := h
  generalize a.2.1 = k at h hd c9
  rcases k with _ | _ | _ | _ | _ | _ | _ | _ | _ | k
  · have w := (hκ _ _ _ _ h).2 ad H locs ls I (List.forall_mem_cons.mpr ⟨jn_w _, hS⟩)
    rw [hn] at w
    refine lv_iadd hx hb hd ?_
    rw [← jn_add]
    exact w
  · have w := (hκ _ _ _ _ h).2 ad H locs ls I (List.forall_mem_cons.mpr ⟨jn_w _, hS⟩)
    rw [hn] at w
    refine lv_isub hx hb hd ?_
    rw [← jn_sub]
    exact w
  · have w := (hκ _ _ _ _ h).2 ad H locs ls I (List.forall_mem_cons.mpr ⟨jn_w _, hS⟩)
    rw [hn] at w
    refine lv_imul hx hb hd ?_
    rw [← jn_mul]
    exact w
  · have w := (hκ _ _ _ _ h).2 ad H locs ls I (List.forall_mem_cons.mpr ⟨jn_r _, hS⟩)
    rw [hn] at w
    refine lv_iand hx hb hd ?_
    rw [← jn_back (Int32.ofInt x1 &&& Int32.ofInt x0)]
    exact w
  · have w := (hκ _ _ _ _ h).2 ad H locs ls I (List.forall_mem_cons.mpr ⟨jn_r _, hS⟩)
    rw [hn] at w
    refine lv_ior hx hb hd ?_
    rw [← jn_back (Int32.ofInt x1 ||| Int32.ofInt x0)]
    exact w
  · have w := (hκ _ _ _ _ h).2 ad H locs ls I (List.forall_mem_cons.mpr ⟨jn_r _, hS⟩)
    rw [hn] at w
    refine lv_ixor hx hb hd ?_
    rw [← jn_back (Int32.ofInt x1 ^^^ Int32.ofInt x0)]
    exact w
  · have w := (hκ _ _ _ _ h).2 ad H locs ls I (List.forall_mem_cons.mpr ⟨jn_r _, hS⟩)
    rw [hn] at w
    refine lv_ishl hx hb hd ?_
    rw [← jn_back (Int32.ofInt x1 <<< (Int32.ofInt x0 &&& 31))]
    exact w
  · have w := (hκ _ _ _ _ h).2 ad H locs ls I (List.forall_mem_cons.mpr ⟨jn_r _, hS⟩)
    rw [hn] at w
    refine lv_ishr hx hb hd ?_
    rw [← jn_back (Int32.ofInt x1 >>> (Int32.ofInt x0 &&& 31))]
    exact w
  · have w := (hκ _ _ _ _ h).2 ad H locs ls I (List.forall_mem_cons.mpr ⟨jn_r _, hS⟩)
    rw [hn] at w
    exact lv_iushr hx hb hd (jn_back _).symm w
  · omega

set_option maxHeartbeats 4000000 in
theorem jw_idiv : jb_SH jh_idiv jc_idiv := by
  intro p l e R s m args below meth c Q G φ z d C0 S0 ad0 lim0 E a i L S M κ r F EO CP ck h hκ hR ad H locs ls I hS
  obtain ⟨⟨hx, hb, hml, hown, hts⟩, ⟨hK, hA⟩, ⟨hfr, hlo⟩, hin, hao⟩ := F
  rcases S with _ | ⟨x0 | x0 | x0, _ | ⟨x1 | x1 | x1, S⟩⟩ <;> first | (cases h; done) | skip
  obtain ⟨h0, h⟩ := jb_cond0 h
  have h0 := jb_is0 h0
  obtain ⟨hd, hn⟩ := jc_d_of ck
  obtain ⟨o0, hS⟩ := List.forall_mem_cons.mp hS
  obtain ⟨o1, hS⟩ := List.forall_mem_cons.mp hS
  have w := (hκ _ _ _ _ h).2 ad H locs ls I (List.forall_mem_cons.mpr ⟨jn_w _, hS⟩)
  rw [hn] at w
  refine lv_idiv hx hb hd (jb_i0 o0 h0) ?_
  rw [← jn_div o1 o0]
  exact w

set_option maxHeartbeats 4000000 in
theorem jw_irem : jb_SH jh_irem jc_irem := by
  intro p l e R s m args below meth c Q G φ z d C0 S0 ad0 lim0 E a i L S M κ r F EO CP ck h hκ hR ad H locs ls I hS
  obtain ⟨⟨hx, hb, hml, hown, hts⟩, ⟨hK, hA⟩, ⟨hfr, hlo⟩, hin, hao⟩ := F
  rcases S with _ | ⟨x0 | x0 | x0, _ | ⟨x1 | x1 | x1, S⟩⟩ <;> first | (cases h; done) | skip
  obtain ⟨h0, h⟩ := jb_cond0 h
  have h0 := jb_is0 h0
  obtain ⟨hd, hn⟩ := jc_d_of ck
  obtain ⟨o0, hS⟩ := List.forall_mem_cons.mp hS
  obtain ⟨o1, hS⟩ := List.forall_mem_cons.mp hS
  have w := (hκ _ _ _ _ h).2 ad H locs ls I (List.forall_mem_cons.mpr ⟨by rw [← jn_mod o1 o0]; exact jn_r _, hS⟩)
  rw [hn] at w
  refine lv_irem hx hb hd (jb_i0 o0 h0) ?_
  rw [jn_rem o1 o0]
  exact w

set_option maxHeartbeats 4000000 in
theorem jw_ineg : jb_SH jh_ineg jc_ineg := by
  intro p l e R s m args below meth c Q G φ z d C0 S0 ad0 lim0 E a i L S M κ r F EO CP ck h hκ hR ad H locs ls I hS
  obtain ⟨⟨hx, hb, hml, hown, hts⟩, ⟨hK, hA⟩, ⟨hfr, hlo⟩, hin, hao⟩ := F
  rcases S with _ | ⟨x0 | x0 | x0, S⟩ <;> first | (cases h; done) | skip
  obtain ⟨hd, hn⟩ := jc_d_of ck
  obtain ⟨o0, hS⟩ := List.forall_mem_cons.mp hS
  have w := (hκ _ _ _ _ h).2 ad H locs ls I (List.forall_mem_cons.mpr ⟨jn_w _, hS⟩)
  rw [hn] at w
  refine lv_ineg hx hb hd ?_
  rw [← jn_neg]
  exact w

set_option maxHeartbeats 4000000 in
theorem jw_lbin : jb_SH jh_lbin jc_lbin := by
  intro p l e R s m args below meth c Q G φ z d C0 S0 ad0 lim0 E a i L S M κ r F EO CP ck h hκ hR ad H locs ls I hS
  obtain ⟨⟨hx, hb, hml, hown, hts⟩, ⟨hK, hA⟩, ⟨hfr, hlo⟩, hin, hao⟩ := F
  rcases S with _ | ⟨x0 | x0 | x0, _ | ⟨x1 | x1 | x1, S⟩⟩ <;> first | (cases h; done) | skip
  obtain ⟨c9, ck⟩ := jb_and ck
  have c9 : a.2.1 < 5 := Nat.blt_eq.mp c9
  obtain ⟨hd, hn⟩ := jc_d_of ck
  obtain ⟨o0, hS⟩ := List.forall_mem_cons.mp hS
  obtain ⟨o1, hS⟩ := List.forall_mem_cons.mp hS
  have h : κ (i + 1) L (jl (ja_lb a.2.1 x1 x0) :: S) M = some r := h
  generalize a.2.1 = k at h hd c9
  rcases k with _ | _ | _ | _ | _ | k
  · have w := (hκ _ _ _ _ h).2 ad H locs ls I (List.forall_mem_cons.mpr ⟨jn_W _, hS⟩)
    rw [hn] at w
    refine lv_ladd hx hb hd ?_
    rw [← jn_ladd]
    exact w
  · have w := (hκ _ _ _ _ h).2 ad H locs ls I (List.forall_mem_cons.mpr ⟨jn_W _, hS⟩)
    rw [hn] at w
    refine lv_lsub hx hb hd ?_
    rw [← jn_lsub]
    exact w
  · have w := (hκ _ _ _ _ h).2 ad H locs ls I (List.forall_mem_cons.mpr ⟨jn_W _, hS⟩)
    rw [hn] at w
    refine lv_lmul hx hb hd ?_
    rw [← jn_lmul]
    exact w
  · have w := (hκ _ _ _ _ h).2 ad H locs ls I (List.forall_mem_cons.mpr ⟨jn_rl _, hS⟩)
    rw [hn] at w
    refine lv_land hx hb hd ?_
    rw [← jn_backl (Int64.ofInt x1 &&& Int64.ofInt x0)]
    exact w
  · have w := (hκ _ _ _ _ h).2 ad H locs ls I (List.forall_mem_cons.mpr ⟨jn_rl _, hS⟩)
    rw [hn] at w
    refine lv_lor hx hb hd ?_
    rw [← jn_backl (Int64.ofInt x1 ||| Int64.ofInt x0)]
    exact w
  · omega

set_option maxHeartbeats 4000000 in
theorem jw_ldiv : jb_SH jh_ldiv jc_ldiv := by
  intro p l e R s m args below meth c Q G φ z d C0 S0 ad0 lim0 E a i L S M κ r F EO CP ck h hκ hR ad H locs ls I hS
  obtain ⟨⟨hx, hb, hml, hown, hts⟩, ⟨hK, hA⟩, ⟨hfr, hlo⟩, hin, hao⟩ := F
  rcases S with _ | ⟨x0 | x0 | x0, _ | ⟨x1 | x1 | x1, S⟩⟩ <;> first | (cases h; done) | skip
  obtain ⟨h0, h⟩ := jb_cond0 h
  have h0 := jb_is0 h0
  obtain ⟨hd, hn⟩ := jc_d_of ck
  obtain ⟨o0, hS⟩ := List.forall_mem_cons.mp hS
  obtain ⟨o1, hS⟩ := List.forall_mem_cons.mp hS
  have w := (hκ _ _ _ _ h).2 ad H locs ls I (List.forall_mem_cons.mpr ⟨jn_W _, hS⟩)
  rw [hn] at w
  refine lv_ldiv hx hb hd (jb_l0 o0 h0) ?_
  rw [← jn_ldiv o1 o0]
  exact w

set_option maxHeartbeats 4000000 in
theorem jw_lrem : jb_SH jh_lrem jc_lrem := by
  intro p l e R s m args below meth c Q G φ z d C0 S0 ad0 lim0 E a i L S M κ r F EO CP ck h hκ hR ad H locs ls I hS
  obtain ⟨⟨hx, hb, hml, hown, hts⟩, ⟨hK, hA⟩, ⟨hfr, hlo⟩, hin, hao⟩ := F
  rcases S with _ | ⟨x0 | x0 | x0, _ | ⟨x1 | x1 | x1, S⟩⟩ <;> first | (cases h; done) | skip
  obtain ⟨h0, h⟩ := jb_cond0 h
  have h0 := jb_is0 h0
  obtain ⟨hd, hn⟩ := jc_d_of ck
  obtain ⟨o0, hS⟩ := List.forall_mem_cons.mp hS
  obtain ⟨o1, hS⟩ := List.forall_mem_cons.mp hS
  have w := (hκ _ _ _ _ h).2 ad H locs ls I (List.forall_mem_cons.mpr ⟨by show jb_ok (jl _); rw [← jn_lmod o1 o0]; exact jn_rl _, hS⟩)
  rw [hn] at w
  refine lv_lrem hx hb hd (jb_l0 o0 h0) ?_
  rw [jn_lrem o1 o0]
  exact w

set_option maxHeartbeats 4000000 in
theorem jw_lshl : jb_SH jh_lshl jc_lshl := by
  intro p l e R s m args below meth c Q G φ z d C0 S0 ad0 lim0 E a i L S M κ r F EO CP ck h hκ hR ad H locs ls I hS
  obtain ⟨⟨hx, hb, hml, hown, hts⟩, ⟨hK, hA⟩, ⟨hfr, hlo⟩, hin, hao⟩ := F
  rcases S with _ | ⟨x0 | x0 | x0, _ | ⟨x1 | x1 | x1, S⟩⟩ <;> first | (cases h; done) | skip
  obtain ⟨hd, hn⟩ := jc_d_of ck
  obtain ⟨o0, hS⟩ := List.forall_mem_cons.mp hS
  obtain ⟨o1, hS⟩ := List.forall_mem_cons.mp hS
  have w := (hκ _ _ _ _ h).2 ad H locs ls I (List.forall_mem_cons.mpr ⟨jn_rl _, hS⟩)
  rw [hn] at w
  exact lv_lshl hx hb hd (jn_backl _).symm w

set_option maxHeartbeats 4000000 in
theorem jw_lush : jb_SH jh_lush jc_lush := by
  intro p l e R s m args below meth c Q G φ z d C0 S0 ad0 lim0 E a i L S M κ r F EO CP ck h hκ hR ad H locs ls I hS
  obtain ⟨⟨hx, hb, hml, hown, hts⟩, ⟨hK, hA⟩, ⟨hfr, hlo⟩, hin, hao⟩ := F
  rcases S with _ | ⟨x0 | x0 | x0, _ | ⟨x1 | x1 | x1, S⟩⟩ <;> first | (cases h; done) | skip
  obtain ⟨hd, hn⟩ := jc_d_of ck
  obtain ⟨o0, hS⟩ := List.forall_mem_cons.mp hS
  obtain ⟨o1, hS⟩ := List.forall_mem_cons.mp hS
  have w := (hκ _ _ _ _ h).2 ad H locs ls I (List.forall_mem_cons.mpr ⟨jn_rl _, hS⟩)
  rw [hn] at w
  exact lv_lushr hx hb hd (jn_backl _).symm w

set_option maxHeartbeats 4000000 in
theorem jw_i2l : jb_SH jh_i2l jc_i2l := by
  intro p l e R s m args below meth c Q G φ z d C0 S0 ad0 lim0 E a i L S M κ r F EO CP ck h hκ hR ad H locs ls I hS
  obtain ⟨⟨hx, hb, hml, hown, hts⟩, ⟨hK, hA⟩, ⟨hfr, hlo⟩, hin, hao⟩ := F
  rcases S with _ | ⟨x0 | x0 | x0, S⟩ <;> first | (cases h; done) | skip
  obtain ⟨hd, hn⟩ := jc_d_of ck
  obtain ⟨o0, hS⟩ := List.forall_mem_cons.mp hS
  have w := (hκ _ _ _ _ h).2 ad H locs ls I (List.forall_mem_cons.mpr ⟨(show jb_ok (jl x0) by have := o0; unfold jb_ok at *; simp only at *; omega), hS⟩)
  rw [hn] at w
  exact lv_i2l hx hb hd (jn_i2l o0) w

set_option maxHeartbeats 4000000 in
theorem jw_l2i : jb_SH jh_l2i jc_l2i := by
  intro p l e R s m args below meth c Q G φ z d C0 S0 ad0 lim0 E a i L S M κ r F EO CP ck h hκ hR ad H locs ls I hS
  obtain ⟨⟨hx, hb, hml, hown, hts⟩, ⟨hK, hA⟩, ⟨hfr, hlo⟩, hin, hao⟩ := F
  rcases S with _ | ⟨x0 | x0 | x0, S⟩ <;> first | (cases h; done) | skip
  obtain ⟨hd, hn⟩ := jc_d_of ck
  obtain ⟨o0, hS⟩ := List.forall_mem_cons.mp hS
  have w := (hκ _ _ _ _ h).2 ad H locs ls I (List.forall_mem_cons.mpr ⟨jn_w _, hS⟩)
  rw [hn] at w
  exact lv_l2i hx hb hd (jn_l2i o0) w

set_option maxHeartbeats 4000000 in
theorem jw_lcmp : jb_SH jh_lcmp jc_lcmp := by
  intro p l e R s m args below meth c Q G φ z d C0 S0 ad0 lim0 E a i L S M κ r F EO CP ck h hκ hR ad H locs ls I hS
  obtain ⟨⟨hx, hb, hml, hown, hts⟩, ⟨hK, hA⟩, ⟨hfr, hlo⟩, hin, hao⟩ := F
  rcases S with _ | ⟨x0 | x0 | x0, _ | ⟨x1 | x1 | x1, S⟩⟩ <;> first | (cases h; done) | skip
  obtain ⟨hd, hn⟩ := jc_d_of ck
  obtain ⟨o0, hS⟩ := List.forall_mem_cons.mp hS
  obtain ⟨o1, hS⟩ := List.forall_mem_cons.mp hS
  have hb3 : jb_ok (ji (if x1 < x0 then -1 else if x1 = x0 then 0 else 1)) := by
    unfold jb_ok
    simp only
    split
    · omega
    · split <;> omega
  have w := (hκ _ _ _ _ h).2 ad H locs ls I (List.forall_mem_cons.mpr ⟨hb3, hS⟩)
  rw [hn] at w
  refine W.lcmp hx hb hd ?_
  have e : lg_cmp (Int64.ofInt x1) (Int64.ofInt x0) = Int32.ofInt (if x1 < x0 then -1 else if x1 = x0 then 0 else 1) := by
    unfold lg_cmp
    have e1 : (Int64.ofInt x1 > Int64.ofInt x0) ↔ x0 < x1 := by
      show Int64.ofInt x0 < Int64.ofInt x1 ↔ _
      rw [Int64.lt_iff_toInt_lt, jn_l o0, jn_l o1]
    have e2 : (Int64.ofInt x1 = Int64.ofInt x0) ↔ x1 = x0 := by
      rw [← Int64.toInt_inj, jn_l o0, jn_l o1]
    rcases Int.lt_trichotomy x1 x0 with q | q | q
    · rw [if_neg (fun w => by have := e1.mp w; omega), if_neg (fun w => by have := e2.mp w; omega), if_pos q]
      rfl
    · rw [if_neg (fun w => by have := e1.mp w; omega), if_pos (e2.mpr q), if_neg (by omega), if_pos q]
      rfl
    · rw [if_pos (e1.mpr q), if_neg (by omega), if_neg (by omega)]
      rfl
  rw [e]
  exact w

set_option maxHeartbeats 4000000 in
theorem jw_icmp : jb_SH jh_icmp jc_icmp := by
  intro p l e R s m args below meth c Q G φ z d C0 S0 ad0 lim0 E a i L S M κ r F EO CP ck h hκ hR ad H locs ls I hS
  obtain ⟨⟨hx, hb, hml, hown, hts⟩, ⟨hK, hA⟩, ⟨hfr, hlo⟩, hin, hao⟩ := F
  rcases S with _ | ⟨x0 | x0 | x0, _ | ⟨x1 | x1 | x1, S⟩⟩ <;> first | (cases h; done) | skip
  obtain ⟨hd, hn⟩ := jc_d_of ck
  obtain ⟨o0, hS⟩ := List.forall_mem_cons.mp hS
  obtain ⟨o1, hS⟩ := List.forall_mem_cons.mp hS
  have ht := jc_off_eq z i a.2.2.1
  have h : ja_cmp a.2.1 x1 x0 (κ a.2.2.1 L S M) (κ (i + 1) L S M) = some r := h
  have wt : κ a.2.2.1 L S M = some r → _ := fun h => (hκ _ _ _ _ h).2 ad H locs ls I hS
  have wf : κ (i + 1) L S M = some r → _ := fun h => (hκ _ _ _ _ h).2 ad H locs ls I hS
  rw [hn] at wf
  have ee := jn_eq o1 o0
  have el := jn_lt o1 o0
  have eg := jn_lt o0 o1
  have el2 := jn_le o1 o0
  have eg2 := jn_le o0 o1
  generalize a.2.1 = k at h hd
  unfold ja_cmp at h
  unfold jc_icI at hd
  rcases k with _ | _ | _ | _ | _ | k
  · exact lv_icmp_eq hx hb hd ht (fun q => wt (by simpa [ee.mp q] using h)) (fun q => wf (by simpa [show ¬ x1 = x0 from fun w => q (ee.mpr w)] using h))
  · exact lv_icmp_ne hx hb hd ht (fun q => wt (by simpa [show ¬ x1 = x0 from fun w => q (ee.mpr w)] using h)) (fun q => wf (by have q2 : x1 = x0 := ee.mp q; simpa [q2] using h))
  · exact lv_icmp_lt hx hb hd ht (fun q => wt (by simpa [el.mp q] using h)) (fun q => wf (by simpa [show ¬ x1 < x0 from fun w => q (el.mpr w)] using h))
  · exact lv_icmp_ge hx hb hd ht (fun q => wt (by simpa [show ¬ x1 < x0 from Int.not_lt.mpr (eg2.mp q)] using h)) (fun q => wf (by simpa [show x1 < x0 from Int.not_le.mp (fun w => q (eg2.mpr w))] using h))
  · exact lv_icmp_gt hx hb hd ht (fun q => wt (by simpa [eg.mp q] using h)) (fun q => wf (by simpa [show ¬ x0 < x1 from fun w => q (eg.mpr w)] using h))
  · exact lv_icmp_le hx hb hd ht (fun q => wt (by simpa [show ¬ x0 < x1 from Int.not_lt.mpr (el2.mp q)] using h)) (fun q => wf (by simpa [show x0 < x1 from Int.not_le.mp (fun w => q (el2.mpr w))] using h))

set_option maxHeartbeats 4000000 in
theorem jw_ifz : jb_SH jh_ifz jc_ifz := by
  intro p l e R s m args below meth c Q G φ z d C0 S0 ad0 lim0 E a i L S M κ r F EO CP ck h hκ hR ad H locs ls I hS
  obtain ⟨⟨hx, hb, hml, hown, hts⟩, ⟨hK, hA⟩, ⟨hfr, hlo⟩, hin, hao⟩ := F
  rcases S with _ | ⟨x0 | x0 | x0, S⟩ <;> first | (cases h; done) | skip
  obtain ⟨hd, hn⟩ := jc_d_of ck
  obtain ⟨o0, hS⟩ := List.forall_mem_cons.mp hS
  have ht := jc_off_eq z i a.2.2.1
  have h : ja_cmp a.2.1 x0 0 (κ a.2.2.1 L S M) (κ (i + 1) L S M) = some r := h
  have wt : κ a.2.2.1 L S M = some r → _ := fun h => (hκ _ _ _ _ h).2 ad H locs ls I hS
  have wf : κ (i + 1) L S M = some r → _ := fun h => (hκ _ _ _ _ h).2 ad H locs ls I hS
  rw [hn] at wf
  have hz : Int32.ofInt 0 = 0 := rfl
  have ee := jn_eq o0 (show jb_ok (ji 0) from ⟨by decide, by decide⟩)
  have el := jn_lt o0 (show jb_ok (ji 0) from ⟨by decide, by decide⟩)
  have eg := jn_lt (show jb_ok (ji 0) from ⟨by decide, by decide⟩) o0
  have el2 := jn_le o0 (show jb_ok (ji 0) from ⟨by decide, by decide⟩)
  have eg2 := jn_le (show jb_ok (ji 0) from ⟨by decide, by decide⟩) o0
  rw [hz] at ee el eg el2 eg2
  generalize a.2.1 = k at h hd
  unfold ja_cmp at h
  unfold jc_izI at hd
  rcases k with _ | _ | _ | _ | _ | k
  · exact lv_if_eq hx hb hd ht (fun q => wt (by simpa [ee.mp q] using h)) (fun q => wf (by simpa [show ¬ x0 = 0 from fun w => q (ee.mpr w)] using h))
  · exact lv_if_ne hx hb hd ht (fun q => wt (by simpa [show ¬ x0 = 0 from fun w => q (ee.mpr w)] using h)) (fun q => wf (by have q2 : x0 = 0 := ee.mp q; simpa [q2] using h))
  · exact lv_if_lt hx hb hd ht (fun q => wt (by simpa [el.mp q] using h)) (fun q => wf (by simpa [show ¬ x0 < 0 from fun w => q (el.mpr w)] using h))
  · exact lv_if_ge hx hb hd ht (fun q => wt (by simpa [show ¬ x0 < 0 from Int.not_lt.mpr (eg2.mp q)] using h)) (fun q => wf (by simpa [show x0 < 0 from Int.not_le.mp (fun w => q (eg2.mpr w))] using h))
  · exact lv_if_gt hx hb hd ht (fun q => wt (by simpa [eg.mp q] using h)) (fun q => wf (by simpa [show ¬ 0 < x0 from fun w => q (eg.mpr w)] using h))
  · exact lv_if_le hx hb hd ht (fun q => wt (by simpa [show ¬ 0 < x0 from Int.not_lt.mpr (el2.mp q)] using h)) (fun q => wf (by simpa [show 0 < x0 from Int.not_le.mp (fun w => q (el2.mpr w))] using h))

set_option maxHeartbeats 4000000 in
theorem jw_ifnull : jb_SH jh_ifnull jc_ifnull := by
  intro p l e R s m args below meth c Q G φ z d C0 S0 ad0 lim0 E a i L S M κ r F EO CP ck h hκ hR ad H locs ls I hS
  obtain ⟨⟨hx, hb, hml, hown, hts⟩, ⟨hK, hA⟩, ⟨hfr, hlo⟩, hin, hao⟩ := F
  rcases S with _ | ⟨x0 | x0 | x0, S⟩ <;> first | (cases h; done) | skip
  obtain ⟨hd, hn⟩ := jc_d_of ck
  replace hS := (List.forall_mem_cons.mp hS).2
  clear hR EO
  have ht := jc_off_eq z i a.2.2.1
  have h : (if x0 = 0 then κ a.2.2.1 L S M else κ (i + 1) L S M) = some r := h
  cases x0 with
  | zero =>
    have h : κ a.2.2.1 L S M = some r := h
    exact lv_ifnullN hx hb hd ht ((hκ _ _ _ _ h).2 ad H locs ls I hS)
  | succ x0 =>
    have h : κ (i + 1) L S M = some r := h
    have w := (hκ _ _ _ _ h).2 ad H locs ls I hS
    rw [hn] at w
    exact lv_ifnull hx hb hd w

set_option maxHeartbeats 4000000 in
theorem jw_ifnon : jb_SH jh_ifnon jc_ifnon := by
  intro p l e R s m args below meth c Q G φ z d C0 S0 ad0 lim0 E a i L S M κ r F EO CP ck h hκ hR ad H locs ls I hS
  obtain ⟨⟨hx, hb, hml, hown, hts⟩, ⟨hK, hA⟩, ⟨hfr, hlo⟩, hin, hao⟩ := F
  rcases S with _ | ⟨x0 | x0 | x0, S⟩ <;> first | (cases h; done) | skip
  obtain ⟨hd, hn⟩ := jc_d_of ck
  replace hS := (List.forall_mem_cons.mp hS).2
  have ht := jc_off_eq z i a.2.2.1
  have h : (if x0 = 0 then κ (i + 1) L S M else κ a.2.2.1 L S M) = some r := h
  cases x0 with
  | zero =>
    have h : κ (i + 1) L S M = some r := h
    have w := (hκ _ _ _ _ h).2 ad H locs ls I hS
    rw [hn] at w
    exact lv_ifnonnullN hx hb hd w
  | succ x0 =>
    have h : κ a.2.2.1 L S M = some r := h
    exact lv_ifnonnull hx hb hd ht ((hκ _ _ _ _ h).2 ad H locs ls I hS)

set_option maxHeartbeats 4000000 in
theorem jw_goto : jb_SH jh_goto jc_goto := by
  intro p l e R s m args below meth c Q G φ z d C0 S0 ad0 lim0 E a i L S M κ r F EO CP ck h hκ hR ad H locs ls I hS
  obtain ⟨⟨hx, hb, hml, hown, hts⟩, ⟨hK, hA⟩, ⟨hfr, hlo⟩, hin, hao⟩ := F
  have hd := of_decide_eq_true ck
  have h : κ a.2.2.1 L S M = some r := h
  exact lv_goto hx hb hd (jc_off_eq z i a.2.2.1) ((hκ _ _ _ _ h).2 ad H locs ls I hS)

set_option maxHeartbeats 4000000 in
theorem jw_dup : jb_SH jh_dup jc_dup := by
  intro p l e R s m args below meth c Q G φ z d C0 S0 ad0 lim0 E a i L S M κ r F EO CP ck h hκ hR ad H locs ls I hS
  obtain ⟨⟨hx, hb, hml, hown, hts⟩, ⟨hK, hA⟩, ⟨hfr, hlo⟩, hin, hao⟩ := F
  obtain ⟨hd, hn⟩ := jc_d_of ck
  rcases S with _ | ⟨x | x | x, S⟩ <;> first | (cases h; done) | skip
  · obtain ⟨o0, hS⟩ := List.forall_mem_cons.mp hS
    have w := (hκ _ _ _ _ h).2 ad H locs ls I (List.forall_mem_cons.mpr ⟨o0, List.forall_mem_cons.mpr ⟨o0, hS⟩⟩)
    rw [hn] at w
    exact lv_dup hx hb hd rfl w
  · obtain ⟨o0, hS⟩ := List.forall_mem_cons.mp hS
    have w := (hκ _ _ _ _ h).2 ad H locs ls I (List.forall_mem_cons.mpr ⟨o0, List.forall_mem_cons.mpr ⟨o0, hS⟩⟩)
    rw [hn] at w
    exact lv_dup hx hb hd (jb_cat ad (jr x)) w

set_option maxHeartbeats 4000000 in
theorem jw_dup2 : jb_SH jh_dup2 jc_dup2 := by
  intro p l e R s m args below meth c Q G φ z d C0 S0 ad0 lim0 E a i L S M κ r F EO CP ck h hκ hR ad H locs ls I hS
  obtain ⟨⟨hx, hb, hml, hown, hts⟩, ⟨hK, hA⟩, ⟨hfr, hlo⟩, hin, hao⟩ := F
  obtain ⟨hd, hn⟩ := jc_d_of ck
  rcases S with _ | ⟨x | x | x, _ | ⟨y | y | y, S⟩⟩ <;> first | (cases h; done) | skip
  · obtain ⟨o0, hS⟩ := List.forall_mem_cons.mp hS
    obtain ⟨o1, hS⟩ := List.forall_mem_cons.mp hS
    have w := (hκ _ _ _ _ h).2 ad H locs ls I (List.forall_mem_cons.mpr ⟨o0, List.forall_mem_cons.mpr ⟨o1, List.forall_mem_cons.mpr ⟨o0, List.forall_mem_cons.mpr ⟨o1, hS⟩⟩⟩⟩)
    rw [hn] at w
    exact lv_dup2_11 hx hb hd rfl rfl w
  · obtain ⟨o0, hS⟩ := List.forall_mem_cons.mp hS
    obtain ⟨o1, hS⟩ := List.forall_mem_cons.mp hS
    have w := (hκ _ _ _ _ h).2 ad H locs ls I (List.forall_mem_cons.mpr ⟨o0, List.forall_mem_cons.mpr ⟨o1, List.forall_mem_cons.mpr ⟨o0, List.forall_mem_cons.mpr ⟨o1, hS⟩⟩⟩⟩)
    rw [hn] at w
    exact lv_dup2_11 hx hb hd rfl (jb_cat ad (jr y)) w

set_option maxHeartbeats 4000000 in
theorem jw_pop : jb_SH jh_pop jc_pop := by
  intro p l e R s m args below meth c Q G φ z d C0 S0 ad0 lim0 E a i L S M κ r F EO CP ck h hκ hR ad H locs ls I hS
  obtain ⟨⟨hx, hb, hml, hown, hts⟩, ⟨hK, hA⟩, ⟨hfr, hlo⟩, hin, hao⟩ := F
  obtain ⟨hd, hn⟩ := jc_d_of ck
  rcases S with _ | ⟨x | x | x, S⟩ <;> first | (cases h; done) | skip
  · obtain ⟨o0, hS⟩ := List.forall_mem_cons.mp hS
    have w := (hκ _ _ _ _ h).2 ad H locs ls I hS
    rw [hn] at w
    exact lv_pop hx hb hd rfl w
  · obtain ⟨o0, hS⟩ := List.forall_mem_cons.mp hS
    have w := (hκ _ _ _ _ h).2 ad H locs ls I hS
    rw [hn] at w
    exact lv_pop hx hb hd (jb_cat ad (jr x)) w
