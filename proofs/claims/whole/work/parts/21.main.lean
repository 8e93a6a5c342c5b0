/-! the walk of a whole method; every call by its answer in the small machine -/
def jp_ok (a : ja_I) : Bool := cond (Nat.ble 27 a.1 && Nat.ble a.1 30) (!(Nat.beq a.2.1 111)) (cond (Nat.beq a.1 40) (Nat.blt a.2.1 13 && !(Nat.beq a.2.2.1 0)) (cond (Nat.beq a.1 41) (Nat.ble 100 a.2.1 && Nat.ble a.2.1 102) true))
theorem jp_oks : ∀ y, y < 303 → (ja_code y).all jp_ok = true := by decide +kernel
theorem ja_codes_len : ja_codes.length = 303 := by decide +kernel
theorem ja_code_out {y : Nat} (h : 303 ≤ y) : ja_code y = [] := ja_nth_out ja_codes y [] (by rw [ja_codes_len]; exact h)
set_option maxRecDepth 20000 in
set_option maxHeartbeats 4000000 in
theorem jp_h (φ : Bool) (E : ja_E) (hE : ∀ y as M r, E y as M = some r → jb_gr M r.2) (a : ja_I) (ho : jp_ok a = true) (i : Nat) (L : ja_L) (S : List ja_V) (M : ja_M) : jp_T M (ja_h φ E a i L S M) := by
  obtain ⟨op, a, n, b, t, ms⟩ := a
  rcases op with _ | _ | _ | _ | _ | _ | _ | _ | _ | _ | _ | _ | _ | _ | _ | _ | _ | _ | _ | _ | _ | _ | _ | _ | _ | _ | _ | _ | _ | _ | _ | _ | _ | _ | _ | _ | _ | _ | _ | _ | _ | _ | _ | _ | _ | _ | _ | _ | _ | _ | _ | _ | _ | _ | _ | _ | _ | _ | _ | _ | _ | _ | k
  · exact jp_load φ E hE (0, a, n, b, t, ms) i L S M
  · exact jp_ipush φ E hE (1, a, n, b, t, ms) i L S M
  · exact jp_lpush φ E hE (2, a, n, b, t, ms) i L S M
  · exact jp_st1 φ E hE (3, a, n, b, t, ms) i L S M
  · exact jp_st2 φ E hE (4, a, n, b, t, ms) i L S M
  · exact jp_iinc φ E hE (5, a, n, b, t, ms) i L S M
  · exact jp_ibin φ E hE (6, a, n, b, t, ms) i L S M
  · exact jp_idiv φ E hE (7, a, n, b, t, ms) i L S M
  · exact jp_irem φ E hE (8, a, n, b, t, ms) i L S M
  · exact jp_ineg φ E hE (9, a, n, b, t, ms) i L S M
  · exact jp_lbin φ E hE (10, a, n, b, t, ms) i L S M
  · exact jp_ldiv φ E hE (11, a, n, b, t, ms) i L S M
  · exact jp_lrem φ E hE (12, a, n, b, t, ms) i L S M
  · exact jp_lshl φ E hE (13, a, n, b, t, ms) i L S M
  · exact jp_lush φ E hE (14, a, n, b, t, ms) i L S M
  · exact jp_i2l φ E hE (15, a, n, b, t, ms) i L S M
  · exact jp_l2i φ E hE (16, a, n, b, t, ms) i L S M
  · exact jp_lcmp φ E hE (17, a, n, b, t, ms) i L S M
  · exact jp_icmp φ E hE (18, a, n, b, t, ms) i L S M
  · exact jp_ifz φ E hE (19, a, n, b, t, ms) i L S M
  · exact jp_ifnull φ E hE (20, a, n, b, t, ms) i L S M
  · exact jp_ifnon φ E hE (21, a, n, b, t, ms) i L S M
  · exact jp_goto φ E hE (22, a, n, b, t, ms) i L S M
  · exact jp_switch φ E hE (23, a, n, b, t, ms) i L S M
  · exact jp_getI φ E hE (24, a, n, b, t, ms) i L S M
  · exact jp_getL φ E hE (25, a, n, b, t, ms) i L S M
  · exact jp_getR φ E hE (26, a, n, b, t, ms) i L S M
  · exact jp_putI φ E hE (27, a, n, b, t, ms) (by intro q; have q : a = 111 := q; subst q; cases ho) i L S M
  · exact jp_putZ φ E hE (28, a, n, b, t, ms) (by intro q; have q : a = 111 := q; subst q; cases ho) i L S M
  · exact jp_putL φ E hE (29, a, n, b, t, ms) (by intro q; have q : a = 111 := q; subst q; cases ho) i L S M
  · exact jp_putR φ E hE (30, a, n, b, t, ms) (by intro q; have q : a = 111 := q; subst q; cases ho) i L S M
  · exact jp_static φ E hE (31, a, n, b, t, ms) i L S M
  · exact jp_iald φ E hE (32, a, n, b, t, ms) i L S M
  · exact jp_bald φ E hE (33, a, n, b, t, ms) i L S M
  · exact jp_lald φ E hE (34, a, n, b, t, ms) i L S M
  · exact jp_aald φ E hE (35, a, n, b, t, ms) i L S M
  · exact jp_iast φ E hE (36, a, n, b, t, ms) i L S M
  · exact jp_bast φ E hE (37, a, n, b, t, ms) i L S M
  · exact jp_last φ E hE (38, a, n, b, t, ms) i L S M
  · exact jp_alen φ E hE (39, a, n, b, t, ms) i L S M
  · exact jp_new φ E hE (40, a, n, b, t, ms) (Nat.blt_eq.mp (jb_and ho).1) (by intro q; have q : n = 0 := q; subst q; have := (jb_and ho).2; cases this) i L S M
  · exact jp_newa φ E hE (41, a, n, b, t, ms) ⟨Nat.le_of_ble_eq_true (jb_and ho).1, Nat.le_of_ble_eq_true (jb_and ho).2⟩ i L S M
  · exact jp_newm φ E hE (42, a, n, b, t, ms) i L S M
  · exact jp_callV φ E hE (43, a, n, b, t, ms) i L S M
  · exact jp_callS φ E hE (44, a, n, b, t, ms) i L S M
  · exact jp_callI φ E hE (45, a, n, b, t, ms) i L S M
  · exact jp_objI φ E hE (46, a, n, b, t, ms) i L S M
  · exact jp_iret φ E hE (47, a, n, b, t, ms) i L S M
  · exact jp_zret φ E hE (48, a, n, b, t, ms) i L S M
  · exact jp_lret φ E hE (49, a, n, b, t, ms) i L S M
  · exact jp_aret φ E hE (50, a, n, b, t, ms) i L S M
  · exact jp_vret φ E hE (51, a, n, b, t, ms) i L S M
  · exact jp_dup φ E hE (52, a, n, b, t, ms) i L S M
  · exact jp_dup2 φ E hE (53, a, n, b, t, ms) i L S M
  · exact jp_pop φ E hE (54, a, n, b, t, ms) i L S M
  · exact jp_copy φ E hE (55, a, n, b, t, ms) i L S M
  · exact jp_place φ E hE (56, a, n, b, t, ms) i L S M
  · exact jp_mmax φ E hE (57, a, n, b, t, ms) i L S M
  · exact jp_mmin φ E hE (58, a, n, b, t, ms) i L S M
  · exact jp_mabs φ E hE (59, a, n, b, t, ms) i L S M
  · exact jp_lmax φ E hE (60, a, n, b, t, ms) i L S M
  · exact jp_lmin φ E hE (61, a, n, b, t, ms) i L S M
  · exact Or.inl ⟨none, fun κ => by
      show ja_nth ja_hs (k + 62) jh_none φ E _ i L S M κ = none
      rw [ja_nth_out ja_hs (k + 62) jh_none (by show 62 ≤ _; omega)]
      rfl, fun _ h => by cases h⟩
theorem jp_row0 : jp_ok ja_row0 = true := rfl
theorem ja_nthAll {c : List ja_I} (h : c.all jp_ok = true) (i : Nat) : jp_ok (ja_nth c i ja_row0) = true := ja_nthP (P := fun a => jp_ok a = true) jp_row0 c (fun x hx => List.all_eq_true.mp h x hx) i
theorem jp_it (φ : Bool) (E : ja_E) (hE : ∀ y as M r, E y as M = some r → jb_gr M r.2) (c : List ja_I) (hc : c.all jp_ok = true) : ∀ (n i : Nat) (L : ja_L) (S : List ja_V) (M : ja_M) (r : ja_R), ja_it φ E c n i L S M = some r → jb_gr M r.2
  | 0, _, _, _, _, _, h => by cases h
  | n + 1, i, L, S, M, r, h => by
    have h : ja_step φ E c (ja_it φ E c n) i L S M = some r := h
    rw [ja_step_eq] at h
    rcases jp_h φ E hE _ (ja_nthAll hc i) i (ja_mask (ja_nth c i ja_row0).2.2.2.2.2 L) S M with ⟨o, h1, h2⟩ | ⟨i', L', S', M', h1, h2⟩
    · exact h2 r ((h1 _).symm.trans h)
    · exact h2.tr (jp_it φ E hE c hc n i' L' S' M' r ((h1 _).symm.trans h))
theorem jp_x (φ : Bool) : ∀ (d y : Nat) (as : List ja_V) (M : ja_M) (r : ja_R), ja_x φ d y as M = some r → jb_gr M r.2
  | 0, _, _, _, _, h => by cases h
  | d + 1, y, as, M, r, h => by
    rw [ja_x_eq] at h
    obtain ⟨-, h⟩ := jb_cond h
    obtain ⟨n, hn⟩ := ja_D_ex h
    rcases Nat.lt_or_ge y 303 with q | q
    · exact jp_it φ (ja_x φ d) (jp_x φ d) (ja_code y) (jp_oks y q) n _ _ _ _ _ hn
    · rw [ja_code_out q] at hn
      exact jp_it φ (ja_x φ d) (jp_x φ d) [] rfl n _ _ _ _ _ hn
/-- as jb_SH2, at one walk -/
def jb_SHat (h : ja_H) (ck : jc_F) (p : Program) (l : Launch) (e : Env) (R : Room) (s : State) (m : MethodId) (args : Array Value) (below : List Frame) (meth : Method) (c : Code) (Q : State → Prop) (G : jb_G) (φ : Bool) (z d C0 S0 : Nat) (ad0 : Nat → Nat) (lim0 : Nat) : Prop := ∀ (E : ja_E) (a : ja_I) (i : Nat) (L : ja_L) (S : List ja_V) (M : ja_M) (κ : ja_K) (r : ja_R),
  jb_Fix p R s m args meth c G z d → jb_EOK l G φ d E → jb_Cap R C0 S0 r.2 → ck z i a = true → h φ E a i L S M κ = some r →
  (∀ i L S M, κ i L S M = some r → jb_gr M r.2 ∧ jb_Wat p l e R s m args below meth c Q G φ z C0 S0 ad0 lim0 i L S M) → jb_Ret p l e R s m args below meth c Q G φ z C0 S0 ad0 lim0 r → (φ = true → lim0 ≤ ja_N0) → jb_Wat p l e R s m args below meth c Q G φ z C0 S0 ad0 lim0 i L S M
/-- the steps of ja_it, but where κ answers -/
def ja_itK (φ : Bool) (E : ja_E) (c : List ja_I) (κ : ja_K) : Nat → ja_K
  | 0 => fun _ _ _ _ => none
  | n + 1 => fun i L S M => match κ i L S M with
    | some r => some r
    | none => ja_step φ E c (ja_itK φ E c κ n) i L S M
set_option maxRecDepth 20000 in
set_option maxHeartbeats 4000000 in
theorem jb_h {p : Program} {l : Launch} {e : Env} {R : Room} {s : State} {m : MethodId} {args : Array Value} {below : List Frame} {meth : Method} {c : Code} {Q : State → Prop} {G : jb_G} {φ : Bool} {z d C0 S0 : Nat} {ad0 : Nat → Nat} {lim0 : Nat} (hpl : jb_SHat jh_place jc_place p l e R s m args below meth c Q G φ z d C0 S0 ad0 lim0) : jb_SHat (fun φ E a i L S M κ => ja_h φ E a i L S M κ) jc_row p l e R s m args below meth c Q G φ z d C0 S0 ad0 lim0 := by
  intro E a i L S M κ r a1 a2 a3 ck h a6 a7 a8
  obtain ⟨op, a, n, b, t, ms⟩ := a
  rcases op with _ | _ | _ | _ | _ | _ | _ | _ | _ | _ | _ | _ | _ | _ | _ | _ | _ | _ | _ | _ | _ | _ | _ | _ | _ | _ | _ | _ | _ | _ | _ | _ | _ | _ | _ | _ | _ | _ | _ | _ | _ | _ | _ | _ | _ | _ | _ | _ | _ | _ | _ | _ | _ | _ | _ | _ | _ | _ | _ | _ | _ | _ | k
  · exact (jb_SH.to2 jw_load) p l e R s m args below meth c Q G φ z d C0 S0 ad0 lim0 E (0, a, n, b, t, ms) i L S M κ r a1 a2 a3 ck h a6 a7 a8
  · exact (jb_SH.to2 jw_ipush) p l e R s m args below meth c Q G φ z d C0 S0 ad0 lim0 E (1, a, n, b, t, ms) i L S M κ r a1 a2 a3 ck h a6 a7 a8
  · exact (jb_SH.to2 jw_lpush) p l e R s m args below meth c Q G φ z d C0 S0 ad0 lim0 E (2, a, n, b, t, ms) i L S M κ r a1 a2 a3 ck h a6 a7 a8
  · exact (jb_SH.to2 jw_st1) p l e R s m args below meth c Q G φ z d C0 S0 ad0 lim0 E (3, a, n, b, t, ms) i L S M κ r a1 a2 a3 ck h a6 a7 a8
  · exact (jb_SH.to2 jw_st2) p l e R s m args below meth c Q G φ z d C0 S0 ad0 lim0 E (4, a, n, b, t, ms) i L S M κ r a1 a2 a3 ck h a6 a7 a8
  · exact (jb_SH.to2 jw_iinc) p l e R s m args below meth c Q G φ z d C0 S0 ad0 lim0 E (5, a, n, b, t, ms) i L S M κ r a1 a2 a3 ck h a6 a7 a8
  · exact (jb_SH.to2 jw_ibin) p l e R s m args below meth c Q G φ z d C0 S0 ad0 lim0 E (6, a, n, b, t, ms) i L S M κ r a1 a2 a3 ck h a6 a7 a8
  · exact (jb_SH.to2 jw_idiv) p l e R s m args below meth c Q G φ z d C0 S0 ad0 lim0 E (7, a, n, b, t, ms) i L S M κ r a1 a2 a3 ck h a6 a7 a8
  · exact (jb_SH.to2 jw_irem) p l e R s m args below meth c Q G φ z d C0 S0 ad0 lim0 E (8, a, n, b, t, ms) i L S M κ r a1 a2 a3 ck h a6 a7 a8
  · exact (jb_SH.to2 jw_ineg) p l e R s m args below meth c Q G φ z d C0 S0 ad0 lim0 E (9, a, n, b, t, ms) i L S M κ r a1 a2 a3 ck h a6 a7 a8
  · exact (jb_SH.to2 jw_lbin) p l e R s m args below meth c Q G φ z d C0 S0 ad0 lim0 E (10, a, n, b, t, ms) i L S M κ r a1 a2 a3 ck h a6 a7 a8
  · exact (jb_SH.to2 jw_ldiv) p l e R s m args below meth c Q G φ z d C0 S0 ad0 lim0 E (11, a, n, b, t, ms) i L S M κ r a1 a2 a3 ck h a6 a7 a8
  · exact (jb_SH.to2 jw_lrem) p l e R s m args below meth c Q G φ z d C0 S0 ad0 lim0 E (12, a, n, b, t, ms) i L S M κ r a1 a2 a3 ck h a6 a7 a8
  · exact (jb_SH.to2 jw_lshl) p l e R s m args below meth c Q G φ z d C0 S0 ad0 lim0 E (13, a, n, b, t, ms) i L S M κ r a1 a2 a3 ck h a6 a7 a8
  · exact (jb_SH.to2 jw_lush) p l e R s m args below meth c Q G φ z d C0 S0 ad0 lim0 E (14, a, n, b, t, ms) i L S M κ r a1 a2 a3 ck h a6 a7 a8
  · exact (jb_SH.to2 jw_i2l) p l e R s m args below meth c Q G φ z d C0 S0 ad0 lim0 E (15, a, n, b, t, ms) i L S M κ r a1 a2 a3 ck h a6 a7 a8
  · exact (jb_SH.to2 jw_l2i) p l e R s m args below meth c Q G φ z d C0 S0 ad0 lim0 E (16, a, n, b, t, ms) i L S M κ r a1 a2 a3 ck h a6 a7 a8
  · exact (jb_SH.to2 jw_lcmp) p l e R s m args below meth c Q G φ z d C0 S0 ad0 lim0 E (17, a, n, b, t, ms) i L S M κ r a1 a2 a3 ck h a6 a7 a8
  · exact (jb_SH.to2 jw_icmp) p l e R s m args below meth c Q G φ z d C0 S0 ad0 lim0 E (18, a, n, b, t, ms) i L S M κ r a1 a2 a3 ck h a6 a7 a8
  · exact (jb_SH.to2 jw_ifz) p l e R s m args below meth c Q G φ z d C0 S0 ad0 lim0 E (19, a, n, b, t, ms) i L S M κ r a1 a2 a3 ck h a6 a7 a8
  · exact (jb_SH.to2 jw_ifnull) p l e R s m args below meth c Q G φ z d C0 S0 ad0 lim0 E (20, a, n, b, t, ms) i L S M κ r a1 a2 a3 ck h a6 a7 a8
  · exact (jb_SH.to2 jw_ifnon) p l e R s m args below meth c Q G φ z d C0 S0 ad0 lim0 E (21, a, n, b, t, ms) i L S M κ r a1 a2 a3 ck h a6 a7 a8
  · exact (jb_SH.to2 jw_goto) p l e R s m args below meth c Q G φ z d C0 S0 ad0 lim0 E (22, a, n, b, t, ms) i L S M κ r a1 a2 a3 ck h a6 a7 a8
  · exact (jb_SH.to2 jw_switch) p l e R s m args below meth c Q G φ z d C0 S0 ad0 lim0 E (23, a, n, b, t, ms) i L S M κ r a1 a2 a3 ck h a6 a7 a8
  · exact (jb_SH.to2 jw_getI) p l e R s m args below meth c Q G φ z d C0 S0 ad0 lim0 E (24, a, n, b, t, ms) i L S M κ r a1 a2 a3 ck h a6 a7 a8
  · exact (jb_SH.to2 jw_getL) p l e R s m args below meth c Q G φ z d C0 S0 ad0 lim0 E (25, a, n, b, t, ms) i L S M κ r a1 a2 a3 ck h a6 a7 a8
  · exact (jb_SH.to2 jw_getR) p l e R s m args below meth c Q G φ z d C0 S0 ad0 lim0 E (26, a, n, b, t, ms) i L S M κ r a1 a2 a3 ck h a6 a7 a8
  · exact (jb_SH.to2 jw_putI) p l e R s m args below meth c Q G φ z d C0 S0 ad0 lim0 E (27, a, n, b, t, ms) i L S M κ r a1 a2 a3 ck h a6 a7 a8
  · exact (jb_SH.to2 jw_putZ) p l e R s m args below meth c Q G φ z d C0 S0 ad0 lim0 E (28, a, n, b, t, ms) i L S M κ r a1 a2 a3 ck h a6 a7 a8
  · exact (jb_SH.to2 jw_putL) p l e R s m args below meth c Q G φ z d C0 S0 ad0 lim0 E (29, a, n, b, t, ms) i L S M κ r a1 a2 a3 ck h a6 a7 a8
  · exact (jb_SH.to2 jw_putR) p l e R s m args below meth c Q G φ z d C0 S0 ad0 lim0 E (30, a, n, b, t, ms) i L S M κ r a1 a2 a3 ck h a6 a7 a8
  · exact (jb_SH.to2 jw_static) p l e R s m args below meth c Q G φ z d C0 S0 ad0 lim0 E (31, a, n, b, t, ms) i L S M κ r a1 a2 a3 ck h a6 a7 a8
  · exact (jb_SH.to2 jw_iald) p l e R s m args below meth c Q G φ z d C0 S0 ad0 lim0 E (32, a, n, b, t, ms) i L S M κ r a1 a2 a3 ck h a6 a7 a8
  · exact (jb_SH.to2 jw_bald) p l e R s m args below meth c Q G φ z d C0 S0 ad0 lim0 E (33, a, n, b, t, ms) i L S M κ r a1 a2 a3 ck h a6 a7 a8
  · exact (jb_SH.to2 jw_lald) p l e R s m args below meth c Q G φ z d C0 S0 ad0 lim0 E (34, a, n, b, t, ms) i L S M κ r a1 a2 a3 ck h a6 a7 a8
  · exact (jb_SH.to2 jw_aald) p l e R s m args below meth c Q G φ z d C0 S0 ad0 lim0 E (35, a, n, b, t, ms) i L S M κ r a1 a2 a3 ck h a6 a7 a8
  · exact (jb_SH.to2 jw_iast) p l e R s m args below meth c Q G φ z d C0 S0 ad0 lim0 E (36, a, n, b, t, ms) i L S M κ r a1 a2 a3 ck h a6 a7 a8
  · exact (jb_SH.to2 jw_bast) p l e R s m args below meth c Q G φ z d C0 S0 ad0 lim0 E (37, a, n, b, t, ms) i L S M κ r a1 a2 a3 ck h a6 a7 a8
  · exact (jb_SH.to2 jw_last) p l e R s m args below meth c Q G φ z d C0 S0 ad0 lim0 E (38, a, n, b, t, ms) i L S M κ r a1 a2 a3 ck h a6 a7 a8
  · exact (jb_SH.to2 jw_alen) p l e R s m args below meth c Q G φ z d C0 S0 ad0 lim0 E (39, a, n, b, t, ms) i L S M κ r a1 a2 a3 ck h a6 a7 a8
  · exact (jw_new) p l e R s m args below meth c Q G φ z d C0 S0 ad0 lim0 E (40, a, n, b, t, ms) i L S M κ r a1 a2 a3 ck h a6 a7 a8
  · exact (jw_newa) p l e R s m args below meth c Q G φ z d C0 S0 ad0 lim0 E (41, a, n, b, t, ms) i L S M κ r a1 a2 a3 ck h a6 a7 a8
  · exact (jw_newm) p l e R s m args below meth c Q G φ z d C0 S0 ad0 lim0 E (42, a, n, b, t, ms) i L S M κ r a1 a2 a3 ck h a6 a7 a8
  · exact (jw_callV) p l e R s m args below meth c Q G φ z d C0 S0 ad0 lim0 E (43, a, n, b, t, ms) i L S M κ r a1 a2 a3 ck h a6 a7 a8
  · exact (jw_callS) p l e R s m args below meth c Q G φ z d C0 S0 ad0 lim0 E (44, a, n, b, t, ms) i L S M κ r a1 a2 a3 ck h a6 a7 a8
  · exact (jw_callI) p l e R s m args below meth c Q G φ z d C0 S0 ad0 lim0 E (45, a, n, b, t, ms) i L S M κ r a1 a2 a3 ck h a6 a7 a8
  · exact (jb_SH.to2 jw_objI) p l e R s m args below meth c Q G φ z d C0 S0 ad0 lim0 E (46, a, n, b, t, ms) i L S M κ r a1 a2 a3 ck h a6 a7 a8
  · exact (jb_SH.to2 jw_iret) p l e R s m args below meth c Q G φ z d C0 S0 ad0 lim0 E (47, a, n, b, t, ms) i L S M κ r a1 a2 a3 ck h a6 a7 a8
  · exact (jb_SH.to2 jw_zret) p l e R s m args below meth c Q G φ z d C0 S0 ad0 lim0 E (48, a, n, b, t, ms) i L S M κ r a1 a2 a3 ck h a6 a7 a8
  · exact (jb_SH.to2 jw_lret) p l e R s m args below meth c Q G φ z d C0 S0 ad0 lim0 E (49, a, n, b, t, ms) i L S M κ r a1 a2 a3 ck h a6 a7 a8
  · exact (jb_SH.to2 jw_aret) p l e R s m args below meth c Q G φ z d C0 S0 ad0 lim0 E (50, a, n, b, t, ms) i L S M κ r a1 a2 a3 ck h a6 a7 a8
  · exact (jb_SH.to2 jw_vret) p l e R s m args below meth c Q G φ z d C0 S0 ad0 lim0 E (51, a, n, b, t, ms) i L S M κ r a1 a2 a3 ck h a6 a7 a8
  · exact (jb_SH.to2 jw_dup) p l e R s m args below meth c Q G φ z d C0 S0 ad0 lim0 E (52, a, n, b, t, ms) i L S M κ r a1 a2 a3 ck h a6 a7 a8
  · exact (jb_SH.to2 jw_dup2) p l e R s m args below meth c Q G φ z d C0 S0 ad0 lim0 E (53, a, n, b, t, ms) i L S M κ r a1 a2 a3 ck h a6 a7 a8
  · exact (jb_SH.to2 jw_pop) p l e R s m args below meth c Q G φ z d C0 S0 ad0 lim0 E (54, a, n, b, t, ms) i L S M κ r a1 a2 a3 ck h a6 a7 a8
  · exact (jw_copy) p l e R s m args below meth c Q G φ z d C0 S0 ad0 lim0 E (55, a, n, b, t, ms) i L S M κ r a1 a2 a3 ck h a6 a7 a8
  · exact hpl E (56, a, n, b, t, ms) i L S M κ r a1 a2 a3 ck h a6 a7 a8
  · exact (jb_SH.to2 jw_mmax) p l e R s m args below meth c Q G φ z d C0 S0 ad0 lim0 E (57, a, n, b, t, ms) i L S M κ r a1 a2 a3 ck h a6 a7 a8
  · exact (jb_SH.to2 jw_mmin) p l e R s m args below meth c Q G φ z d C0 S0 ad0 lim0 E (58, a, n, b, t, ms) i L S M κ r a1 a2 a3 ck h a6 a7 a8
  · exact (jb_SH.to2 jw_mabs) p l e R s m args below meth c Q G φ z d C0 S0 ad0 lim0 E (59, a, n, b, t, ms) i L S M κ r a1 a2 a3 ck h a6 a7 a8
  · exact (jb_SH.to2 jw_lmax) p l e R s m args below meth c Q G φ z d C0 S0 ad0 lim0 E (60, a, n, b, t, ms) i L S M κ r a1 a2 a3 ck h a6 a7 a8
  · exact (jb_SH.to2 jw_lmin) p l e R s m args below meth c Q G φ z d C0 S0 ad0 lim0 E (61, a, n, b, t, ms) i L S M κ r a1 a2 a3 ck h a6 a7 a8
  · have e : ja_h φ E (k + 62, a, n, b, t, ms) i L S M κ = none := by
      show ja_nth ja_hs (k + 62) jh_none φ E _ i L S M κ = none
      rw [ja_nth_out ja_hs (k + 62) jh_none (by show 62 ≤ _; omega)]
      rfl
    have h : ja_h φ E (k + 62, a, n, b, t, ms) i L S M κ = some r := h
    rw [e] at h
    cases h
theorem jb_I_mask {G : jb_G} {φ : Bool} {s : State} {nL C0 S0 : Nat} {ad0 : Nat → Nat} {lim0 : Nat} {ad : Nat → Nat} {M : ja_M} {H : Heap} {locs : List Loc} {L : ja_L} {ls : Array Slot} (bs : List Bool) (I : jb_I G φ s nL C0 S0 ad0 lim0 ad M H locs L ls) : jb_I G φ s nL C0 S0 ad0 lim0 ad M H locs (ja_mask bs L) ls := by
  obtain ⟨I1, ⟨I2, I3, I4⟩, I5⟩ := I
  refine ⟨I1, ⟨lv_less I2 (fun q hq => ?_), by rw [ja_mask_len]; exact I3, fun v hv => ?_⟩, I5⟩
  · obtain ⟨k, v, h1, rfl⟩ := jb_lv_mem _ _ _ hq
    exact jb_lv_of L 0 k v (ja_mask_get bs L k v h1)
  · obtain ⟨k, hk⟩ := List.getElem?_of_mem hv
    exact I4 v (List.mem_of_getElem? (ja_mask_get bs L k v hk))
theorem jp_itK (φ : Bool) (E : ja_E) (hE : ∀ y as M r, E y as M = some r → jb_gr M r.2) (c : List ja_I) (hc : c.all jp_ok = true) (κ : ja_K) (r : ja_R) (hκ : ∀ i L S M, κ i L S M = some r → jb_gr M r.2) : ∀ (n i : Nat) (L : ja_L) (S : List ja_V) (M : ja_M), ja_itK φ E c κ n i L S M = some r → jb_gr M r.2
  | 0, _, _, _, _, h => by cases h
  | n + 1, i, L, S, M, h => by
    have h : (match κ i L S M with
      | some r => some r
      | none => ja_step φ E c (ja_itK φ E c κ n) i L S M) = some r := h
    split at h
    · rename_i r' hr
      exact hκ i L S M (hr.trans h)
    rw [ja_step_eq] at h
    rcases jp_h φ E hE _ (ja_nthAll hc i) i (ja_mask (ja_nth c i ja_row0).2.2.2.2.2 L) S M with ⟨o, h1, h2⟩ | ⟨i', L', S', M', h1, h2⟩
    · exact h2 r ((h1 _).symm.trans h)
    · exact h2.tr (jp_itK φ E hE c hc κ r hκ n i' L' S' M' ((h1 _).symm.trans h))
/-- a walk that goes over into κ -/
theorem jb_walkK {p : Program} {l : Launch} {e : Env} {R : Room} {s : State} {m : MethodId} {args : Array Value} {below : List Frame} {meth : Method} {c : Code} {Q : State → Prop} {G : jb_G} {φ : Bool} {z d C0 S0 : Nat} {ad0 : Nat → Nat} {lim0 : Nat} {r : ja_R} {cd : List ja_I} {κ : ja_K} (hpl : jb_SHat jh_place jc_place p l e R s m args below meth c Q G φ z d C0 S0 ad0 lim0) (hck : ∀ i, i < cd.length → (ja_nth cd i ja_row0).1 < 62 → jc_row z i (ja_nth cd i ja_row0) = true) (hok : cd.all jp_ok = true)
    (hκ : ∀ i L S M, κ i L S M = some r → jb_gr M r.2 ∧ jb_Wat p l e R s m args below meth c Q G φ z C0 S0 ad0 lim0 i L S M)
    (a1 : jb_Fix p R s m args meth c G z d) (a2 : jb_EOK l G φ d (ja_x φ d)) (a3 : jb_Cap R C0 S0 r.2) (a7 : jb_Ret p l e R s m args below meth c Q G φ z C0 S0 ad0 lim0 r) (a8 : φ = true → lim0 ≤ ja_N0) : ∀ (n i : Nat) (L : ja_L) (S : List ja_V) (M : ja_M), ja_itK φ (ja_x φ d) cd κ n i L S M = some r → jb_Wat p l e R s m args below meth c Q G φ z C0 S0 ad0 lim0 i L S M
  | 0, _, _, _, _, h => by cases h
  | n + 1, i, L, S, M, h => by
    have h : (match κ i L S M with
      | some r => some r
      | none => ja_step φ (ja_x φ d) cd (ja_itK φ (ja_x φ d) cd κ n) i L S M) = some r := h
    split at h
    · rename_i r' hr
      exact (hκ i L S M (hr.trans h)).2
    rw [ja_step_eq] at h
    rcases Nat.lt_or_ge i cd.length with q | q
    · have q62 : (ja_nth cd i ja_row0).1 < 62 := by
        rcases Nat.lt_or_ge (ja_nth cd i ja_row0).1 62 with q | q
        · exact q
        · have e : ja_h φ (ja_x φ d) (ja_nth cd i ja_row0) i (ja_mask (ja_nth cd i ja_row0).2.2.2.2.2 L) S M (ja_itK φ (ja_x φ d) cd κ n) = none := by
            show ja_nth ja_hs (ja_nth cd i ja_row0).1 jh_none φ (ja_x φ d) _ i _ S M _ = none
            rw [ja_nth_out ja_hs _ jh_none (by show 62 ≤ _; exact q)]
            rfl
          rw [e] at h
          cases h
      have w := jb_h hpl (ja_x φ d) (ja_nth cd i ja_row0) i (ja_mask (ja_nth cd i ja_row0).2.2.2.2.2 L) S M (ja_itK φ (ja_x φ d) cd κ n) r a1 a2 a3 (hck i q q62) h
        (fun i L S M h => ⟨jp_itK φ (ja_x φ d) (jp_x φ d) cd hok κ r (fun i L S M h => (hκ i L S M h).1) n i L S M h, jb_walkK hpl hck hok hκ a1 a2 a3 a7 a8 n i L S M h⟩) a7 a8
      exact fun ad H locs ls I hS => w ad H locs ls (jb_I_mask _ I) hS
    · rw [ja_nth_out _ i _ q] at h
      cases h
theorem ja_itK_none (φ : Bool) (E : ja_E) (c : List ja_I) : ∀ n, ja_itK φ E c (fun _ _ _ _ => none) n = ja_it φ E c n
  | 0 => rfl
  | n + 1 => by
    funext i L S M
    show ja_step φ E c (ja_itK φ E c (fun _ _ _ _ => none) n) i L S M = ja_step φ E c (ja_it φ E c n) i L S M
    rw [ja_itK_none φ E c n]
theorem jb_walk {p : Program} {l : Launch} {e : Env} {R : Room} {s : State} {m : MethodId} {args : Array Value} {below : List Frame} {meth : Method} {c : Code} {Q : State → Prop} {G : jb_G} {φ : Bool} {z d C0 S0 : Nat} {ad0 : Nat → Nat} {lim0 : Nat} {r : ja_R} (hpl : jb_SHat jh_place jc_place p l e R s m args below meth c Q G φ z d C0 S0 ad0 lim0) (hck : ∀ i, i < (ja_code z).length → jc_row z i (ja_nth (ja_code z) i ja_row0) = true) (hz : z < 303)
    (a1 : jb_Fix p R s m args meth c G z d) (a2 : jb_EOK l G φ d (ja_x φ d)) (a3 : jb_Cap R C0 S0 r.2) (a7 : jb_Ret p l e R s m args below meth c Q G φ z C0 S0 ad0 lim0 r) (a8 : φ = true → lim0 ≤ ja_N0) (n i : Nat) (L : ja_L) (S : List ja_V) (M : ja_M) (h : ja_it φ (ja_x φ d) (ja_code z) n i L S M = some r) : jb_Wat p l e R s m args below meth c Q G φ z C0 S0 ad0 lim0 i L S M :=
  jb_walkK (κ := fun _ _ _ _ => none) hpl (fun i q _ => hck i q) (jp_oks z hz) (fun _ _ _ _ h => by cases h) a1 a2 a3 a7 a8 n i L S M (by rw [ja_itK_none]; exact h)
theorem ja_pad_nil (n : Nat) : ja_pad n [] = List.replicate n none := by cases n <;> rfl
theorem ja_pad_len : ∀ (n : Nat) (L : ja_L), L.length ≤ n → (ja_pad n L).length = n
  | n, [], _ => by rw [ja_pad_nil]; simp
  | 0, _ :: _, h => by simp at h
  | n + 1, x :: L, h => by
    show (ja_pad n L).length + 1 = n + 1
    rw [ja_pad_len n L (by simpa using h)]
theorem jb_lv_rep (ad : Nat → Nat) : ∀ (n j : Nat), jb_lv ad j (List.replicate n none) = []
  | 0, _ => rfl
  | n + 1, j => jb_lv_rep ad n (j + 1)
theorem jb_lv_pad (ad : Nat → Nat) : ∀ (n : Nat) (L : ja_L) (j : Nat), L.length ≤ n → jb_lv ad j (ja_pad n L) = jb_lv ad j L
  | n, [], j, _ => by
    rw [ja_pad_nil]
    exact jb_lv_rep ad n j
  | 0, _ :: _, _, h => by simp at h
  | n + 1, none :: L, j, h => jb_lv_pad ad n L (j + 1) (by simpa using h)
  | n + 1, some v :: L, j, h => by
    show (j, jb_v ad v) :: jb_lv ad (j + 1) (ja_pad n L) = (j, jb_v ad v) :: jb_lv ad (j + 1) L
    rw [jb_lv_pad ad n L (j + 1) (by simpa using h)]
theorem jb_lv_arg (ad : Nat → Nat) : ∀ (as : List ja_V) (j : Nat), jb_lv ad j (ja_argL as) = lv_args j (as.map (jb_v ad))
  | [], _ => rfl
  | .inl x :: r, j => by
    show (j, jb_v ad (.inl x)) :: jb_lv ad (j + 1) (ja_argL r) = (j, jb_v ad (.inl x)) :: lv_args (if (jb_v ad (.inl x)).category = 2 then j + 2 else j + 1) (r.map (jb_v ad))
    rw [jb_lv_arg ad r (j + 1)]
    rfl
  | .inr (.inl x) :: r, j => by
    show (j, jb_v ad (.inr (.inl x))) :: jb_lv ad (j + 1 + 1) (ja_argL r) = (j, jb_v ad (.inr (.inl x))) :: lv_args (if (jb_v ad (.inr (.inl x))).category = 2 then j + 2 else j + 1) (r.map (jb_v ad))
    rw [jb_lv_arg ad r (j + 1 + 1)]
    rfl
  | .inr (.inr x) :: r, j => by
    show (j, jb_v ad (.inr (.inr x))) :: jb_lv ad (j + 1) (ja_argL r) = (j, jb_v ad (.inr (.inr x))) :: lv_args (if (jb_v ad (.inr (.inr x))).category = 2 then j + 2 else j + 1) (r.map (jb_v ad))
    rw [jb_lv_arg ad r (j + 1), jb_cat]
    rfl
theorem jb_sl_arg (ad : Nat → Nat) : ∀ as : List ja_V, (lg_sl (as.map (jb_v ad))).length = (ja_argL as).length
  | [] => rfl
  | v :: r => by
    have ih := jb_sl_arg ad r
    unfold lg_sl at ih ⊢
    rw [List.map_cons, List.flatMap_cons, List.length_append, ih, jb_cat]
    rcases v with x | x | x
    · show 1 + _ = _ + 1
      omega
    · show 2 + _ = _ + 1 + 1
      omega
    · show 1 + _ = _ + 1
      omega
theorem ja_argL_mem : ∀ (as : List ja_V) (v : ja_V), some v ∈ ja_argL as → v ∈ as
  | [], _, h => by cases h
  | .inl x :: r, v, h => by
    rcases List.mem_cons.mp h with q | q
    · cases q
      exact List.mem_cons_self
    · exact List.mem_cons_of_mem _ (ja_argL_mem r v q)
  | .inr (.inl x) :: r, v, h => by
    rcases List.mem_cons.mp h with q | q
    · cases q
      exact List.mem_cons_self
    · rcases List.mem_cons.mp q with q | q
      · cases q
      · exact List.mem_cons_of_mem _ (ja_argL_mem r v q)
  | .inr (.inr x) :: r, v, h => by
    rcases List.mem_cons.mp h with q | q
    · cases q
      exact List.mem_cons_self
    · exact List.mem_cons_of_mem _ (ja_argL_mem r v q)
theorem ja_pad_mem : ∀ (n : Nat) (L : ja_L) (v : ja_V), some v ∈ ja_pad n L → some v ∈ L
  | n, [], v, h => by
    rw [ja_pad_nil] at h
    have := (List.mem_replicate.mp h).2
    cases this
  | 0, _ :: _, _, h => h
  | n + 1, x :: L, v, h => by
    rcases List.mem_cons.mp h with q | q
    · rw [q]
      exact List.mem_cons_self
    · exact List.mem_cons_of_mem _ (ja_pad_mem n L v q)
theorem jm_pc0 : ∀ y, y < 303 → jm_pc y 0 = 0 := by decide +kernel
theorem jm_chks : ∀ y, y < jm_NM → jc_rows y 0 (ja_code y) = true := by
  intro y hy
  have hy : y < 302 := hy
  rcases Nat.lt_or_ge y 151 with q0 | q151
  · rcases Nat.lt_or_ge y 75 with q0 | q75
    · rcases Nat.lt_or_ge y 37 with q0 | q37
      · rcases Nat.lt_or_ge y 18 with q0 | q18
        · rcases Nat.lt_or_ge y 9 with q0 | q9
          · rcases Nat.lt_or_ge y 4 with q0 | q4
            · rcases Nat.lt_or_ge y 2 with q0 | q2
              · rcases Nat.lt_or_ge y 1 with q0 | q1
                · have e : y = 0 := by omega
                  subst e
                  exact jc_m0
                · have e : y = 1 := by omega
                  subst e
                  exact jc_m1
              · rcases Nat.lt_or_ge y 3 with q2 | q3
                · have e : y = 2 := by omega
                  subst e
                  exact jc_m2
                · have e : y = 3 := by omega
                  subst e
                  exact jc_m3
            · rcases Nat.lt_or_ge y 6 with q4 | q6
              · rcases Nat.lt_or_ge y 5 with q4 | q5
                · have e : y = 4 := by omega
                  subst e
                  exact jc_m4
                · have e : y = 5 := by omega
                  subst e
                  exact jc_m5
              · rcases Nat.lt_or_ge y 7 with q6 | q7
                · have e : y = 6 := by omega
                  subst e
                  exact jc_m6
                · rcases Nat.lt_or_ge y 8 with q7 | q8
                  · have e : y = 7 := by omega
                    subst e
                    exact jc_m7
                  · have e : y = 8 := by omega
                    subst e
                    exact jc_m8
          · rcases Nat.lt_or_ge y 13 with q9 | q13
            · rcases Nat.lt_or_ge y 11 with q9 | q11
              · rcases Nat.lt_or_ge y 10 with q9 | q10
                · have e : y = 9 := by omega
                  subst e
                  exact jc_m9
                · have e : y = 10 := by omega
                  subst e
                  exact jc_m10
              · rcases Nat.lt_or_ge y 12 with q11 | q12
                · have e : y = 11 := by omega
                  subst e
                  exact jc_m11
                · have e : y = 12 := by omega
                  subst e
                  exact jc_m12
            · rcases Nat.lt_or_ge y 15 with q13 | q15
              · rcases Nat.lt_or_ge y 14 with q13 | q14
                · have e : y = 13 := by omega
                  subst e
                  exact jc_m13
                · have e : y = 14 := by omega
                  subst e
                  exact jc_m14
              · rcases Nat.lt_or_ge y 16 with q15 | q16
                · have e : y = 15 := by omega
                  subst e
                  exact jc_m15
                · rcases Nat.lt_or_ge y 17 with q16 | q17
                  · have e : y = 16 := by omega
                    subst e
                    exact jc_m16
                  · have e : y = 17 := by omega
                    subst e
                    exact jc_m17
        · rcases Nat.lt_or_ge y 27 with q18 | q27
          · rcases Nat.lt_or_ge y 22 with q18 | q22
            · rcases Nat.lt_or_ge y 20 with q18 | q20
              · rcases Nat.lt_or_ge y 19 with q18 | q19
                · have e : y = 18 := by omega
                  subst e
                  exact jc_m18
                · have e : y = 19 := by omega
                  subst e
                  exact jc_m19
              · rcases Nat.lt_or_ge y 21 with q20 | q21
                · have e : y = 20 := by omega
                  subst e
                  exact jc_m20
                · have e : y = 21 := by omega
                  subst e
                  exact jc_m21
            · rcases Nat.lt_or_ge y 24 with q22 | q24
              · rcases Nat.lt_or_ge y 23 with q22 | q23
                · have e : y = 22 := by omega
                  subst e
                  exact jc_m22
                · have e : y = 23 := by omega
                  subst e
                  exact jc_m23
              · rcases Nat.lt_or_ge y 25 with q24 | q25
                · have e : y = 24 := by omega
                  subst e
                  exact jc_m24
                · rcases Nat.lt_or_ge y 26 with q25 | q26
                  · have e : y = 25 := by omega
                    subst e
                    exact jc_m25
                  · have e : y = 26 := by omega
                    subst e
                    exact jc_m26
          · rcases Nat.lt_or_ge y 32 with q27 | q32
            · rcases Nat.lt_or_ge y 29 with q27 | q29
              · rcases Nat.lt_or_ge y 28 with q27 | q28
                · have e : y = 27 := by omega
                  subst e
                  exact jc_m27
                · have e : y = 28 := by omega
                  subst e
                  exact jc_m28
              · rcases Nat.lt_or_ge y 30 with q29 | q30
                · have e : y = 29 := by omega
                  subst e
                  exact jc_m29
                · rcases Nat.lt_or_ge y 31 with q30 | q31
                  · have e : y = 30 := by omega
                    subst e
                    exact jc_m30
                  · have e : y = 31 := by omega
                    subst e
                    exact jc_m31
            · rcases Nat.lt_or_ge y 34 with q32 | q34
              · rcases Nat.lt_or_ge y 33 with q32 | q33
                · have e : y = 32 := by omega
                  subst e
                  exact jc_m32
                · have e : y = 33 := by omega
                  subst e
                  exact jc_m33
              · rcases Nat.lt_or_ge y 35 with q34 | q35
                · have e : y = 34 := by omega
                  subst e
                  exact jc_m34
                · rcases Nat.lt_or_ge y 36 with q35 | q36
                  · have e : y = 35 := by omega
                    subst e
                    exact jc_m35
                  · have e : y = 36 := by omega
                    subst e
                    exact jc_m36
      · rcases Nat.lt_or_ge y 56 with q37 | q56
        · rcases Nat.lt_or_ge y 46 with q37 | q46
          · rcases Nat.lt_or_ge y 41 with q37 | q41
            · rcases Nat.lt_or_ge y 39 with q37 | q39
              · rcases Nat.lt_or_ge y 38 with q37 | q38
                · have e : y = 37 := by omega
                  subst e
                  exact jc_m37
                · have e : y = 38 := by omega
                  subst e
                  exact jc_m38
              · rcases Nat.lt_or_ge y 40 with q39 | q40
                · have e : y = 39 := by omega
                  subst e
                  exact jc_m39
                · have e : y = 40 := by omega
                  subst e
                  exact jc_m40
            · rcases Nat.lt_or_ge y 43 with q41 | q43
              · rcases Nat.lt_or_ge y 42 with q41 | q42
                · have e : y = 41 := by omega
                  subst e
                  exact jc_m41
                · have e : y = 42 := by omega
                  subst e
                  exact jc_m42
              · rcases Nat.lt_or_ge y 44 with q43 | q44
                · have e : y = 43 := by omega
                  subst e
                  exact jc_m43
                · rcases Nat.lt_or_ge y 45 with q44 | q45
                  · have e : y = 44 := by omega
                    subst e
                    exact jc_m44
                  · have e : y = 45 := by omega
                    subst e
                    exact jc_m45
          · rcases Nat.lt_or_ge y 51 with q46 | q51
            · rcases Nat.lt_or_ge y 48 with q46 | q48
              · rcases Nat.lt_or_ge y 47 with q46 | q47
                · have e : y = 46 := by omega
                  subst e
                  exact jc_m46
                · have e : y = 47 := by omega
                  subst e
                  exact jc_m47
              · rcases Nat.lt_or_ge y 49 with q48 | q49
                · have e : y = 48 := by omega
                  subst e
                  exact jc_m48
                · rcases Nat.lt_or_ge y 50 with q49 | q50
                  · have e : y = 49 := by omega
                    subst e
                    exact jc_m49
                  · have e : y = 50 := by omega
                    subst e
                    exact jc_m50
            · rcases Nat.lt_or_ge y 53 with q51 | q53
              · rcases Nat.lt_or_ge y 52 with q51 | q52
                · have e : y = 51 := by omega
                  subst e
                  exact jc_m51
                · have e : y = 52 := by omega
                  subst e
                  exact jc_m52
              · rcases Nat.lt_or_ge y 54 with q53 | q54
                · have e : y = 53 := by omega
                  subst e
                  exact jc_m53
                · rcases Nat.lt_or_ge y 55 with q54 | q55
                  · have e : y = 54 := by omega
                    subst e
                    exact jc_m54
                  · have e : y = 55 := by omega
                    subst e
                    exact jc_m55
        · rcases Nat.lt_or_ge y 65 with q56 | q65
          · rcases Nat.lt_or_ge y 60 with q56 | q60
            · rcases Nat.lt_or_ge y 58 with q56 | q58
              · rcases Nat.lt_or_ge y 57 with q56 | q57
                · have e : y = 56 := by omega
                  subst e
                  exact jc_m56
                · have e : y = 57 := by omega
                  subst e
                  exact jc_m57
              · rcases Nat.lt_or_ge y 59 with q58 | q59
                · have e : y = 58 := by omega
                  subst e
                  exact jc_m58
                · have e : y = 59 := by omega
                  subst e
                  exact jc_m59
            · rcases Nat.lt_or_ge y 62 with q60 | q62
              · rcases Nat.lt_or_ge y 61 with q60 | q61
                · have e : y = 60 := by omega
                  subst e
                  exact jc_m60
                · have e : y = 61 := by omega
                  subst e
                  exact jc_m61
              · rcases Nat.lt_or_ge y 63 with q62 | q63
                · have e : y = 62 := by omega
                  subst e
                  exact jc_m62
                · rcases Nat.lt_or_ge y 64 with q63 | q64
                  · have e : y = 63 := by omega
                    subst e
                    exact jc_m63
                  · have e : y = 64 := by omega
                    subst e
                    exact jc_m64
          · rcases Nat.lt_or_ge y 70 with q65 | q70
            · rcases Nat.lt_or_ge y 67 with q65 | q67
              · rcases Nat.lt_or_ge y 66 with q65 | q66
                · have e : y = 65 := by omega
                  subst e
                  exact jc_m65
                · have e : y = 66 := by omega
                  subst e
                  exact jc_m66
              · rcases Nat.lt_or_ge y 68 with q67 | q68
                · have e : y = 67 := by omega
                  subst e
                  exact jc_m67
                · rcases Nat.lt_or_ge y 69 with q68 | q69
                  · have e : y = 68 := by omega
                    subst e
                    exact jc_m68
                  · have e : y = 69 := by omega
                    subst e
                    exact jc_m69
            · rcases Nat.lt_or_ge y 72 with q70 | q72
              · rcases Nat.lt_or_ge y 71 with q70 | q71
                · have e : y = 70 := by omega
                  subst e
                  exact jc_m70
                · have e : y = 71 := by omega
                  subst e
                  exact jc_m71
              · rcases Nat.lt_or_ge y 73 with q72 | q73
                · have e : y = 72 := by omega
                  subst e
                  exact jc_m72
                · rcases Nat.lt_or_ge y 74 with q73 | q74
                  · have e : y = 73 := by omega
                    subst e
                    exact jc_m73
                  · have e : y = 74 := by omega
                    subst e
                    exact jc_m74
    · rcases Nat.lt_or_ge y 113 with q75 | q113
      · rcases Nat.lt_or_ge y 94 with q75 | q94
        · rcases Nat.lt_or_ge y 84 with q75 | q84
          · rcases Nat.lt_or_ge y 79 with q75 | q79
            · rcases Nat.lt_or_ge y 77 with q75 | q77
              · rcases Nat.lt_or_ge y 76 with q75 | q76
                · have e : y = 75 := by omega
                  subst e
                  exact jc_m75
                · have e : y = 76 := by omega
                  subst e
                  exact jc_m76
              · rcases Nat.lt_or_ge y 78 with q77 | q78
                · have e : y = 77 := by omega
                  subst e
                  exact jc_m77
                · have e : y = 78 := by omega
                  subst e
                  exact jc_m78
            · rcases Nat.lt_or_ge y 81 with q79 | q81
              · rcases Nat.lt_or_ge y 80 with q79 | q80
                · have e : y = 79 := by omega
                  subst e
                  exact jc_m79
                · have e : y = 80 := by omega
                  subst e
                  exact jc_m80
              · rcases Nat.lt_or_ge y 82 with q81 | q82
                · have e : y = 81 := by omega
                  subst e
                  exact jc_m81
                · rcases Nat.lt_or_ge y 83 with q82 | q83
                  · have e : y = 82 := by omega
                    subst e
                    exact jc_m82
                  · have e : y = 83 := by omega
                    subst e
                    exact jc_m83
          · rcases Nat.lt_or_ge y 89 with q84 | q89
            · rcases Nat.lt_or_ge y 86 with q84 | q86
              · rcases Nat.lt_or_ge y 85 with q84 | q85
                · have e : y = 84 := by omega
                  subst e
                  exact jc_m84
                · have e : y = 85 := by omega
                  subst e
                  exact jc_m85
              · rcases Nat.lt_or_ge y 87 with q86 | q87
                · have e : y = 86 := by omega
                  subst e
                  exact jc_m86
                · rcases Nat.lt_or_ge y 88 with q87 | q88
                  · have e : y = 87 := by omega
                    subst e
                    exact jc_m87
                  · have e : y = 88 := by omega
                    subst e
                    exact jc_m88
            · rcases Nat.lt_or_ge y 91 with q89 | q91
              · rcases Nat.lt_or_ge y 90 with q89 | q90
                · have e : y = 89 := by omega
                  subst e
                  exact jc_m89
                · have e : y = 90 := by omega
                  subst e
                  exact jc_m90
              · rcases Nat.lt_or_ge y 92 with q91 | q92
                · have e : y = 91 := by omega
                  subst e
                  exact jc_m91
                · rcases Nat.lt_or_ge y 93 with q92 | q93
                  · have e : y = 92 := by omega
                    subst e
                    exact jc_m92
                  · have e : y = 93 := by omega
                    subst e
                    exact jc_m93
        · rcases Nat.lt_or_ge y 103 with q94 | q103
          · rcases Nat.lt_or_ge y 98 with q94 | q98
            · rcases Nat.lt_or_ge y 96 with q94 | q96
              · rcases Nat.lt_or_ge y 95 with q94 | q95
                · have e : y = 94 := by omega
                  subst e
                  exact jc_m94
                · have e : y = 95 := by omega
                  subst e
                  exact jc_m95
              · rcases Nat.lt_or_ge y 97 with q96 | q97
                · have e : y = 96 := by omega
                  subst e
                  exact jc_m96
                · have e : y = 97 := by omega
                  subst e
                  exact jc_m97
            · rcases Nat.lt_or_ge y 100 with q98 | q100
              · rcases Nat.lt_or_ge y 99 with q98 | q99
                · have e : y = 98 := by omega
                  subst e
                  exact jc_m98
                · have e : y = 99 := by omega
                  subst e
                  exact jc_m99
              · rcases Nat.lt_or_ge y 101 with q100 | q101
                · have e : y = 100 := by omega
                  subst e
                  exact jc_m100
                · rcases Nat.lt_or_ge y 102 with q101 | q102
                  · have e : y = 101 := by omega
                    subst e
                    exact jc_m101
                  · have e : y = 102 := by omega
                    subst e
                    exact jc_m102
          · rcases Nat.lt_or_ge y 108 with q103 | q108
            · rcases Nat.lt_or_ge y 105 with q103 | q105
              · rcases Nat.lt_or_ge y 104 with q103 | q104
                · have e : y = 103 := by omega
                  subst e
                  exact jc_m103
                · have e : y = 104 := by omega
                  subst e
                  exact jc_m104
              · rcases Nat.lt_or_ge y 106 with q105 | q106
                · have e : y = 105 := by omega
                  subst e
                  exact jc_m105
                · rcases Nat.lt_or_ge y 107 with q106 | q107
                  · have e : y = 106 := by omega
                    subst e
                    exact jc_m106
                  · have e : y = 107 := by omega
                    subst e
                    exact jc_m107
            · rcases Nat.lt_or_ge y 110 with q108 | q110
              · rcases Nat.lt_or_ge y 109 with q108 | q109
                · have e : y = 108 := by omega
                  subst e
                  exact jc_m108
                · have e : y = 109 := by omega
                  subst e
                  exact jc_m109
              · rcases Nat.lt_or_ge y 111 with q110 | q111
                · have e : y = 110 := by omega
                  subst e
                  exact jc_m110
                · rcases Nat.lt_or_ge y 112 with q111 | q112
                  · have e : y = 111 := by omega
                    subst e
                    exact jc_m111
                  · have e : y = 112 := by omega
                    subst e
                    exact jc_m112
      · rcases Nat.lt_or_ge y 132 with q113 | q132
        · rcases Nat.lt_or_ge y 122 with q113 | q122
          · rcases Nat.lt_or_ge y 117 with q113 | q117
            · rcases Nat.lt_or_ge y 115 with q113 | q115
              · rcases Nat.lt_or_ge y 114 with q113 | q114
                · have e : y = 113 := by omega
                  subst e
                  exact jc_m113
                · have e : y = 114 := by omega
                  subst e
                  exact jc_m114
              · rcases Nat.lt_or_ge y 116 with q115 | q116
                · have e : y = 115 := by omega
                  subst e
                  exact jc_m115
                · have e : y = 116 := by omega
                  subst e
                  exact jc_m116
            · rcases Nat.lt_or_ge y 119 with q117 | q119
              · rcases Nat.lt_or_ge y 118 with q117 | q118
                · have e : y = 117 := by omega
                  subst e
                  exact jc_m117
                · have e : y = 118 := by omega
                  subst e
                  exact jc_m118
              · rcases Nat.lt_or_ge y 120 with q119 | q120
                · have e : y = 119 := by omega
                  subst e
                  exact jc_m119
                · rcases Nat.lt_or_ge y 121 with q120 | q121
                  · have e : y = 120 := by omega
                    subst e
                    exact jc_m120
                  · have e : y = 121 := by omega
                    subst e
                    exact jc_m121
          · rcases Nat.lt_or_ge y 127 with q122 | q127
            · rcases Nat.lt_or_ge y 124 with q122 | q124
              · rcases Nat.lt_or_ge y 123 with q122 | q123
                · have e : y = 122 := by omega
                  subst e
                  exact jc_m122
                · have e : y = 123 := by omega
                  subst e
                  exact jc_m123
              · rcases Nat.lt_or_ge y 125 with q124 | q125
                · have e : y = 124 := by omega
                  subst e
                  exact jc_m124
                · rcases Nat.lt_or_ge y 126 with q125 | q126
                  · have e : y = 125 := by omega
                    subst e
                    exact jc_m125
                  · have e : y = 126 := by omega
                    subst e
                    exact jc_m126
            · rcases Nat.lt_or_ge y 129 with q127 | q129
              · rcases Nat.lt_or_ge y 128 with q127 | q128
                · have e : y = 127 := by omega
                  subst e
                  exact jc_m127
                · have e : y = 128 := by omega
                  subst e
                  exact jc_m128
              · rcases Nat.lt_or_ge y 130 with q129 | q130
                · have e : y = 129 := by omega
                  subst e
                  exact jc_m129
                · rcases Nat.lt_or_ge y 131 with q130 | q131
                  · have e : y = 130 := by omega
                    subst e
                    exact jc_m130
                  · have e : y = 131 := by omega
                    subst e
                    exact jc_m131
        · rcases Nat.lt_or_ge y 141 with q132 | q141
          · rcases Nat.lt_or_ge y 136 with q132 | q136
            · rcases Nat.lt_or_ge y 134 with q132 | q134
              · rcases Nat.lt_or_ge y 133 with q132 | q133
                · have e : y = 132 := by omega
                  subst e
                  exact jc_m132
                · have e : y = 133 := by omega
                  subst e
                  exact jc_m133
              · rcases Nat.lt_or_ge y 135 with q134 | q135
                · have e : y = 134 := by omega
                  subst e
                  exact jc_m134
                · have e : y = 135 := by omega
                  subst e
                  exact jc_m135
            · rcases Nat.lt_or_ge y 138 with q136 | q138
              · rcases Nat.lt_or_ge y 137 with q136 | q137
                · have e : y = 136 := by omega
                  subst e
                  exact jc_m136
                · have e : y = 137 := by omega
                  subst e
                  exact jc_m137
              · rcases Nat.lt_or_ge y 139 with q138 | q139
                · have e : y = 138 := by omega
                  subst e
                  exact jc_m138
                · rcases Nat.lt_or_ge y 140 with q139 | q140
                  · have e : y = 139 := by omega
                    subst e
                    exact jc_m139
                  · have e : y = 140 := by omega
                    subst e
                    exact jc_m140
          · rcases Nat.lt_or_ge y 146 with q141 | q146
            · rcases Nat.lt_or_ge y 143 with q141 | q143
              · rcases Nat.lt_or_ge y 142 with q141 | q142
                · have e : y = 141 := by omega
                  subst e
                  exact jc_m141
                · have e : y = 142 := by omega
                  subst e
                  exact jc_m142
              · rcases Nat.lt_or_ge y 144 with q143 | q144
                · have e : y = 143 := by omega
                  subst e
                  exact jc_m143
                · rcases Nat.lt_or_ge y 145 with q144 | q145
                  · have e : y = 144 := by omega
                    subst e
                    exact jc_m144
                  · have e : y = 145 := by omega
                    subst e
                    exact jc_m145
            · rcases Nat.lt_or_ge y 148 with q146 | q148
              · rcases Nat.lt_or_ge y 147 with q146 | q147
                · have e : y = 146 := by omega
                  subst e
                  exact jc_m146
                · have e : y = 147 := by omega
                  subst e
                  exact jc_m147
              · rcases Nat.lt_or_ge y 149 with q148 | q149
                · have e : y = 148 := by omega
                  subst e
                  exact jc_m148
                · rcases Nat.lt_or_ge y 150 with q149 | q150
                  · have e : y = 149 := by omega
                    subst e
                    exact jc_m149
                  · have e : y = 150 := by omega
                    subst e
                    exact jc_m150
  · rcases Nat.lt_or_ge y 226 with q151 | q226
    · rcases Nat.lt_or_ge y 188 with q151 | q188
      · rcases Nat.lt_or_ge y 169 with q151 | q169
        · rcases Nat.lt_or_ge y 160 with q151 | q160
          · rcases Nat.lt_or_ge y 155 with q151 | q155
            · rcases Nat.lt_or_ge y 153 with q151 | q153
              · rcases Nat.lt_or_ge y 152 with q151 | q152
                · have e : y = 151 := by omega
                  subst e
                  exact jc_m151
                · have e : y = 152 := by omega
                  subst e
                  exact jc_m152
              · rcases Nat.lt_or_ge y 154 with q153 | q154
                · have e : y = 153 := by omega
                  subst e
                  exact jc_m153
                · have e : y = 154 := by omega
                  subst e
                  exact jc_m154
            · rcases Nat.lt_or_ge y 157 with q155 | q157
              · rcases Nat.lt_or_ge y 156 with q155 | q156
                · have e : y = 155 := by omega
                  subst e
                  exact jc_m155
                · have e : y = 156 := by omega
                  subst e
                  exact jc_m156
              · rcases Nat.lt_or_ge y 158 with q157 | q158
                · have e : y = 157 := by omega
                  subst e
                  exact jc_m157
                · rcases Nat.lt_or_ge y 159 with q158 | q159
                  · have e : y = 158 := by omega
                    subst e
                    exact jc_m158
                  · have e : y = 159 := by omega
                    subst e
                    exact jc_m159
          · rcases Nat.lt_or_ge y 164 with q160 | q164
            · rcases Nat.lt_or_ge y 162 with q160 | q162
              · rcases Nat.lt_or_ge y 161 with q160 | q161
                · have e : y = 160 := by omega
                  subst e
                  exact jc_m160
                · have e : y = 161 := by omega
                  subst e
                  exact jc_m161
              · rcases Nat.lt_or_ge y 163 with q162 | q163
                · have e : y = 162 := by omega
                  subst e
                  exact jc_m162
                · have e : y = 163 := by omega
                  subst e
                  exact jc_m163
            · rcases Nat.lt_or_ge y 166 with q164 | q166
              · rcases Nat.lt_or_ge y 165 with q164 | q165
                · have e : y = 164 := by omega
                  subst e
                  exact jc_m164
                · have e : y = 165 := by omega
                  subst e
                  exact jc_m165
              · rcases Nat.lt_or_ge y 167 with q166 | q167
                · have e : y = 166 := by omega
                  subst e
                  exact jc_m166
                · rcases Nat.lt_or_ge y 168 with q167 | q168
                  · have e : y = 167 := by omega
                    subst e
                    exact jc_m167
                  · have e : y = 168 := by omega
                    subst e
                    exact jc_m168
        · rcases Nat.lt_or_ge y 178 with q169 | q178
          · rcases Nat.lt_or_ge y 173 with q169 | q173
            · rcases Nat.lt_or_ge y 171 with q169 | q171
              · rcases Nat.lt_or_ge y 170 with q169 | q170
                · have e : y = 169 := by omega
                  subst e
                  exact jc_m169
                · have e : y = 170 := by omega
                  subst e
                  exact jc_m170
              · rcases Nat.lt_or_ge y 172 with q171 | q172
                · have e : y = 171 := by omega
                  subst e
                  exact jc_m171
                · have e : y = 172 := by omega
                  subst e
                  exact jc_m172
            · rcases Nat.lt_or_ge y 175 with q173 | q175
              · rcases Nat.lt_or_ge y 174 with q173 | q174
                · have e : y = 173 := by omega
                  subst e
                  exact jc_m173
                · have e : y = 174 := by omega
                  subst e
                  exact jc_m174
              · rcases Nat.lt_or_ge y 176 with q175 | q176
                · have e : y = 175 := by omega
                  subst e
                  exact jc_m175
                · rcases Nat.lt_or_ge y 177 with q176 | q177
                  · have e : y = 176 := by omega
                    subst e
                    exact jc_m176
                  · have e : y = 177 := by omega
                    subst e
                    exact jc_m177
          · rcases Nat.lt_or_ge y 183 with q178 | q183
            · rcases Nat.lt_or_ge y 180 with q178 | q180
              · rcases Nat.lt_or_ge y 179 with q178 | q179
                · have e : y = 178 := by omega
                  subst e
                  exact jc_m178
                · have e : y = 179 := by omega
                  subst e
                  exact jc_m179
              · rcases Nat.lt_or_ge y 181 with q180 | q181
                · have e : y = 180 := by omega
                  subst e
                  exact jc_m180
                · rcases Nat.lt_or_ge y 182 with q181 | q182
                  · have e : y = 181 := by omega
                    subst e
                    exact jc_m181
                  · have e : y = 182 := by omega
                    subst e
                    exact jc_m182
            · rcases Nat.lt_or_ge y 185 with q183 | q185
              · rcases Nat.lt_or_ge y 184 with q183 | q184
                · have e : y = 183 := by omega
                  subst e
                  exact jc_m183
                · have e : y = 184 := by omega
                  subst e
                  exact jc_m184
              · rcases Nat.lt_or_ge y 186 with q185 | q186
                · have e : y = 185 := by omega
                  subst e
                  exact jc_m185
                · rcases Nat.lt_or_ge y 187 with q186 | q187
                  · have e : y = 186 := by omega
                    subst e
                    exact jc_m186
                  · have e : y = 187 := by omega
                    subst e
                    exact jc_m187
      · rcases Nat.lt_or_ge y 207 with q188 | q207
        · rcases Nat.lt_or_ge y 197 with q188 | q197
          · rcases Nat.lt_or_ge y 192 with q188 | q192
            · rcases Nat.lt_or_ge y 190 with q188 | q190
              · rcases Nat.lt_or_ge y 189 with q188 | q189
                · have e : y = 188 := by omega
                  subst e
                  exact jc_m188
                · have e : y = 189 := by omega
                  subst e
                  exact jc_m189
              · rcases Nat.lt_or_ge y 191 with q190 | q191
                · have e : y = 190 := by omega
                  subst e
                  exact jc_m190
                · have e : y = 191 := by omega
                  subst e
                  exact jc_m191
            · rcases Nat.lt_or_ge y 194 with q192 | q194
              · rcases Nat.lt_or_ge y 193 with q192 | q193
                · have e : y = 192 := by omega
                  subst e
                  exact jc_m192
                · have e : y = 193 := by omega
                  subst e
                  exact jc_m193
              · rcases Nat.lt_or_ge y 195 with q194 | q195
                · have e : y = 194 := by omega
                  subst e
                  exact jc_m194
                · rcases Nat.lt_or_ge y 196 with q195 | q196
                  · have e : y = 195 := by omega
                    subst e
                    exact jc_m195
                  · have e : y = 196 := by omega
                    subst e
                    exact jc_m196
          · rcases Nat.lt_or_ge y 202 with q197 | q202
            · rcases Nat.lt_or_ge y 199 with q197 | q199
              · rcases Nat.lt_or_ge y 198 with q197 | q198
                · have e : y = 197 := by omega
                  subst e
                  exact jc_m197
                · have e : y = 198 := by omega
                  subst e
                  exact jc_m198
              · rcases Nat.lt_or_ge y 200 with q199 | q200
                · have e : y = 199 := by omega
                  subst e
                  exact jc_m199
                · rcases Nat.lt_or_ge y 201 with q200 | q201
                  · have e : y = 200 := by omega
                    subst e
                    exact jc_m200
                  · have e : y = 201 := by omega
                    subst e
                    exact jc_m201
            · rcases Nat.lt_or_ge y 204 with q202 | q204
              · rcases Nat.lt_or_ge y 203 with q202 | q203
                · have e : y = 202 := by omega
                  subst e
                  exact jc_m202
                · have e : y = 203 := by omega
                  subst e
                  exact jc_m203
              · rcases Nat.lt_or_ge y 205 with q204 | q205
                · have e : y = 204 := by omega
                  subst e
                  exact jc_m204
                · rcases Nat.lt_or_ge y 206 with q205 | q206
                  · have e : y = 205 := by omega
                    subst e
                    exact jc_m205
                  · have e : y = 206 := by omega
                    subst e
                    exact jc_m206
        · rcases Nat.lt_or_ge y 216 with q207 | q216
          · rcases Nat.lt_or_ge y 211 with q207 | q211
            · rcases Nat.lt_or_ge y 209 with q207 | q209
              · rcases Nat.lt_or_ge y 208 with q207 | q208
                · have e : y = 207 := by omega
                  subst e
                  exact jc_m207
                · have e : y = 208 := by omega
                  subst e
                  exact jc_m208
              · rcases Nat.lt_or_ge y 210 with q209 | q210
                · have e : y = 209 := by omega
                  subst e
                  exact jc_m209
                · have e : y = 210 := by omega
                  subst e
                  exact jc_m210
            · rcases Nat.lt_or_ge y 213 with q211 | q213
              · rcases Nat.lt_or_ge y 212 with q211 | q212
                · have e : y = 211 := by omega
                  subst e
                  exact jc_m211
                · have e : y = 212 := by omega
                  subst e
                  exact jc_m212
              · rcases Nat.lt_or_ge y 214 with q213 | q214
                · have e : y = 213 := by omega
                  subst e
                  exact jc_m213
                · rcases Nat.lt_or_ge y 215 with q214 | q215
                  · have e : y = 214 := by omega
                    subst e
                    exact jc_m214
                  · have e : y = 215 := by omega
                    subst e
                    exact jc_m215
          · rcases Nat.lt_or_ge y 221 with q216 | q221
            · rcases Nat.lt_or_ge y 218 with q216 | q218
              · rcases Nat.lt_or_ge y 217 with q216 | q217
                · have e : y = 216 := by omega
                  subst e
                  exact jc_m216
                · have e : y = 217 := by omega
                  subst e
                  exact jc_m217
              · rcases Nat.lt_or_ge y 219 with q218 | q219
                · have e : y = 218 := by omega
                  subst e
                  exact jc_m218
                · rcases Nat.lt_or_ge y 220 with q219 | q220
                  · have e : y = 219 := by omega
                    subst e
                    exact jc_m219
                  · have e : y = 220 := by omega
                    subst e
                    exact jc_m220
            · rcases Nat.lt_or_ge y 223 with q221 | q223
              · rcases Nat.lt_or_ge y 222 with q221 | q222
                · have e : y = 221 := by omega
                  subst e
                  exact jc_m221
                · have e : y = 222 := by omega
                  subst e
                  exact jc_m222
              · rcases Nat.lt_or_ge y 224 with q223 | q224
                · have e : y = 223 := by omega
                  subst e
                  exact jc_m223
                · rcases Nat.lt_or_ge y 225 with q224 | q225
                  · have e : y = 224 := by omega
                    subst e
                    exact jc_m224
                  · have e : y = 225 := by omega
                    subst e
                    exact jc_m225
    · rcases Nat.lt_or_ge y 264 with q226 | q264
      · rcases Nat.lt_or_ge y 245 with q226 | q245
        · rcases Nat.lt_or_ge y 235 with q226 | q235
          · rcases Nat.lt_or_ge y 230 with q226 | q230
            · rcases Nat.lt_or_ge y 228 with q226 | q228
              · rcases Nat.lt_or_ge y 227 with q226 | q227
                · have e : y = 226 := by omega
                  subst e
                  exact jc_m226
                · have e : y = 227 := by omega
                  subst e
                  exact jc_m227
              · rcases Nat.lt_or_ge y 229 with q228 | q229
                · have e : y = 228 := by omega
                  subst e
                  exact jc_m228
                · have e : y = 229 := by omega
                  subst e
                  exact jc_m229
            · rcases Nat.lt_or_ge y 232 with q230 | q232
              · rcases Nat.lt_or_ge y 231 with q230 | q231
                · have e : y = 230 := by omega
                  subst e
                  exact jc_m230
                · have e : y = 231 := by omega
                  subst e
                  exact jc_m231
              · rcases Nat.lt_or_ge y 233 with q232 | q233
                · have e : y = 232 := by omega
                  subst e
                  exact jc_m232
                · rcases Nat.lt_or_ge y 234 with q233 | q234
                  · have e : y = 233 := by omega
                    subst e
                    exact jc_m233
                  · have e : y = 234 := by omega
                    subst e
                    exact jc_m234
          · rcases Nat.lt_or_ge y 240 with q235 | q240
            · rcases Nat.lt_or_ge y 237 with q235 | q237
              · rcases Nat.lt_or_ge y 236 with q235 | q236
                · have e : y = 235 := by omega
                  subst e
                  exact jc_m235
                · have e : y = 236 := by omega
                  subst e
                  exact jc_m236
              · rcases Nat.lt_or_ge y 238 with q237 | q238
                · have e : y = 237 := by omega
                  subst e
                  exact jc_m237
                · rcases Nat.lt_or_ge y 239 with q238 | q239
                  · have e : y = 238 := by omega
                    subst e
                    exact jc_m238
                  · have e : y = 239 := by omega
                    subst e
                    exact jc_m239
            · rcases Nat.lt_or_ge y 242 with q240 | q242
              · rcases Nat.lt_or_ge y 241 with q240 | q241
                · have e : y = 240 := by omega
                  subst e
                  exact jc_m240
                · have e : y = 241 := by omega
                  subst e
                  exact jc_m241
              · rcases Nat.lt_or_ge y 243 with q242 | q243
                · have e : y = 242 := by omega
                  subst e
                  exact jc_m242
                · rcases Nat.lt_or_ge y 244 with q243 | q244
                  · have e : y = 243 := by omega
                    subst e
                    exact jc_m243
                  · have e : y = 244 := by omega
                    subst e
                    exact jc_m244
        · rcases Nat.lt_or_ge y 254 with q245 | q254
          · rcases Nat.lt_or_ge y 249 with q245 | q249
            · rcases Nat.lt_or_ge y 247 with q245 | q247
              · rcases Nat.lt_or_ge y 246 with q245 | q246
                · have e : y = 245 := by omega
                  subst e
                  exact jc_m245
                · have e : y = 246 := by omega
                  subst e
                  exact jc_m246
              · rcases Nat.lt_or_ge y 248 with q247 | q248
                · have e : y = 247 := by omega
                  subst e
                  exact jc_m247
                · have e : y = 248 := by omega
                  subst e
                  exact jc_m248
            · rcases Nat.lt_or_ge y 251 with q249 | q251
              · rcases Nat.lt_or_ge y 250 with q249 | q250
                · have e : y = 249 := by omega
                  subst e
                  exact jc_m249
                · have e : y = 250 := by omega
                  subst e
                  exact jc_m250
              · rcases Nat.lt_or_ge y 252 with q251 | q252
                · have e : y = 251 := by omega
                  subst e
                  exact jc_m251
                · rcases Nat.lt_or_ge y 253 with q252 | q253
                  · have e : y = 252 := by omega
                    subst e
                    exact jc_m252
                  · have e : y = 253 := by omega
                    subst e
                    exact jc_m253
          · rcases Nat.lt_or_ge y 259 with q254 | q259
            · rcases Nat.lt_or_ge y 256 with q254 | q256
              · rcases Nat.lt_or_ge y 255 with q254 | q255
                · have e : y = 254 := by omega
                  subst e
                  exact jc_m254
                · have e : y = 255 := by omega
                  subst e
                  exact jc_m255
              · rcases Nat.lt_or_ge y 257 with q256 | q257
                · have e : y = 256 := by omega
                  subst e
                  exact jc_m256
                · rcases Nat.lt_or_ge y 258 with q257 | q258
                  · have e : y = 257 := by omega
                    subst e
                    exact jc_m257
                  · have e : y = 258 := by omega
                    subst e
                    exact jc_m258
            · rcases Nat.lt_or_ge y 261 with q259 | q261
              · rcases Nat.lt_or_ge y 260 with q259 | q260
                · have e : y = 259 := by omega
                  subst e
                  exact jc_m259
                · have e : y = 260 := by omega
                  subst e
                  exact jc_m260
              · rcases Nat.lt_or_ge y 262 with q261 | q262
                · have e : y = 261 := by omega
                  subst e
                  exact jc_m261
                · rcases Nat.lt_or_ge y 263 with q262 | q263
                  · have e : y = 262 := by omega
                    subst e
                    exact jc_m262
                  · have e : y = 263 := by omega
                    subst e
                    exact jc_m263
      · rcases Nat.lt_or_ge y 283 with q264 | q283
        · rcases Nat.lt_or_ge y 273 with q264 | q273
          · rcases Nat.lt_or_ge y 268 with q264 | q268
            · rcases Nat.lt_or_ge y 266 with q264 | q266
              · rcases Nat.lt_or_ge y 265 with q264 | q265
                · have e : y = 264 := by omega
                  subst e
                  exact jc_m264
                · have e : y = 265 := by omega
                  subst e
                  exact jc_m265
              · rcases Nat.lt_or_ge y 267 with q266 | q267
                · have e : y = 266 := by omega
                  subst e
                  exact jc_m266
                · have e : y = 267 := by omega
                  subst e
                  exact jc_m267
            · rcases Nat.lt_or_ge y 270 with q268 | q270
              · rcases Nat.lt_or_ge y 269 with q268 | q269
                · have e : y = 268 := by omega
                  subst e
                  exact jc_m268
                · have e : y = 269 := by omega
                  subst e
                  exact jc_m269
              · rcases Nat.lt_or_ge y 271 with q270 | q271
                · have e : y = 270 := by omega
                  subst e
                  exact jc_m270
                · rcases Nat.lt_or_ge y 272 with q271 | q272
                  · have e : y = 271 := by omega
                    subst e
                    exact jc_m271
                  · have e : y = 272 := by omega
                    subst e
                    exact jc_m272
          · rcases Nat.lt_or_ge y 278 with q273 | q278
            · rcases Nat.lt_or_ge y 275 with q273 | q275
              · rcases Nat.lt_or_ge y 274 with q273 | q274
                · have e : y = 273 := by omega
                  subst e
                  exact jc_m273
                · have e : y = 274 := by omega
                  subst e
                  exact jc_m274
              · rcases Nat.lt_or_ge y 276 with q275 | q276
                · have e : y = 275 := by omega
                  subst e
                  exact jc_m275
                · rcases Nat.lt_or_ge y 277 with q276 | q277
                  · have e : y = 276 := by omega
                    subst e
                    exact jc_m276
                  · have e : y = 277 := by omega
                    subst e
                    exact jc_m277
            · rcases Nat.lt_or_ge y 280 with q278 | q280
              · rcases Nat.lt_or_ge y 279 with q278 | q279
                · have e : y = 278 := by omega
                  subst e
                  exact jc_m278
                · have e : y = 279 := by omega
                  subst e
                  exact jc_m279
              · rcases Nat.lt_or_ge y 281 with q280 | q281
                · have e : y = 280 := by omega
                  subst e
                  exact jc_m280
                · rcases Nat.lt_or_ge y 282 with q281 | q282
                  · have e : y = 281 := by omega
                    subst e
                    exact jc_m281
                  · have e : y = 282 := by omega
                    subst e
                    exact jc_m282
        · rcases Nat.lt_or_ge y 292 with q283 | q292
          · rcases Nat.lt_or_ge y 287 with q283 | q287
            · rcases Nat.lt_or_ge y 285 with q283 | q285
              · rcases Nat.lt_or_ge y 284 with q283 | q284
                · have e : y = 283 := by omega
                  subst e
                  exact jc_m283
                · have e : y = 284 := by omega
                  subst e
                  exact jc_m284
              · rcases Nat.lt_or_ge y 286 with q285 | q286
                · have e : y = 285 := by omega
                  subst e
                  exact jc_m285
                · have e : y = 286 := by omega
                  subst e
                  exact jc_m286
            · rcases Nat.lt_or_ge y 289 with q287 | q289
              · rcases Nat.lt_or_ge y 288 with q287 | q288
                · have e : y = 287 := by omega
                  subst e
                  exact jc_m287
                · have e : y = 288 := by omega
                  subst e
                  exact jc_m288
              · rcases Nat.lt_or_ge y 290 with q289 | q290
                · have e : y = 289 := by omega
                  subst e
                  exact jc_m289
                · rcases Nat.lt_or_ge y 291 with q290 | q291
                  · have e : y = 290 := by omega
                    subst e
                    exact jc_m290
                  · have e : y = 291 := by omega
                    subst e
                    exact jc_m291
          · rcases Nat.lt_or_ge y 297 with q292 | q297
            · rcases Nat.lt_or_ge y 294 with q292 | q294
              · rcases Nat.lt_or_ge y 293 with q292 | q293
                · have e : y = 292 := by omega
                  subst e
                  exact jc_m292
                · have e : y = 293 := by omega
                  subst e
                  exact jc_m293
              · rcases Nat.lt_or_ge y 295 with q294 | q295
                · have e : y = 294 := by omega
                  subst e
                  exact jc_m294
                · rcases Nat.lt_or_ge y 296 with q295 | q296
                  · have e : y = 295 := by omega
                    subst e
                    exact jc_m295
                  · have e : y = 296 := by omega
                    subst e
                    exact jc_m296
            · rcases Nat.lt_or_ge y 299 with q297 | q299
              · rcases Nat.lt_or_ge y 298 with q297 | q298
                · have e : y = 297 := by omega
                  subst e
                  exact jc_m297
                · have e : y = 298 := by omega
                  subst e
                  exact jc_m298
              · rcases Nat.lt_or_ge y 300 with q299 | q300
                · have e : y = 299 := by omega
                  subst e
                  exact jc_m299
                · rcases Nat.lt_or_ge y 301 with q300 | q301
                  · have e : y = 300 := by omega
                    subst e
                    exact jc_m300
                  · have e : y = 301 := by omega
                    subst e
                    exact jc_m301
/-- the end of a method, as the kit has it -/
theorem jb_ret {p : Program} {l : Launch} {e : Env} {R : Room} {s : State} {m : MethodId} {args : Array Value} {below : List Frame} {meth : Method} {c : Code} {G : jb_G} {φ : Bool} {z C0 S0 : Nat} {ad0 : Nat → Nat} {lim0 : Nat} {r : ja_R} (hx : p.tables.exec = Jvm.exec) (hb : c.code = jm_b z) (hr : meth.sig.returnType = jm_rt z) (hlocks : meth.locks = false) :
    jb_Ret p l e R s m args below meth c (MQ below (jb_Qc G φ ad0 lim0 r) args s (jb_cl r.2 - C0) (jb_sl r.2 - S0) (jb_A G)) G φ z C0 S0 ad0 lim0 r := by
  intro i ad H locs ls L I hv hE
  have hq : ∀ t : State, t.heap = H → s.WarmedH t.vm → jb_Qc G φ ad0 lim0 r args s (.returned (r.1.map (jb_v ad))) t := fun t ht _ => ⟨ad, I.2.2.2.2.1, rfl, ⟨by rw [ht]; exact I.1.1, I.1.2.1⟩, I.1.2.2.1.F ht, hv, I.2.2.1⟩
  obtain ⟨r1, M⟩ := r
  rcases hE with ⟨hd, v, e1, hty⟩ | ⟨hd, hty, v, e1⟩ | ⟨hd, hty, v, e1⟩ | ⟨hd, hty, e1⟩
  · have e1 : r1 = some (ji v) := e1
    subst e1
    rcases hty with hty | ⟨hty, hB⟩
    · exact W.iret hx hb (hr.trans hty) hq I.1.2.2.1.2.2 hd hlocks
    · exact W.zret hx hb (hr.trans hty) (by rcases hB with rfl | rfl <;> rfl) hq I.1.2.2.1.2.2 hd hlocks
  · have e1 : r1 = some (jl v) := e1
    subst e1
    exact W.lret hx hb (hr.trans hty) hq I.1.2.2.1.2.2 hd hlocks
  · have e1 : r1 = some (jr v) := e1
    subst e1
    obtain ⟨rt, hrt, hR⟩ : ∃ rt, jm_rt z = some rt ∧ ((∃ n, rt = .object n) ∨ ∃ t, rt = .array t) := by
      revert hty
      generalize jm_rt z = o
      intro hty
      rcases o with _ | t
      · cases hty
      · cases t <;> first | exact ⟨_, rfl, Or.inl ⟨_, rfl⟩⟩ | exact ⟨_, rfl, Or.inr ⟨_, rfl⟩⟩ | cases hty
    exact W.aret hx hb (hr.trans hrt) hR (by cases v with
      | zero => exact Or.inl rfl
      | succ v => exact Or.inr ⟨_, rfl⟩) hq I.1.2.2.1.2.2 hd hlocks
  · have e1 : r1 = none := e1
    subst e1
    exact W.vret hx hb (hr.trans hty) hq I.1.2.2.1.2.2 hd hlocks
/-- at the entry of a method -/
theorem jb_enter {G : jb_G} {φ : Bool} {s : State} {ad : Nat → Nat} {as : List ja_V} {M : ja_M} {nL : Nat} (hP : va_P G.1 jm_cl (jb_ws G φ ad M) s.heap) (hD : va_D (jb_A G) (jb_ws G φ ad M)) (hro : jb_ro G ad M s) (hlen : (ja_argL as).length ≤ nL) (hok : ∀ v ∈ as, jb_ok v) (hM : jb_Mok φ M) :
    jb_I G φ s nL (jb_cl M) (jb_sl M) ad (ja_lim φ M) ad M s.heap [] (ja_pad nL (ja_argL as)) ((lg_sl (as.map (jb_v ad)) ++ List.replicate (nL - (lg_sl (as.map (jb_v ad))).length) Slot.unset).toArray) := by
  refine ⟨⟨hP, hD, va_S.rf, hro⟩, ⟨?_, ja_pad_len nL _ hlen, fun v hv => hok v (ja_argL_mem as v (ja_pad_mem nL _ v hv))⟩, hM, ⟨Nat.le_refl _, Nat.le_refl _⟩, fun _ _ => rfl, jb_limle hM⟩
  rw [jb_lv_pad ad nL _ 0 hlen, jb_lv_arg]
  exact lv_entry (as.map (jb_v ad)) (by rw [jb_sl_arg]; exact hlen)
theorem jb_noplace {p : Program} {l : Launch} {e : Env} {R : Room} {s : State} {m : MethodId} {args : Array Value} {below : List Frame} {meth : Method} {c : Code} {Q : State → Prop} {G : jb_G} {φ : Bool} {z d C0 S0 : Nat} {ad0 : Nat → Nat} {lim0 : Nat} (hz : z < 302) : jb_SHat jh_place jc_place p l e R s m args below meth c Q G φ z d C0 S0 ad0 lim0 := by
  intro E a i L S M κ r a1 a2 a3 ck
  obtain ⟨-, ck⟩ := jb_and ck
  have q : z = 302 := Nat.eq_of_beq_eq_true (jb_and ck).1
  omega
/-- EVERY CALL: what the small machine answers within d calls in one another, the real one does -/
theorem jb_calls (l : Launch) (G : jb_G) (φ : Bool) : ∀ d, jb_EOK l G φ d (ja_x φ d)
  | 0 => fun _ _ _ _ _ h => by cases h
  | d + 1 => by
    intro y as M r hy h
    have hy2 : y < 302 := hy
    refine ⟨jp_x φ (d + 1) y as M r h, fun ad has hM => ?_⟩
    have hgr := jp_x φ (d + 1) y as M r h
    rw [ja_x_eq] at h
    obtain ⟨hlen, h⟩ := jb_cond h
    have hlen := Nat.le_of_ble_eq_true hlen
    obtain ⟨n, hn⟩ := ja_D_ex h
    have hcls := jw_cls y hy
    obtain ⟨hp1, -, -⟩ := jw_plain _ (jw_own y hy)
    rw [← hcls] at hp1
    refine Met.ofW (cc := jm_b y) (maxL := ja_maxL y) (ret := jm_rt y) (ws' := jm_W) hp1 rfl ?_
    intro p e s m args below meth c s₁ B hml hv
    obtain ⟨rfl, hP, hD, hK, hro, hao⟩ := hv
    have hts := atoms_spec (ws := jb_ws1 y) B.pre
    have hown : s.vm.findClass (jm_nm y).cls = some m.cls := findClass_of_methodNamed B.named
    rw [hcls] at hown
    have hfix : jb_Fix p (headSpec (jb_ws1 y) (jb_rm (d + 1) (jb_cl r.2 - jb_cl M) (jb_sl r.2 - jb_sl M))).room s m (as.map (jb_v ad)).toArray meth c G y d := by
      refine ⟨⟨B.exec, B.bytes, hml, hown, fun w hw => hts w (List.mem_cons_of_mem _ hw)⟩, ⟨hK, fun q hq => Nat.le_trans hro.2.2.2.2.2.2 hq⟩, ⟨Nat.le_refl _, ?_⟩, fun hi => (name_of_methodNamed B.named B.method).1.trans hi, hao⟩
      show 40 * d + 60 ≤ 40 * (d + 1) + 20
      omega
    have hcap : jb_Cap (headSpec (jb_ws1 y) (jb_rm (d + 1) (jb_cl r.2 - jb_cl M) (jb_sl r.2 - jb_sl M))).room (jb_cl M) (jb_sl M) r.2 := by
      show jb_cl r.2 ≤ (jb_cl r.2 - jb_cl M) + jb_cl M ∧ jb_sl r.2 ≤ (jb_sl r.2 - jb_sl M) + jb_sl M
      omega
    have hck : ∀ i, i < (ja_code y).length → jc_row y i (ja_nth (ja_code y) i ja_row0) = true := fun i hi => by
      have := jc_rows_of (ja_code y) 0 i (jm_chks y hy) hi
      rw [Nat.zero_add] at this
      exact this
    have w := jb_walk (jb_noplace hy2) (below := below) (e := e) (Q := MQ below (jb_Qc G φ ad (ja_lim φ M) r) (as.map (jb_v ad)).toArray s (jb_cl r.2 - jb_cl M) (jb_sl r.2 - jb_sl M) (jb_A G)) (C0 := jb_cl M) (S0 := jb_sl M) (ad0 := ad) (lim0 := ja_lim φ M) hck (by omega) hfix (jb_calls l G φ d) hcap (jb_ret B.exec B.bytes B.returns B.notSynchronized) (fun q => by subst q; exact Nat.le_refl _) n 0 _ _ _ hn
    have w := w ad s.heap [] _ (jb_enter hP hD hro hlen has hM) (fun _ h => by cases h)
    rw [jm_pc0 y (by omega), Nat.sub_self, Nat.sub_self] at w
    rw [lg_entry_eq]
    exact w
