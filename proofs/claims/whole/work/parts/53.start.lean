/-! THE CLAIM OUT OF ONE WALK OF THE LAW'S BODY. Your part is whole_start (and what it stands on); all else here is the same for every law, but numbers. -/
def R_law : String := "HuntTableLaw"
def lw_P (b : Addr) (xs : List Int32) (args : Array Value) (s : State) : Prop := args = #[.ref b] ∧ s.IntsAt b xs ∧ xs.length ≤ 3072 ∧ (Jvm.Cond.and given_1 narrow_1).before args s = true
def lw_Q (_ : Array Value) (s : State) (o : Outcome) (t : State) : Prop := o = .returned (some (.int 1)) ∧ Framed s o t [] 601024 7293034
def lw_Z (below : List Frame) (a : Array Value) (s : State) : State → Prop := fun t => ∃ o, t.status = .running ∧ Ended t below o ∧ lw_Q a s o t
/-- the law's own end, with 1 on the stack, nothing written that was there before, its room as the claim has it -/
theorem lw_ret {p : Program} {l : Launch} {e : Env} {s : State} {m : MethodId} {below : List Frame} {meth : Method} {c : Code} {b : Nat} (hx : p.tables.exec = Jvm.exec) (hb : c.code = code) (hr : meth.sig.returnType = ret) (hlocks : meth.locks = false) {pc : Nat} {H : Heap} {ls : Array Slot} (hdg : decode code pc = .ok (.ireturn, 1)) : W p l e room_1 s m #[Value.ref b] below meth c H [] 601024 7293034 (lw_Z below #[Value.ref b] s) (F0 m pc ls [.int 1]) := by
  intro T hT X
  obtain ⟨fs, hret, hrun, hended, hW, hframe⟩ := X.leave (v := some (.int 1)) (hlocks := hlocks) (fun h => by rw [hr] at h; cases h)
  have hmeth' : T.vm.method? m = some meth := X.method'
  refine ⟨T.setFrames fs, ?_, .returned (some (.int 1)), hrun, hended, rfl, ⟨_, rfl⟩, hW, hframe⟩
  jvm_step X.here [X.here.top, hx, hb, hdg, hmeth', hr, ret, narrow_b1]
  (try refine ⟨rfl, ?_⟩); (try refine ⟨rfl, ?_⟩)
  first | (intro acts; rw [hret _ acts rfl rfl rfl]) | rw [hret _ _ rfl rfl rfl]
  exact Steps.refl _
/-- what holds at the law's entry: the machine, the code, the tables' words (any of lw_tbl by 'hts w (by decide +kernel)'), the script of L ints xs at the cell b, what the Statement gives of the start (any of its parts by flat_of_before) -/
def lw_At (p : Program) (s : State) (m : MethodId) (meth : Method) (c : Code) (b L : Nat) (xs : Nat → Int32) : Prop :=
  p.tables.exec = Jvm.exec ∧ c.code = code ∧ meth.sig.returnType = ret ∧ c.maxLocals = 7 ∧ s.vm.findClass R_law = some m.cls ∧ (∀ w ∈ lw_tbl, w.before #[Value.ref b] s = true) ∧ va_X b L xs s s.heap ∧ b < s.heap.size ∧ meth.locks = false ∧ (Jvm.Cond.and given_1 narrow_1).before #[Value.ref b] s = true
/-- what the small machine owes -/
def jd_owes (L : Nat) (xs : Nat → Int32) : Prop := ∀ M1 : ja_M, jd_ck M1 = true → ∃ (n : Nat) (Mf : ja_M), ja_it true (ja_x true 2000) k_Law_law n 13 jd_L2 [] (jd_M2 M1 L xs) = some (some (ji 1), Mf) ∧ Mf 0 1 ≤ 601024 ∧ Mf 0 2 ≤ 7293034
theorem jd_ret {p : Program} {l : Launch} {e : Env} {s : State} {m : MethodId} {below : List Frame} {meth : Method} {c : Code} {b : Nat} {G : jb_G} {φ : Bool} {ad0 : Nat → Nat} {lim0 : Nat} {Mf : ja_M} (hG : ∀ q, jb_A G q → s.heap.size ≤ q) (hx : p.tables.exec = Jvm.exec) (hb : c.code = code) (hr : meth.sig.returnType = ret) (hlocks : meth.locks = false) (h1 : Mf 0 1 ≤ 601024) (h2 : Mf 0 2 ≤ 7293034) :
    jb_Ret p l e room_1 s m #[Value.ref b] below meth c (lw_Z below #[Value.ref b] s) G φ 302 0 0 ad0 lim0 (some (ji 1), Mf) := by
  intro i ad H locs ls L I hv hE
  have hd : decode code (jm_pc 302 i) = .ok (.ireturn, 1) := by
    rcases hE with ⟨hd, -⟩ | ⟨-, hty, -⟩ | ⟨-, hty, -⟩ | ⟨-, hty, -⟩
    · exact hd
    · exact absurd hty (by decide +kernel)
    · exact absurd hty (by decide +kernel)
    · exact absurd hty (by decide +kernel)
  refine va_forget (fun q hq => hG _ (I.1.2.2.1.2.2 q hq)) ?_
  refine W.widen (k := 601024) (n := 7293034) ?_ ?_ ?_
  · show (Mf 0 1).toNat - 0 ≤ 601024
    omega
  · show (Mf 0 2).toNat - 0 ≤ 7293034
    omega
  · exact lw_ret hx hb hr hlocks hd
set_option maxRecDepth 100000 in
theorem jd_xw : ∀ w ∈ [Cond.declares ⟨"java/lang/RuntimeException", "<init>", "()V"⟩, Cond.declares ⟨"java/lang/Exception", "<init>", "()V"⟩, Cond.declares ⟨"java/lang/Throwable", "<init>", "()V"⟩, Cond.castable jq_NSE jq_NSE], w ∈ lw_tbl := by decide +kernel
set_option maxRecDepth 100000 in
theorem jd_xs : Cond.laysStatic Bundle.tN "UNASSIGNED_STACK" Bundle.steD ∈ lw_tbl ∧ Cond.laysStatic Bundle.tN "SUPPRESSED_SENTINEL" Bundle.listD ∈ lw_tbl ∧ Cond.initialized Bundle.tN ∈ lw_tbl ∧ Cond.laysStatic "HuntTable$HuntReader" "LEAST" "[I" ∈ lw_tbl ∧ Cond.laysStatic "HuntTable$HuntReader" "MOST" "[I" ∈ lw_tbl ∧ Cond.initialized "HuntTable$HuntReader" ∈ lw_tbl := by decide +kernel
set_option maxRecDepth 100000 in
theorem jd_xr : Cond.isRef (.static Bundle.tN "UNASSIGNED_STACK" Bundle.steD) ∈ flatC (Jvm.Cond.and given_1 narrow_1) ∧ Cond.isRef (.static Bundle.tN "SUPPRESSED_SENTINEL" Bundle.listD) ∈ flatC (Jvm.Cond.and given_1 narrow_1) := by decide +kernel
theorem jd_b302 : jm_b 302 = code ∧ ja_maxL 302 = 7 ∧ jm_cn (jm_own 302) = R_law ∧ (jm_nm 302).name ≠ "<init>" := ⟨rfl, rfl, rfl, by decide +kernel⟩
set_option maxHeartbeats 4000000 in
set_option maxRecDepth 100000 in
theorem jd_start {p : Program} {e : Env} {s : State} {m : MethodId} {below : List Frame} {meth : Method} {c : Code} (l : Launch) (hl : l.stackTraces = false) {b L : Nat} {xs : Nat → Int32} (hL : L ≤ 3072) (C0 : lw_At p s m meth c b L xs) (hrun : jd_owes L xs) : W p l e room_1 s m #[Value.ref b] below meth c s.heap [] 0 0 (lw_Z below #[Value.ref b] s) (entryFrame m ([Value.ref b] : List Value).toArray 7) := by
  obtain ⟨hx, hb, hr, hml, hown, hts, hX, hbl, hlocks, hgv⟩ := id C0
  have hg := flat_of_before _ hgv
  obtain ⟨t1, e1, X1, q1⟩ := jd_least hg
  obtain ⟨t2, e2, X2, q2⟩ := jd_most hg
  have hA : ∀ a : Nat, a < s.heap.size → ¬ (s.heap.size ≤ a) := fun a h => Nat.not_le.mpr h
  have Z1 : va_Z "HuntTable$HuntReader" "LEAST" "[I" (.ref t1) (fun q : Nat => s.heap.size ≤ q) s s.heap := va_Zof (hts _ jd_xs.2.2.2.1) (hts _ jd_xs.2.2.2.2.2) e1 hA
  have Z2 : va_Z "HuntTable$HuntReader" "MOST" "[I" (.ref t2) (fun q : Nat => s.heap.size ≤ q) s s.heap := va_Zof (hts _ jd_xs.2.2.2.2.1) (hts _ jd_xs.2.2.2.2.2) e2 hA
  have hW : ∀ w ∈ jm_W, w.before #[Value.ref b] s = true := fun w hw => hts w (List.mem_filter.mp hw).1
  obtain ⟨cI, aI, fI⟩ := jd_arr (hW _ jo_arrI)
  obtain ⟨cZ, aZ, fZ⟩ := jd_arr (hW _ jo_arrZ)
  obtain ⟨cJ, aJ, fJ⟩ := jd_arr (hW _ jo_arrJ)
  obtain ⟨cA, aA, fA⟩ := jd_arr2 (hts _ jo_over)
  obtain ⟨D, hD0⟩ := jd_cls hts
  obtain ⟨M1, hM1, hck⟩ := jd_run
  obtain ⟨n, Mf, hf, hc1, hc2⟩ := hrun M1 hck
  generalize hGdef : ((D, (cI, cZ, cJ, cA), s.heap.size) : jb_G) = G
  have hG1 : G.1 = D := by rw [← hGdef]
  have hG2 : jb_A G = fun q : Nat => s.heap.size ≤ q := by rw [← hGdef]; rfl
  have hG3 : jb_tys G = [(cI, .int), (cZ, .boolean), (cJ, .long), (cA, .array .int)] := by rw [← hGdef]; rfl
  have hG4 : G.2.2 = s.heap.size := by rw [← hGdef]
  have hK : va_K G.1 jm_cl (jb_tys G) s := by
    rw [hG1, hG3]
    refine ⟨hD0, fun k q hq => ?_⟩
    rcases k with _ | _ | _ | _ | k
    · cases hq
      exact ⟨aI, fI⟩
    · cases hq
      exact ⟨aZ, fZ⟩
    · cases hq
      exact ⟨aJ, fJ⟩
    · cases hq
      exact ⟨aA, fA⟩
    · cases hq
  have hAO : va_AOI s := ⟨Jvm.Stand.arrayOver_alikeB (Vm.Alike.refl s.vm) (hts _ jo_over), fun q hq => va_Nw.of rfl (hts _ (jm_chI _ (List.mem_of_getElem? (jn_ok q hq))))⟩
  have hXq : jq_X (jb_A G) s := by
    rw [hG2]
    exact ⟨fun w hw => va_Nw.of (jq_onT w hw) (hts w (jd_xw w hw)), vx_Zqof (hts _ jd_xs.1) (hts _ jd_xs.2.2.1) (hg _ jd_xr.1) hA, vx_Zqof (hts _ jd_xs.2.1) (hts _ jd_xs.2.2.1) (hg _ jd_xr.2) hA⟩
  have hfix : jb_Fix p room_1 s m #[Value.ref b] meth c G 302 2000 := ⟨⟨hx, hb.trans jd_b302.1.symm, hml.trans jd_b302.2.1.symm, by rw [jd_b302.2.2.1]; exact hown, hW⟩, ⟨hK, fun q h => by rw [hG2]; exact h⟩, ⟨by decide, by decide⟩, fun h => absurd h jd_b302.2.2.2, hAO⟩
  have hGA : ∀ q, jb_A G q → s.heap.size ≤ q := fun q h => by rw [hG2] at h; exact h
  have hgr2 : jb_gr (jd_M2 M1 L xs) Mf := jp_it true (ja_x true 2000) (jp_x true 2000) k_Law_law (jp_oks 302 (by decide)) n 13 jd_L2 [] (jd_M2 M1 L xs) _ hf
  have hcap : ∀ M : ja_M, M 0 1 = Mf 0 1 → M 0 2 = Mf 0 2 → jb_Cap room_1 0 0 M := fun M u v => by
    show (M 0 1).toNat ≤ 601024 + 0 ∧ (M 0 2).toNat ≤ 7293034 + 0
    omega
  have hck302 : ∀ i, i < (ja_code 302).length → jc_row 302 i (ja_nth (ja_code 302) i ja_row0) = true := jl_ck
  have W2 : ∀ ad' : Nat → Nat, jb_Wat p l e room_1 s m #[Value.ref b] below meth c (lw_Z below #[Value.ref b] s) G true 302 0 0 ad' 171 13 jd_L2 [] (jd_M2 M1 L xs) := fun ad' =>
    jb_walk (r := (some (ji 1), Mf)) (jq_place hl hXq (by decide)) hck302 (by decide) hfix (jb_calls l G true 2000) (hcap Mf rfl rfl) (jd_ret hGA hx hb hr hlocks hc1 hc2) (fun _ => Nat.le_refl _) n 13 jd_L2 [] (jd_M2 M1 L xs) hf
  -- phase 1
  let ad0 : Nat → Nat := fun k => if k = 174 then t2 else if k = 176 then b else t1
  let r1 : ja_R := (some (ji 1), jd_Mb M1 Mf)
  let κ : ja_K := fun i L S M => @ite _ (jd_κ0 i L S M = some (none, M1)) (Classical.propDecidable _) (some r1) none
  have hxc : jd_le (ja_xc false 400 6) (ja_x false 2000) := fun y as M r h => jd_monoK false 6 1994 y as M r (jd_xc false 400 6 y as M r h)
  have run1 : ja_itK false (ja_x false 2000) k_Law_law κ 14 0 jd_L0 [] jd_M0 = some r1 := by
    refine jd_itK hxc k_Law_law κ 14 0 jd_L0 [] jd_M0 r1 (jd_goal (r0 := (none, M1)) ?_ ?_ 14 0 jd_L0 [] jd_M0 (Option.isNone_iff_eq_none.mp jd_run0) hM1)
    · intro i L S M h
      exact if_pos h
    · intro i L S M h
      exact if_neg (fun q => by rw [h] at q; cases q)
  have e1 : jd_Mb M1 Mf 0 1 = Mf 0 1 := rfl
  have e2 : jd_Mb M1 Mf 0 2 = Mf 0 2 := rfl
  have e0 : jd_Mb M1 Mf 0 0 = Mf 0 0 := rfl
  have hgr1 : jb_gr M1 (jd_Mb M1 Mf) := by
    obtain ⟨g1, g2, g3, g4, g5⟩ := hgr2
    exact ⟨g1, g2, g3, rfl, fun j => rfl⟩
  have w := jb_walkK (p := p) (e := e) (m := m) (args := #[Value.ref b]) (below := below) (Q := lw_Z below #[Value.ref b] s) (C0 := 0) (S0 := 0) (ad0 := ad0) (lim0 := 0) (cd := k_Law_law) (κ := κ) (r := r1) (φ := false) (jq_place hl hXq (by decide)) (fun i q _ => hck302 i q) (jp_oks 302 (by decide)) (fun i L' S M h => by
    have h : @ite _ (jd_κ0 i L' S M = some (none, M1)) (Classical.propDecidable _) (some r1) none = some r1 := h
    have hk : jd_κ0 i L' S M = some (none, M1) := by
      by_cases q : jd_κ0 i L' S M = some (none, M1)
      · exact q
      · rw [if_neg q] at h
        cases h
    unfold jd_κ0 at hk
    obtain ⟨k1, k2⟩ := jb_cond hk
    obtain ⟨k3, k4⟩ := jb_and k1
    obtain ⟨k5, k6⟩ := jb_and k4
    have k3 := Nat.eq_of_beq_eq_true k3
    have k5 := of_decide_eq_true k5
    have k6 := of_decide_eq_true k6
    have k7 : M = M1 := by cases k2; rfl
    subst k3 k5 k6 k7
    refine ⟨hgr1, fun ad H locs ls I hS => ?_⟩
    obtain ⟨⟨i1, i2, i3, i4⟩, ⟨i5, i6, i7⟩, i8, i9, i10, i11⟩ := I
    have hb176 : ad 176 = b := (i10 176 (Or.inr (by decide))).trans rfl
    have h173 : ad 173 = t1 := (i10 173 (Or.inr (by decide))).trans rfl
    have h174 : ad 174 = t2 := (i10 174 (Or.inr (by decide))).trans rfl
    refine W2 (jd_ad ad b) (jd_ad ad b) H locs ls ⟨⟨by rw [jd_ws hck]; exact i1, by rw [jd_ws hck]; exact i2, i3, ?_⟩, ⟨?_, rfl, ?_⟩, jd_Mok2 hck i8 hL, ⟨Nat.zero_le _, Nat.zero_le _⟩, fun _ _ => rfl, ?_⟩ (fun v hv => by cases hv)
    · obtain ⟨r1, r2, r3, r4, r5, r6, r7⟩ := i4
      refine ⟨r1, r2, r3, r4, ?_, ⟨r6.1, r6.2.1, ?_⟩, r7⟩
      · show va_X b ((L : Int)).toNat (fun j => Int32.ofInt (xs j).toInt) s s.heap
        have ex : (fun j => Int32.ofInt (xs j).toInt) = xs := by funext j; exact jn_back (xs j)
        rw [ex]
        exact hX
      · rw [hG4]
        exact hbl
    · have i5 : lv_has ls 7 [(0, Value.ref (ad 176)), (1, Value.ref (ad 1)), (2, Value.ref (ad 137)), (3, Value.ref (ad 171)), (4, Value.int (Int32.ofInt 0))] := i5
      rw [hb176] at i5
      exact i5
    · intro v hv
      have hv : some v ∈ [some (jr 175), some (jr 1), some (jr 137), some (jr 171), some (ji 0), none, none] := hv
      simp at hv
      rcases hv with rfl | rfl | rfl | rfl | rfl
      · trivial
      · trivial
      · trivial
      · trivial
      · exact ⟨by decide, by decide⟩
    · show 171 ≤ (jd_M2 _ L xs 0 0).toNat
      rw [jd_M2_c (by decide) (by decide), (jd_ck_of hck).1.1]
      decide) hfix (jb_calls l G false 2000) (hcap _ rfl rfl) (jd_ret hGA hx hb hr hlocks hc1 hc2) (fun h => by cases h) 14 0 jd_L0 [] jd_M0 run1
  have hP0 : va_P G.1 jm_cl (jb_ws G false ad0 jd_M0) s.heap := fun k q hq => by
    have hq : ([] : va_W)[k]? = some q := hq
    simp at hq
  have hD0' : va_D (jb_A G) (jb_ws G false ad0 jd_M0) := by
    show va_D (jb_A G) []
    exact ⟨fun i j p q h => by simp at h, fun k q h => by simp at h⟩
  have hro : jb_ro G ad0 jd_M0 s := by
    refine ⟨by rw [hG2]; exact Z1, by rw [hG2]; exact Z2, X1, X2, X1, ⟨?_, ?_, ?_⟩, by rw [hG4]; exact Nat.le_refl _⟩
    · rw [hG4]; exact q1
    · rw [hG4]; exact q2
    · rw [hG4]; exact q1
  have I0 := jb_enter (as := [jr 176]) (nL := 7) hP0 hD0' hro (by decide) (fun v hv => by rw [List.mem_singleton.mp hv]; trivial) jd_Mok0
  have w := w ad0 s.heap [] _ I0 (fun _ h => by cases h)
  rw [jm_pc0 302 (by decide)] at w
  rw [lg_entry_eq]
  exact w
