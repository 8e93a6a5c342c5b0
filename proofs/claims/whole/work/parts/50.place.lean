/-! HuntTable.place and HuntTableLaw.place: the one throw, caught -/
def jq_NSE : String := "java/util/NoSuchElementException"
def jq_nms : List String := ["java/lang/RuntimeException", "java/lang/Exception"]
/-- what a throw wants of the heap and of words that don't stay -/
def jq_X (A : Nat → Prop) (U : State) : Prop := (∀ w ∈ [Cond.declares ⟨"java/lang/RuntimeException", "<init>", "()V"⟩, Cond.declares ⟨"java/lang/Exception", "<init>", "()V"⟩, Cond.declares ⟨"java/lang/Throwable", "<init>", "()V"⟩, Cond.castable jq_NSE jq_NSE], va_Nw w U) ∧
  vx_Zq Bundle.tN "UNASSIGNED_STACK" Bundle.steD A U U.heap ∧ vx_Zq Bundle.tN "SUPPRESSED_SENTINEL" Bundle.listD A U U.heap
theorem jq_X.to {A : Nat → Prop} {s U : State} {H : Heap} {locs : List Loc} (h : jq_X A s) (hS : va_S A s.heap H locs) (hU : U.heap = H) (hW : s.WarmedH U.vm) : jq_X A U := by
  subst hU
  obtain ⟨h1, h2, h3⟩ := h
  refine ⟨?_, (h2.moved hW.alike).kept (fun a x y => hS.2.1 a x y), (h3.moved hW.alike).kept (fun a x y => hS.2.1 a x y)⟩
  have a1 := h1 _ (List.mem_cons_self)
  have a2 := h1 _ (List.mem_cons_of_mem _ List.mem_cons_self)
  have a3 := h1 _ (List.mem_cons_of_mem _ (List.mem_cons_of_mem _ List.mem_cons_self))
  have a4 := h1 _ (List.mem_cons_of_mem _ (List.mem_cons_of_mem _ (List.mem_cons_of_mem _ List.mem_cons_self)))
  exact List.forall_mem_cons.mpr ⟨va_Nw.warmD hW a1, List.forall_mem_cons.mpr ⟨va_Nw.warmD hW a2, List.forall_mem_cons.mpr ⟨va_Nw.warmD hW a3, List.forall_mem_cons.mpr ⟨va_Nw.warmC hW a4, fun _ h => absurd h List.not_mem_nil⟩⟩⟩⟩
theorem jq_X.calling {A : Nat → Prop} {U : State} {g : JFrame} {mk : MethodId} {a : Array Value} (h : jq_X A U) : jq_X A (U.calling g mk a) := h.to (H := U.heap) (locs := []) va_S.rf rfl (State.WarmedH.refl U)
def jq_Pc (G : jb_G) (ad : Nat → Nat) (as : List ja_V) (M : ja_M) : Array Value → State → Prop := fun a U => jb_Pc G true ad as M a U ∧ jq_X (jb_A G) U
theorem jq_blind {G : jb_G} {ad : Nat → Nat} {as : List ja_V} {M : ja_M} : FrameBlind (jq_Pc G ad as M) := fun a U g mk h => ⟨jb_blind a U g mk h.1, h.2.calling⟩
theorem jq_noplace {p : Program} {l : Launch} {e : Env} {R : Room} {s : State} {m : MethodId} {args : Array Value} {below : List Frame} {meth : Method} {c : Code} {Q : State → Prop} {G : jb_G} {φ : Bool} {z d C0 S0 : Nat} {ad0 : Nat → Nat} {lim0 : Nat} (hz : z ≠ 302) : jb_SHat jh_place jc_place p l e R s m args below meth c Q G φ z d C0 S0 ad0 lim0 := by
  intro E a i L S M κ r a1 a2 a3 ck
  obtain ⟨-, ck⟩ := jb_and ck
  exact absurd (Nat.eq_of_beq_eq_true (jb_and ck).1) hz
/-! HuntTable.place -/
def jq_cd : List ja_I := [(0, 0, 2, 0, [], []), (26, 11, 3, 35, [], []), (0, 1, 0, 0, [], []), (43, 71, 1, 1, [(148, 0)], []), (19, 0, 10, 0, [], []), (0, 2, 0, 0, [], []), (19, 2, 10, 0, [], []), (0, 2, 0, 0, [], []), (1, 0, 0, 1, [], []), (18, 5, 14, 0, [], []), ja_row0, ja_row0, ja_row0, ja_row0,
  (0, 2, 0, 0, [], []), (19, 1, 21, 0, [], []), (0, 0, 2, 0, [], []), (26, 11, 3, 35, [], []), (0, 1, 0, 0, [], []), (43, 108, 1, 1, [(154, 0)], []), (22, 0, 25, 0, [], []), (0, 0, 2, 0, [], []), (26, 11, 3, 35, [], []), (0, 1, 0, 0, [], []), (43, 109, 1, 1, [(157, 0)], []), (47, 0, 0, 0, [], [])]
set_option maxRecDepth 100000 in
theorem jq_cd_ok : (∀ i, i < jq_cd.length → (ja_nth jq_cd i ja_row0).1 < 62 → jc_row 303 i (ja_nth jq_cd i ja_row0) = true) ∧ jq_cd.all jp_ok = true := by decide +kernel
def jq_κ : ja_K := fun i _ S M => match S with
  | [] => cond (Nat.beq i 10) (some (none, M)) none
  | _ :: _ => none
theorem jq_κ_of {i : Nat} {L : ja_L} {S : List ja_V} {M : ja_M} {r : ja_R} (h : jq_κ i L S M = some r) : S = [] ∧ i = 10 ∧ r = (none, M) := by
  cases S with
  | cons _ _ => cases h
  | nil =>
    have h : cond (Nat.beq i 10) (some ((none, M) : ja_R)) none = some r := h
    obtain ⟨h1, h2⟩ := jb_cond h
    cases h2
    exact ⟨rfl, Nat.eq_of_beq_eq_true h1, rfl⟩
set_option maxRecDepth 100000 in
theorem jq_eval (E : ja_E) (p w : Int) (M : ja_M) : ja_itK true E jq_cd jq_κ 24 0 [some (jr 1), some (ji p), some (ji w)] [] M = ja_bI (E 71 [jr 11, ji p] M) (fun x M1 => if x = 0 then some (none, M1) else if w < 0 then some (none, M1) else if 1 < w then some (none, M1) else if w = 0 then ja_bI (E 108 [jr 11, ji p] M1) (fun v M2 => some (some (ji v), M2)) else ja_bI (E 109 [jr 11, ji p] M1) (fun v M2 => some (some (ji v), M2))) := rfl
/-- what place answers where it answers -/
def jq_v (M : ja_M) (p w : Int) : Int := if w = 0 then M 12 p.toNat else M 13 p.toNat
def jq_ok (M : ja_M) (p w : Int) : Prop := (0 ≤ p ∧ p < M 11 3) ∧ (0 ≤ w ∧ w ≤ 1)
theorem jq_run1 {dd : Nat} {p w : Int} {M : ja_M} (h6 : M 11 3 ≤ 6) (h : jq_ok M p w) : ja_itK true (ja_x true (dd + 2)) jq_cd jq_κ 24 0 [some (jr 1), some (ji p), some (ji w)] [] M = some (some (ji (jq_v M p w)), M) := by
  obtain ⟨h1, h2⟩ := h
  rw [jq_eval, js_hasPlace (dd + 1), jz_bI, if_pos h1, if_neg (by decide), if_neg (by omega), if_neg (by omega)]
  unfold jq_v
  by_cases hw : w = 0
  · rw [if_pos hw, if_pos hw, f_Hunt_x_11, js_hasPlace dd, jz_bI, if_pos h1, if_neg (by decide), if_pos (by omega), jz_bI]
  · rw [if_neg hw, if_neg hw, f_Hunt_y_11, js_hasPlace dd, jz_bI, if_pos h1, if_neg (by decide), if_pos (by omega), jz_bI]
theorem jq_run0 {dd : Nat} {p w : Int} {M : ja_M} (h : ¬ jq_ok M p w) : ja_itK true (ja_x true (dd + 2)) jq_cd jq_κ 24 0 [some (jr 1), some (ji p), some (ji w)] [] M = some (none, M) := by
  rw [jq_eval, js_hasPlace (dd + 1), jz_bI]
  by_cases h1 : 0 ≤ p ∧ p < M 11 3
  · rw [if_pos h1, if_neg (by decide)]
    by_cases h2 : w < 0
    · rw [if_pos h2]
    · rw [if_neg h2]
      by_cases h3 : 1 < w
      · rw [if_pos h3]
      · exact absurd ⟨h1, by omega⟩ h
  · rw [if_neg h1, if_pos rfl]
theorem jq_W303 : Cond.code (jm_nm 303) (jm_b 303) (ja_maxL 303) (jm_rt 303) ∈ jm_W := List.mem_filter.mpr ⟨(show _ ∈ lw_tbl by decide +kernel), rfl⟩
theorem jq_good303 : GoodIn jm_W (jb_ws1 303) := by
  intro w hw
  rcases List.mem_cons.mp hw with rfl | hw
  · exact ⟨jq_W303, good_of_word rfl⟩
  · exact ⟨hw, good_of_word (List.mem_filter.mp hw).2⟩
theorem jq_fix {p : Program} {l : Launch} {e : Env} {s s₁ : State} {m : MethodId} {args : Array Value} {below : List Frame} {meth : Method} {c : Code} {G : jb_G} {M : ja_M} {ad : Nat → Nat} {as : List ja_V} {mc ms : Nat} (B : BodyLoose p l (jm_nm 303) (headSpec (jb_ws1 303) (jb_rm 10 mc ms)) (jm_b 303) 3 (some .int) e s m args below meth c s₁) (hml : c.maxLocals = 3) (hP : jq_Pc G ad as M args s) :
    jb_Fix p (headSpec (jb_ws1 303) (jb_rm 10 mc ms)).room s m args meth c G 303 9 := by
  obtain ⟨⟨-, -, -, hK, hro, hao⟩, -⟩ := hP
  have hts := atoms_spec (ws := jb_ws1 303) B.pre
  have hown : s.vm.findClass (jm_nm 303).cls = some m.cls := findClass_of_methodNamed B.named
  exact ⟨⟨B.exec, B.bytes, hml, hown, fun w hw => hts w (List.mem_cons_of_mem _ hw)⟩, ⟨hK, fun q hq => Nat.le_trans hro.2.2.2.2.2.2 hq⟩, ⟨Nat.le_refl _, Nat.le_refl _⟩, fun hi => absurd hi (by decide +kernel), hao⟩
/-- place, where there is such a place -/
theorem jq_met1 (l : Launch) (G : jb_G) (ad : Nat → Nat) {M : ja_M} {p w : Int} (h6 : M 11 3 ≤ 6) (hk : jq_ok M p w) (hM : jb_Mok true M) (hp : jb_ok (ji p)) (hw : jb_ok (ji w)) :
    vx_Met l (jm_nm 303) (jb_ws1 303) (jb_rm 10 0 0) (jq_Pc G ad [jr 1, ji p, ji w] M) (jb_Qc G true ad ja_N0 (some (ji (jq_v M p w)), M)) (fun _ _ _ => False) 0 0 (jb_A G) := by
  refine vx_ofW (cc := jm_b 303) (maxL := 3) (ret := some .int) (ws' := jm_W) (by decide +kernel) rfl ?_
  intro p9 e s m args below meth c s₁ B hml _ hv
  have hfix := jq_fix B hml hv
  obtain ⟨⟨rfl, hP, hD, hK, hro, hao⟩, hx⟩ := hv
  have ww := jb_walkK (R := (headSpec (jb_ws1 303) (jb_rm 10 0 0)).room) (p := p9) (below := below) (e := e) (Q := vx_MQ below (jb_Qc G true ad ja_N0 (some (ji (jq_v M p w)), M)) (fun _ _ _ => False) ([jr 1, ji p, ji w].map (jb_v ad)).toArray s (jb_cl M - jb_cl M) (jb_sl M - jb_sl M) (jb_A G)) (C0 := jb_cl M) (S0 := jb_sl M) (ad0 := ad) (lim0 := ja_N0) (r := (some (ji (jq_v M p w)), M)) (jq_noplace (by decide)) jq_cd_ok.1 jq_cd_ok.2 (κ := jq_κ)
    (fun i L S M h => by obtain ⟨-, -, q⟩ := jq_κ_of h; cases q) hfix (jb_calls l G true 9) ⟨by show jb_cl M ≤ 0 + jb_cl M; omega, by show jb_sl M ≤ 0 + jb_sl M; omega⟩
    (fun i ad H locs ls L I hv hE => vx_ret (jb_ret B.exec B.bytes B.returns B.notSynchronized i ad H locs ls L I hv hE)) (fun _ => Nat.le_refl _) 24 0 _ _ _ (jq_run1 (dd := 7) h6 hk)
  have ww := ww ad s.heap [] _ (jb_enter (as := [jr 1, ji p, ji w]) (nL := 3) hP hD hro (show 3 ≤ 3 from Nat.le_refl 3) (List.forall_mem_cons.mpr ⟨trivial, List.forall_mem_cons.mpr ⟨hp, List.forall_mem_cons.mpr ⟨hw, fun _ h => absurd h List.not_mem_nil⟩⟩⟩) hM) (fun _ h => by cases h)
  rw [Nat.sub_self, Nat.sub_self] at ww
  rw [lg_entry_eq]
  exact ww
/-- place, where there is none: it throws -/
def jq_XC (G : jb_G) (ad : Nat → Nat) (M : ja_M) : String → State → State → Prop := fun E st t => E = jq_NSE ∧ ∃ ad' : Nat → Nat, (∀ k, k ≤ ja_N0 ∨ ja_RO ≤ k → ad' k = ad k) ∧ (va_P G.1 jm_cl (jb_ws G true ad' M) t.heap ∧ va_D (jb_A G) (jb_ws G true ad' M)) ∧ va_F (jb_A G) st t
theorem jq_at0 : ∀ w ∈ vx_at0 "HuntTable" 153 jq_NSE jq_nms, w ∈ jm_W ∨ w ∈ [Cond.declares ⟨"java/lang/RuntimeException", "<init>", "()V"⟩, Cond.declares ⟨"java/lang/Exception", "<init>", "()V"⟩, Cond.declares ⟨"java/lang/Throwable", "<init>", "()V"⟩, Cond.castable jq_NSE jq_NSE] := by
  have h : ∀ w ∈ vx_at0 "HuntTable" 153 jq_NSE jq_nms, (w ∈ lw_tbl ∧ goodWord w = true) ∨ w ∈ [Cond.declares ⟨"java/lang/RuntimeException", "<init>", "()V"⟩, Cond.declares ⟨"java/lang/Exception", "<init>", "()V"⟩, Cond.declares ⟨"java/lang/Throwable", "<init>", "()V"⟩, Cond.castable jq_NSE jq_NSE] := by decide +kernel
  intro w hw
  rcases h w hw with q | q
  · exact Or.inl (List.mem_filter.mpr q)
  · exact Or.inr q
theorem jq_onT : ∀ w ∈ [Cond.declares ⟨"java/lang/RuntimeException", "<init>", "()V"⟩, Cond.declares ⟨"java/lang/Exception", "<init>", "()V"⟩, Cond.declares ⟨"java/lang/Throwable", "<init>", "()V"⟩, Cond.castable jq_NSE jq_NSE], w.onTables = true := by decide +kernel
theorem jq_gd : ∀ w ∈ Cond.classLink "HuntTable" 151 jq_NSE :: Cond.initialized jq_NSE :: vx_at0 "HuntTable" 153 jq_NSE jq_nms, vx_ot w = true := by decide +kernel
theorem jq_k151 : Cond.classLink "HuntTable" 151 jq_NSE ∈ jm_W := List.mem_filter.mpr ⟨(show _ ∈ lw_tbl by decide +kernel), rfl⟩
theorem jq_ini : Cond.initialized jq_NSE ∈ jm_W := List.mem_filter.mpr ⟨(show _ ∈ lw_tbl by decide +kernel), rfl⟩
theorem jq_dec : decode (jm_b 303) (jm_pc 303 10) = .ok (.new 151, 3) ∧ decode (jm_b 303) (jm_pc 303 10 + 3) = .ok (.dup, 1) ∧ decode (jm_b 303) (jm_pc 303 10 + 4) = .ok (.invokespecial 153, 3) ∧ decode (jm_b 303) (jm_pc 303 10 + 7) = .ok (.athrow, 1) := by decide +kernel
theorem jq_fit : Bundle.fit jq_NSE = true ∧ ∀ n ∈ jq_nms, Bundle.fit n = true := by decide +kernel
theorem jq_met0 (l : Launch) (hl : l.stackTraces = false) (G : jb_G) (ad : Nat → Nat) {M : ja_M} {p w : Int} (hk : ¬ jq_ok M p w) (hM : jb_Mok true M) (hp : jb_ok (ji p)) (hw : jb_ok (ji w)) :
    vx_Met l (jm_nm 303) (jb_ws1 303) (jb_rm 10 1 6) (jq_Pc G ad [jr 1, ji p, ji w] M) (fun _ _ _ _ => False) (jq_XC G ad M) 1 6 (jb_A G) := by
  refine vx_ofW (cc := jm_b 303) (maxL := 3) (ret := some .int) (ws' := jm_W) (by decide +kernel) rfl ?_
  intro p9 e s m args below meth c s₁ B hml htab hv
  have hfix := jq_fix B hml hv
  obtain ⟨⟨rfl, hP, hD, hK, hro, hao⟩, hx⟩ := hv
  have hts := hfix.1.2.2.2.2
  have ww := jb_walkK (R := (headSpec (jb_ws1 303) (jb_rm 10 1 6)).room) (p := p9) (below := below) (e := e) (Q := vx_MQ below (fun _ _ _ _ => False) (jq_XC G ad M) ([jr 1, ji p, ji w].map (jb_v ad)).toArray s 1 6 (jb_A G)) (C0 := jb_cl M) (S0 := jb_sl M) (ad0 := ad) (lim0 := ja_N0) (r := (none, M)) (jq_noplace (by decide)) jq_cd_ok.1 jq_cd_ok.2 (κ := jq_κ)
    (fun i L S M9 h => by
      obtain ⟨rfl, rfl, q⟩ := jq_κ_of h
      cases q
      refine ⟨jb_gr.rf _, ?_⟩
      intro ad9 H locs ls I hS
      rw [Nat.sub_self, Nat.sub_self]
      obtain ⟨d0, d3, d4, d7⟩ := jq_dec
      refine vx_throw0 hfix.1.1 hfix.1.2.1 hl (own := "HuntTable") (cls := jq_NSE) (names := jq_nms) (ik := 151) (ic := 153) (A := jb_A G) (XC := jq_XC G ad M) hfix.1.2.2.2.1 jq_fit.1 jq_fit.2 (hts _ jq_k151) (hts _ jq_ini) (fun w hw => ?_) jq_gd hx.2.1 hx.2.2 I.1.2.2.1 (by rw [I.2.1.1.1, hml]; rfl) d0 d3 d4 d7 (fun x hx => (htab x hx).elim) (by show 2 + 3 < 10; omega) (by show 0 + (13 * 3 + 42) ≤ 420; omega) (by show 0 + 1 ≤ 1; omega) (by show 0 + 6 ≤ 6; omega) B.notSynchronized (fun t h1 h2 h3 => ?_) I.1.2.2.1.2.2 (Nat.le_refl _) (Nat.le_refl _)
      · rcases jq_at0 w hw with q | q
        · exact hts _ q
        · exact va_Nw.use (jq_onT w q) (hx.1 w q)
      · refine ⟨rfl, ad9, I.2.2.2.2.1, ⟨I.1.1.kept (fun k q hq => h3 _ ?_), I.1.2.1⟩, ?_⟩
        · exact (I.1.1 k q hq).lt
        · exact ⟨Nat.le_trans I.1.2.2.1.1 h2, fun q g1 g2 => (h3 q (Nat.lt_of_lt_of_le g1 I.1.2.2.1.1)).trans (I.1.2.2.1.2.1 q g1 g2)⟩) hfix (jb_calls l G true 9) ⟨by show jb_cl M ≤ 1 + jb_cl M; omega, by show jb_sl M ≤ 6 + jb_sl M; omega⟩
    (fun i ad H locs ls L I hv hE => by
      exfalso
      rcases hE with ⟨-, v, q, -⟩ | ⟨-, -, v, q⟩ | ⟨-, -, v, q⟩ | ⟨-, q, -⟩
      · cases q
      · cases q
      · cases q
      · revert q
        decide +kernel) (fun _ => Nat.le_refl _) 24 0 _ _ _ (jq_run0 (dd := 7) hk)
  have ww := ww ad s.heap [] _ (jb_enter (as := [jr 1, ji p, ji w]) (nL := 3) hP hD hro (show 3 ≤ 3 from Nat.le_refl 3) (List.forall_mem_cons.mpr ⟨trivial, List.forall_mem_cons.mpr ⟨hp, List.forall_mem_cons.mpr ⟨hw, fun _ h => absurd h List.not_mem_nil⟩⟩⟩) hM) (fun _ h => by cases h)
  rw [Nat.sub_self, Nat.sub_self] at ww
  rw [lg_entry_eq]
  exact ww

/-! HuntTableLaw.place -/
def jq_cl : List ja_I := [(0, 3, 2, 0, [], []), (1, 0, 0, 0, [], []), (0, 0, 2, 0, [], []), (0, 1, 0, 0, [], []), (0, 2, 0, 0, [], []), ja_row0, (15, 0, 0, 0, [], []), (38, 0, 0, 0, [], []), (22, 0, 12, 0, [], []), ja_row0, (1, 0, 0, 1, [], []), (47, 0, 0, 0, [], []), (1, 0, 0, 0, [], []), (47, 0, 0, 0, [], [])]
set_option maxRecDepth 100000 in
theorem jq_cl_ok : (∀ i, i < jq_cl.length → (ja_nth jq_cl i ja_row0).1 < 62 → jc_row 304 i (ja_nth jq_cl i ja_row0) = true) ∧ jq_cl.all jp_ok = true := by decide +kernel
def jq_κ2 (F : ja_L → Int → Int → ja_M → Option ja_R) : ja_K := fun i L S M => match S with
  | [.inl w, .inl p, .inr (.inr x), .inl k, .inr (.inr o)] => cond (Nat.beq i 5 && (Nat.beq x 1 && (ja_is0 k && Nat.beq o ja_cO))) (F L w p M) none
  | _ => none
set_option maxRecDepth 100000 in
theorem jq_eval2 (E : ja_E) (F : ja_L → Int → Int → ja_M → Option ja_R) (p w : Int) (M : ja_M) : ja_itK true E jq_cl (jq_κ2 F) 6 0 [some (jr 1), some (ji p), some (ji w), some (jr ja_cO), none] [] M = match F [some (jr 1), some (ji p), some (ji w), some (jr ja_cO), none] w p M with
  | some r => some r
  | none => none := rfl
theorem jq_is0 {k : Int} (h : ja_is0 k = true) : k = 0 := by
  rcases k with n | n
  · cases n with
    | zero => rfl
    | succ n => cases h
  · cases h
theorem jq_κ2_of {F : ja_L → Int → Int → ja_M → Option ja_R} {i : Nat} {L : ja_L} {S : List ja_V} {M : ja_M} {r : ja_R} (h : jq_κ2 F i L S M = some r) : ∃ w p, i = 5 ∧ S = [ji w, ji p, jr 1, ji 0, jr ja_cO] ∧ F L w p M = some r := by
  unfold jq_κ2 at h
  split at h
  · obtain ⟨h1, h2⟩ := jb_cond h
    obtain ⟨a1, h1⟩ := jb_and h1
    obtain ⟨a2, h1⟩ := jb_and h1
    obtain ⟨a3, a4⟩ := jb_and h1
    refine ⟨_, _, Nat.eq_of_beq_eq_true a1, ?_, h2⟩
    rw [Nat.eq_of_beq_eq_true a2, jq_is0 a3, Nat.eq_of_beq_eq_true a4]
  · cases h
noncomputable def jq_F (p w : Int) (M : ja_M) (r : ja_R) : ja_L → Int → Int → ja_M → Option ja_R := fun L w' p' M' => @ite _ (L = [some (jr 1), some (ji p), some (ji w), some (jr ja_cO), none] ∧ w' = w ∧ p' = p ∧ M' = M) (Classical.propDecidable _) (some r) none
theorem jq_F_of {p w : Int} {M : ja_M} {r r' : ja_R} {L : ja_L} {w' p' : Int} {M' : ja_M} (h : jq_F p w M r L w' p' M' = some r') : (L = [some (jr 1), some (ji p), some (ji w), some (jr ja_cO), none] ∧ w' = w ∧ p' = p ∧ M' = M) ∧ r = r' := by
  unfold jq_F at h
  split at h
  · rename_i q
    exact ⟨q, Option.some.inj h⟩
  · cases h
theorem jq_F_self (p w : Int) (M : ja_M) (r : ja_R) : jq_F p w M r [some (jr 1), some (ji p), some (ji w), some (jr ja_cO), none] w p M = some r := if_pos ⟨rfl, rfl, rfl, rfl⟩
set_option maxRecDepth 100000 in
theorem jq_eval3 (E : ja_E) (p w v : Int) (M : ja_M) : ja_itK true E jq_cl (fun _ _ _ _ => none) 5 6 [some (jr 1), some (ji p), some (ji w), some (jr ja_cO), none] [ji v, ji 0, jr ja_cO] M = some (some (ji 0), ja_up M ja_cO 0 v) := rfl
set_option maxRecDepth 100000 in
theorem jq_eval4 (E : ja_E) (p w : Int) (M : ja_M) : ja_itK true E jq_cl (fun _ _ _ _ => none) 2 10 [some (jr 1), some (ji p), some (ji w), some (jr ja_cO), none] [] M = some (some (ji 1), M) := rfl
def jq_wsL : List Cond := Cond.codeWith (jm_nm 304) (jm_b 304) 5 (some .int) [(0, 10, 13, 13)] :: jm_W
theorem jq_ofWH {l : Launch} {y : MethodName} {ws ws' : List Cond} {rm : Room} {Pc : Array Value → State → Prop} {Qc : Array Value → State → Outcome → State → Prop} {mc ms : Nat} {free : Addr → Prop} {cc : ByteArray} {maxL : Nat} {ret : Option FieldType} {hh : List (Nat × Nat × Nat × Nat)}
    (hy : plainName y.cls = true) (hw : ws = Cond.codeWith y cc maxL ret hh :: ws')
    (body : ∀ p e s m args below meth c s₁, BodyLoose p l y (headSpec ws rm) cc maxL ret e s m args below meth c s₁ → c.maxLocals = maxL → Pc args s →
      W p l e (headSpec ws rm).room s m args below meth c s.heap [] 0 0 (MQ below Qc args s mc ms free) (entryFrame m args maxL)) : Met l y ws rm Pc Qc mc ms free := by
  refine MetFree.of_bodyS (code := cc) (maxLocals := maxL) (ret := ret) hy ?_ ?_
  · intro args s m h hn
    obtain ⟨m9, meth, c, hn9, h1, h2, h3, h4, -, h5, h6, -⟩ := Cond.codeWith_spec (atoms_spec (ws := ws) h _ (by rw [hw]; exact List.mem_cons_self))
    cases hn.symm.trans hn9
    exact ⟨meth, c, h1, h2, h3, h4, h5, h6⟩
  · intro p e s m args below meth c s₁ B hml hP _
    have hh0 : s₁.heap = s.heap := by rw [B.state]; rfl
    obtain ⟨t, a1, o, b1, b2, b3⟩ := body p e s m args below meth c s₁ B hml hP s₁ hh0 (Stand.of_body B)
    exact ⟨t, o, a1, b1, b2, b3⟩
theorem jq_call {p : Program} {l : Launch} {e : Env} {R : Room} {s : State} {m : MethodId} {args : Array Value} {below : List Frame} {meth : Method} {c : Code} {H : Heap} {locs : List Loc} {cells slots mc ms : Nat} {Q : State → Prop} {pc : Nat} {ls : Array Slot} {st0 rest : List Value} {A : Nat → Prop} {free : Addr → Prop} {Qa : State → Outcome → State → Prop} {XC : String → State → State → Prop}
    (hr : vx_Run p l e R s m args below meth c H locs cells slots mc ms (F0 m pc ls st0) rest Qa XC free) (hf : ∀ q, free q → A q) (hS : va_S A s.heap H locs)
    (kk : ∀ (v : Option Value) (st t : State) (locs1 : List Loc), st.heap = H → Qa st (.returned v) t → (va_F A st t → va_S A s.heap t.heap locs1) → W p l e R s m args below meth c t.heap locs1 (cells + mc) (slots + ms) Q (F0 m (pc + 3) ls (v.toList ++ rest)))
    (kx : ∀ (E : String) (ce : Cell) (q : Addr) (st t : State) (locs1 : List Loc), st.heap = H → XC E st t → t.heap[q]? = some ce → ce.vm = .none → s.vm.findClass E = some ce.cls → (va_F A st t → va_S A s.heap t.heap locs1) → vx_W p l e R s m args below meth c t.heap locs1 (cells + mc) (slots + ms) Q (F0 m pc ls rest) q) : W p l e R s m args below meth c H locs cells slots Q (F0 m pc ls st0) := by
  intro T hT X
  have hF2 : ∀ (st t : State) (L : List Loc), st.heap = H → (∀ q ∈ L, free q.base) → va_F A st t → va_S A s.heap t.heap (locs ++ L) := fun st t L e0 hL hF => ⟨Nat.le_trans hS.1 (by rw [← e0]; exact hF.1), fun q h1 h2 => by
    rw [hF.2 q (by rw [e0]; exact Nat.lt_of_lt_of_le h1 hS.1) h2, e0]
    exact hS.2.1 q h1 h2, fun x hx => by
    rcases List.mem_append.mp hx with h | h
    · exact hS.2.2 x h
    · exact hf _ (hL x h)⟩
  rcases hr T hT X with ⟨v, st, t, T', L, e0, X', hL, e1, -, hq, go⟩ | ⟨q, st, t, T', L, E, ce, e0, X', hL, e1, -, hxc, hce, hcv, hcl, st1⟩
  · obtain ⟨u, a1, b1⟩ := kk v st t (locs ++ L) e0 hq (hF2 st t L e0 hL) T' e1 X'
    exact ⟨u, go u a1, b1⟩
  · obtain ⟨u, a1, b1⟩ := kx E ce q st t (locs ++ L) e0 hxc hce hcv hcl (hF2 st t L e0 hL) T' e1 X'
    exact ⟨u, st1.trans a1, b1⟩
theorem jq_w7 : Cond.methodLink "HuntTableLaw" 7 (jm_nm 303) ∈ jm_W := List.mem_filter.mpr ⟨(show _ ∈ lw_tbl by decide +kernel), rfl⟩
theorem jq_wi : Cond.instanceMethod (jm_nm 303) ∈ jm_W := List.mem_filter.mpr ⟨(show _ ∈ lw_tbl by decide +kernel), rfl⟩
theorem jq_ws : Cond.selects "HuntTable" (jm_nm 303) (jm_nm 303) ∈ jm_W := List.mem_filter.mpr ⟨(show _ ∈ lw_tbl by decide +kernel), rfl⟩
theorem jq_wini : Cond.initialized (jm_nm 303).cls ∈ jm_W := List.mem_filter.mpr ⟨(show _ ∈ lw_tbl by decide +kernel), rfl⟩
theorem jq_w13 : Cond.classLink "HuntTableLaw" 13 jq_NSE ∈ jm_W := List.mem_filter.mpr ⟨(show _ ∈ lw_tbl by decide +kernel), rfl⟩
theorem jq_dec7 : decode (jm_b 304) (jm_pc 304 5) = .ok (.invokevirtual 7, 3) ∧ jm_pc 304 5 + 3 = jm_pc 304 6 := by decide +kernel
/-- the call of place in the law's own place -/
theorem jq_runP {l : Launch} {p : Program} {e : Env} {R : Room} {s : State} {m : MethodId} {args : Array Value} {below : List Frame} {meth : Method} {c : Code} {H : Heap} {locs : List Loc} {cells slots : Nat} {G : jb_G} {ad ad0 : Nat → Nat} {lim0 C0 S0 mc ms : Nat} {M : ja_M} {L : ja_L} {ls : Array Slot} {x w : Int} {Qc : Array Value → State → Outcome → State → Prop} {XC : String → State → State → Prop}
    (F : jb_Fix p R s m args meth c G 304 10) (hx : jq_X (jb_A G) s) (I : jb_I G true s 5 C0 S0 ad0 lim0 ad M H locs L ls)
    (hMet : vx_Met l (jm_nm 303) (jb_ws1 303) (jb_rm 10 mc ms) (jq_Pc G ad [jr 1, ji x, ji w] M) Qc XC mc ms (jb_A G)) (hcap : cells + mc ≤ R.cells ∧ slots + ms ≤ R.slots) :
    vx_Run p l e R s m args below meth c H locs cells slots mc ms (F0 m (jm_pc 304 5) ls ([ji w, ji x, jr 1, ji 0, jr ja_cO].map (jb_v ad))) ([ji 0, jr ja_cO].map (jb_v ad)) (Qc (Value.ref (ad 1) :: [ji x, ji w].map (jb_v ad)).toArray) XC (jb_A G) := by
  obtain ⟨⟨hx9, hb, hml, hown, hts⟩, ⟨hK, hA⟩, ⟨hfr, hlo⟩, hin, hao⟩ := F
  have hws : ∀ w ∈ jb_ws1 303, ∀ (a' : Array Value) (U : State), s.WarmedH U.vm → w.before a' U = true := pay_in hts jq_good303
  have hN := I.2.2.1.2.2.1 rfl
  have hat := jb_at (G := G) (φ := true) (ad := ad) (M := M) (c := 1) (Nat.le_refl _) (by simp only [ja_N0] at hN; omega)
  rw [jb_eO (k := 11) (by decide +kernel) (by omega)] at hat
  have hrecv := va_recv hK I.1.1 (jk_cl _ (by omega)) hat
  exact vx_runV (As := [ji x, ji w].map (jb_v ad)) (rest := [ji 0, jr ja_cO].map (jb_v ad)) (b := ad 1) (C := "HuntTable") (own := "HuntTableLaw") (index := 7) (bytes := jm_b 303) (maxL := 3) (ret := some .int) (cc := jm_b 304) (nL := 5) (n := 2) ⟨hx9, hb, hml, hown, hts⟩ hMet
    ⟨⟨rfl, rfl, (show 10 + 1 ≤ R.frames from hfr), (show 8 + (3 + 11) + (40 * 10 + 20) ≤ R.locals by omega), hws, List.mem_cons_self, hts _ jq_W303, hts _ jq_wini, ⟨by decide +kernel, by decide +kernel⟩, (fun sig h => by
      have e : (parseMethodDescriptor (jm_nm 303).desc).map (fun d => d.parameters.length) = some 2 := by decide +kernel
      rw [h] at e
      exact (Option.some.inj e).symm), hts _ jq_w7⟩, hts _ jq_wi, hts _ jq_ws⟩
    ⟨jq_blind, hrecv, fun U hU hWm => ⟨⟨rfl, by rw [hU]; exact I.1.1, I.1.2.1, va_K.moved hWm.alike hK, I.1.2.2.2.at I.1.2.2.1 hU hWm.alike, va_AOI.moved hWm hao⟩, hx.to I.1.2.2.1 hU hWm⟩⟩ rfl rfl I.2.1.1.1 rfl (by show 2 * 0 + 2 ≤ 8; omega) jq_dec7.1 hcap
def jq_r1 (M : ja_M) (x w : Int) : ja_R := (some (ji 0), ja_up M ja_cO 0 (jq_v M x w))
def jq_M0 (M : ja_M) : ja_M := ja_up (ja_up M 0 1 (M 0 1 + 1)) 0 2 (M 0 2 + 6)
def jq_r0 (M : ja_M) : ja_R := (some (ji 1), jq_M0 M)
theorem jq_M0_c (M : ja_M) {c i : Nat} (h : c ≠ 0) : jq_M0 M c i = M c i := by
  unfold jq_M0
  rw [jb_up_ne h, jb_up_ne h]
theorem jq_M0_0 (M : ja_M) {i : Nat} (h1 : i ≠ 1) (h2 : i ≠ 2) : jq_M0 M 0 i = M 0 i := by
  unfold jq_M0
  rw [jb_up_nej h2, jb_up_nej h1]
theorem jq_M0_1 (M : ja_M) : jq_M0 M 0 1 = M 0 1 + 1 := by
  unfold jq_M0
  rw [jb_up_nej (by decide), jb_up_eq]
theorem jq_M0_2 (M : ja_M) : jq_M0 M 0 2 = M 0 2 + 6 := by
  unfold jq_M0
  rw [jb_up_eq]
theorem jq_M0_ws (G : jb_G) (φ : Bool) (ad : Nat → Nat) (M : ja_M) : jb_ws G φ ad (jq_M0 M) = jb_ws G φ ad M := by
  unfold jb_ws
  rw [jq_M0_0 M (by decide) (by decide)]
  apply List.map_congr_left
  intro k _
  rw [jb_e_same (M := M) (M' := jq_M0 M) (fun i => jq_M0_c M (by omega))]
theorem jq_gr0 (M : ja_M) : jb_gr M (jq_M0 M) := by
  refine ⟨Int.le_of_eq (jq_M0_0 M (by decide) (by decide)).symm, ?_, ?_, jq_M0_0 M (by decide) (by decide), fun j => jq_M0_c M (by decide)⟩
  · rw [jq_M0_1]; omega
  · rw [jq_M0_2]; omega
theorem jq_rd0 (φ : Bool) (M : ja_M) {c i : Nat} (h : c ≠ 0) : ja_rd φ (jq_M0 M) c i = ja_rd φ M c i := by
  unfold ja_rd
  rw [jq_M0_c M h]
theorem jq_Mok0 {φ : Bool} {M : ja_M} (h : jb_Mok φ M) : jb_Mok φ (jq_M0 M) := by
  obtain ⟨h1, h2, h3, h4, h5, h6⟩ := h
  have e0 := jq_M0_0 M (i := 0) (by decide) (by decide)
  refine ⟨fun c i hc => ?_, by rw [e0]; exact h2, by rw [e0]; exact h3, ?_, ?_, ?_⟩
  · rw [jq_M0_c M (by omega)]
    exact h1 c i hc
  · rw [jq_M0_1, jq_M0_2]
    omega
  · rw [jq_M0_0 M (by decide) (by decide)]
    exact h5
  · intro c c1 c2
    rw [e0] at c2 ⊢
    refine ⟨fun i => ?_, (h6 c c1 c2).2⟩
    rw [jq_rd0 φ M (by omega)]
    exact (h6 c c1 c2).1 i
theorem jq_gr1 (M : ja_M) (x w : Int) : jb_gr M (ja_up M ja_cO 0 (jq_v M x w)) := by
  refine ⟨Int.le_of_eq ?_, Int.le_of_eq ?_, Int.le_of_eq ?_, ?_, fun j => ?_⟩
  all_goals first | exact jb_up_ne (by decide) | exact (jb_up_ne (by decide)).symm
theorem jq_cl1 (M : ja_M) (x w : Int) : jb_cl (ja_up M ja_cO 0 (jq_v M x w)) = jb_cl M ∧ jb_sl (ja_up M ja_cO 0 (jq_v M x w)) = jb_sl M := by
  unfold jb_cl jb_sl
  rw [jb_up_ne (by decide), jb_up_ne (by decide)]
  exact ⟨rfl, rfl⟩
theorem jq_cl0 {φ : Bool} {M : ja_M} (h : jb_Mok φ M) : jb_cl (jq_M0 M) = jb_cl M + 1 ∧ jb_sl (jq_M0 M) = jb_sl M + 6 := by
  unfold jb_cl jb_sl
  rw [jq_M0_1, jq_M0_2]
  have := h.2.2.2.1
  omega
theorem jq_fixL {p : Program} {l : Launch} {e : Env} {s s₁ : State} {m : MethodId} {args : Array Value} {below : List Frame} {meth : Method} {c : Code} {G : jb_G} {M : ja_M} {ad : Nat → Nat} {as : List ja_V} {mc ms : Nat} (B : BodyLoose p l (jm_nm 304) (headSpec jq_wsL (jb_rm 11 mc ms)) (jm_b 304) 5 (some .int) e s m args below meth c s₁) (hml : c.maxLocals = 5) (hP : jq_Pc G ad as M args s) :
    jb_Fix p (headSpec jq_wsL (jb_rm 11 mc ms)).room s m args meth c G 304 10 := by
  obtain ⟨⟨-, -, -, hK, hro, hao⟩, -⟩ := hP
  have hts := atoms_spec (ws := jq_wsL) B.pre
  have hown : s.vm.findClass (jm_nm 304).cls = some m.cls := findClass_of_methodNamed B.named
  exact ⟨⟨B.exec, B.bytes, hml, hown, fun w hw => hts w (List.mem_cons_of_mem _ hw)⟩, ⟨hK, fun q hq => Nat.le_trans hro.2.2.2.2.2.2 hq⟩, ⟨Nat.le_refl _, Nat.le_refl _⟩, fun hi => absurd hi (by decide +kernel), hao⟩
theorem jq_L1 (l : Launch) (G : jb_G) (ad : Nat → Nat) {M : ja_M} {x w : Int} (h6 : M 11 3 ≤ 6) (hk : jq_ok M x w) (hM : jb_Mok true M) (hp : jb_ok (ji x)) (hw : jb_ok (ji w)) :
    Met l (jm_nm 304) jq_wsL (jb_rm 11 0 0) (jq_Pc G ad [jr 1, ji x, ji w, jr ja_cO] M) (jb_Qc G true ad ja_N0 (jq_r1 M x w)) 0 0 (jb_A G) := by
  refine jq_ofWH (cc := jm_b 304) (maxL := 5) (ret := some .int) (hh := [(0, 10, 13, 13)]) (ws' := jm_W) (by decide +kernel) rfl ?_
  intro p9 e s m args below meth c s₁ B hml hv
  have hfix := jq_fixL B hml hv
  obtain ⟨⟨rfl, hP, hD, hK, hro, hao⟩, hx⟩ := hv
  obtain ⟨z1, z2⟩ := jq_cl1 M x w
  have ret := jb_ret (p := p9) (l := l) (e := e) (R := (headSpec jq_wsL (jb_rm 11 0 0)).room) (s := s) (m := m) (args := ([jr 1, ji x, ji w, jr ja_cO].map (jb_v ad)).toArray) (below := below) (meth := meth) (c := c) (G := G) (φ := true) (z := 304) (C0 := jb_cl M) (S0 := jb_sl M) (ad0 := ad) (lim0 := ja_N0) (r := jq_r1 M x w) B.exec B.bytes B.returns B.notSynchronized
  have cap : jb_Cap (headSpec jq_wsL (jb_rm 11 0 0)).room (jb_cl M) (jb_sl M) (jq_r1 M x w).2 := ⟨by show jb_cl (ja_up M ja_cO 0 (jq_v M x w)) ≤ 0 + jb_cl M; omega, by show jb_sl (ja_up M ja_cO 0 (jq_v M x w)) ≤ 0 + jb_sl M; omega⟩
  have ww := jb_walkK (z := 304) (G := G) (φ := true) (jq_noplace (by decide)) jq_cl_ok.1 jq_cl_ok.2 (κ := jq_κ2 (jq_F x w M (jq_r1 M x w)))
    (fun i L S M9 h => by
      obtain ⟨w', x', rfl, rfl, h⟩ := jq_κ2_of h
      obtain ⟨⟨rfl, rfl, rfl, rfl⟩, -⟩ := jq_F_of h
      refine ⟨jq_gr1 _ _ _, ?_⟩
      intro ad9 H locs ls I hS
      have hrun := jq_runP (l := l) (e := e) (below := below) (x := x') (w := w') (cells := jb_cl M9 - jb_cl M9) (slots := jb_sl M9 - jb_sl M9) hfix hx I (jq_met1 l G ad9 h6 hk hM hp hw) (by show _ - _ + 0 ≤ 0 ∧ _ - _ + 0 ≤ 0; omega)
      refine jq_call hrun (fun q hq => hq) I.1.2.2.1 (fun v st t locs1 e0 hq hSt => ?_) (fun E ce q st t locs1 e0 hxc => hxc.elim)
      obtain ⟨ad', k1, k2, k3, I'⟩ := jb_after (M := M9) (φ := true) I (jb_gr.rf _) rfl (Nat.le_refl _) hq hSt
      cases k2
      have w3 := jb_walkK (z := 304) (G := G) (φ := true) (κ := fun _ _ _ _ => none) (jq_noplace (by decide)) jq_cl_ok.1 jq_cl_ok.2 (fun _ _ _ _ h => by cases h) hfix (jb_calls l G true 10) cap ret (fun _ => Nat.le_refl _) 5 6 _ _ _ (jq_eval3 (ja_x true 10) x' w' (jq_v M9 x' w') M9) ad' t.heap locs1 ls I' (List.forall_mem_cons.mpr ⟨k3 _ rfl, List.forall_mem_cons.mpr ⟨⟨by decide, by decide⟩, List.forall_mem_cons.mpr ⟨trivial, fun _ h => absurd h List.not_mem_nil⟩⟩⟩)
      rw [← jq_dec7.2] at w3
      have e2 : jb_v ad' (jr ja_cO) = jb_v ad9 (jr ja_cO) := jb_v_keep (φ := true) (M := M9) k1 rfl
      have e3 : ([ji (jq_v M9 x' w'), ji 0, jr ja_cO].map (jb_v ad')) = (some (jb_v ad' (ji (jq_v M9 x' w')))).toList ++ [ji 0, jr ja_cO].map (jb_v ad9) := by
        show [jb_v ad' (ji (jq_v M9 x' w')), jb_v ad' (ji 0), jb_v ad' (jr ja_cO)] = _
        rw [e2]
        rfl
      rw [e3] at w3
      exact w3) hfix (jb_calls l G true 10) cap ret (fun _ => Nat.le_refl _) 6 0 _ _ _ ((jq_eval2 (ja_x true 10) _ x w M).trans (by rw [jq_F_self]))
  have ww := ww ad s.heap [] _ (jb_enter (as := [jr 1, ji x, ji w, jr ja_cO]) (nL := 5) hP hD hro (show 4 ≤ 5 by omega) (List.forall_mem_cons.mpr ⟨trivial, List.forall_mem_cons.mpr ⟨hp, List.forall_mem_cons.mpr ⟨hw, List.forall_mem_cons.mpr ⟨trivial, fun _ h => absurd h List.not_mem_nil⟩⟩⟩⟩) hM) (fun _ h => by cases h)
  have z3 : jb_cl (jq_r1 M x w).2 - jb_cl M = 0 := by show jb_cl (ja_up M ja_cO 0 (jq_v M x w)) - jb_cl M = 0; omega
  have z4 : jb_sl (jq_r1 M x w).2 - jb_sl M = 0 := by show jb_sl (ja_up M ja_cO 0 (jq_v M x w)) - jb_sl M = 0; omega
  rw [Nat.sub_self, Nat.sub_self, z3, z4] at ww
  rw [lg_entry_eq]
  exact ww
theorem jq_tab {p : Program} {l : Launch} {e : Env} {s s₁ : State} {m : MethodId} {args : Array Value} {below : List Frame} {meth : Method} {c : Code} {rm : Room} (B : BodyLoose p l (jm_nm 304) (headSpec jq_wsL rm) (jm_b 304) 5 (some .int) e s m args below meth c s₁) : c.exceptionTable.toList = [⟨0, 10, 13, 13⟩] :=
  vx_table (x := jm_nm 304) B (atoms_spec (ws := jq_wsL) B.pre _ List.mem_cons_self)
theorem jq_dec9 : decode (jm_b 304) 13 = .ok (.astore 4, 2) ∧ jm_pc 304 10 = 15 ∧ jm_pc 304 5 = 5 := by decide +kernel
theorem jq_L0 (l : Launch) (hl : l.stackTraces = false) (G : jb_G) (ad : Nat → Nat) {M : ja_M} {x w : Int} (hk : ¬ jq_ok M x w) (hM : jb_Mok true M) (hp : jb_ok (ji x)) (hw : jb_ok (ji w)) :
    Met l (jm_nm 304) jq_wsL (jb_rm 11 1 6) (jq_Pc G ad [jr 1, ji x, ji w, jr ja_cO] M) (jb_Qc G true ad ja_N0 (jq_r0 M)) 1 6 (jb_A G) := by
  refine jq_ofWH (cc := jm_b 304) (maxL := 5) (ret := some .int) (hh := [(0, 10, 13, 13)]) (ws' := jm_W) (by decide +kernel) rfl ?_
  intro p9 e s m args below meth c s₁ B hml hv
  have hfix := jq_fixL B hml hv
  have htab := jq_tab B
  obtain ⟨⟨rfl, hP, hD, hK, hro, hao⟩, hx⟩ := hv
  obtain ⟨z1, z2⟩ := jq_cl0 hM
  have ret := jb_ret (p := p9) (l := l) (e := e) (R := (headSpec jq_wsL (jb_rm 11 1 6)).room) (s := s) (m := m) (args := ([jr 1, ji x, ji w, jr ja_cO].map (jb_v ad)).toArray) (below := below) (meth := meth) (c := c) (G := G) (φ := true) (z := 304) (C0 := jb_cl M) (S0 := jb_sl M) (ad0 := ad) (lim0 := ja_N0) (r := jq_r0 M) B.exec B.bytes B.returns B.notSynchronized
  have cap : jb_Cap (headSpec jq_wsL (jb_rm 11 1 6)).room (jb_cl M) (jb_sl M) (jq_r0 M).2 := ⟨by show jb_cl (jq_M0 M) ≤ 1 + jb_cl M; omega, by show jb_sl (jq_M0 M) ≤ 6 + jb_sl M; omega⟩
  have ww := jb_walkK (z := 304) (G := G) (φ := true) (jq_noplace (by decide)) jq_cl_ok.1 jq_cl_ok.2 (κ := jq_κ2 (jq_F x w M (jq_r0 M)))
    (fun i L S M9 h => by
      obtain ⟨w', x', rfl, rfl, h⟩ := jq_κ2_of h
      obtain ⟨⟨rfl, rfl, rfl, rfl⟩, -⟩ := jq_F_of h
      refine ⟨jq_gr0 _, ?_⟩
      intro ad9 H locs ls I hS
      have hrun := jq_runP (l := l) (e := e) (below := below) (x := x') (w := w') (cells := jb_cl M9 - jb_cl M9) (slots := jb_sl M9 - jb_sl M9) hfix hx I (jq_met0 l hl G ad9 hk hM hp hw) (by show _ - _ + 1 ≤ 1 ∧ _ - _ + 6 ≤ 6; omega)
      refine jq_call hrun (fun q hq => hq) I.1.2.2.1 (fun v st t locs1 e0 hq hSt => hq.elim) (fun E ce q st t locs1 e0 hxc hce hcv hcl hSt => ?_)
      obtain ⟨rfl, ad', k1, ⟨k3, k4⟩, k5⟩ := hxc
      obtain ⟨⟨-, -, -, ro⟩, ⟨I2, I3, I4⟩, I5, ⟨I6, I7⟩, I8, I9⟩ := I
      refine vx_catch (own := "HuntTableLaw") (name := jq_NSE) (E := jq_NSE) (ce := ce) hfix.1.2.2.2.1 [] ⟨0, 10, 13, 13⟩ [] htab (fun _ h => absurd h List.not_mem_nil) (by rw [jq_dec9.2.2]; rfl) (by decide) (hfix.1.2.2.2.2 _ jq_w13) (va_Nw.use rfl (hx.1 _ (List.mem_cons_of_mem _ (List.mem_cons_of_mem _ (List.mem_cons_of_mem _ List.mem_cons_self))))) hce hcv hcl ?_
      refine lv_astore (nL := 5) hfix.1.1 hfix.1.2.1 jq_dec9.1 I2 (by omega) rfl (fun ls' hls => ?_)
      have hL5 : lv_has ls' 5 (jb_lv ad' 0 [some (jr 1), some (ji x'), some (ji w'), some (jr ja_cO), none]) := by
        rw [jb_L_keep (φ := true) (M := M9) k1 [some (jr 1), some (ji x'), some (ji w'), some (jr ja_cO), none] 0 rfl]
        refine lv_less hls (fun q hq => List.mem_cons_of_mem _ (List.mem_filter.mpr ⟨hq, ?_⟩))
        obtain ⟨k, v, h1, rfl⟩ := jb_lv_mem _ _ _ hq
        rcases k with _ | _ | _ | _ | _ | k
        · rfl
        · rfl
        · rfl
        · simp at h1
          subst h1
          rfl
        · simp at h1
        · simp at h1
      have I' : jb_I G true s (ja_maxL 304) (jb_cl M9) (jb_sl M9) ad ja_N0 ad' (jq_M0 M9) t.heap locs1 [some (jr 1), some (ji x'), some (ji w'), some (jr ja_cO), none] ls' := by
        refine ⟨⟨by rw [jq_M0_ws]; exact k3, by rw [jq_M0_ws]; exact k4, hSt k5, ro.to (jq_gr0 M9) (fun k hk => k1 k (Or.inr hk))⟩, ⟨hL5, I3, I4⟩, jq_Mok0 I5, by omega, fun k hk => (k1 k hk).trans (I8 k hk), ?_⟩
        rw [jq_M0_0 M9 (by decide) (by decide)]
        exact I9
      have w3 := jb_walkK (z := 304) (G := G) (φ := true) (κ := fun _ _ _ _ => none) (jq_noplace (by decide)) jq_cl_ok.1 jq_cl_ok.2 (fun _ _ _ _ h => by cases h) hfix (jb_calls l G true 10) cap ret (fun _ => Nat.le_refl _) 2 10 _ _ _ (jq_eval4 (ja_x true 10) x' w' (jq_M0 M9)) ad' t.heap locs1 ls' I' (fun _ h => absurd h List.not_mem_nil)
      rw [jq_dec9.2.1] at w3
      have e1 : jb_cl (jq_M0 M9) - jb_cl M9 = jb_cl M9 - jb_cl M9 + 1 := by omega
      have e2 : jb_sl (jq_M0 M9) - jb_sl M9 = jb_sl M9 - jb_sl M9 + 6 := by omega
      rw [e1, e2] at w3
      exact w3) hfix (jb_calls l G true 10) cap ret (fun _ => Nat.le_refl _) 6 0 _ _ _ ((jq_eval2 (ja_x true 10) _ x w M).trans (by rw [jq_F_self]))
  have ww := ww ad s.heap [] _ (jb_enter (as := [jr 1, ji x, ji w, jr ja_cO]) (nL := 5) hP hD hro (show 4 ≤ 5 by omega) (List.forall_mem_cons.mpr ⟨trivial, List.forall_mem_cons.mpr ⟨hp, List.forall_mem_cons.mpr ⟨hw, List.forall_mem_cons.mpr ⟨trivial, fun _ h => absurd h List.not_mem_nil⟩⟩⟩⟩) hM) (fun _ h => by cases h)
  have z3 : jb_cl (jq_r0 M).2 - jb_cl M = 1 := by show jb_cl (jq_M0 M) - jb_cl M = 1; omega
  have z4 : jb_sl (jq_r0 M).2 - jb_sl M = 6 := by show jb_sl (jq_M0 M) - jb_sl M = 6; omega
  rw [Nat.sub_self, Nat.sub_self, z3, z4] at ww
  rw [lg_entry_eq]
  exact ww
set_option maxRecDepth 100000 in
theorem jq_W304 : Cond.codeWith (jm_nm 304) (jm_b 304) 5 (some .int) [(0, 10, 13, 13)] ∈ jm_W := List.mem_filter.mpr ⟨(show _ ∈ lw_tbl by decide +kernel), rfl⟩
theorem jq_good304 : GoodIn jm_W jq_wsL := by
  intro w hw
  rcases List.mem_cons.mp hw with rfl | hw
  · exact ⟨jq_W304, good_of_word rfl⟩
  · exact ⟨hw, good_of_word (List.mem_filter.mp hw).2⟩
theorem jq_w38 : Cond.methodLink "HuntTableLaw" 38 (jm_nm 304) ∈ jm_W := List.mem_filter.mpr ⟨(show _ ∈ lw_tbl by decide +kernel), rfl⟩
theorem jq_wst : Cond.static (jm_nm 304) ∈ jm_W := List.mem_filter.mpr ⟨(show _ ∈ lw_tbl by decide +kernel), rfl⟩
theorem jq_wini4 : Cond.initialized (jm_nm 304).cls ∈ jm_W := List.mem_filter.mpr ⟨(show _ ∈ lw_tbl by decide +kernel), rfl⟩
theorem jq_own302 : jm_cn (jm_own 302) = "HuntTableLaw" := by decide +kernel
/-- the law's call of its place -/
theorem jq_place {p : Program} {l : Launch} {e : Env} {R : Room} {s : State} {m : MethodId} {args : Array Value} {below : List Frame} {meth : Method} {c : Code} {Q : State → Prop} {G : jb_G} {φ : Bool} {d C0 S0 : Nat} {ad0 : Nat → Nat} {lim0 : Nat} (hl : l.stackTraces = false) (hx : jq_X (jb_A G) s) (hd : 11 ≤ d) : jb_SHat jh_place jc_place p l e R s m args below meth c Q G φ 302 d C0 S0 ad0 lim0 := by
  intro E a i L S M κ r F EO CP ck h hκ hR hlim ad H locs ls I hS
  obtain ⟨⟨hx9, hb, hml, hown, hts⟩, ⟨hK, hA⟩, ⟨hfr, hlo⟩, hin, hao⟩ := F
  rw [jq_own302] at hown
  obtain ⟨ck, cs⟩ := jb_and ck
  obtain ⟨hdc, hn⟩ := jc_d_of ck
  obtain ⟨-, cs⟩ := jb_and cs
  rw [Nat.eq_of_beq_eq_true cs] at hdc
  unfold jh_place at h
  split at h
  case h_2 => cases h
  rename_i o w x xo S'
  obtain ⟨hc0, hh⟩ := jb_cond h
  clear h
  obtain ⟨hφ, hc0⟩ := jb_and hc0
  subst hφ
  obtain ⟨hx1, hc0⟩ := jb_and hc0
  obtain ⟨ho1, hc0⟩ := jb_and hc0
  obtain ⟨hsz, hc0⟩ := jb_and hc0
  have hsz := Nat.le_of_ble_eq_true hsz
  obtain ⟨hrL, hrS⟩ := jb_and hc0
  have hx1 := Nat.eq_of_beq_eq_true hx1
  have ho1 := Nat.eq_of_beq_eq_true ho1
  subst hx1 ho1
  have hrS' : ja_refsS true M S' = true := hrS
  have hoS : ∀ v ∈ S', jb_ok v := fun v hv => hS v (List.mem_cons_of_mem _ (List.mem_cons_of_mem _ (List.mem_cons_of_mem _ (List.mem_cons_of_mem _ hv))))
  have how : jb_ok (ji w) := hS _ (List.mem_cons_of_mem _ List.mem_cons_self)
  have hox : jb_ok (ji x) := hS _ (List.mem_cons_of_mem _ (List.mem_cons_of_mem _ List.mem_cons_self))
  have hws : ∀ w ∈ jq_wsL, ∀ (a' : Array Value) (U : State), s.WarmedH U.vm → w.before a' U = true := pay_in hts jq_good304
  have hM := I.2.2.1
  have gen : ∀ (r1 : ja_R) (mc ms : Nat), jb_gr M r1.2 → κ (i + 1) L (r1.1.toList ++ S') r1.2 = some r → jb_cl r1.2 = jb_cl M + mc → jb_sl r1.2 = jb_sl M + ms → Met l (jm_nm 304) jq_wsL (jb_rm 11 mc ms) (jq_Pc G ad [jr 1, ji x, ji w, jr ja_cO] M) (jb_Qc G true ad ja_N0 r1) mc ms (jb_A G) →
      W p l e R s m args below meth c H locs (jb_cl M - C0) (jb_sl M - S0) Q (F0 m (jm_pc 302 i) ls ((jr ja_cO :: ji w :: ji x :: jr 1 :: S').map (jb_v ad))) := by
    intro r1 mc ms hg hk9 hc1 hs1 hMet
    obtain ⟨hgr, hW⟩ := hκ _ _ _ _ hk9
    have hcap : (jb_cl M - C0) + mc ≤ R.cells ∧ (jb_sl M - S0) + ms ≤ R.slots := by
      obtain ⟨b1, b2⟩ := CP
      obtain ⟨c1, c2⟩ := I.2.2.2.1
      have m3 := hgr.2.1
      have m4 := hgr.2.2.1
      unfold jb_cl jb_sl at *
      omega
    have hrun := vx_runSW (As := [jr 1, ji x, ji w, jr ja_cO].map (jb_v ad)) (rest := S'.map (jb_v ad)) (locs := locs) (below := below) (p := p) (l := l) (e := e) (cells := jb_cl M - C0) (slots := jb_sl M - S0) (meth := meth) (n := 4) (hh := [(0, 10, 13, 13)]) (bytes := jm_b 304) (maxL := 5) (ret := some .int) (own := "HuntTableLaw") (index := jm_PL) ⟨hx9, hb, hml, hown, hts⟩ hMet
      ⟨⟨rfl, rfl, (show 11 + 1 ≤ R.frames by omega), (show 8 + (5 + 11) + (40 * 11 + 20) ≤ R.locals by omega), hws, List.mem_cons_self⟩, hts _ jq_W304, hts _ jq_wini4, ⟨by decide +kernel, by decide +kernel⟩, (fun sig h => by
        have e : (parseMethodDescriptor (jm_nm 304).desc).map (fun d => d.parameters.length) = some 4 := by decide +kernel
        rw [h] at e
        exact (Option.some.inj e).symm), hts _ jq_w38, hts _ jq_wst⟩
      ⟨jq_blind, fun U hU hWm => ⟨⟨rfl, by rw [hU]; exact I.1.1, I.1.2.1, va_K.moved hWm.alike hK, I.1.2.2.2.at I.1.2.2.1 hU hWm.alike, va_AOI.moved hWm hao⟩, hx.to I.1.2.2.1 hU hWm⟩⟩ (g := F0 m (jm_pc 302 i) ls ((jr ja_cO :: ji w :: ji x :: jr 1 :: S').map (jb_v ad))) rfl rfl I.2.1.1.1 rfl (by rw [jb_catsum]; show 2 * 0 + _ ≤ 8; omega) hdc hcap
    refine jb_call hrun (fun q hq => hq) I.1.2.2.1 (fun v st t locs1 e0 hq hSt => ?_)
    obtain ⟨ad', k1, k2, k3, I'⟩ := jb_after I hg hrL (jb_limlim hlim I.2.2.2.2.2) hq hSt
    cases k2
    have w9 := hW ad' t.heap locs1 ls I' (fun v hv => by
      rcases List.mem_append.mp hv with q | q
      · exact k3 v (by cases hr1 : r1.1 with
          | none => rw [hr1] at q; cases q
          | some u => rw [hr1] at q; simp at q; rw [q])
      · exact hoS v q)
    rw [hn, List.map_append, jb_S_keep k1 S' hrS'] at w9
    have e1 : jb_cl r1.2 - C0 = jb_cl M - C0 + mc := by have := I.2.2.2.1; omega
    have e3 : jb_sl r1.2 - S0 = jb_sl M - S0 + ms := by have := I.2.2.2.1; omega
    rw [e1, e3] at w9
    have e2 : (r1.1.toList).map (jb_v ad') = (r1.1.map (jb_v ad')).toList := by cases r1.1 <;> rfl
    rw [e2] at w9
    exact w9
  by_cases hk : (0 ≤ x ∧ x < M ja_cH 3) ∧ (0 ≤ w ∧ w ≤ 1)
  · rw [if_pos hk] at hh
    obtain ⟨h6, hh⟩ := jb_if hh
    obtain ⟨z1, z2⟩ := jq_cl1 M x w
    exact gen (jq_r1 M x w) 0 0 (jq_gr1 M x w) hh z1 z2 (jq_L1 l G ad h6 hk hM hox how)
  · rw [if_neg hk] at hh
    obtain ⟨z1, z2⟩ := jq_cl0 hM
    exact gen (jq_r0 M) 1 6 (jq_gr0 M) hh z1 z2 (jq_L0 l hl G ad hk hM hox how)
