/-! calls and new cells -/
theorem va_AOI.moved {u U : State} (hW : u.WarmedH U.vm) (h : va_AOI u) : va_AOI U :=
  ⟨Jvm.Stand.arrayOver_alikeB hW.alike h.1, fun q hq => va_Nw.warmM hW (h.2 q hq)⟩
theorem jb_ro.at {G : jb_G} {ad : Nat → Nat} {M : ja_M} {s U : State} {H : Heap} {locs : List Loc} (h : jb_ro G ad M s) (hS : va_S (jb_A G) s.heap H locs) (hU : U.heap = H) (hvm : s.vm.Alike U.vm) : jb_ro G ad M U := by
  obtain ⟨h1, h2, h3, h4, h5, ⟨b1, b2, b3⟩, h7⟩ := h
  subst hU
  have hk : ∀ q, q < G.2.2 → U.heap[q]? = s.heap[q]? := fun q hq => hS.2.1 q (by omega) (by unfold jb_A; omega)
  exact ⟨(h1.moved hvm).kept (fun a x y => hS.2.1 a x y), (h2.moved hvm).kept (fun a x y => hS.2.1 a x y), (h3.moved hvm).kept (hk _ b1), (h4.moved hvm).kept (hk _ b2), (h5.moved hvm).kept (hk _ b3), ⟨b1, b2, b3⟩, Nat.le_trans h7 hS.1⟩
theorem jb_ro.calling {G : jb_G} {ad : Nat → Nat} {M : ja_M} {U : State} {g : JFrame} {mk : MethodId} {a : Array Value} (h : jb_ro G ad M U) : jb_ro G ad M (U.calling g mk a) := by
  obtain ⟨h1, h2, h3, h4, h5, h6, h7⟩ := h
  exact ⟨h1.moved (Vm.Alike.refl U.vm), h2.moved (Vm.Alike.refl U.vm), h3.moved (Vm.Alike.refl U.vm), h4.moved (Vm.Alike.refl U.vm), h5.moved (Vm.Alike.refl U.vm), h6, h7⟩
theorem jb_blind {G : jb_G} {φ : Bool} {ad : Nat → Nat} {as : List ja_V} {M : ja_M} : FrameBlind (jb_Pc G φ ad as M) := by
  intro a U g mk h
  obtain ⟨h0, h1, h2, h3, h4, h5⟩ := h
  exact ⟨h0, h1, h2, va_K.moved (u := U) (U := U.calling g mk a) (Vm.Alike.refl U.vm) h3, h4.calling, va_AOI.moved (u := U) (U := U.calling g mk a) (State.WarmedH.refl U) h5⟩
theorem ja_nth_mem {α : Type} : ∀ (l : List α) (k : Nat) (d : α), k < l.length → ja_nth l k d ∈ l
  | [], _, _, h => by simp at h
  | _ :: _, 0, _, _ => List.mem_cons_self
  | _ :: r, k + 1, d, h => List.mem_cons_of_mem _ (ja_nth_mem r k d (by simpa using h))
theorem ja_nth_app {α : Type} : ∀ (l r : List α) (k : Nat) (d : α), k < l.length → ja_nth (l ++ r) k d = ja_nth l k d
  | [], _, _, _, h => by simp at h
  | _ :: _, _, 0, _, _ => rfl
  | _ :: l, r, k + 1, d, h => ja_nth_app l r k d (by simpa using h)
theorem jw_all : ∀ x ∈ jm_all0 ++ jm_all1 ++ jm_all2 ++ jm_all3 ++ jm_all4 ++ jm_all5 ++ jm_all6 ++ jm_all7, Cond.code x.1 x.2.1 x.2.2.1 x.2.2.2 ∈ lw_tbl := by
  intro x hx
  simp only [List.mem_append] at hx
  rcases hx with ((((((h | h) | h) | h) | h) | h) | h) | h
  · exact jw_code0 x h
  · exact jw_code1 x h
  · exact jw_code2 x h
  · exact jw_code3 x h
  · exact jw_code4 x h
  · exact jw_code5 x h
  · exact jw_code6 x h
  · exact jw_code7 x h
theorem jw_codeW {y : Nat} (h : y < jm_NM) : Cond.code (jm_nm y) (jm_b y) (ja_maxL y) (jm_rt y) ∈ jm_W := by
  have hlen : (jm_all0 ++ jm_all1 ++ jm_all2 ++ jm_all3 ++ jm_all4 ++ jm_all5 ++ jm_all6 ++ jm_all7).length = jm_NM := by decide +kernel
  have e : jm_y y = ja_nth (jm_all0 ++ jm_all1 ++ jm_all2 ++ jm_all3 ++ jm_all4 ++ jm_all5 ++ jm_all6 ++ jm_all7) y (⟨"", "", ""⟩, ⟨#[]⟩, 0, none) := ja_nth_app _ _ _ _ (by rw [hlen]; exact h)
  have hm := ja_nth_mem (jm_all0 ++ jm_all1 ++ jm_all2 ++ jm_all3 ++ jm_all4 ++ jm_all5 ++ jm_all6 ++ jm_all7) y (⟨"", "", ""⟩, ⟨#[]⟩, 0, none) (by rw [hlen]; exact h)
  rw [← e] at hm
  have hc := jw_all _ hm
  rw [(jw_maxL y h).1] at hc
  exact List.mem_filter.mpr ⟨hc, rfl⟩
theorem jw_goodW {y : Nat} (h : y < jm_NM) : GoodIn jm_W (jb_ws1 y) := by
  intro w hw
  rcases List.mem_cons.mp hw with rfl | hw
  · exact ⟨jw_codeW h, good_of_word rfl⟩
  · exact ⟨hw, good_of_word (List.mem_filter.mp hw).2⟩
theorem jw_ml : ∀ q ∈ jm_ml, (jm_ch q.2.2.2.1)[q.2.2.2.2]? = some (Cond.methodLink (jm_cn q.1) q.2.1 (jm_nm q.2.2.1)) := by
  intro q hq
  unfold jm_ml at hq
  simp only [List.mem_append] at hq
  rcases hq with ((h | h) | h) | h
  · exact jl_ok0 q h
  · exact jl_ok1 q h
  · exact jl_ok2 q h
  · exact jl_ok3 q h
section JBC
variable {p : Program} {l : Launch} {e : Env} {R : Room} {s : State} {m : MethodId} {args : Array Value} {below : List Frame} {meth : Method} {c : Code} {H : Heap} {locs : List Loc} {cells slots mc ms : Nat} {Q : State → Prop} {pc : Nat} {ls : Array Slot} {st0 rest : List Value} {A : Nat → Prop} {free : Addr → Prop} {Qa : State → Outcome → State → Prop}
theorem jb_call (hr : va_Run p l e R s m args below meth c H locs cells slots mc ms (F0 m pc ls st0) rest Qa free) (hf : ∀ q, free q → A q) (hS : va_S A s.heap H locs)
    (kk : ∀ (v : Option Value) (st t : State) (locs1 : List Loc), st.heap = H → Qa st (.returned v) t → (va_F A st t → va_S A s.heap t.heap locs1) → W p l e R s m args below meth c t.heap locs1 (cells + mc) (slots + ms) Q (F0 m (pc + 3) ls (v.toList ++ rest))) : W p l e R s m args below meth c H locs cells slots Q (F0 m pc ls st0) := by
  intro T hT X
  obtain ⟨v, st, t, T', L, e0, X', hL, e1, -, hq, go⟩ := hr T hT X
  obtain ⟨u, a1, b1⟩ := kk v st t (locs ++ L) e0 hq (fun hF => ⟨Nat.le_trans hS.1 (by rw [← e0]; exact hF.1), fun q h1 h2 => by
    rw [hF.2 q (by rw [e0]; exact Nat.lt_of_lt_of_le h1 hS.1) h2, e0]
    exact hS.2.1 q h1 h2, fun x hx => by
    rcases List.mem_append.mp hx with h | h
    · exact hS.2.2 x h
    · exact hf _ (hL x h)⟩) T' e1 X'
  exact ⟨u, go u a1, b1⟩
end JBC
theorem jb_back_of {b : Nat} {o : Option ja_R} {i : Nat} {L : ja_L} {S : List ja_V} {κ : ja_K} {r : ja_R} (h : ja_back b o i L S κ = some r) : ∃ r1, o = some r1 ∧ κ (i + 1) L (r1.1.toList ++ S) r1.2 = some r := by
  rcases b with _ | _ | _ | b <;> rcases o with _ | ⟨_ | x | x | x, M⟩ <;> first | (cases h; done) | exact ⟨_, rfl, h⟩
/-- values that are named before a call are named so behind it -/
theorem jb_v_keep {φ : Bool} {M : ja_M} {ad ad' : Nat → Nat} (hk : ∀ k, k ≤ ja_lim φ M ∨ ja_RO ≤ k → ad' k = ad k) {v : ja_V} (h : ja_refok φ M v = true) : jb_v ad' v = jb_v ad v := by
  rcases v with x | x | x
  · rfl
  · rfl
  · cases x with
    | zero => rfl
    | succ x =>
      show Value.ref (ad' (x + 1)) = Value.ref (ad (x + 1))
      rw [hk (x + 1)]
      rcases jb_or h with q | q
      · exact Or.inl (Nat.le_of_ble_eq_true q)
      · exact Or.inr (Nat.le_of_ble_eq_true q)
theorem jb_S_keep {φ : Bool} {M : ja_M} {ad ad' : Nat → Nat} (hk : ∀ k, k ≤ ja_lim φ M ∨ ja_RO ≤ k → ad' k = ad k) : ∀ S : List ja_V, ja_refsS φ M S = true → S.map (jb_v ad') = S.map (jb_v ad)
  | [], _ => rfl
  | v :: S, h => by
    obtain ⟨h1, h2⟩ := jb_and h
    simp only [List.map_cons]
    rw [jb_v_keep hk h1, jb_S_keep hk S h2]
theorem jb_L_keep {φ : Bool} {M : ja_M} {ad ad' : Nat → Nat} (hk : ∀ k, k ≤ ja_lim φ M ∨ ja_RO ≤ k → ad' k = ad k) : ∀ (L : ja_L) (j : Nat), ja_refsL φ M L = true → jb_lv ad' j L = jb_lv ad j L
  | [], _, _ => rfl
  | none :: L, j, h => jb_L_keep hk L (j + 1) h
  | some v :: L, j, h => by
    obtain ⟨h1, h2⟩ := jb_and h
    show (j, jb_v ad' v) :: _ = (j, jb_v ad v) :: _
    rw [jb_v_keep hk h1, jb_L_keep hk L (j + 1) h2]
theorem jb_refsS_drop {φ : Bool} {M : ja_M} : ∀ (n : Nat) (S : List ja_V), ja_refsS φ M S = true → ja_refsS φ M (S.drop n) = true
  | 0, _, h => h
  | _ + 1, [], h => h
  | n + 1, _ :: S, h => jb_refsS_drop n S (jb_and h).2
theorem jb_limle {φ : Bool} {M : ja_M} (hM : jb_Mok φ M) : ja_lim φ M ≤ (M 0 0).toNat := by
  unfold ja_lim
  cases φ with
  | false => exact Nat.le_refl _
  | true =>
    have := hM.2.2.1 rfl
    simp only [cond_true, ja_N0] at this ⊢
    omega
/-- behind a call: the walk's invariant again -/
theorem jb_after {G : jb_G} {φ : Bool} {s st t : State} {nL C0 S0 : Nat} {ad0 : Nat → Nat} {lim0 : Nat} {ad : Nat → Nat} {M : ja_M} {H : Heap} {locs locs1 : List Loc} {L : ja_L} {ls : Array Slot} {r1 : ja_R} {o : Outcome} {as : Array Value} (I : jb_I G φ s nL C0 S0 ad0 lim0 ad M H locs L ls) (hg : jb_gr M r1.2) (hL : ja_refsL φ M L = true) (hlim : lim0 ≤ ja_lim φ M)
    (hq : jb_Qc G φ ad (ja_lim φ M) r1 as st o t) (hS : va_F (jb_A G) st t → va_S (jb_A G) s.heap t.heap locs1) : ∃ ad' : Nat → Nat, (∀ k, k ≤ ja_lim φ M ∨ ja_RO ≤ k → ad' k = ad k) ∧ o = .returned (r1.1.map (jb_v ad')) ∧ (∀ v, r1.1 = some v → jb_ok v) ∧ jb_I G φ s nL C0 S0 ad0 lim0 ad' r1.2 t.heap locs1 L ls := by
  obtain ⟨ad', k1, k2, ⟨k3, k4⟩, k5, k6, k7⟩ := hq
  obtain ⟨⟨-, -, -, ro⟩, ⟨I2, I3, I4⟩, I5, ⟨I6, I7⟩, I8, I9⟩ := I
  refine ⟨ad', k1, k2, k6, ⟨k3, k4, hS k5, ro.to hg (fun k hk => k1 k (Or.inr hk))⟩, ⟨by rw [jb_L_keep k1 L 0 hL]; exact I2, I3, I4⟩, k7, ?_, fun k hk => ?_, ?_⟩
  · have m1 := hg.2.1
    have m2 := hg.2.2.1
    unfold jb_cl jb_sl at *
    omega
  · rw [k1 k (by rcases hk with q | q; exact Or.inl (Nat.le_trans q hlim); exact Or.inr q)]
    exact I8 k hk
  · have m0 := hg.1
    omega

/-- as jb_SH, where the walk's own start names no more cells than there are -/
def jb_SH2 (h : ja_H) (ck : jc_F) : Prop := ∀ (p : Program) (l : Launch) (e : Env) (R : Room) (s : State) (m : MethodId) (args : Array Value) (below : List Frame) (meth : Method) (c : Code) (Q : State → Prop) (G : jb_G) (φ : Bool) (z d C0 S0 : Nat) (ad0 : Nat → Nat) (lim0 : Nat) (E : ja_E) (a : ja_I) (i : Nat) (L : ja_L) (S : List ja_V) (M : ja_M) (κ : ja_K) (r : ja_R),
  jb_Fix p R s m args meth c G z d → jb_EOK l G φ d E → jb_Cap R C0 S0 r.2 → ck z i a = true → h φ E a i L S M κ = some r →
  (∀ i L S M, κ i L S M = some r → jb_gr M r.2 ∧ jb_Wat p l e R s m args below meth c Q G φ z C0 S0 ad0 lim0 i L S M) → jb_Ret p l e R s m args below meth c Q G φ z C0 S0 ad0 lim0 r → (φ = true → lim0 ≤ ja_N0) → jb_Wat p l e R s m args below meth c Q G φ z C0 S0 ad0 lim0 i L S M
theorem jb_SH.to2 {h : ja_H} {ck : jc_F} (H : jb_SH h ck) : jb_SH2 h ck := fun p l e R s m args below meth c Q G φ z d C0 S0 ad0 lim0 E a i L S M κ r a1 a2 a3 a4 a5 a6 a7 _ => H p l e R s m args below meth c Q G φ z d C0 S0 ad0 lim0 E a i L S M κ r a1 a2 a3 a4 a5 a6 a7
theorem jb_limlim {φ : Bool} {M : ja_M} {lim0 : Nat} (h : φ = true → lim0 ≤ ja_N0) (h2 : lim0 ≤ (M 0 0).toNat) : lim0 ≤ ja_lim φ M := by
  unfold ja_lim
  cases φ with
  | false => exact h2
  | true => exact h rfl
set_option maxHeartbeats 4000000 in
theorem jw_callV : jb_SH2 jh_callV jc_callV := by
  intro p l e R s m args below meth c Q G φ z d C0 S0 ad0 lim0 E a i L S M κ r F EO CP ck h hκ hR hlim ad H locs ls I hS
  obtain ⟨⟨hx, hb, hml, hown, hts⟩, ⟨hK, hA⟩, ⟨hfr, hlo⟩, hin, hao⟩ := F
  obtain ⟨ck, cs⟩ := jb_and ck
  obtain ⟨hd, hn⟩ := jc_d_of ck
  obtain ⟨cy, cs⟩ := jb_and cs
  have cy : a.2.1 < jm_NM := Nat.blt_eq.mp cy
  obtain ⟨cst, cs⟩ := jb_and cs
  have cst := Nat.eq_of_beq_eq_true cst
  obtain ⟨cname, cs⟩ := jb_and cs
  have cname := of_decide_eq_true cname
  obtain ⟨c13, cs⟩ := jb_and cs
  have c13 : ja_mcls a.2.1 < 13 := Nat.blt_eq.mp c13
  obtain ⟨cown, cs⟩ := jb_and cs
  have cown := Nat.eq_of_beq_eq_true cown
  obtain ⟨cnp, cs⟩ := jb_and cs
  have cnp := of_decide_eq_true cnp
  have h : (match S.drop a.2.2.1 with
    | .inr (.inr c) :: S' => cond (ja_ckV φ M c a.2.1 S' L S) (ja_back a.2.2.2.1.toNat (E a.2.1 (jr c :: (S.take a.2.2.1).reverse) M) i L S' κ) none
    | _ => none) = some r := h
  rcases hdr : S.drop a.2.2.1 with _ | ⟨x | x | x, S'⟩
  · rw [hdr] at h; cases h
  · rw [hdr] at h; cases h
  · rw [hdr] at h; cases h
  rw [hdr] at h
  obtain ⟨hc0, h⟩ := jb_cond h
  obtain ⟨hokc, hc0⟩ := jb_and hc0
  obtain ⟨hkd, hc0⟩ := jb_and hc0
  have hkd := Nat.eq_of_beq_eq_true hkd
  obtain ⟨h1, h2, h3⟩ := jb_okc hokc I.2.2.1
  obtain ⟨hsz, hc0⟩ := jb_and hc0
  have hsz := Nat.le_of_ble_eq_true hsz
  obtain ⟨hrL, hrS⟩ := jb_and hc0
  obtain ⟨k, hxk⟩ : ∃ k, x = k + 1 := ⟨x - 1, by omega⟩
  obtain ⟨r1, hE, hk9⟩ := jb_back_of h
  have hnl : a.2.2.1 < S.length := by
    rcases Nat.lt_or_ge a.2.2.1 S.length with q | q
    · exact q
    · rw [List.drop_eq_nil_of_le q] at hdr
      cases hdr
  have hsplit : S = S.take a.2.2.1 ++ jr x :: S' := by rw [← hdr]; exact (List.take_append_drop _ _).symm
  have hoA : ∀ v ∈ jr x :: (S.take a.2.2.1).reverse, jb_ok v := List.forall_mem_cons.mpr ⟨trivial, fun v hv => hS v (List.mem_of_mem_take (List.mem_reverse.mp hv))⟩
  have hoS : ∀ v ∈ S', jb_ok v := fun v hv => hS v (by rw [hsplit]; exact List.mem_append_right _ (List.mem_cons_of_mem _ hv))
  have hrS' : ja_refsS φ M S' = true := by
    have := jb_refsS_drop a.2.2.1 S hrS
    rw [hdr] at this
    exact (jb_and this).2
  obtain ⟨hg, hMet⟩ := EO _ _ _ _ cy hE
  have hMet := hMet ad hoA I.2.2.1
  obtain ⟨hgr, hW⟩ := hκ _ _ _ _ hk9
  have hcap : (jb_cl M - C0) + (jb_cl r1.2 - jb_cl M) ≤ R.cells ∧ (jb_sl M - S0) + (jb_sl r1.2 - jb_sl M) ≤ R.slots := by
    obtain ⟨b1, b2⟩ := CP
    obtain ⟨c1, c2⟩ := I.2.2.2.1
    have m1 := hg.2.1
    have m2 := hg.2.2.1
    have m3 := hgr.2.1
    have m4 := hgr.2.2.1
    unfold jb_cl jb_sl at *
    omega
  have hceq : (jb_cl M - C0) + (jb_cl r1.2 - jb_cl M) = jb_cl r1.2 - C0 ∧ (jb_sl M - S0) + (jb_sl r1.2 - jb_sl M) = jb_sl r1.2 - S0 := by
    obtain ⟨c1, c2⟩ := I.2.2.2.1
    have m1 := hg.2.1
    have m2 := hg.2.2.1
    unfold jb_cl jb_sl at *
    omega
  have hstk : S.map (jb_v ad) = ((S.take a.2.2.1).reverse.map (jb_v ad)).reverse ++ Value.ref (ad (k + 1)) :: S'.map (jb_v ad) := by
    rw [← List.map_reverse, List.reverse_reverse]
    conv => lhs; rw [hsplit, List.map_append]
    rw [hxk]
    rfl
  have hcls := jw_cls a.2.1 cy
  obtain ⟨-, hp2, hp3⟩ := jw_plain _ (jw_own a.2.1 cy)
  rw [← hcls] at hp2 hp3
  have hmax := (jw_maxL a.2.1 cy).2
  have hpar : ∀ sig, parseMethodDescriptor (jm_nm a.2.1).desc = some sig → a.2.2.1 = sig.parameters.length := fun sig hs => by
    rw [hs] at cnp
    exact (Option.some.inj cnp).symm
  have hws : ∀ w ∈ jb_ws1 a.2.1, ∀ (a' : Array Value) (U : State), s.WarmedH U.vm → w.before a' U = true := pay_in hts (jw_goodW cy)
  obtain ⟨q, hq, hq2⟩ := List.any_eq_true.mp cs
  obtain ⟨q1, hq2⟩ := jb_and hq2
  obtain ⟨q2, q3⟩ := jb_and hq2
  have hlk := jm_in (jw_ml q hq) rfl
  rw [Nat.eq_of_beq_eq_true q1, Nat.eq_of_beq_eq_true q2, Nat.eq_of_beq_eq_true q3] at hlk
  have hinst := jw_inst a.2.1 cy
  rw [if_neg (by omega)] at hinst
  have hinst := jm_in hinst rfl
  have hsel := jm_in (jw_sel a.2.1 cy cst cname) rfl
  have hat := jb_at (G := G) (φ := φ) (ad := ad) (M := M) h1 h2
  rw [jb_eO hkd c13] at hat
  have hclsV : (jm_nm a.2.1).cls = jm_cn (ja_mcls a.2.1) := by rw [hcls, cown]
  have hrecv := va_recv hK I.1.1 (jk_cl _ c13) hat
  rw [hxk] at hrecv
  have hrun := va_runV (As := ((S.take a.2.2.1).reverse.map (jb_v ad))) (rest := S'.map (jb_v ad)) (b := ad (k + 1)) (C := (jm_nm a.2.1).cls) (locs := locs) (below := below) (p := p) (l := l) (e := e) (cells := jb_cl M - C0) (slots := jb_sl M - S0) (meth := meth) (n := a.2.2.1) ⟨hx, hb, hml, hown, hts⟩ hMet (⟨⟨rfl, rfl, (show d + 1 ≤ R.frames from hfr), (show 8 + (ja_maxL a.2.1 + 11) + (40 * d + 20) ≤ R.locals by omega), hws, List.mem_cons_self, hts _ (jw_codeW cy), hts _ (jm_in (jw_ini _ cy) rfl), ⟨hp2, hp3⟩, hpar, hts _ hlk⟩, hts _ hinst, hts _ hsel⟩) ⟨jb_blind, by rw [hclsV]; exact hrecv, fun U hU hWm => ⟨by rw [List.map_cons, hxk]; rfl, by rw [hU]; exact I.1.1, I.1.2.1, va_K.moved hWm.alike hK, I.1.2.2.2.at I.1.2.2.1 hU hWm.alike, va_AOI.moved hWm hao⟩⟩ (g := F0 m (jm_pc z i) ls (S.map (jb_v ad))) rfl (by simp; omega) I.2.1.1.1 hstk (by rw [jb_catsum]; show 2 * 0 + _ ≤ 8; omega) hd hcap
  refine jb_call hrun (fun q hq => hq) I.1.2.2.1 (fun v st t locs1 e0 hq hSt => ?_)
  obtain ⟨ad', k1, k2, k3, I'⟩ := jb_after I hg hrL (jb_limlim hlim I.2.2.2.2.2) hq hSt
  cases k2
  have w := hW ad' t.heap locs1 ls I' (fun v hv => by
    rcases List.mem_append.mp hv with q | q
    · exact k3 v (by cases hr1 : r1.1 with
        | none => rw [hr1] at q; cases q
        | some u => rw [hr1] at q; simp at q; rw [q])
    · exact hoS v q)
  rw [hn, List.map_append, jb_S_keep k1 S' hrS'] at w
  rw [hceq.1, hceq.2]
  have e2 : (r1.1.toList).map (jb_v ad') = (r1.1.map (jb_v ad')).toList := by cases r1.1 <;> rfl
  rw [e2] at w
  exact w

set_option maxHeartbeats 4000000 in
theorem jw_callS : jb_SH2 jh_callS jc_callS := by
  intro p l e R s m args below meth c Q G φ z d C0 S0 ad0 lim0 E a i L S M κ r F EO CP ck h hκ hR hlim ad H locs ls I hS
  obtain ⟨⟨hx, hb, hml, hown, hts⟩, ⟨hK, hA⟩, ⟨hfr, hlo⟩, hin, hao⟩ := F
  obtain ⟨ck, cs⟩ := jb_and ck
  obtain ⟨hd, hn⟩ := jc_d_of ck
  obtain ⟨cy, cs⟩ := jb_and cs
  have cy : a.2.1 < jm_NM := Nat.blt_eq.mp cy
  obtain ⟨cst, cs⟩ := jb_and cs
  have cst := Nat.eq_of_beq_eq_true cst
  obtain ⟨cnp, cs⟩ := jb_and cs
  have cnp := of_decide_eq_true cnp
  obtain ⟨hc0, h⟩ := jb_cond h
  obtain ⟨hnl, hc0⟩ := jb_and hc0
  have hnl := Nat.le_of_ble_eq_true hnl
  obtain ⟨hsz, hc0⟩ := jb_and hc0
  have hsz := Nat.le_of_ble_eq_true hsz
  obtain ⟨hrL, hrS⟩ := jb_and hc0
  obtain ⟨r1, hE, hk9⟩ := jb_back_of h
  have hoA : ∀ v ∈ (S.take a.2.2.1).reverse, jb_ok v := fun v hv => hS v (List.mem_of_mem_take (List.mem_reverse.mp hv))
  generalize hS' : S.drop a.2.2.1 = S' at hk9 hsz
  have hsplit : S = S.take a.2.2.1 ++ S' := by rw [← hS']; exact (List.take_append_drop _ _).symm
  have hoS : ∀ v ∈ S', jb_ok v := fun v hv => hS v (by rw [hsplit]; exact List.mem_append_right _ hv)
  have hrS' : ja_refsS φ M S' = true := by
    rw [← hS']
    exact jb_refsS_drop a.2.2.1 S hrS
  obtain ⟨hg, hMet⟩ := EO _ _ _ _ cy hE
  have hMet := hMet ad hoA I.2.2.1
  obtain ⟨hgr, hW⟩ := hκ _ _ _ _ hk9
  have hcap : (jb_cl M - C0) + (jb_cl r1.2 - jb_cl M) ≤ R.cells ∧ (jb_sl M - S0) + (jb_sl r1.2 - jb_sl M) ≤ R.slots := by
    obtain ⟨b1, b2⟩ := CP
    obtain ⟨c1, c2⟩ := I.2.2.2.1
    have m1 := hg.2.1
    have m2 := hg.2.2.1
    have m3 := hgr.2.1
    have m4 := hgr.2.2.1
    unfold jb_cl jb_sl at *
    omega
  have hceq : (jb_cl M - C0) + (jb_cl r1.2 - jb_cl M) = jb_cl r1.2 - C0 ∧ (jb_sl M - S0) + (jb_sl r1.2 - jb_sl M) = jb_sl r1.2 - S0 := by
    obtain ⟨c1, c2⟩ := I.2.2.2.1
    have m1 := hg.2.1
    have m2 := hg.2.2.1
    unfold jb_cl jb_sl at *
    omega
  have hstk : S.map (jb_v ad) = ((S.take a.2.2.1).reverse.map (jb_v ad)).reverse ++ S'.map (jb_v ad) := by
    rw [← List.map_reverse, List.reverse_reverse]
    conv => lhs; rw [hsplit, List.map_append]
  have hcls := jw_cls a.2.1 cy
  obtain ⟨-, hp2, hp3⟩ := jw_plain _ (jw_own a.2.1 cy)
  rw [← hcls] at hp2 hp3
  have hmax := (jw_maxL a.2.1 cy).2
  have hpar : ∀ sig, parseMethodDescriptor (jm_nm a.2.1).desc = some sig → a.2.2.1 = sig.parameters.length := fun sig hs => by
    rw [hs] at cnp
    exact (Option.some.inj cnp).symm
  have hws : ∀ w ∈ jb_ws1 a.2.1, ∀ (a' : Array Value) (U : State), s.WarmedH U.vm → w.before a' U = true := pay_in hts (jw_goodW cy)
  obtain ⟨q, hq, hq2⟩ := List.any_eq_true.mp cs
  obtain ⟨q1, hq2⟩ := jb_and hq2
  obtain ⟨q2, q3⟩ := jb_and hq2
  have hlk := jm_in (jw_ml q hq) rfl
  rw [Nat.eq_of_beq_eq_true q1, Nat.eq_of_beq_eq_true q2, Nat.eq_of_beq_eq_true q3] at hlk
  have hinst := jw_inst a.2.1 cy
  rw [if_pos cst] at hinst
  have hinst := jm_in hinst rfl
  have hrun := va_runS (As := ((S.take a.2.2.1).reverse.map (jb_v ad))) (rest := S'.map (jb_v ad)) (locs := locs) (below := below) (p := p) (l := l) (e := e) (cells := jb_cl M - C0) (slots := jb_sl M - S0) (meth := meth) (n := a.2.2.1) ⟨hx, hb, hml, hown, hts⟩ hMet (⟨⟨rfl, rfl, (show d + 1 ≤ R.frames from hfr), (show 8 + (ja_maxL a.2.1 + 11) + (40 * d + 20) ≤ R.locals by omega), hws, List.mem_cons_self, hts _ (jw_codeW cy), hts _ (jm_in (jw_ini _ cy) rfl), ⟨hp2, hp3⟩, hpar, hts _ hlk⟩, hts _ hinst⟩) ⟨jb_blind, fun U hU hWm => ⟨rfl, by rw [hU]; exact I.1.1, I.1.2.1, va_K.moved hWm.alike hK, I.1.2.2.2.at I.1.2.2.1 hU hWm.alike, va_AOI.moved hWm hao⟩⟩ (g := F0 m (jm_pc z i) ls (S.map (jb_v ad))) rfl (by simp; omega) I.2.1.1.1 hstk (by rw [jb_catsum]; show 2 * 0 + _ ≤ 8; omega) hd hcap
  refine jb_call hrun (fun q hq => hq) I.1.2.2.1 (fun v st t locs1 e0 hq hSt => ?_)
  obtain ⟨ad', k1, k2, k3, I'⟩ := jb_after I hg hrL (jb_limlim hlim I.2.2.2.2.2) hq hSt
  cases k2
  have w := hW ad' t.heap locs1 ls I' (fun v hv => by
    rcases List.mem_append.mp hv with q | q
    · exact k3 v (by cases hr1 : r1.1 with
        | none => rw [hr1] at q; cases q
        | some u => rw [hr1] at q; simp at q; rw [q])
    · exact hoS v q)
  rw [hn, List.map_append, jb_S_keep k1 S' hrS'] at w
  rw [hceq.1, hceq.2]
  have e2 : (r1.1.toList).map (jb_v ad') = (r1.1.map (jb_v ad')).toList := by cases r1.1 <;> rfl
  rw [e2] at w
  exact w

set_option maxHeartbeats 4000000 in
theorem jw_callI : jb_SH2 jh_callI jc_callI := by
  intro p l e R s m args below meth c Q G φ z d C0 S0 ad0 lim0 E a i L S M κ r F EO CP ck h hκ hR hlim ad H locs ls I hS
  obtain ⟨⟨hx, hb, hml, hown, hts⟩, ⟨hK, hA⟩, ⟨hfr, hlo⟩, hin, hao⟩ := F
  obtain ⟨ck, cs⟩ := jb_and ck
  obtain ⟨hd, hn⟩ := jc_d_of ck
  obtain ⟨cy, cs⟩ := jb_and cs
  have cy : a.2.1 < jm_NM := Nat.blt_eq.mp cy
  obtain ⟨cst, cs⟩ := jb_and cs
  have cst := Nat.eq_of_beq_eq_true cst
  obtain ⟨cname, cs⟩ := jb_and cs
  have cname := of_decide_eq_true cname
  obtain ⟨crt, cs⟩ := jb_and cs
  have crt := of_decide_eq_true crt
  obtain ⟨cnp, cs⟩ := jb_and cs
  have cnp := of_decide_eq_true cnp
  have h : (match S.drop a.2.2.1 with
    | .inr (.inr c) :: S' => cond (ja_ckI φ M c S' L S) (ja_back 0 (E a.2.1 (jr c :: (S.take a.2.2.1).reverse) M) i L S' κ) none
    | _ => none) = some r := h
  rcases hdr : S.drop a.2.2.1 with _ | ⟨x | x | x, S'⟩
  · rw [hdr] at h; cases h
  · rw [hdr] at h; cases h
  · rw [hdr] at h; cases h
  rw [hdr] at h
  obtain ⟨hc0, h⟩ := jb_cond h
  obtain ⟨h1, hc0⟩ := jb_and hc0
  have h1 := Nat.le_of_ble_eq_true h1
  obtain ⟨hsz, hc0⟩ := jb_and hc0
  have hsz := Nat.le_of_ble_eq_true hsz
  obtain ⟨hrL, hrS⟩ := jb_and hc0
  obtain ⟨k, hxk⟩ : ∃ k, x = k + 1 := ⟨x - 1, by omega⟩
  obtain ⟨r1, hE, hk9⟩ := jb_back_of h
  have hnl : a.2.2.1 < S.length := by
    rcases Nat.lt_or_ge a.2.2.1 S.length with q | q
    · exact q
    · rw [List.drop_eq_nil_of_le q] at hdr
      cases hdr
  have hsplit : S = S.take a.2.2.1 ++ jr x :: S' := by rw [← hdr]; exact (List.take_append_drop _ _).symm
  have hoA : ∀ v ∈ jr x :: (S.take a.2.2.1).reverse, jb_ok v := List.forall_mem_cons.mpr ⟨trivial, fun v hv => hS v (List.mem_of_mem_take (List.mem_reverse.mp hv))⟩
  have hoS : ∀ v ∈ S', jb_ok v := fun v hv => hS v (by rw [hsplit]; exact List.mem_append_right _ (List.mem_cons_of_mem _ hv))
  have hrS' : ja_refsS φ M S' = true := by
    have := jb_refsS_drop a.2.2.1 S hrS
    rw [hdr] at this
    exact (jb_and this).2
  obtain ⟨hg, hMet⟩ := EO _ _ _ _ cy hE
  have hMet := hMet ad hoA I.2.2.1
  obtain ⟨hgr, hW⟩ := hκ _ _ _ _ hk9
  have hcap : (jb_cl M - C0) + (jb_cl r1.2 - jb_cl M) ≤ R.cells ∧ (jb_sl M - S0) + (jb_sl r1.2 - jb_sl M) ≤ R.slots := by
    obtain ⟨b1, b2⟩ := CP
    obtain ⟨c1, c2⟩ := I.2.2.2.1
    have m1 := hg.2.1
    have m2 := hg.2.2.1
    have m3 := hgr.2.1
    have m4 := hgr.2.2.1
    unfold jb_cl jb_sl at *
    omega
  have hceq : (jb_cl M - C0) + (jb_cl r1.2 - jb_cl M) = jb_cl r1.2 - C0 ∧ (jb_sl M - S0) + (jb_sl r1.2 - jb_sl M) = jb_sl r1.2 - S0 := by
    obtain ⟨c1, c2⟩ := I.2.2.2.1
    have m1 := hg.2.1
    have m2 := hg.2.2.1
    unfold jb_cl jb_sl at *
    omega
  have hstk : S.map (jb_v ad) = ((S.take a.2.2.1).reverse.map (jb_v ad)).reverse ++ Value.ref (ad (k + 1)) :: S'.map (jb_v ad) := by
    rw [← List.map_reverse, List.reverse_reverse]
    conv => lhs; rw [hsplit, List.map_append]
    rw [hxk]
    rfl
  have hcls := jw_cls a.2.1 cy
  obtain ⟨-, hp2, hp3⟩ := jw_plain _ (jw_own a.2.1 cy)
  rw [← hcls] at hp2 hp3
  have hmax := (jw_maxL a.2.1 cy).2
  have hpar : ∀ sig, parseMethodDescriptor (jm_nm a.2.1).desc = some sig → a.2.2.1 = sig.parameters.length := fun sig hs => by
    rw [hs] at cnp
    exact (Option.some.inj cnp).symm
  have hws : ∀ w ∈ jb_ws1 a.2.1, ∀ (a' : Array Value) (U : State), s.WarmedH U.vm → w.before a' U = true := pay_in hts (jw_goodW cy)
  have hinst := jw_inst a.2.1 cy
  rw [if_neg (by omega)] at hinst
  have hinst := jm_in hinst rfl
  have hcodeN : Cond.code (jm_nm a.2.1) (jm_b a.2.1) (ja_maxL a.2.1) none ∈ jm_W := by
    have := jw_codeW cy
    rw [crt] at this
    exact this
  have hcodeN2 : Cond.code (jm_nm a.2.1) (jm_b a.2.1) (ja_maxL a.2.1) none ∈ jb_ws1 a.2.1 := by
    unfold jb_ws1
    rw [crt]
    exact List.mem_cons_self
  have fin : va_Run p l e R s m args below meth c H locs (jb_cl M - C0) (jb_sl M - S0) (jb_cl r1.2 - jb_cl M) (jb_sl r1.2 - jb_sl M) (F0 m (jm_pc z i) ls (S.map (jb_v ad))) (S'.map (jb_v ad)) (jb_Qc G φ ad (ja_lim φ M) r1 (Value.ref (ad (k + 1)) :: ((S.take a.2.2.1).reverse.map (jb_v ad))).toArray) (jb_A G) := by
    rcases jb_or cs with cs | cs
    · obtain ⟨q, hq, hq2⟩ := List.any_eq_true.mp cs
      obtain ⟨q1, hq2⟩ := jb_and hq2
      obtain ⟨q2, q3⟩ := jb_and hq2
      have hlk := jm_in (jw_ml q hq) rfl
      rw [Nat.eq_of_beq_eq_true q1, Nat.eq_of_beq_eq_true q2, Nat.eq_of_beq_eq_true q3] at hlk
      exact va_runI (As := ((S.take a.2.2.1).reverse.map (jb_v ad))) (rest := S'.map (jb_v ad)) (b := ad (k + 1)) (n := a.2.2.1) ⟨hx, hb, hml, hown, hts⟩ hMet ⟨⟨rfl, rfl, (show d + 1 ≤ R.frames from hfr), (show 8 + (ja_maxL a.2.1 + 11) + (40 * d + 20) ≤ R.locals by omega), hws, hcodeN2, hts _ hcodeN, hts _ (jm_in (jw_ini _ cy) rfl), ⟨hp2, hp3⟩, hpar, hts _ hlk⟩, cname, hts _ hinst⟩ ⟨jb_blind, fun U hU hWm => ⟨by rw [List.map_cons, hxk]; rfl, by rw [hU]; exact I.1.1, I.1.2.1, va_K.moved hWm.alike hK, I.1.2.2.2.at I.1.2.2.1 hU hWm.alike, va_AOI.moved hWm hao⟩⟩ rfl (by simp; omega) I.2.1.1.1 hstk (by rw [jb_catsum]; show 2 * 0 + _ ≤ 8; omega) hd hcap
    · obtain ⟨q, hq, hq2⟩ := List.any_eq_true.mp cs
      obtain ⟨q1, hq2⟩ := jb_and hq2
      obtain ⟨q2, q3⟩ := jb_and hq2
      have hlk := hao.2 q hq
      rw [Nat.eq_of_beq_eq_true q1, Nat.eq_of_beq_eq_true q2, Nat.eq_of_beq_eq_true q3] at hlk
      exact va_runIN (As := ((S.take a.2.2.1).reverse.map (jb_v ad))) (rest := S'.map (jb_v ad)) (b := ad (k + 1)) (n := a.2.2.1) ⟨hx, hb, hml, hown, hts⟩ hMet ⟨⟨⟨rfl, rfl, (show d + 1 ≤ R.frames from hfr), (show 8 + (ja_maxL a.2.1 + 11) + (40 * d + 20) ≤ R.locals by omega), hws, hcodeN2⟩, hts _ hcodeN, hts _ (jm_in (jw_ini _ cy) rfl), ⟨hp2, hp3⟩, hpar, va_Nw.use rfl hlk⟩, cname, hts _ hinst⟩ ⟨jb_blind, fun U hU hWm => ⟨by rw [List.map_cons, hxk]; rfl, by rw [hU]; exact I.1.1, I.1.2.1, va_K.moved hWm.alike hK, I.1.2.2.2.at I.1.2.2.1 hU hWm.alike, va_AOI.moved hWm hao⟩⟩ rfl (by simp; omega) I.2.1.1.1 hstk (by rw [jb_catsum]; show 2 * 0 + _ ≤ 8; omega) hd hcap
  have hrun := fin
  refine jb_call hrun (fun q hq => hq) I.1.2.2.1 (fun v st t locs1 e0 hq hSt => ?_)
  obtain ⟨ad', k1, k2, k3, I'⟩ := jb_after I hg hrL (jb_limlim hlim I.2.2.2.2.2) hq hSt
  cases k2
  have w := hW ad' t.heap locs1 ls I' (fun v hv => by
    rcases List.mem_append.mp hv with q | q
    · exact k3 v (by cases hr1 : r1.1 with
        | none => rw [hr1] at q; cases q
        | some u => rw [hr1] at q; simp at q; rw [q])
    · exact hoS v q)
  rw [hn, List.map_append, jb_S_keep k1 S' hrS'] at w
  rw [hceq.1, hceq.2]
  have e2 : (r1.1.toList).map (jb_v ad') = (r1.1.map (jb_v ad')).toList := by cases r1.1 <;> rfl
  rw [e2] at w
  exact w

set_option maxHeartbeats 4000000 in
theorem jw_copy : jb_SH2 jh_copy jc_copy := by
  intro p l e R s m args below meth c Q G φ z d C0 S0 ad0 lim0 E a i L S M κ r F EO CP ck h hκ hR hlim ad H locs ls I hS
  obtain ⟨⟨hx, hb, hml, hown, hts⟩, ⟨hK, hA⟩, ⟨hfr, hlo⟩, hin, hao⟩ := F
  rcases S with _ | ⟨x0 | x0 | x0, _ | ⟨x1 | x1 | x1, _ | ⟨x2 | x2 | x2, _ | ⟨x3 | x3 | x3, _ | ⟨x4 | x4 | x4, S⟩⟩⟩⟩⟩ <;> first | (cases h; done) | skip
  obtain ⟨ck, cs⟩ := jb_and ck
  obtain ⟨hd, hn⟩ := jc_d_of ck
  obtain ⟨q, hq, hq2⟩ := List.any_eq_true.mp cs
  obtain ⟨q1, q2⟩ := jb_and hq2
  have hlk := jm_in (ja_ok2 q hq) rfl
  rw [Nat.eq_of_beq_eq_true q1, Nat.eq_of_beq_eq_true q2] at hlk
  obtain ⟨hc0, hk9⟩ := jb_cond h
  obtain ⟨hj, hk9⟩ := jb_if hk9
  obtain ⟨d1, hc0⟩ := jb_and hc0
  obtain ⟨d2, hc0⟩ := jb_and hc0
  obtain ⟨s1, hc0⟩ := jb_and hc0
  obtain ⟨s2, hsz⟩ := jb_and hc0
  have d2 := Nat.eq_of_beq_eq_true d2
  have s2 := Nat.eq_of_beq_eq_true s2
  have hsz := Nat.le_of_ble_eq_true hsz
  obtain ⟨o0, hS1⟩ := List.forall_mem_cons.mp hS
  obtain ⟨o1, hS1⟩ := List.forall_mem_cons.mp hS1
  obtain ⟨-, hS1⟩ := List.forall_mem_cons.mp hS1
  obtain ⟨o3, hS1⟩ := List.forall_mem_cons.mp hS1
  replace hS := (List.forall_mem_cons.mp hS1).2
  clear hS1
  obtain ⟨d3, d4, d5⟩ := jb_okc d1 I.2.2.1
  obtain ⟨s3, s4, s5⟩ := jb_okc s1 I.2.2.1
  obtain ⟨kd, hkd⟩ : ∃ k, x2 = k + 1 := ⟨x2 - 1, by omega⟩
  obtain ⟨ks, hks⟩ : ∃ k, x4 = k + 1 := ⟨x4 - 1, by omega⟩
  subst hkd
  subst hks
  have hatd := jb_at (G := G) (φ := φ) (ad := ad) (M := M) d3 d4
  have hats := jb_at (G := G) (φ := φ) (ad := ad) (M := M) s3 s4
  rw [jb_e0 d2] at hatd
  rw [jb_e0 s2] at hats
  have ld := jk_len _ d5
  have ls5 := jk_len _ s5
  obtain ⟨b0, b1, b2, b3, b4⟩ := hj
  have hcl : ∀ x : Int, 0 ≤ x → x ≤ 5000 → ¬ Int32.ofInt x < 0 ∧ (Int32.ofInt x).toNatClampNeg = x.toNat := by
    intro x h0 h1
    obtain ⟨k, rfl⟩ : ∃ k : Nat, x = (k : Int) := ⟨x.toNat, by omega⟩
    rw [jn_nat, Int.toNat_natCast]
    exact ⟨nI_pos (by omega), nI_clamp (by omega)⟩
  obtain ⟨n0, m0⟩ := hcl x0 b0 (by omega)
  obtain ⟨n1, m1⟩ := hcl x1 b1 (by omega)
  obtain ⟨n3, m3⟩ := hcl x3 b2 (by omega)
  have hee : jb_e G φ ad (ja_cpy M (ks + 1) x3.toNat (kd + 1) x1.toNat x0.toNat) (kd + 1) = .inl (G.2.1.1, (ja_kd (kd + 1)).2, .inl (va_cpy (fun i => Int32.ofInt (M (ks + 1) i)) (fun i => Int32.ofInt (M (kd + 1) i)) x3.toNat x1.toNat x0.toNat)) := by
    rw [jb_e0 d2]
    have : (fun i => Int32.ofInt (ja_cpy M (ks + 1) x3.toNat (kd + 1) x1.toNat x0.toNat (kd + 1) i)) = va_cpy (fun i => Int32.ofInt (M (ks + 1) i)) (fun i => Int32.ofInt (M (kd + 1) i)) x3.toNat x1.toNat x0.toNat := by
      funext j
      unfold va_cpy ja_cpy
      by_cases e : x1.toNat ≤ j ∧ j < x1.toNat + x0.toNat
      · rw [if_pos ⟨rfl, e⟩, if_pos e]
      · rw [if_neg (fun q => e q.2), if_neg e]
    rw [this]
  have hM' : ∀ dd jj, dd ≠ kd + 1 → ja_cpy M (ks + 1) x3.toNat (kd + 1) x1.toNat x0.toNat dd jj = M dd jj := fun dd jj hne => if_neg (fun q => hne q.1)
  have e0 := hM' 0 0 (by omega)
  have e1 := hM' 0 1 (by omega)
  have e2 := hM' 0 2 (by omega)
  have e4 := hM' 0 4 (by omega)
  have hgr' : jb_gr M (ja_cpy M (ks + 1) x3.toNat (kd + 1) x1.toNat x0.toNat) := ⟨by rw [e0]; exact Int.le_refl _, by rw [e1]; exact Int.le_refl _, by rw [e2]; exact Int.le_refl _, e4, fun j => hM' _ _ (by simp only [ja_RO]; omega)⟩
  have hok' : jb_Mok φ (ja_cpy M (ks + 1) x3.toNat (kd + 1) x1.toNat x0.toNat) := by
    obtain ⟨k1, k2, k3, k4, k5, k6⟩ := I.2.2.1
    refine ⟨fun dd jj hdd => ?_, by rw [e0]; exact k2, by rw [e0]; exact k3, by rw [e1, e2]; exact k4, by rw [e4]; exact k5, fun dd d1' d2' => ?_⟩
    case refine_2 =>
      rw [e0] at d2' ⊢
      obtain ⟨g1, g2⟩ := k6 dd d1' d2'
      refine ⟨fun ii => ?_, g2⟩
      by_cases e : dd = kd + 1
      · subst e
        have : ja_rd φ (ja_cpy M (ks + 1) x3.toNat (kd + 1) x1.toNat x0.toNat) (kd + 1) ii ≤ 0 := by
          unfold ja_rd
          rw [jb_ppA d5 (by omega)]
          cases φ && !(ja_mut (kd + 1) ii)
          · show (if _ then 0 else 0) ≤ 0
            split <;> exact Nat.le_refl _
          · exact Nat.le_refl _
        omega
      · have : ja_rd φ (ja_cpy M (ks + 1) x3.toNat (kd + 1) x1.toNat x0.toNat) dd ii = ja_rd φ M dd ii := by
          unfold ja_rd
          rw [hM' dd ii e]
        rw [this]
        exact g1 ii
    unfold ja_cpy
    split
    · rename_i hq5
      rw [hq5.1]
      exact jb_numI' (jb_numI (k1 (ks + 1) _ s3) (jb_lngA s2 (Or.inl rfl))) (jb_lngA d2 (Or.inl rfl))
    · exact k1 dd jj hdd
  have hnf : nativeFrameWords "java/lang/System" "arraycopy" 5 ≤ 40 := by decide +kernel
  refine va_copyi hx hb (by rw [hml]; exact I.2.1.1.1.symm) hown (hts _ hlk) (hts _ jo_acN) (hts _ jo_acS) (hts _ jo_acI) hK I.1.1 I.1.2.1 I.1.2.2.1 ks kd 0 0 hats hatd rfl rfl rfl n3 n1 n0 (by rw [m3, m0]; omega) (by rw [m1, m0]; omega) (fun _ _ => rfl) (by omega) (by rw [jb_catsum]; omega) hd (fun H1 locs1 p1 p2 p3 => ?_)
  rw [m3, m1, m0] at p1 p2
  have hw := jb_set (G := G) (φ := φ) (ad := ad) (M := M) (M' := ja_cpy M (ks + 1) x3.toNat (kd + 1) x1.toNat x0.toNat) d3 d4 (by rw [e0]) (fun dd ii hdd _ => hM' dd ii hdd) hee
  rw [show kd + 1 - 1 = kd by omega] at hw
  rw [hw] at p1 p2
  have I' : jb_I G φ s (ja_maxL z) C0 S0 ad0 lim0 ad (ja_cpy M (ks + 1) x3.toNat (kd + 1) x1.toNat x0.toNat) H1 locs1 L ls := by
    obtain ⟨⟨-, -, -, ro⟩, I2, I3, I4, I5, I6⟩ := I
    exact ⟨⟨p1, p2, p3, ro.to hgr' (fun _ _ => rfl)⟩, I2, hok', by unfold jb_cl jb_sl; rw [e1, e2]; exact I4, I5, by rw [e0]; exact I6⟩
  have w := (hκ _ _ _ _ hk9).2 ad H1 locs1 ls I' hS
  have ec : jb_cl (ja_cpy M (ks + 1) x3.toNat (kd + 1) x1.toNat x0.toNat) = jb_cl M := by unfold jb_cl; rw [e1]
  have es : jb_sl (ja_cpy M (ks + 1) x3.toNat (kd + 1) x1.toNat x0.toNat) = jb_sl M := by unfold jb_sl; rw [e2]
  rw [hn, ec, es] at w
  exact w
