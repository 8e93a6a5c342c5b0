/-! new cells -/
/-- t cells more, at the addresses nw -/
def jb_ad (ad nw : Nat → Nat) (n t : Nat) : Nat → Nat := fun k => if n < k ∧ k ≤ n + t then nw (k - n - 1) else ad k
theorem jb_ad_old {ad nw : Nat → Nat} {n t k : Nat} (h : k ≤ n ∨ n + t < k) : jb_ad ad nw n t k = ad k := if_neg (fun q => by omega)
theorem jb_ad_new {ad nw : Nat → Nat} {n t j : Nat} (h : j < t) : jb_ad ad nw n t (n + 1 + j) = nw j := by
  unfold jb_ad
  rw [if_pos (by omega), show n + 1 + j - n - 1 = j by omega]
theorem jg_old {M : ja_M} {n w c i : Nat} (h0 : c ≠ 0) (h : c ≤ (M 0 0).toNat ∨ (M 0 0).toNat + n < c) : ja_grow M n w c i = M c i := by
  unfold ja_grow
  rw [if_neg h0, if_neg (fun q => by omega)]
theorem jg_new {M : ja_M} {n w c i : Nat} (h : (M 0 0).toNat < c ∧ c ≤ (M 0 0).toNat + n) : ja_grow M n w c i = 0 := by
  unfold ja_grow
  rw [if_neg (by omega), if_pos h]
theorem jg_0 (M : ja_M) (n w : Nat) : ja_grow M n w 0 0 = M 0 0 + n := rfl
theorem jg_1 (M : ja_M) (n w : Nat) : ja_grow M n w 0 1 = M 0 1 + n := rfl
theorem jg_2 (M : ja_M) (n w : Nat) : ja_grow M n w 0 2 = M 0 2 + w := rfl
theorem jg_4 (M : ja_M) (n w : Nat) : ja_grow M n w 0 4 = M 0 4 := rfl
theorem jg_gr {M : ja_M} {n w : Nat} (h : (M 0 0).toNat + n < 173) : jb_gr M (ja_grow M n w) := by
  refine ⟨?_, ?_, ?_, jg_4 M n w, fun j => jg_old (by decide) (Or.inr (by simp only [ja_RO]; omega))⟩
  · rw [jg_0]; omega
  · rw [jg_1]; omega
  · rw [jg_2]; omega
theorem jk_ppN : ∀ c, c < 173 → ∀ i, i < 58 → ja_mut c i = false → ja_pp c i ≤ ja_N0 := by decide +kernel
theorem jg_ok {φ : Bool} {M : ja_M} {n w : Nat} (hM : jb_Mok φ M) (h : (M 0 0).toNat + n < 173) (hφ : φ = true → n = 1 ∧ (M 0 0).toNat = ja_N0) (h3 : ∀ c, (M 0 0).toNat < c → c ≤ (M 0 0).toNat + n → (ja_kd c).1 = 103 → c + (ja_kd c).2 ≤ (M 0 0).toNat + n) : jb_Mok φ (ja_grow M n w) := by
  obtain ⟨m1, m2, m3, m4, m5, m6⟩ := hM
  refine ⟨fun c i hc => ?_, ?_, ?_, ?_, ?_, fun c c1 c2 => ?_⟩
  · by_cases e : (M 0 0).toNat < c ∧ c ≤ (M 0 0).toNat + n
    · rw [jg_new e]
      unfold jb_num
      split
      · exact ⟨by decide, by decide⟩
      · exact ⟨by decide, by decide⟩
    · rw [jg_old (by omega) (by omega)]
      exact m1 c i hc
  · rw [jg_0]
    simp only [ja_N0]
    omega
  · intro q
    have := m3 q
    rw [jg_0]
    omega
  · rw [jg_1, jg_2]
    omega
  · rw [jg_4]
    exact m5
  · have e0 : (ja_grow M n w 0 0).toNat = (M 0 0).toNat + n := by rw [jg_0]; omega
    rw [e0] at c2 ⊢
    by_cases e : (M 0 0).toNat < c
    · refine ⟨fun i => ?_, h3 c e c2⟩
      unfold ja_rd
      rw [jg_new ⟨e, c2⟩]
      cases φ with
      | false => exact Nat.zero_le _
      | true =>
        obtain ⟨h4, h5⟩ := hφ rfl
        have hc : c = 172 := by simp only [ja_N0] at h5; omega
        have hp : ja_pp c i = 0 := by
          subst hc
          rfl
        rw [hp]
        cases hmu : ja_mut c i <;> exact Nat.zero_le _
    · obtain ⟨g1, g2⟩ := m6 c c1 (by omega)
      refine ⟨fun i => ?_, fun q => Nat.le_trans (g2 q) (by omega)⟩
      have : ja_rd φ (ja_grow M n w) c i = ja_rd φ M c i := by
        unfold ja_rd
        rw [jg_old (by omega) (Or.inl (by omega))]
      rw [this]
      exact Nat.le_trans (g1 i) (by omega)
/-- the world with the new cells behind it -/
theorem jg_ws {G : jb_G} {φ : Bool} {ad nw : Nat → Nat} {M : ja_M} {n w : Nat} (hM : jb_Mok φ M) : jb_ws G φ (jb_ad ad nw (M 0 0).toNat n) (ja_grow M n w) = jb_ws G φ ad M ++ (List.range n).map (fun j => (nw j, jb_e G φ (jb_ad ad nw (M 0 0).toNat n) (ja_grow M n w) ((M 0 0).toNat + 1 + j))) := by
  have h0 := hM.2.1.1
  have e0 : (ja_grow M n w 0 0).toNat = (M 0 0).toNat + n := by rw [jg_0]; omega
  unfold jb_ws
  rw [e0, List.range_add, List.map_append, List.map_map]
  congr 1
  · apply List.map_congr_left
    intro k hk
    have hk := List.mem_range.mp hk
    obtain ⟨g1, g2⟩ := hM.2.2.2.2.2 (k + 1) (by omega) (by omega)
    rw [jb_ad_old (Or.inl (by omega)), jb_e_congr (M := M) (M' := ja_grow M n w) (ad := ad) (fun i => jg_old (by omega) (Or.inl (by omega))) (fun i _ => jb_ad_old (Or.inl (g1 i))) (fun q i hi => jb_ad_old (Or.inl (by have := g2 q; omega)))]
  · apply List.map_congr_left
    intro j hj
    have hj := List.mem_range.mp hj
    show (jb_ad ad nw (M 0 0).toNat n ((M 0 0).toNat + j + 1), _) = _
    rw [show (M 0 0).toNat + j + 1 = (M 0 0).toNat + 1 + j by omega, jb_ad_new hj]
theorem jg_keep {φ : Bool} {M : ja_M} {ad nw : Nat → Nat} {n : Nat} (hM : jb_Mok φ M) (h : (M 0 0).toNat + n < 173) : ∀ k, k ≤ ja_lim φ M ∨ ja_RO ≤ k → jb_ad ad nw (M 0 0).toNat n k = ad k := by
  intro k hk
  have := jb_limle hM
  apply jb_ad_old
  simp only [ja_RO] at hk
  omega
theorem jg_I {G : jb_G} {φ : Bool} {s : State} {nL C0 S0 : Nat} {ad0 : Nat → Nat} {lim0 : Nat} {ad nw : Nat → Nat} {M : ja_M} {H H1 : Heap} {locs locs1 : List Loc} {L : ja_L} {ls : Array Slot} {n w : Nat} (I : jb_I G φ s nL C0 S0 ad0 lim0 ad M H locs L ls) (h : (M 0 0).toNat + n < 173) (hok : jb_Mok φ (ja_grow M n w)) (hL : ja_refsL φ M L = true)
    (p1 : va_P G.1 jm_cl (jb_ws G φ (jb_ad ad nw (M 0 0).toNat n) (ja_grow M n w)) H1) (p2 : va_D (jb_A G) (jb_ws G φ (jb_ad ad nw (M 0 0).toNat n) (ja_grow M n w))) (p3 : va_S (jb_A G) s.heap H1 locs1) : jb_I G φ s nL C0 S0 ad0 lim0 (jb_ad ad nw (M 0 0).toNat n) (ja_grow M n w) H1 locs1 L ls := by
  obtain ⟨⟨-, -, -, ro⟩, ⟨I2, I3, I4⟩, I5, ⟨I6, I7⟩, I8, I9⟩ := I
  have hk := jg_keep (ad := ad) (nw := nw) I5 h
  refine ⟨⟨p1, p2, p3, ro.to (jg_gr h) (fun k hk' => hk k (Or.inr hk'))⟩, ⟨by rw [jb_L_keep hk L 0 hL]; exact I2, I3, I4⟩, hok, ?_, fun k hk' => ?_, ?_⟩
  · unfold jb_cl jb_sl at *
    rw [jg_1, jg_2]
    omega
  · rw [← I8 k hk']
    apply jb_ad_old
    simp only [ja_RO] at hk'
    omega
  · rw [jg_0]
    omega
theorem jg_cl {M : ja_M} {n w : Nat} (h1 : 0 ≤ M 0 1) (h2 : 0 ≤ M 0 2) : jb_cl (ja_grow M n w) = jb_cl M + n ∧ jb_sl (ja_grow M n w) = jb_sl M + w := by
  unfold jb_cl jb_sl
  rw [jg_1, jg_2]
  omega
theorem jg_int (G : jb_G) {s : State} {cA : ClassId} {ty : FieldType} (hk : va_K G.1 jm_cl (jb_tys G) s) (hk2 : va_K G.1 jm_cl (jb_tys G ++ [(cA, ty)]) s) {t0 : Nat} {tA : ClassId} (ht : (jb_tys G)[t0]? = some (tA, ty)) (hno : ∀ C, ty ≠ .object C) : cA = tA := by
  have a1 := (hk.2 t0 _ ht).2
  have a2 := (hk2.2 4 (cA, ty) (by rfl)).2
  have e1 : s.vm.findClass ("[" ++ ty.toString) = some tA := by
    unfold va_RA at a1
    split at a1
    · rename_i C hC
      exact absurd hC (hno C)
    · exact a1
  have e2 : s.vm.findClass ("[" ++ ty.toString) = some cA := by
    unfold va_RA at a2
    split at a2
    · rename_i C hC
      exact absurd hC (hno C)
    · exact a2
  rw [e1] at e2
  exact (Option.some.inj e2).symm
theorem jk_dflt : ∀ k, k < 13 → ∀ j, j < jm_N k → ∀ M : ja_M, ∀ c, M c j = 0 → defaultValue (jm_ty k j) = jb_f false (fun _ => 0) M c j (ja_ft k j) := by
  intro k hk j hj M c h
  obtain ⟨f1, f2, -⟩ := jk_ft k hk j hj
  generalize ja_ft k j = t at f1 f2
  generalize jm_ty k j = ty at f1
  rcases t with _ | _ | _ | _ | t
  · cases ty <;> first | (cases f1; done) | (show Value.int 0 = Value.int (Int32.ofInt (M c j)); rw [h]; rfl)
  · cases ty <;> first | (cases f1; done) | (show Value.int 0 = Value.int (Int32.ofInt (M c j)); rw [h]; rfl)
  · cases ty <;> first | (cases f1; done) | (show Value.long 0 = Value.long (Int64.ofInt (M c j)); rw [h]; rfl)
  · have e : jb_f false (fun _ => 0) M c j 3 = .null := by
      show jb_v (fun _ => 0) (jr (ja_rd false M c j)) = _
      have : ja_rd false M c j = 0 := by
        unfold ja_rd
        rw [h]
        rfl
      rw [this]
      rfl
    cases ty <;> first | (cases f1; done) | (rw [e]; rfl)
  · omega
theorem jk_kd : ∀ c, c < 200 → ((ja_kd c).1 < 13 ∨ (100 ≤ (ja_kd c).1 ∧ (ja_kd c).1 ≤ 103)) → c < 173 ∨ 176 ≤ c := by decide +kernel
theorem jg_lt {φ : Bool} {M : ja_M} (hM : jb_Mok φ M) {k : Nat} (hk : (ja_kd ((M 0 0).toNat + 1)).1 = k) (h : k < 13 ∨ (100 ≤ k ∧ k ≤ 103)) : (M 0 0).toNat + 1 < 173 := by
  have h2 := hM.2.1
  simp only [ja_N0] at h2
  rcases jk_kd ((M 0 0).toNat + 1) (by omega) (by rw [hk]; exact h) with q | q <;> omega
theorem jg_new1 {φ : Bool} {M : ja_M} {kind n : Nat} {L : ja_L} {S : List ja_V} (h : ja_new1 φ M kind n L S = true) : ja_nx φ M = (M 0 0).toNat + 1 ∧ (ja_kd ((M 0 0).toNat + 1)).1 = kind ∧ (ja_kd ((M 0 0).toNat + 1)).2 = n ∧ n ≤ 5000 ∧ (φ = true → (M 0 0).toNat = ja_N0) ∧ ja_refsL φ M L = true ∧ ja_refsS φ M S = true := by
  obtain ⟨a1, h⟩ := jb_and h
  obtain ⟨a2, h⟩ := jb_and h
  obtain ⟨a3, h⟩ := jb_and h
  obtain ⟨a4, h⟩ := jb_and h
  obtain ⟨a5, a6⟩ := jb_and h
  have a1 := Nat.eq_of_beq_eq_true a1
  have a2 := Nat.eq_of_beq_eq_true a2
  have a3 := Nat.le_of_ble_eq_true a3
  have e : ja_nx φ M = (M 0 0).toNat + 1 := by
    unfold ja_nx
    cases φ with
    | false => rfl
    | true =>
      obtain ⟨b1, -⟩ := jb_and a4
      have b1 := Nat.eq_of_beq_eq_true b1
      show ja_N0 + 1 = _
      omega
  rw [e] at a1 a2
  refine ⟨e, a1, a2, a3, fun q => ?_, a5, a6⟩
  subst q
  exact Nat.eq_of_beq_eq_true (jb_and a4).1

set_option maxHeartbeats 4000000 in
theorem jw_new : jb_SH2 jh_new jc_new := by
  intro p l e R s m args below meth c Q G φ z d C0 S0 ad0 lim0 E a i L S M κ r F EO CP ck h hκ hR hlim ad H locs ls I hS
  obtain ⟨⟨hx, hb, hml, hown, hts⟩, ⟨hK, hA⟩, ⟨hfr, hlo⟩, hin, hao⟩ := F
  obtain ⟨ck, cs⟩ := jb_and ck
  obtain ⟨hd, hn⟩ := jc_d_of ck
  obtain ⟨c13, cs⟩ := jb_and cs
  have c13 : a.2.1 < 13 := Nat.blt_eq.mp c13
  obtain ⟨cN, cs⟩ := jb_and cs
  have cN := Nat.eq_of_beq_eq_true cN
  obtain ⟨q, hq, hq2⟩ := List.any_eq_true.mp cs
  obtain ⟨q1, hq2⟩ := jb_and hq2
  obtain ⟨q2, q3⟩ := jb_and hq2
  obtain ⟨g1, g2, g3⟩ := jc_ok q hq
  have g1 := jm_in g1 rfl
  have g2 := jm_in g2 rfl
  have g3 := jm_in g3 rfl
  rw [Nat.eq_of_beq_eq_true q1, Nat.eq_of_beq_eq_true q2, Nat.eq_of_beq_eq_true q3] at g1
  rw [Nat.eq_of_beq_eq_true q3] at g2 g3
  obtain ⟨hc0, hk9⟩ := jb_cond h
  obtain ⟨hφ, hc0⟩ := jb_and hc0
  have hφ : φ = false := by cases φ <;> first | rfl | cases hφ
  subst hφ
  obtain ⟨-, k1, k2, -, -, k5, k6⟩ := jg_new1 hc0
  have hlt := jg_lt I.2.2.1 k1 (Or.inl c13)
  have hMok := I.2.2.1
  obtain ⟨hgr, hW⟩ := hκ _ _ _ _ hk9
  obtain ⟨ec, es⟩ := jg_cl (M := M) (n := 1) (w := a.2.2.1) hMok.2.2.2.1.1 hMok.2.2.2.1.2
  have hcap : (jb_cl M - C0) + (1) ≤ R.cells ∧ (jb_sl M - S0) + (a.2.2.1) ≤ R.slots := by
    obtain ⟨b1, b2⟩ := CP
    obtain ⟨c1, c2⟩ := I.2.2.2.1
    have m3 := hgr.2.1
    have m4 := hgr.2.2.1
    have m5 : jb_cl (ja_grow M (1) (a.2.2.1)) ≤ jb_cl r.2 := by unfold jb_cl; omega
    have m6 : jb_sl (ja_grow M (1) (a.2.2.1)) ≤ jb_sl r.2 := by unfold jb_sl; omega
    omega
  have hceq : jb_cl (ja_grow M (1) (a.2.2.1)) - C0 = (jb_cl M - C0) + (1) ∧ jb_sl (ja_grow M (1) (a.2.2.1)) - S0 = (jb_sl M - S0) + (a.2.2.1) := by
    obtain ⟨c1, c2⟩ := I.2.2.2.1
    omega
  have hok : jb_Mok false (ja_grow M 1 a.2.2.1) := jg_ok hMok hlt (fun q => by cases q) (fun c x y z => by
    have e : c = (M 0 0).toNat + 1 := by omega
    rw [e, k1] at z
    omega)
  have hfs : ∀ (ad' : Nat → Nat) (j : Nat), j < jm_N a.2.1 → defaultValue (jm_ty a.2.1 j) = vp_V (jb_fs false ad' (ja_grow M 1 a.2.2.1) ((M 0 0).toNat + 1)) j := by
    intro ad' j hj
    have hz : ja_grow M 1 a.2.2.1 ((M 0 0).toNat + 1) j = 0 := jg_new (by omega)
    rw [jk_dflt a.2.1 c13 j hj (ja_grow M 1 a.2.2.1) ((M 0 0).toNat + 1) hz]
    unfold vp_V
    rw [List.getD_eq_getElem?_getD, jb_fs_get (by omega), k1]
    show jb_f false _ _ _ _ _ = jb_f false ad' _ _ _ _
    unfold jb_f
    split
    · rfl
    · rfl
    · rfl
    · unfold ja_rd
      rw [hz]
      rfl
  have k2 : (ja_kd ((M 0 0).toNat + 1)).2 = jm_N a.2.1 := by omega
  refine va_new (C := jm_cn a.2.1) (T := jm_T a.2.1) (N := jm_N a.2.1) (ci := a.2.1) (fs := jb_fs false (fun _ => 0) (ja_grow M 1 a.2.2.1) ((M 0 0).toNat + 1)) hx hb hts (jk_in _ c13) (jm_ty a.2.1) (jk_ty _ c13) hown (hts _ g1) (hts _ g2) (hts _ g3) hK I.1.1 I.1.2.1 I.1.2.2.1 hA (jk_cl _ c13) (hfs _) hcap.1 (by rw [← cN]; exact hcap.2) hd (fun q H1 p1 p2 p3 => ?_)
  have hfe : jb_fs false (jb_ad ad (fun _ => q) (M 0 0).toNat 1) (ja_grow M 1 a.2.2.1) ((M 0 0).toNat + 1) = jb_fs false (fun _ => 0) (ja_grow M 1 a.2.2.1) ((M 0 0).toNat + 1) := by
    unfold jb_fs
    apply List.map_congr_left
    intro j _
    have hz : ja_grow M 1 a.2.2.1 ((M 0 0).toNat + 1) j = 0 := jg_new (by omega)
    unfold jb_f
    split
    · rfl
    · rfl
    · rfl
    · unfold ja_rd
      rw [hz]
      rfl
  have hws : jb_ws G false (jb_ad ad (fun _ => q) (M 0 0).toNat 1) (ja_grow M 1 a.2.2.1) = jb_ws G false ad M ++ [(q, .inr (a.2.1, jb_fs false (fun _ => 0) (ja_grow M 1 a.2.2.1) ((M 0 0).toNat + 1)))] := by
    rw [jg_ws hMok]
    show _ ++ [(q, jb_e G false _ _ ((M 0 0).toNat + 1 + 0))] = _
    rw [Nat.add_zero, jb_eO k1 c13, hfe]
  rw [← hws] at p1 p2
  have I' := jg_I I hlt hok k5 p1 p2 p3
  have w := hW (jb_ad ad (fun _ => q) (M 0 0).toNat 1) H1 locs ls I' (List.forall_mem_cons.mpr ⟨trivial, hS⟩)
  have ev : jb_v (jb_ad ad (fun _ => q) (M 0 0).toNat 1) (jr ((M 0 0).toNat + 1)) = .ref q := by
    show Value.ref (jb_ad ad (fun _ => q) (M 0 0).toNat 1 ((M 0 0).toNat + 1 + 0)) = _
    rw [jb_ad_new (by omega)]
  rw [hn, List.map_cons, ev, jb_S_keep (jg_keep hMok hlt) S k6, hceq.1, hceq.2, cN] at w
  exact w

set_option maxHeartbeats 4000000 in
theorem jw_newa : jb_SH2 jh_newa jc_newa := by
  intro p l e R s m args below meth c Q G φ z d C0 S0 ad0 lim0 E a i L S M κ r F EO CP ck h hκ hR hlim ad H locs ls I hS
  obtain ⟨⟨hx, hb, hml, hown, hts⟩, ⟨hK, hA⟩, ⟨hfr, hlo⟩, hin, hao⟩ := F
  rcases S with _ | ⟨x0 | x0 | x0, S⟩ <;> first | (cases h; done) | skip
  obtain ⟨o0, hS1⟩ := List.forall_mem_cons.mp hS
  replace hS := hS1
  clear hS1
  obtain ⟨hc0, hk9⟩ := jb_cond h
  obtain ⟨h00, hc0⟩ := jb_and hc0
  have h00 := of_decide_eq_true h00
  obtain ⟨k0, k1, k2, k3, k4, k5, k6⟩ := jg_new1 hc0
  have hkind : a.2.1 = 100 ∨ a.2.1 = 101 ∨ a.2.1 = 102 := by
    rcases jb_or ck with q | q
    · exact Or.inl (Nat.eq_of_beq_eq_true (jb_and q).1)
    · rcases jb_or q with q | q
      · exact Or.inr (Or.inl (Nat.eq_of_beq_eq_true (jb_and q).1))
      · exact Or.inr (Or.inr (Nat.eq_of_beq_eq_true (jb_and q).1))
  have hlt := jg_lt I.2.2.1 k1 (Or.inr (by omega))
  have hx0 : ¬ Int32.ofInt x0 < 0 ∧ (Int32.ofInt x0).toNatClampNeg = x0.toNat := by
    obtain ⟨k, rfl⟩ : ∃ k : Nat, x0 = (k : Int) := ⟨x0.toNat, by omega⟩
    rw [Int.toNat_natCast] at k3 ⊢
    rw [jn_nat]
    exact ⟨nI_pos (by omega), nI_clamp (by omega)⟩
  have hMok := I.2.2.1
  obtain ⟨hgr, hW⟩ := hκ _ _ _ _ hk9
  obtain ⟨ec, es⟩ := jg_cl (M := M) (n := 1) (w := x0.toNat) hMok.2.2.2.1.1 hMok.2.2.2.1.2
  have hcap : (jb_cl M - C0) + (1) ≤ R.cells ∧ (jb_sl M - S0) + (x0.toNat) ≤ R.slots := by
    obtain ⟨b1, b2⟩ := CP
    obtain ⟨c1, c2⟩ := I.2.2.2.1
    have m3 := hgr.2.1
    have m4 := hgr.2.2.1
    have m5 : jb_cl (ja_grow M (1) (x0.toNat)) ≤ jb_cl r.2 := by unfold jb_cl; omega
    have m6 : jb_sl (ja_grow M (1) (x0.toNat)) ≤ jb_sl r.2 := by unfold jb_sl; omega
    omega
  have hceq : jb_cl (ja_grow M (1) (x0.toNat)) - C0 = (jb_cl M - C0) + (1) ∧ jb_sl (ja_grow M (1) (x0.toNat)) - S0 = (jb_sl M - S0) + (x0.toNat) := by
    obtain ⟨c1, c2⟩ := I.2.2.2.1
    omega
  rcases jb_or ck with ck | ck
  · obtain ⟨ckk, ck⟩ := jb_and ck
    have ckk := Nat.eq_of_beq_eq_true ckk
    obtain ⟨hd, hn⟩ := jc_d_of ck
    rw [ckk] at k1
    have hok : jb_Mok φ (ja_grow M 1 x0.toNat) := jg_ok hMok hlt (fun q => ⟨rfl, k4 q⟩) (fun c x y z => by
      have e : c = (M 0 0).toNat + 1 := by omega
      rw [e, k1] at z
      omega)
    refine va_newa (atype := .int) (ty := .int) (a0 := (x0.toNat, .inl (fun _ => 0))) hx hb (hts _ jo_arrI) rfl hK I.1.1 I.1.2.1 I.1.2.2.1 hA (fun cA => rfl) hx0.1 hx0.2 (by show x0.toNat * 4 ≤ 536870912; omega) hcap.1 hcap.2 hd (fun q cA H1 hK2 p1 p2 p3 => ?_)
    have hcA := jg_int G hK hK2 (t0 := 0) rfl (fun C hC => by cases hC)
    subst hcA
    have hws : jb_ws G φ (jb_ad ad (fun _ => q) (M 0 0).toNat 1) (ja_grow M 1 x0.toNat) = jb_ws G φ ad M ++ [(q, .inl (G.2.1.1, (x0.toNat, .inl (fun _ => 0))))] := by
      rw [jg_ws hMok]
      show _ ++ [(q, jb_e G φ _ _ ((M 0 0).toNat + 1 + 0))] = _
      rw [Nat.add_zero, jb_e0 k1, k2]
      have hz : (fun i => Int32.ofInt (ja_grow M 1 x0.toNat ((M 0 0).toNat + 1) i)) = fun _ => 0 := by
        funext i
        rw [jg_new (by omega)]
        rfl
      rw [hz]
    rw [← hws] at p1 p2
    have I' := jg_I I hlt hok k5 p1 p2 p3
    have w := hW (jb_ad ad (fun _ => q) (M 0 0).toNat 1) H1 locs ls I' (List.forall_mem_cons.mpr ⟨trivial, hS⟩)
    have ev : jb_v (jb_ad ad (fun _ => q) (M 0 0).toNat 1) (jr (ja_nx φ M)) = .ref q := by
      rw [k0]
      show Value.ref (jb_ad ad (fun _ => q) (M 0 0).toNat 1 ((M 0 0).toNat + 1 + 0)) = _
      rw [jb_ad_new (by omega)]
    rw [hn, List.map_cons, ev, jb_S_keep (jg_keep hMok hlt) S k6, hceq.1, hceq.2] at w
    exact w
  rcases jb_or ck with ck | ck
  · obtain ⟨ckk, ck⟩ := jb_and ck
    have ckk := Nat.eq_of_beq_eq_true ckk
    obtain ⟨hd, hn⟩ := jc_d_of ck
    rw [ckk] at k1
    have hok : jb_Mok φ (ja_grow M 1 x0.toNat) := jg_ok hMok hlt (fun q => ⟨rfl, k4 q⟩) (fun c x y z => by
      have e : c = (M 0 0).toNat + 1 := by omega
      rw [e, k1] at z
      omega)
    refine va_newa (atype := .boolean) (ty := .boolean) (a0 := (x0.toNat, .inl (fun _ => 0))) hx hb (hts _ jo_arrZ) rfl hK I.1.1 I.1.2.1 I.1.2.2.1 hA (fun cA => rfl) hx0.1 hx0.2 (by show x0.toNat * 1 ≤ 536870912; omega) hcap.1 hcap.2 hd (fun q cA H1 hK2 p1 p2 p3 => ?_)
    have hcA := jg_int G hK hK2 (t0 := 1) rfl (fun C hC => by cases hC)
    subst hcA
    have hws : jb_ws G φ (jb_ad ad (fun _ => q) (M 0 0).toNat 1) (ja_grow M 1 x0.toNat) = jb_ws G φ ad M ++ [(q, .inl (G.2.1.2.1, (x0.toNat, .inl (fun _ => 0))))] := by
      rw [jg_ws hMok]
      show _ ++ [(q, jb_e G φ _ _ ((M 0 0).toNat + 1 + 0))] = _
      rw [Nat.add_zero, jb_e1 k1, k2]
      have hz : (fun i => Int32.ofInt (ja_grow M 1 x0.toNat ((M 0 0).toNat + 1) i)) = fun _ => 0 := by
        funext i
        rw [jg_new (by omega)]
        rfl
      rw [hz]
    rw [← hws] at p1 p2
    have I' := jg_I I hlt hok k5 p1 p2 p3
    have w := hW (jb_ad ad (fun _ => q) (M 0 0).toNat 1) H1 locs ls I' (List.forall_mem_cons.mpr ⟨trivial, hS⟩)
    have ev : jb_v (jb_ad ad (fun _ => q) (M 0 0).toNat 1) (jr (ja_nx φ M)) = .ref q := by
      rw [k0]
      show Value.ref (jb_ad ad (fun _ => q) (M 0 0).toNat 1 ((M 0 0).toNat + 1 + 0)) = _
      rw [jb_ad_new (by omega)]
    rw [hn, List.map_cons, ev, jb_S_keep (jg_keep hMok hlt) S k6, hceq.1, hceq.2] at w
    exact w
  · obtain ⟨ckk, ck⟩ := jb_and ck
    have ckk := Nat.eq_of_beq_eq_true ckk
    obtain ⟨hd, hn⟩ := jc_d_of ck
    rw [ckk] at k1
    have hok : jb_Mok φ (ja_grow M 1 x0.toNat) := jg_ok hMok hlt (fun q => ⟨rfl, k4 q⟩) (fun c x y z => by
      have e : c = (M 0 0).toNat + 1 := by omega
      rw [e, k1] at z
      omega)
    refine va_newa (atype := .long) (ty := .long) (a0 := (x0.toNat, .inr (.inl (fun _ => 0)))) hx hb (hts _ jo_arrJ) rfl hK I.1.1 I.1.2.1 I.1.2.2.1 hA (fun cA => rfl) hx0.1 hx0.2 (by show x0.toNat * 8 ≤ 536870912; omega) hcap.1 hcap.2 hd (fun q cA H1 hK2 p1 p2 p3 => ?_)
    have hcA := jg_int G hK hK2 (t0 := 2) rfl (fun C hC => by cases hC)
    subst hcA
    have hws : jb_ws G φ (jb_ad ad (fun _ => q) (M 0 0).toNat 1) (ja_grow M 1 x0.toNat) = jb_ws G φ ad M ++ [(q, .inl (G.2.1.2.2.1, (x0.toNat, .inr (.inl (fun _ => 0)))))] := by
      rw [jg_ws hMok]
      show _ ++ [(q, jb_e G φ _ _ ((M 0 0).toNat + 1 + 0))] = _
      rw [Nat.add_zero, jb_e2 k1, k2]
      have hz : (fun i => Int64.ofInt (ja_grow M 1 x0.toNat ((M 0 0).toNat + 1) i)) = fun _ => 0 := by
        funext i
        rw [jg_new (by omega)]
        rfl
      rw [hz]
    rw [← hws] at p1 p2
    have I' := jg_I I hlt hok k5 p1 p2 p3
    have w := hW (jb_ad ad (fun _ => q) (M 0 0).toNat 1) H1 locs ls I' (List.forall_mem_cons.mpr ⟨trivial, hS⟩)
    have ev : jb_v (jb_ad ad (fun _ => q) (M 0 0).toNat 1) (jr (ja_nx φ M)) = .ref q := by
      rw [k0]
      show Value.ref (jb_ad ad (fun _ => q) (M 0 0).toNat 1 ((M 0 0).toNat + 1 + 0)) = _
      rw [jb_ad_new (by omega)]
    rw [hn, List.map_cons, ev, jb_S_keep (jg_keep hMok hlt) S k6, hceq.1, hceq.2] at w
    exact w

theorem jg_rows {c k : Nat} : ∀ n, ja_rowsok c k n = true → ∀ j, j < n → (ja_kd (c + 1 + j)).1 = 100 ∧ (ja_kd (c + 1 + j)).2 = k
  | 0, _, j, hj => by omega
  | n + 1, h, j, hj => by
    obtain ⟨h1, h⟩ := jb_and h
    obtain ⟨h2, h⟩ := jb_and h
    have h1 := Nat.eq_of_beq_eq_true h1
    have h2 := Nat.eq_of_beq_eq_true h2
    by_cases e : j = n
    · subst e
      rw [show c + 1 + j = c + j + 1 by omega]
      exact ⟨h1, h2⟩
    · exact jg_rows n h j (by omega)
set_option maxHeartbeats 4000000 in
theorem jw_newm : jb_SH2 jh_newm jc_newm := by
  intro p l e R s m args below meth c Q G φ z d C0 S0 ad0 lim0 E a i L S M κ r F EO CP ck h hκ hR hlim ad H locs ls I hS
  obtain ⟨⟨hx, hb, hml, hown, hts⟩, ⟨hK, hA⟩, ⟨hfr, hlo⟩, hin, hao⟩ := F
  rcases S with _ | ⟨x0 | x0 | x0, _ | ⟨x1 | x1 | x1, S⟩⟩ <;> first | (cases h; done) | skip
  obtain ⟨o0, hS1⟩ := List.forall_mem_cons.mp hS
  replace hS := (List.forall_mem_cons.mp hS1).2
  clear hS1
  obtain ⟨ck, cs⟩ := jb_and ck
  obtain ⟨hd, hn⟩ := jc_d_of ck
  obtain ⟨q, hq, hq2⟩ := List.any_eq_true.mp cs
  obtain ⟨q1, q2⟩ := jb_and hq2
  have hlk := jm_in (jc2_ok q hq) rfl
  rw [Nat.eq_of_beq_eq_true q1, Nat.eq_of_beq_eq_true q2] at hlk
  obtain ⟨hc0, hk9⟩ := jb_cond h
  obtain ⟨hφ, hc0⟩ := jb_and hc0
  have hφ : φ = false := by cases φ <;> first | rfl | cases hφ
  subst hφ
  obtain ⟨h1, hc0⟩ := jb_and hc0
  have h1 := of_decide_eq_true h1
  obtain ⟨h0, hc0⟩ := jb_and hc0
  have h0 := of_decide_eq_true h0
  obtain ⟨h5, hc0⟩ := jb_and hc0
  have h5 := of_decide_eq_true h5
  obtain ⟨hc0, hrow⟩ := jb_and hc0
  obtain ⟨-, k1, k2, k3, -, k5, k6⟩ := jg_new1 hc0
  have hrow := jg_rows _ hrow
  have hlt1 := jg_lt I.2.2.1 k1 (Or.inr ⟨by decide, by decide⟩)
  have hlt : (M 0 0).toNat + (1 + x1.toNat) < 173 := by
    have := jk_103 _ hlt1 k1
    rw [k2] at this
    omega
  have hcl : ∀ x : Int, 0 ≤ x → x ≤ 5000 → ¬ Int32.ofInt x < 0 ∧ (Int32.ofInt x).toNatClampNeg = x.toNat := by
    intro x h0 h1
    obtain ⟨k, rfl⟩ : ∃ k : Nat, x = (k : Int) := ⟨x.toNat, by omega⟩
    rw [jn_nat, Int.toNat_natCast]
    exact ⟨nI_pos (by omega), nI_clamp (by omega)⟩
  obtain ⟨n0, m0⟩ := hcl x0 h0 (by omega)
  obtain ⟨n1, m1⟩ := hcl x1 h1 (by omega)
  have hMok := I.2.2.1
  obtain ⟨hgr, hW⟩ := hκ _ _ _ _ hk9
  obtain ⟨ec, es⟩ := jg_cl (M := M) (n := 1 + x1.toNat) (w := x1.toNat + x1.toNat * x0.toNat) hMok.2.2.2.1.1 hMok.2.2.2.1.2
  have hcap : (jb_cl M - C0) + (1 + x1.toNat) ≤ R.cells ∧ (jb_sl M - S0) + (x1.toNat + x1.toNat * x0.toNat) ≤ R.slots := by
    obtain ⟨b1, b2⟩ := CP
    obtain ⟨c1, c2⟩ := I.2.2.2.1
    have m3 := hgr.2.1
    have m4 := hgr.2.2.1
    have m5 : jb_cl (ja_grow M (1 + x1.toNat) (x1.toNat + x1.toNat * x0.toNat)) ≤ jb_cl r.2 := by unfold jb_cl; omega
    have m6 : jb_sl (ja_grow M (1 + x1.toNat) (x1.toNat + x1.toNat * x0.toNat)) ≤ jb_sl r.2 := by unfold jb_sl; omega
    omega
  have hceq : jb_cl (ja_grow M (1 + x1.toNat) (x1.toNat + x1.toNat * x0.toNat)) - C0 = (jb_cl M - C0) + (1 + x1.toNat) ∧ jb_sl (ja_grow M (1 + x1.toNat) (x1.toNat + x1.toNat * x0.toNat)) - S0 = (jb_sl M - S0) + (x1.toNat + x1.toNat * x0.toNat) := by
    obtain ⟨c1, c2⟩ := I.2.2.2.1
    omega
  have hok : jb_Mok false (ja_grow M (1 + x1.toNat) (x1.toNat + x1.toNat * x0.toNat)) := jg_ok hMok hlt (fun q => by cases q) (fun c x y z => by
    by_cases e : c = (M 0 0).toNat + 1
    · rw [e, k2]
      omega
    · have := (hrow (c - ((M 0 0).toNat + 1) - 1) (by omega)).1
      rw [show (M 0 0).toNat + 1 + 1 + (c - ((M 0 0).toNat + 1) - 1) = c by omega] at this
      omega)
  have hcy : s.vm.findClass (FieldType.array .int).toString = some G.2.1.1 := (hK.2 0 (G.2.1.1, .int) rfl).2
  have hPX : va_P G.1 jm_cl (jb_ws G false ad M ++ va_pl [] (fun _ => .inr (0, []))) H := by
    rw [show va_pl [] (fun _ => (.inr (0, []) : va_E)) = [] from rfl, List.append_nil]
    exact I.1.1
  have hDX : va_D (jb_A G) (jb_ws G false ad M ++ va_pl [] (fun _ => .inr (0, []))) := by
    rw [show va_pl [] (fun _ => (.inr (0, []) : va_E)) = [] from rfl, List.append_nil]
    exact I.1.2.1
  have hslots : jb_sl M - S0 + (x1.toNat + x1.toNat * x0.toNat) ≤ R.slots := hcap.2
  have hx5 : x1.toNat ≤ 5000 := k3
  refine va_mna (z := (x0.toNat, .inl (fun _ => 0))) hx hb hown (hts _ hlk) hao.1 (hts _ jo_arrI) hcy hK hPX hDX I.1.2.2.1 hA n1 n0 m1 m0 (by omega) (by show x0.toNat * 4 ≤ 536870912; omega) (by omega) rfl rfl hcap.1 hslots (fun c => arrV_new c x0.toNat (.int 0)) hd (fun q rr cA H1 hinj hno hK2 p1 p2 p3 => ?_)
  have hcA := jg_int G hK hK2 (t0 := 3) rfl (fun C hC => by cases hC)
  subst hcA
  have hws : jb_ws G false (jb_ad ad (fun j => if j = 0 then q else rr (j - 1)) (M 0 0).toNat (1 + x1.toNat)) (ja_grow M (1 + x1.toNat) (x1.toNat + x1.toNat * x0.toNat)) = (jb_ws G false ad M ++ [(q, .inl (G.2.1.2.2.2, x1.toNat, .inr (.inr (.inr (.inr (fun i => if i < x1.toNat then some (rr i) else none))))))]) ++ va_pl ([] ++ (List.range x1.toNat).map rr) (vr_up (fun _ => .inr (0, [])) ((List.range x1.toNat).map rr) (.inl (G.2.1.1, x0.toNat, .inl (fun _ => 0)))) := by
    rw [jg_ws hMok, List.append_assoc]
    congr 1
    rw [Nat.add_comm 1 x1.toNat, List.range_succ_eq_map, List.map_cons, List.map_map]
    show (q, _) :: _ = (q, _) :: _
    congr 1
    · rw [Nat.add_zero, jb_e3 k1, k2]
      have : (fun i => if i < x1.toNat then some (jb_ad ad (fun j => if j = 0 then q else rr (j - 1)) (M 0 0).toNat (x1.toNat + 1) ((M 0 0).toNat + 1 + 1 + i)) else none) = fun i => if i < x1.toNat then some (rr i) else none := by
        funext i
        by_cases hi : i < x1.toNat
        · rw [if_pos hi, if_pos hi, show (M 0 0).toNat + 1 + 1 + i = (M 0 0).toNat + 1 + (i + 1) by omega, jb_ad_new (by omega), if_neg (by omega)]
          rfl
        · rw [if_neg hi, if_neg hi]
      rw [this]
    · unfold va_pl
      rw [List.nil_append, List.map_map]
      apply List.map_congr_left
      intro j hj
      have hj := List.mem_range.mp hj
      show ((if j + 1 = 0 then q else rr (j + 1 - 1)), jb_e G false _ _ ((M 0 0).toNat + 1 + (j + 1))) = (rr j, vr_up _ _ _ (rr j))
      rw [if_neg (by omega), vr_up_in (List.mem_map.mpr ⟨j, List.mem_range.mpr hj, rfl⟩), show (M 0 0).toNat + 1 + (j + 1) = (M 0 0).toNat + 1 + 1 + j by omega, jb_e0 (hrow j hj).1, (hrow j hj).2]
      have hz : (fun i => Int32.ofInt (ja_grow M (x1.toNat + 1) (x1.toNat + x1.toNat * x0.toNat) ((M 0 0).toNat + 1 + 1 + j) i)) = fun _ => 0 := by
        funext i
        rw [jg_new (by omega)]
        rfl
      rw [hz]
      rfl
  rw [← hws] at p1 p2
  have I' := jg_I I hlt hok k5 p1 p2 p3
  have w := hW _ H1 locs ls I' (List.forall_mem_cons.mpr ⟨trivial, hS⟩)
  have ev : jb_v (jb_ad ad (fun j => if j = 0 then q else rr (j - 1)) (M 0 0).toNat (1 + x1.toNat)) (jr ((M 0 0).toNat + 1)) = .ref q := by
    show Value.ref (jb_ad ad (fun j => if j = 0 then q else rr (j - 1)) (M 0 0).toNat (1 + x1.toNat) ((M 0 0).toNat + 1 + 0)) = _
    rw [jb_ad_new (by omega)]
    rfl
  rw [hn, List.map_cons, ev, jb_S_keep (jg_keep hMok hlt) S k6, hceq.1, hceq.2, ← Nat.add_assoc, ← Nat.add_assoc] at w
  exact w
