/-! fields and arrays -/
theorem jk_N : ∀ c, c < 173 → 1 ≤ c → (ja_kd c).1 < 13 → (ja_kd c).2 = jm_N (ja_kd c).1 := by decide +kernel
theorem jk_len : ∀ c, c < 173 → (ja_kd c).2 ≤ 5000 := by decide +kernel
theorem jk_110 : ∀ c, c < 176 → (ja_kd c).1 = 110 → c = ja_RO ∨ c = ja_RO + 1 := by decide +kernel
theorem jk_111 : ∀ c, c < 176 → (ja_kd c).1 = 111 → c = ja_RO + 2 := by decide +kernel
theorem jk_out : ∀ c, 176 ≤ c → ja_kd c = (0, 0) := fun c h => ja_nth_out ja_kdL c (0, 0) h
theorem jk_103 : ∀ c, c < 173 → (ja_kd c).1 = 103 → c + (ja_kd c).2 < 173 := by decide +kernel
theorem jk_cl : ∀ k, k < 13 → jm_cl[k]? = some (jm_cn k, jm_T k, jm_N k) := by
  intro k hk
  rcases k with _ | _ | _ | _ | _ | _ | _ | _ | _ | _ | _ | _ | _ | k <;> first | rfl | omega
theorem jk_in : ∀ k, k < 13 → ∀ w ∈ u_ws (jm_cn k) (jm_T k) (jm_N k), w ∈ jm_W := by
  intro k hk
  rcases k with _ | _ | _ | _ | _ | _ | _ | _ | _ | _ | _ | _ | _ | k
  · exact jw_in0
  · exact jw_in1
  · exact jw_in2
  · exact jw_in3
  · exact jw_in4
  · exact jw_in5
  · exact jw_in6
  · exact jw_in7
  · exact jw_in8
  · exact jw_in9
  · exact jw_in10
  · exact jw_in11
  · exact jw_in12
  · omega
theorem jk_ty : ∀ k, k < 13 → ∀ n, n < jm_N k → parseFieldDescriptor (jm_T k n).2.2.1 = some (jm_ty k n) := by
  intro k hk
  rcases k with _ | _ | _ | _ | _ | _ | _ | _ | _ | _ | _ | _ | _ | k
  · exact tyX0_ok
  · exact tyX1_ok
  · exact tyX2_ok
  · exact tyX3_ok
  · exact tyX4_ok
  · exact tyX5_ok
  · exact tyX6_ok
  · exact tyX7_ok
  · exact tyX8_ok
  · exact tyX9_ok
  · exact tyX10_ok
  · exact tyX11_ok
  · exact tyX12_ok
  · omega
theorem jk_nm : ∀ k, k < 13 → ∀ a, a < jm_N k → ∀ b, b < jm_N k → a ≠ b → (jm_T k a).2.1 ≠ (jm_T k b).2.1 := by
  intro k hk
  rcases k with _ | _ | _ | _ | _ | _ | _ | _ | _ | _ | _ | _ | _ | k
  · exact nmX0
  · exact nmX1
  · exact nmX2
  · exact nmX3
  · exact nmX4
  · exact nmX5
  · exact nmX6
  · exact nmX7
  · exact nmX8
  · exact nmX9
  · exact nmX10
  · exact nmX11
  · exact nmX12
  · omega
/-- the types of fields, by their numbers -/
def jk_isT (t : Nat) (ty : FieldType) : Bool := match t, ty with
  | 0, .int => true
  | 1, .boolean => true
  | 2, .long => true
  | 3, .object _ => true
  | 3, .array _ => true
  | _, _ => false
theorem jk_ft : ∀ k, k < 13 → ∀ n, n < jm_N k → jk_isT (ja_ft k n) (jm_ty k n) = true ∧ ja_ft k n < 4 ∧ (jm_T k n).1 = jm_cn k := by decide +kernel
theorem jb_okc {φ : Bool} {M : ja_M} {c : Nat} (h : ja_okc φ M c = true) (hM : jb_Mok φ M) : 1 ≤ c ∧ c ≤ (M 0 0).toNat ∧ c < 173 := by
  have h0 := hM.2.1
  have h1 := hM.2.2.1
  unfold ja_okc at h
  cases φ with
  | false =>
    simp only [Bool.false_and, cond_false] at h
    obtain ⟨a, b⟩ := jb_and h
    have a := Nat.le_of_ble_eq_true a
    have b := Nat.le_of_ble_eq_true b
    simp only [ja_N0] at h0
    omega
  | true =>
    have h1 := h1 rfl
    simp only [ja_N0] at h0 h1
    simp only [Bool.true_and] at h
    by_cases hc : (Nat.ble 1 c && Nat.ble c ja_N0) = true
    · obtain ⟨a, b⟩ := jb_and hc
      have a := Nat.le_of_ble_eq_true a
      have b := Nat.le_of_ble_eq_true b
      simp only [ja_N0] at b
      omega
    · rw [Bool.not_eq_true] at hc
      rw [hc] at h
      obtain ⟨a, b⟩ := jb_and (show (Nat.ble 1 c && Nat.ble c (M 0 0).toNat) = true from h)
      have a := Nat.le_of_ble_eq_true a
      have b := Nat.le_of_ble_eq_true b
      omega
theorem jb_eO {G : jb_G} {φ : Bool} {ad : Nat → Nat} {M : ja_M} {c k : Nat} (h : (ja_kd c).1 = k) (hk : k < 13) : jb_e G φ ad M c = .inr (k, jb_fs φ ad M c) := by
  unfold jb_e
  rw [h, if_neg (by omega), if_neg (by omega), if_neg (by omega), if_neg (by omega)]
theorem jb_e0 {G : jb_G} {φ : Bool} {ad : Nat → Nat} {M : ja_M} {c : Nat} (h : (ja_kd c).1 = 100) : jb_e G φ ad M c = .inl (G.2.1.1, (ja_kd c).2, .inl (fun i => Int32.ofInt (M c i))) := by
  unfold jb_e
  rw [if_pos h]
theorem jb_e1 {G : jb_G} {φ : Bool} {ad : Nat → Nat} {M : ja_M} {c : Nat} (h : (ja_kd c).1 = 101) : jb_e G φ ad M c = .inl (G.2.1.2.1, (ja_kd c).2, .inl (fun i => Int32.ofInt (M c i))) := by
  unfold jb_e
  rw [if_neg (by omega), if_pos h]
theorem jb_e2 {G : jb_G} {φ : Bool} {ad : Nat → Nat} {M : ja_M} {c : Nat} (h : (ja_kd c).1 = 102) : jb_e G φ ad M c = .inl (G.2.1.2.2.1, (ja_kd c).2, .inr (.inl (fun i => Int64.ofInt (M c i)))) := by
  unfold jb_e
  rw [if_neg (by omega), if_neg (by omega), if_pos h]
theorem jb_e3 {G : jb_G} {φ : Bool} {ad : Nat → Nat} {M : ja_M} {c : Nat} (h : (ja_kd c).1 = 103) : jb_e G φ ad M c = .inl (G.2.1.2.2.2, (ja_kd c).2, .inr (.inr (.inr (.inr (fun i => if i < (ja_kd c).2 then some (ad (c + 1 + i)) else none))))) := by
  unfold jb_e
  rw [if_neg (by omega), if_neg (by omega), if_neg (by omega), if_pos h]
theorem jb_fs_get {φ : Bool} {ad : Nat → Nat} {M : ja_M} {c n : Nat} (h : n < (ja_kd c).2) : (jb_fs φ ad M c)[n]? = some (jb_f φ ad M c n (ja_ft (ja_kd c).1 n)) := by
  unfold jb_fs
  rw [List.getElem?_map, List.getElem?_range h]
  rfl
theorem jb_fs_len {φ : Bool} {ad : Nat → Nat} {M : ja_M} {c : Nat} : (jb_fs φ ad M c).length = (ja_kd c).2 := by simp [jb_fs]
theorem jb_f_same {φ : Bool} {ad : Nat → Nat} {M M' : ja_M} {c n t : Nat} (h : M' c n = M c n) : jb_f φ ad M' c n t = jb_f φ ad M c n t := by
  unfold jb_f ja_rd
  rw [h]
theorem jb_fs_up {φ : Bool} {ad : Nat → Nat} {M : ja_M} {c n : Nat} {v : Int} {w : Value} (hw : jb_f φ ad (ja_up M c n v) c n (ja_ft (ja_kd c).1 n) = w) : jb_fs φ ad (ja_up M c n v) c = (jb_fs φ ad M c).set n w := by
  apply List.ext_getElem?
  intro k
  rw [List.getElem?_set, jb_fs_len]
  by_cases hl : k < (ja_kd c).2
  · rw [jb_fs_get hl]
    by_cases hk : n = k
    · subst hk
      rw [if_pos rfl, if_pos hl, hw]
    · rw [if_neg hk, jb_fs_get hl, jb_f_same (jb_up_nej (fun q => hk q.symm))]
  · have e1 : (jb_fs φ ad (ja_up M c n v) c)[k]? = none := List.getElem?_eq_none (by rw [jb_fs_len]; omega)
    have e2 : (jb_fs φ ad M c)[k]? = none := List.getElem?_eq_none (by rw [jb_fs_len]; omega)
    rw [e1, e2]
    by_cases hk : n = k
    · rw [if_pos hk, if_neg (by omega)]
    · rw [if_neg hk]
theorem jb_gr_up {M : ja_M} {c n : Nat} {v : Int} (h1 : 1 ≤ c) (h2 : c < 173) : jb_gr M (ja_up M c n v) := by
  refine ⟨?_, ?_, ?_, ?_, fun j => ?_⟩
  · rw [jb_up_ne (by omega)]; exact Int.le_refl _
  · rw [jb_up_ne (by omega)]; exact Int.le_refl _
  · rw [jb_up_ne (by omega)]; exact Int.le_refl _
  · rw [jb_up_ne (by omega)]
  · rw [jb_up_ne (by simp only [ja_RO]; omega)]
theorem jk_pp0 : ∀ c, c < 173 → (ja_kd c).1 < 13 → ∀ i, i < 58 → ja_ft (ja_kd c).1 i < 3 → ja_pp c i = 0 := by decide +kernel
theorem jk_ppA : ∀ c, c < 173 → 100 ≤ (ja_kd c).1 → ja_nth ja_ppL c [] = [] := by decide +kernel
theorem jb_ppA {c i : Nat} (h : c < 173) (hk : 100 ≤ (ja_kd c).1) : ja_pp c i = 0 := by
  unfold ja_pp
  rw [jk_ppA c h hk]
  rfl
theorem jb_refM_up {φ : Bool} {M : ja_M} {c n : Nat} {v : Int} (h : jb_refM φ M) (h1 : 1 ≤ c) (hp : ja_pp c n ≤ (M 0 0).toNat) : jb_refM φ (ja_up M c n v) := by
  have e0 : (ja_up M c n v) 0 0 = M 0 0 := jb_up_ne (by omega)
  intro d d1 d2
  rw [e0] at d2 ⊢
  obtain ⟨g1, g2⟩ := h d d1 d2
  refine ⟨fun i => ?_, g2⟩
  by_cases e : d = c ∧ i = n
  · obtain ⟨rfl, rfl⟩ := e
    unfold ja_rd
    cases φ && !(ja_mut d i)
    · show (if _ then 0 else ja_pp d i) ≤ _
      split
      · exact Nat.zero_le _
      · exact hp
    · exact hp
  · have : ja_rd φ (ja_up M c n v) d i = ja_rd φ M d i := by
      unfold ja_rd
      rw [show ja_up M c n v d i = M d i from if_neg e]
    rw [this]
    exact g1 i
theorem jb_Mok_up {φ : Bool} {M : ja_M} {c n : Nat} {v : Int} (h : jb_Mok φ M) (h1 : 1 ≤ c) (hv : jb_num c n v) (hp : ja_pp c n ≤ (M 0 0).toNat) : jb_Mok φ (ja_up M c n v) := by
  obtain ⟨m1, m2, m3, m4, m5, m6⟩ := h
  refine ⟨fun d j hd => ?_, ?_, ?_, ?_, ?_, jb_refM_up m6 h1 hp⟩
  · by_cases e : d = c ∧ j = n
    · obtain ⟨rfl, rfl⟩ := e
      rw [jb_up_eq]
      exact hv
    · have : ja_up M c n v d j = M d j := if_neg e
      rw [this]
      exact m1 d j hd
  · rw [jb_up_ne (by omega)]; exact m2
  · rw [jb_up_ne (by omega)]; exact m3
  · rw [jb_up_ne (by omega), jb_up_ne (by omega)]; exact m4
  · rw [jb_up_ne (by omega)]; exact m5
/-- one place of one cell written -/
theorem jb_I_up {G : jb_G} {φ : Bool} {s : State} {nL C0 S0 : Nat} {ad0 : Nat → Nat} {lim0 : Nat} {ad : Nat → Nat} {M : ja_M} {H H1 : Heap} {locs locs1 : List Loc} {L : ja_L} {ls : Array Slot} {c n : Nat} {v : Int} {e : va_E} (I : jb_I G φ s nL C0 S0 ad0 lim0 ad M H locs L ls) (h1 : 1 ≤ c) (h2 : c ≤ (M 0 0).toNat) (h3 : c < 173) (hv : jb_num c n v) (hp : ja_pp c n ≤ (M 0 0).toNat) (he : jb_e G φ ad (ja_up M c n v) c = e)
    (p1 : va_P G.1 jm_cl ((jb_ws G φ ad M).set (c - 1) (ad c, e)) H1) (p2 : va_D (jb_A G) ((jb_ws G φ ad M).set (c - 1) (ad c, e))) (p3 : va_S (jb_A G) s.heap H1 locs1) : jb_I G φ s nL C0 S0 ad0 lim0 ad (ja_up M c n v) H1 locs1 L ls := by
  have e0 : (ja_up M c n v) 0 0 = M 0 0 := jb_up_ne (by omega)
  have e1 : (ja_up M c n v) 0 1 = M 0 1 := jb_up_ne (by omega)
  have e2 : (ja_up M c n v) 0 2 = M 0 2 := jb_up_ne (by omega)
  have hw := jb_set (G := G) (φ := φ) (ad := ad) (M := M) (M' := ja_up M c n v) h1 h2 (by rw [e0]) (fun d i hd _ => jb_up_ne hd) he
  rw [hw] at p1 p2
  obtain ⟨⟨-, -, -, ro⟩, I2, I3, I4, I5, I6⟩ := I
  exact ⟨⟨p1, p2, p3, ro.to (jb_gr_up h1 h3) (fun _ _ => rfl)⟩, I2, jb_Mok_up I3 h1 hv hp, by unfold jb_cl jb_sl; rw [e1, e2]; exact I4, I5, by rw [e0]; exact I6⟩
theorem jb_cl_up {M : ja_M} {c n : Nat} {v : Int} (h1 : 1 ≤ c) : jb_cl (ja_up M c n v) = jb_cl M ∧ jb_sl (ja_up M c n v) = jb_sl M := by
  unfold jb_cl jb_sl
  rw [jb_up_ne (by omega), jb_up_ne (by omega)]
  exact ⟨rfl, rfl⟩
theorem jb_fld {z : Nat} {a : ja_I} (h : jc_fld z a = true) : a.2.1 < 13 ∧ a.2.2.1 < jm_N a.2.1 ∧ Cond.fieldLink (jm_cn (jm_own z)) a.2.2.2.1.toNat (jm_T a.2.1 a.2.2.1).1 (jm_T a.2.1 a.2.2.1).2.1 (jm_T a.2.1 a.2.2.1).2.2.1 ∈ jm_W := by
  obtain ⟨h1, h⟩ := jb_and h
  obtain ⟨h2, h⟩ := jb_and h
  obtain ⟨q, hq, hq2⟩ := List.any_eq_true.mp h
  obtain ⟨q1, hq2⟩ := jb_and hq2
  obtain ⟨q2, hq2⟩ := jb_and hq2
  obtain ⟨q3, q4⟩ := jb_and hq2
  have hc := jm_in (jf_ok q hq) rfl
  rw [Nat.eq_of_beq_eq_true q1, Nat.eq_of_beq_eq_true q2, Nat.eq_of_beq_eq_true q3, Nat.eq_of_beq_eq_true q4] at hc
  exact ⟨Nat.blt_eq.mp h1, Nat.blt_eq.mp h2, hc⟩
theorem jb_numI {c i : Nat} {x : Int} (h : jb_num c i x) (hl : jb_lng c i = false) : jb_ok (ji x) := by
  unfold jb_num at h
  rw [hl] at h
  exact h
theorem jb_numL {c i : Nat} {x : Int} (h : jb_num c i x) (hl : jb_lng c i = true) : jb_ok (jl x) := by
  unfold jb_num at h
  rw [hl] at h
  exact h
theorem jb_numI' {c i : Nat} {x : Int} (h : jb_ok (ji x)) (hl : jb_lng c i = false) : jb_num c i x := by
  unfold jb_num
  rw [hl]
  exact h
theorem jb_numL' {c i : Nat} {x : Int} (h : jb_ok (jl x)) (hl : jb_lng c i = true) : jb_num c i x := by
  unfold jb_num
  rw [hl]
  exact h
theorem jb_lngO {c n k : Nat} (h : (ja_kd c).1 = k) (hk : k < 13) : jb_lng c n = Nat.beq (ja_ft k n) 2 := by
  unfold jb_lng
  rw [h]
  have e1 : Nat.beq k 102 = false := by
    cases hb : Nat.beq k 102 with
    | false => rfl
    | true => have := Nat.eq_of_beq_eq_true hb; omega
  have e2 : Nat.blt k 13 = true := Nat.blt_eq.mpr hk
  rw [e1, e2]
  rfl
theorem jb_beq_ne {a b : Nat} (h : a ≠ b) : Nat.beq a b = false := by
  cases hb : Nat.beq a b with
  | false => rfl
  | true => exact absurd (Nat.eq_of_beq_eq_true hb) h
theorem jb_beq_rf (a : Nat) : Nat.beq a a = true := Nat.beq_refl a
theorem jb_lngA {c n k : Nat} (h : (ja_kd c).1 = k) (hk : k = 100 ∨ k = 101 ∨ k = 103) : jb_lng c n = false := by
  unfold jb_lng
  rw [h]
  rcases hk with rfl | rfl | rfl <;> rfl
theorem jb_lng2 {c n : Nat} (h : (ja_kd c).1 = 102) : jb_lng c n = true := by
  unfold jb_lng
  rw [h]
  rfl
theorem jb_isB {v : Int} (h : ja_isB v = true) : v = 0 ∨ v = 1 := by
  rcases v with n | n
  · rcases n with _ | _ | n
    · exact Or.inl rfl
    · exact Or.inr rfl
    · cases h
  · cases h
section VALD
variable {p : Program} {l : Launch} {e : Env} {R : Room} {s : State} {m : MethodId} {args : Array Value} {below : List Frame} {meth : Method} {c : Code} {H : Heap} {locs : List Loc} {cells slots : Nat} {Q : State → Prop}
variable {cc : ByteArray} {pc : Nat} {ls : Array Slot} {rest : List Value} {D : va_G} {cl : List vw_C} {A : Nat → Prop} {a : Nat} {tys : List (ClassId × FieldType)} {ws : va_W}
theorem va_alda (hexec : p.tables.exec = Jvm.exec) (hb : c.code = cc) (hK : va_K D cl tys s) (hP : va_P D cl ws H) (q0 t0 : Nat) {cA : ClassId} {ty : FieldType} {n : Nat} {f : Nat → Option Nat} (ha : ws[q0]? = some (a, .inl (cA, n, .inr (.inr (.inr (.inr f)))))) (ht : tys[t0]? = some (cA, .array ty)) {i : Int32} (hin : vp_in i n) (hdg : decode cc pc = .ok (.aaload, 1))
    (kk : W p l e R s m args below meth c H locs cells slots Q (F0 m (pc + 1) ls (va_rf (f i.toNatClampNeg) :: rest))) : W p l e R s m args below meth c H locs cells slots Q (F0 m pc ls (.int i :: .ref a :: rest)) := by
  have hlt : i.toNatClampNeg < n := Nat.not_le.mp fun q => hin (Or.inr q)
  exact W.aald (v := va_rf (f i.toNatClampNeg)) (ty := .array ty) hexec hb (hP q0 _ ha) ((hK.2 t0 _ ht).1 n (fun j => va_rf (f j))) rfl (fun q => by cases q) (by show ¬ (i < 0 ∨ (arrV _ _ _).slots.size ≤ _); rw [arrV_size]; exact hin) (by show (arrV _ _ _).slots[_]? = _; rw [arrV_read _ _ hlt]) rfl rfl hdg kk
end VALD

set_option maxHeartbeats 4000000 in
theorem jw_getI : jb_SH jh_getI jc_getI := by
  intro p l e R s m args below meth c Q G φ z d C0 S0 ad0 lim0 E a i L S M κ r F EO CP ck h hκ hR ad H locs ls I hS
  obtain ⟨⟨hx, hb, hml, hown, hts⟩, ⟨hK, hA⟩, ⟨hfr, hlo⟩, hin, hao⟩ := F
  rcases S with _ | ⟨x0 | x0 | x0, S⟩ <;> first | (cases h; done) | skip
  obtain ⟨ck, cf⟩ := jb_and ck
  obtain ⟨cf, ct⟩ := jb_and cf
  obtain ⟨hd, hn⟩ := jc_d_of ck
  replace hS := (List.forall_mem_cons.mp hS).2
  obtain ⟨hc0, h⟩ := jb_cond h
  obtain ⟨hokc, hkd⟩ := jb_and hc0
  have hkd := Nat.eq_of_beq_eq_true hkd
  obtain ⟨h1, h2, h3⟩ := jb_okc hokc I.2.2.1
  obtain ⟨k, rfl⟩ : ∃ k, x0 = k + 1 := ⟨x0 - 1, by omega⟩
  obtain ⟨f13, fN, flk⟩ := jb_fld cf
  obtain ⟨fT, fT4, fC⟩ := jk_ft _ f13 _ fN
  have hlenN : (ja_kd (k + 1)).2 = jm_N a.2.1 := by rw [jk_N _ h3 h1 (by omega), hkd]
  have hat := jb_at (G := G) (φ := φ) (ad := ad) (M := M) h1 h2
  rw [jb_eO hkd f13] at hat
  have hfg : (jb_fs φ ad M (k + 1))[a.2.2.1]? = some (jb_f φ ad M (k + 1) a.2.2.1 (ja_ft a.2.1 a.2.2.1)) := by rw [jb_fs_get (by omega), hkd]
  have ct := Nat.blt_eq.mp ct
  have ov : jb_ok (ji (M (k + 1) a.2.2.1)) := jb_numI (I.2.2.1.1 _ _ h1) (by rw [jb_lngO hkd f13]; exact jb_beq_ne (by omega))
  have w := (hκ _ _ _ _ h).2 ad H locs ls I (List.forall_mem_cons.mpr ⟨ov, hS⟩)
  rw [hn] at w
  refine va_get (C := jm_cn a.2.1) (T := jm_T a.2.1) (N := jm_N a.2.1) hx hb hts (jk_in _ f13) hown hK I.1.1 k hat (jk_cl _ f13) a.2.2.1 fN (hts _ flk) (fun _ q => q) hfg hd ?_
  have e : jb_f φ ad M (k + 1) a.2.2.1 (ja_ft a.2.1 a.2.2.1) = jb_v ad (ji (M (k + 1) a.2.2.1)) := by
    rcases Nat.lt_or_ge (ja_ft a.2.1 a.2.2.1) 1 with q | q
    · rw [show ja_ft a.2.1 a.2.2.1 = 0 by omega]; rfl
    · rw [show ja_ft a.2.1 a.2.2.1 = 1 by omega]; rfl
  rw [e]
  exact w

set_option maxHeartbeats 4000000 in
theorem jw_getL : jb_SH jh_getL jc_getL := by
  intro p l e R s m args below meth c Q G φ z d C0 S0 ad0 lim0 E a i L S M κ r F EO CP ck h hκ hR ad H locs ls I hS
  obtain ⟨⟨hx, hb, hml, hown, hts⟩, ⟨hK, hA⟩, ⟨hfr, hlo⟩, hin, hao⟩ := F
  rcases S with _ | ⟨x0 | x0 | x0, S⟩ <;> first | (cases h; done) | skip
  obtain ⟨ck, cf⟩ := jb_and ck
  obtain ⟨cf, ct⟩ := jb_and cf
  obtain ⟨hd, hn⟩ := jc_d_of ck
  replace hS := (List.forall_mem_cons.mp hS).2
  obtain ⟨hc0, h⟩ := jb_cond h
  obtain ⟨hokc, hkd⟩ := jb_and hc0
  have hkd := Nat.eq_of_beq_eq_true hkd
  obtain ⟨h1, h2, h3⟩ := jb_okc hokc I.2.2.1
  obtain ⟨k, rfl⟩ : ∃ k, x0 = k + 1 := ⟨x0 - 1, by omega⟩
  obtain ⟨f13, fN, flk⟩ := jb_fld cf
  obtain ⟨fT, fT4, fC⟩ := jk_ft _ f13 _ fN
  have hlenN : (ja_kd (k + 1)).2 = jm_N a.2.1 := by rw [jk_N _ h3 h1 (by omega), hkd]
  have hat := jb_at (G := G) (φ := φ) (ad := ad) (M := M) h1 h2
  rw [jb_eO hkd f13] at hat
  have hfg : (jb_fs φ ad M (k + 1))[a.2.2.1]? = some (jb_f φ ad M (k + 1) a.2.2.1 (ja_ft a.2.1 a.2.2.1)) := by rw [jb_fs_get (by omega), hkd]
  have ct := Nat.eq_of_beq_eq_true ct
  have ov : jb_ok (jl (M (k + 1) a.2.2.1)) := jb_numL (I.2.2.1.1 _ _ h1) (by rw [jb_lngO hkd f13, ct]; rfl)
  have w := (hκ _ _ _ _ h).2 ad H locs ls I (List.forall_mem_cons.mpr ⟨ov, hS⟩)
  rw [hn] at w
  refine va_get (C := jm_cn a.2.1) (T := jm_T a.2.1) (N := jm_N a.2.1) hx hb hts (jk_in _ f13) hown hK I.1.1 k hat (jk_cl _ f13) a.2.2.1 fN (hts _ flk) (fun _ q => q) hfg hd ?_
  rw [ct]
  exact w

set_option maxHeartbeats 4000000 in
theorem jw_getR : jb_SH jh_getR jc_getR := by
  intro p l e R s m args below meth c Q G φ z d C0 S0 ad0 lim0 E a i L S M κ r F EO CP ck h hκ hR ad H locs ls I hS
  obtain ⟨⟨hx, hb, hml, hown, hts⟩, ⟨hK, hA⟩, ⟨hfr, hlo⟩, hin, hao⟩ := F
  rcases S with _ | ⟨x0 | x0 | x0, S⟩ <;> first | (cases h; done) | skip
  obtain ⟨ck, cf⟩ := jb_and ck
  obtain ⟨cf, ct⟩ := jb_and cf
  obtain ⟨hd, hn⟩ := jc_d_of ck
  replace hS := (List.forall_mem_cons.mp hS).2
  obtain ⟨hc0, h⟩ := jb_cond h
  obtain ⟨hokc, hkd⟩ := jb_and hc0
  have hkd := Nat.eq_of_beq_eq_true hkd
  obtain ⟨h1, h2, h3⟩ := jb_okc hokc I.2.2.1
  obtain ⟨k, rfl⟩ : ∃ k, x0 = k + 1 := ⟨x0 - 1, by omega⟩
  obtain ⟨f13, fN, flk⟩ := jb_fld cf
  obtain ⟨fT, fT4, fC⟩ := jk_ft _ f13 _ fN
  have hlenN : (ja_kd (k + 1)).2 = jm_N a.2.1 := by rw [jk_N _ h3 h1 (by omega), hkd]
  have hat := jb_at (G := G) (φ := φ) (ad := ad) (M := M) h1 h2
  rw [jb_eO hkd f13] at hat
  have hfg : (jb_fs φ ad M (k + 1))[a.2.2.1]? = some (jb_f φ ad M (k + 1) a.2.2.1 (ja_ft a.2.1 a.2.2.1)) := by rw [jb_fs_get (by omega), hkd]
  have ct := Nat.eq_of_beq_eq_true ct
  have w := (hκ _ _ _ _ h).2 ad H locs ls I (List.forall_mem_cons.mpr ⟨trivial, hS⟩)
  rw [hn] at w
  refine va_get (C := jm_cn a.2.1) (T := jm_T a.2.1) (N := jm_N a.2.1) hx hb hts (jk_in _ f13) hown hK I.1.1 k hat (jk_cl _ f13) a.2.2.1 fN (hts _ flk) (fun _ q => q) hfg hd ?_
  rw [ct]
  exact w

set_option maxHeartbeats 4000000 in
theorem jw_putI : jb_SH jh_putI jc_putI := by
  intro p l e R s m args below meth c Q G φ z d C0 S0 ad0 lim0 E a i L S M κ r F EO CP ck h hκ hR ad H locs ls I hS
  obtain ⟨⟨hx, hb, hml, hown, hts⟩, ⟨hK, hA⟩, ⟨hfr, hlo⟩, hin, hao⟩ := F
  rcases S with _ | ⟨x0 | x0 | x0, _ | ⟨x1 | x1 | x1, S⟩⟩ <;> first | (cases h; done) | skip
  obtain ⟨ck, cf⟩ := jb_and ck
  obtain ⟨cf, ct⟩ := jb_and cf
  obtain ⟨ct, cfin⟩ := jb_and ct
  have ct := Nat.eq_of_beq_eq_true ct
  obtain ⟨hd, hn⟩ := jc_d_of ck
  obtain ⟨o0, hS1⟩ := List.forall_mem_cons.mp hS
  replace hS := (List.forall_mem_cons.mp hS1).2
  clear hS1
  obtain ⟨hc0, h⟩ := jb_cond h
  obtain ⟨hokc, hkd⟩ := jb_and hc0
  have hkd := Nat.eq_of_beq_eq_true hkd
  obtain ⟨h1, h2, h3⟩ := jb_okc hokc I.2.2.1
  obtain ⟨k, rfl⟩ : ∃ k, x1 = k + 1 := ⟨x1 - 1, by omega⟩
  obtain ⟨f13, fN, flk⟩ := jb_fld cf
  obtain ⟨fT, fT4, fC⟩ := jk_ft _ f13 _ fN
  have hlenN : (ja_kd (k + 1)).2 = jm_N a.2.1 := by rw [jk_N _ h3 h1 (by omega), hkd]
  have hat := jb_at (G := G) (φ := φ) (ad := ad) (M := M) h1 h2
  rw [jb_eO hkd f13] at hat
  have hfg : (jb_fs φ ad M (k + 1))[a.2.2.1]? = some (jb_f φ ad M (k + 1) a.2.2.1 (ja_ft a.2.1 a.2.2.1)) := by rw [jb_fs_get (by omega), hkd]
  have hty : jm_ty a.2.1 a.2.2.1 = .int := by
    rw [ct] at fT
    revert fT
    generalize jm_ty a.2.1 a.2.2.1 = t
    cases t <;> intro q <;> first | rfl | cases q
  have hfv : jb_f φ ad (ja_up M (k + 1) a.2.2.1 x0) (k + 1) a.2.2.1 (ja_ft a.2.1 a.2.2.1) = .int (Int32.ofInt x0) := by
    rw [ct]
    show Value.int (Int32.ofInt (ja_up M (k + 1) a.2.2.1 x0 (k + 1) a.2.2.1)) = _
    rw [jb_up_eq]
  have hnum : jb_num (k + 1) a.2.2.1 x0 := jb_numI' o0 (by rw [jb_lngO hkd f13, ct]; rfl)
  have hppn : ja_pp (k + 1) a.2.2.1 ≤ (M 0 0).toNat := by
    rw [jk_pp0 _ h3 (by omega) _ (by have := (show ∀ k, k < 13 → jm_N k ≤ 58 by decide) _ f13; omega) (by rw [hkd]; omega)]
    exact Nat.zero_le _
  have hee := jb_eO (G := G) (φ := φ) (ad := ad) (M := ja_up M (k + 1) a.2.2.1 x0) hkd f13
  rw [show ja_ft a.2.1 a.2.2.1 = ja_ft (ja_kd (k + 1)).1 a.2.2.1 by rw [hkd]] at hfv
  rw [jb_fs_up hfv] at hee
  have hup := fun (H1 : Heap) (locs1 : List Loc) p1 p2 p3 => jb_I_up (H1 := H1) (locs1 := locs1) I h1 h2 h3 hnum hppn hee p1 p2 p3
  obtain ⟨ec, es⟩ := jb_cl_up (M := M) (c := k + 1) (n := a.2.2.1) (v := x0) h1
  refine va_put (C := jm_cn a.2.1) (T := jm_T a.2.1) (N := jm_N a.2.1) hx hb hts (jk_in _ f13) (jm_ty a.2.1) (jk_ty _ f13) (jk_nm _ f13) hown hK I.1.1 I.1.2.1 I.1.2.2.1 k hat (jk_cl _ f13) a.2.2.1 fN (hts _ flk) (fun _ q => q) (by simpa using cfin) (jk_ty _ f13 _ fN) (by rw [hty]; rfl) (by rw [hty]; rfl) (by rw [jb_fs_len, hlenN]; exact fN) hd (fun H1 locs1 p1 p2 p3 => ?_)
  have w := (hκ _ _ _ _ h).2 ad H1 locs1 ls (hup H1 locs1 p1 p2 p3) hS
  rw [hn, ec, es] at w
  exact w

set_option maxHeartbeats 4000000 in
theorem jw_putZ : jb_SH jh_putZ jc_putZ := by
  intro p l e R s m args below meth c Q G φ z d C0 S0 ad0 lim0 E a i L S M κ r F EO CP ck h hκ hR ad H locs ls I hS
  obtain ⟨⟨hx, hb, hml, hown, hts⟩, ⟨hK, hA⟩, ⟨hfr, hlo⟩, hin, hao⟩ := F
  rcases S with _ | ⟨x0 | x0 | x0, _ | ⟨x1 | x1 | x1, S⟩⟩ <;> first | (cases h; done) | skip
  obtain ⟨ck, cf⟩ := jb_and ck
  obtain ⟨cf, ct⟩ := jb_and cf
  obtain ⟨ct, cfin⟩ := jb_and ct
  have ct := Nat.eq_of_beq_eq_true ct
  obtain ⟨hd, hn⟩ := jc_d_of ck
  obtain ⟨o0, hS1⟩ := List.forall_mem_cons.mp hS
  replace hS := (List.forall_mem_cons.mp hS1).2
  clear hS1
  obtain ⟨hc0, h⟩ := jb_cond h
  obtain ⟨hokc, hkd⟩ := jb_and hc0
  have hkd := Nat.eq_of_beq_eq_true hkd
  obtain ⟨h1, h2, h3⟩ := jb_okc hokc I.2.2.1
  obtain ⟨k, rfl⟩ : ∃ k, x1 = k + 1 := ⟨x1 - 1, by omega⟩
  obtain ⟨f13, fN, flk⟩ := jb_fld cf
  obtain ⟨fT, fT4, fC⟩ := jk_ft _ f13 _ fN
  have hlenN : (ja_kd (k + 1)).2 = jm_N a.2.1 := by rw [jk_N _ h3 h1 (by omega), hkd]
  have hat := jb_at (G := G) (φ := φ) (ad := ad) (M := M) h1 h2
  rw [jb_eO hkd f13] at hat
  have hfg : (jb_fs φ ad M (k + 1))[a.2.2.1]? = some (jb_f φ ad M (k + 1) a.2.2.1 (ja_ft a.2.1 a.2.2.1)) := by rw [jb_fs_get (by omega), hkd]
  obtain ⟨hB, h⟩ := jb_cond h
  have hB := jb_isB hB
  have hty : jm_ty a.2.1 a.2.2.1 = .boolean := by
    rw [ct] at fT
    revert fT
    generalize jm_ty a.2.1 a.2.2.1 = t
    cases t <;> intro q <;> first | rfl | cases q
  have hfv : jb_f φ ad (ja_up M (k + 1) a.2.2.1 x0) (k + 1) a.2.2.1 (ja_ft a.2.1 a.2.2.1) = .int (Int32.ofInt x0) := by
    rw [ct]
    show Value.int (Int32.ofInt (ja_up M (k + 1) a.2.2.1 x0 (k + 1) a.2.2.1)) = _
    rw [jb_up_eq]
  have hnum : jb_num (k + 1) a.2.2.1 x0 := jb_numI' o0 (by rw [jb_lngO hkd f13, ct]; rfl)
  have hppn : ja_pp (k + 1) a.2.2.1 ≤ (M 0 0).toNat := by
    rw [jk_pp0 _ h3 (by omega) _ (by have := (show ∀ k, k < 13 → jm_N k ≤ 58 by decide) _ f13; omega) (by rw [hkd]; omega)]
    exact Nat.zero_le _
  have hee := jb_eO (G := G) (φ := φ) (ad := ad) (M := ja_up M (k + 1) a.2.2.1 x0) hkd f13
  rw [show ja_ft a.2.1 a.2.2.1 = ja_ft (ja_kd (k + 1)).1 a.2.2.1 by rw [hkd]] at hfv
  rw [jb_fs_up hfv] at hee
  have hup := fun (H1 : Heap) (locs1 : List Loc) p1 p2 p3 => jb_I_up (H1 := H1) (locs1 := locs1) I h1 h2 h3 hnum hppn hee p1 p2 p3
  obtain ⟨ec, es⟩ := jb_cl_up (M := M) (c := k + 1) (n := a.2.2.1) (v := x0) h1
  refine va_put (C := jm_cn a.2.1) (T := jm_T a.2.1) (N := jm_N a.2.1) hx hb hts (jk_in _ f13) (jm_ty a.2.1) (jk_ty _ f13) (jk_nm _ f13) hown hK I.1.1 I.1.2.1 I.1.2.2.1 k hat (jk_cl _ f13) a.2.2.1 fN (hts _ flk) (fun _ q => q) (by simpa using cfin) (jk_ty _ f13 _ fN) (by rw [hty]; rcases hB with rfl | rfl <;> rfl) (by rw [hty]; rcases hB with rfl | rfl <;> rfl) (by rw [jb_fs_len, hlenN]; exact fN) hd (fun H1 locs1 p1 p2 p3 => ?_)
  have w := (hκ _ _ _ _ h).2 ad H1 locs1 ls (hup H1 locs1 p1 p2 p3) hS
  rw [hn, ec, es] at w
  exact w

set_option maxHeartbeats 4000000 in
theorem jw_putL : jb_SH jh_putL jc_putL := by
  intro p l e R s m args below meth c Q G φ z d C0 S0 ad0 lim0 E a i L S M κ r F EO CP ck h hκ hR ad H locs ls I hS
  obtain ⟨⟨hx, hb, hml, hown, hts⟩, ⟨hK, hA⟩, ⟨hfr, hlo⟩, hin, hao⟩ := F
  rcases S with _ | ⟨x0 | x0 | x0, _ | ⟨x1 | x1 | x1, S⟩⟩ <;> first | (cases h; done) | skip
  obtain ⟨ck, cf⟩ := jb_and ck
  obtain ⟨cf, ct⟩ := jb_and cf
  obtain ⟨ct, cfin⟩ := jb_and ct
  have ct := Nat.eq_of_beq_eq_true ct
  obtain ⟨hd, hn⟩ := jc_d_of ck
  obtain ⟨o0, hS1⟩ := List.forall_mem_cons.mp hS
  replace hS := (List.forall_mem_cons.mp hS1).2
  clear hS1
  obtain ⟨hc0, h⟩ := jb_cond h
  obtain ⟨hokc, hkd⟩ := jb_and hc0
  have hkd := Nat.eq_of_beq_eq_true hkd
  obtain ⟨h1, h2, h3⟩ := jb_okc hokc I.2.2.1
  obtain ⟨k, rfl⟩ : ∃ k, x1 = k + 1 := ⟨x1 - 1, by omega⟩
  obtain ⟨f13, fN, flk⟩ := jb_fld cf
  obtain ⟨fT, fT4, fC⟩ := jk_ft _ f13 _ fN
  have hlenN : (ja_kd (k + 1)).2 = jm_N a.2.1 := by rw [jk_N _ h3 h1 (by omega), hkd]
  have hat := jb_at (G := G) (φ := φ) (ad := ad) (M := M) h1 h2
  rw [jb_eO hkd f13] at hat
  have hfg : (jb_fs φ ad M (k + 1))[a.2.2.1]? = some (jb_f φ ad M (k + 1) a.2.2.1 (ja_ft a.2.1 a.2.2.1)) := by rw [jb_fs_get (by omega), hkd]
  have hty : jm_ty a.2.1 a.2.2.1 = .long := by
    rw [ct] at fT
    revert fT
    generalize jm_ty a.2.1 a.2.2.1 = t
    cases t <;> intro q <;> first | rfl | cases q
  have hfv : jb_f φ ad (ja_up M (k + 1) a.2.2.1 x0) (k + 1) a.2.2.1 (ja_ft a.2.1 a.2.2.1) = .long (Int64.ofInt x0) := by
    rw [ct]
    show Value.long (Int64.ofInt (ja_up M (k + 1) a.2.2.1 x0 (k + 1) a.2.2.1)) = _
    rw [jb_up_eq]
  have hnum : jb_num (k + 1) a.2.2.1 x0 := jb_numL' o0 (by rw [jb_lngO hkd f13, ct]; rfl)
  have hppn : ja_pp (k + 1) a.2.2.1 ≤ (M 0 0).toNat := by
    rw [jk_pp0 _ h3 (by omega) _ (by have := (show ∀ k, k < 13 → jm_N k ≤ 58 by decide) _ f13; omega) (by rw [hkd]; omega)]
    exact Nat.zero_le _
  have hee := jb_eO (G := G) (φ := φ) (ad := ad) (M := ja_up M (k + 1) a.2.2.1 x0) hkd f13
  rw [show ja_ft a.2.1 a.2.2.1 = ja_ft (ja_kd (k + 1)).1 a.2.2.1 by rw [hkd]] at hfv
  rw [jb_fs_up hfv] at hee
  have hup := fun (H1 : Heap) (locs1 : List Loc) p1 p2 p3 => jb_I_up (H1 := H1) (locs1 := locs1) I h1 h2 h3 hnum hppn hee p1 p2 p3
  obtain ⟨ec, es⟩ := jb_cl_up (M := M) (c := k + 1) (n := a.2.2.1) (v := x0) h1
  refine va_put (C := jm_cn a.2.1) (T := jm_T a.2.1) (N := jm_N a.2.1) hx hb hts (jk_in _ f13) (jm_ty a.2.1) (jk_ty _ f13) (jk_nm _ f13) hown hK I.1.1 I.1.2.1 I.1.2.2.1 k hat (jk_cl _ f13) a.2.2.1 fN (hts _ flk) (fun _ q => q) (by simpa using cfin) (jk_ty _ f13 _ fN) (by rw [hty]; rfl) (by rw [hty]; rfl) (by rw [jb_fs_len, hlenN]; exact fN) hd (fun H1 locs1 p1 p2 p3 => ?_)
  have w := (hκ _ _ _ _ h).2 ad H1 locs1 ls (hup H1 locs1 p1 p2 p3) hS
  rw [hn, ec, es] at w
  exact w

set_option maxHeartbeats 4000000 in
theorem jw_putR : jb_SH jh_putR jc_putR := by
  intro p l e R s m args below meth c Q G φ z d C0 S0 ad0 lim0 E a i L S M κ r F EO CP ck h hκ hR ad H locs ls I hS
  obtain ⟨⟨hx, hb, hml, hown, hts⟩, ⟨hK, hA⟩, ⟨hfr, hlo⟩, hin, hao⟩ := F
  rcases S with _ | ⟨x0 | x0 | x0, _ | ⟨x1 | x1 | x1, S⟩⟩ <;> first | (cases h; done) | skip
  obtain ⟨ck, cf⟩ := jb_and ck
  obtain ⟨cf, ct⟩ := jb_and cf
  obtain ⟨ct, cfin⟩ := jb_and ct
  have ct := Nat.eq_of_beq_eq_true ct
  obtain ⟨hd, hn⟩ := jc_d_of ck
  replace hS := (List.forall_mem_cons.mp (List.forall_mem_cons.mp hS).2).2
  obtain ⟨hc0, hk9⟩ := jb_cond h
  obtain ⟨hokc, hc0⟩ := jb_and hc0
  obtain ⟨hkd, hc0⟩ := jb_and hc0
  obtain ⟨hpp, hc0⟩ := jb_and hc0
  obtain ⟨hr1, hmu⟩ := jb_and hc0
  have hkd := Nat.eq_of_beq_eq_true hkd
  have hpp := Nat.eq_of_beq_eq_true hpp
  have hrr := jb_okc hr1 I.2.2.1
  have hr1 := hrr.1
  obtain ⟨h1, h2, h3⟩ := jb_okc hokc I.2.2.1
  obtain ⟨k, rfl⟩ : ∃ k, x1 = k + 1 := ⟨x1 - 1, by omega⟩
  obtain ⟨j, rfl⟩ : ∃ j, x0 = j + 1 := ⟨x0 - 1, by omega⟩
  obtain ⟨f13, fN, flk⟩ := jb_fld cf
  obtain ⟨fT, fT4, fC⟩ := jk_ft _ f13 _ fN
  have hlenN : (ja_kd (k + 1)).2 = jm_N a.2.1 := by rw [jk_N _ h3 h1 (by omega), hkd]
  have hat := jb_at (G := G) (φ := φ) (ad := ad) (M := M) h1 h2
  rw [jb_eO hkd f13] at hat
  have hfg : (jb_fs φ ad M (k + 1))[a.2.2.1]? = some (jb_f φ ad M (k + 1) a.2.2.1 (ja_ft a.2.1 a.2.2.1)) := by rw [jb_fs_get (by omega), hkd]
  have hty : (∃ C, jm_ty a.2.1 a.2.2.1 = .object C) ∨ ∃ t, jm_ty a.2.1 a.2.2.1 = .array t := by
    rw [ct] at fT
    revert fT
    generalize jm_ty a.2.1 a.2.2.1 = t
    cases t <;> intro q <;> first | exact Or.inl ⟨_, rfl⟩ | exact Or.inr ⟨_, rfl⟩ | cases q
  have hrd : ja_rd φ (ja_up M (k + 1) a.2.2.1 1) (k + 1) a.2.2.1 = j + 1 := by
    unfold ja_rd
    rw [jb_up_eq, ← hpp]
    cases φ && !(ja_mut (k + 1) a.2.2.1) <;> rfl
  have hfv : jb_f φ ad (ja_up M (k + 1) a.2.2.1 1) (k + 1) a.2.2.1 (ja_ft a.2.1 a.2.2.1) = .ref (ad (j + 1)) := by
    rw [ct]
    show jb_v ad (jr (ja_rd φ (ja_up M (k + 1) a.2.2.1 1) (k + 1) a.2.2.1)) = _
    rw [hrd]
    rfl
  have hppn : ja_pp (k + 1) a.2.2.1 ≤ (M 0 0).toNat := by
    rw [← hpp]
    exact hrr.2.1
  have hnum : jb_num (k + 1) a.2.2.1 1 := jb_numI' (show jb_ok (ji 1) from ⟨by decide, by decide⟩) (by rw [jb_lngO hkd f13, ct]; rfl)
  have hee := jb_eO (G := G) (φ := φ) (ad := ad) (M := ja_up M (k + 1) a.2.2.1 1) hkd f13
  rw [show ja_ft a.2.1 a.2.2.1 = ja_ft (ja_kd (k + 1)).1 a.2.2.1 by rw [hkd]] at hfv
  rw [jb_fs_up hfv] at hee
  have hup := fun (H1 : Heap) (locs1 : List Loc) p1 p2 p3 => jb_I_up (H1 := H1) (locs1 := locs1) I h1 h2 h3 hnum hppn hee p1 p2 p3
  obtain ⟨ec, es⟩ := jb_cl_up (M := M) (c := k + 1) (n := a.2.2.1) (v := 1) h1
  have fin : ∀ (H1 : Heap) (locs1 : List Loc), va_P G.1 jm_cl ((jb_ws G φ ad M).set k (ad (k + 1), .inr (a.2.1, (jb_fs φ ad M (k + 1)).set a.2.2.1 (.ref (ad (j + 1)))))) H1 → va_D (jb_A G) ((jb_ws G φ ad M).set k (ad (k + 1), .inr (a.2.1, (jb_fs φ ad M (k + 1)).set a.2.2.1 (.ref (ad (j + 1)))))) → va_S (jb_A G) s.heap H1 locs1 → W p l e R s m args below meth c H1 locs1 (jb_cl M - C0) (jb_sl M - S0) Q (F0 m (jm_pc z i + 3) ls (S.map (jb_v ad))) := by
    intro H1 locs1 p1 p2 p3
    have w := (hκ _ _ _ _ hk9).2 ad H1 locs1 ls (hup H1 locs1 p1 p2 p3) hS
    rw [hn, ec, es] at w
    exact w
  rcases jb_or cfin with cfin | cfin
  · exact va_put (C := jm_cn a.2.1) (T := jm_T a.2.1) (N := jm_N a.2.1) hx hb hts (jk_in _ f13) (jm_ty a.2.1) (jk_ty _ f13) (jk_nm _ f13) hown hK I.1.1 I.1.2.1 I.1.2.2.1 k hat (jk_cl _ f13) a.2.2.1 fN (hts _ flk) (fun _ q => q) (by simpa using cfin) (jk_ty _ f13 _ fN) (by rcases hty with ⟨C, q⟩ | ⟨C, q⟩ <;> rw [q] <;> rfl) (by rcases hty with ⟨C, q⟩ | ⟨C, q⟩ <;> rw [q] <;> rfl) (by rw [jb_fs_len, hlenN]; exact fN) hd fin
  · obtain ⟨hname, hcls⟩ := jb_and cfin
    have hname := of_decide_eq_true hname
    have hcls := Nat.eq_of_beq_eq_true hcls
    by_cases hf : (jm_T a.2.1 a.2.2.1).2.2.2 = true
    · exact va_putF (C := jm_cn a.2.1) (T := jm_T a.2.1) (N := jm_N a.2.1) hx hb hts (jk_in _ f13) (jm_ty a.2.1) (jk_ty _ f13) (jk_nm _ f13) hown hK I.1.1 I.1.2.1 I.1.2.2.1 k hat (jk_cl _ f13) a.2.2.1 fN (hts _ flk) (fun _ q => q) hf (hin hname) (by rw [fC, hcls]) (jk_ty _ f13 _ fN) (by rcases hty with ⟨C, q⟩ | ⟨C, q⟩ <;> rw [q] <;> rfl) (by rcases hty with ⟨C, q⟩ | ⟨C, q⟩ <;> rw [q] <;> rfl) (by rw [jb_fs_len, hlenN]; exact fN) hd fin
    · exact va_put (C := jm_cn a.2.1) (T := jm_T a.2.1) (N := jm_N a.2.1) hx hb hts (jk_in _ f13) (jm_ty a.2.1) (jk_ty _ f13) (jk_nm _ f13) hown hK I.1.1 I.1.2.1 I.1.2.2.1 k hat (jk_cl _ f13) a.2.2.1 fN (hts _ flk) (fun _ q => q) (by simpa using hf) (jk_ty _ f13 _ fN) (by rcases hty with ⟨C, q⟩ | ⟨C, q⟩ <;> rw [q] <;> rfl) (by rcases hty with ⟨C, q⟩ | ⟨C, q⟩ <;> rw [q] <;> rfl) (by rw [jb_fs_len, hlenN]; exact fN) hd fin
