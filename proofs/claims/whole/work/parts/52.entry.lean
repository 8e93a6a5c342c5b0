/-! THE LAW'S ENTRY: the claim out of the small machine's answer -/
theorem jd_len {args : Array Value} {s : State} {t : Term} {v : Value} {n : Nat} (hn : n < 2147483648) (h : (Term.length t).eval args s none [] s = some v) (hv : v = .int (Int32.ofNat n)) :
    ∃ a cell, t.eval args s none [] s = some (.ref a) ∧ s.arrayAt? a = some cell ∧ cell.slots.size = n := by
  simp only [Term.eval, Option.bind_eq_bind] at h
  cases ht : t.eval args s none [] s with
  | none => simp [ht] at h
  | some x =>
    cases x <;> simp [ht] at h
    case ref a =>
      obtain ⟨cell, hcell, h⟩ := Option.bind_eq_some_iff.mp h
      by_cases hz : cell.slots.size < 2147483648
      · rw [if_pos hz] at h
        cases h
        refine ⟨a, cell, rfl, hcell, ?_⟩
        have h2 : Int32.ofNat cell.slots.size = Int32.ofNat n := Value.int.inj hv
        have h3 := congrArg Int32.toNatClampNeg h2
        rw [Int32.toNatClampNeg_ofNat_of_lt (by omega), Int32.toNatClampNeg_ofNat_of_lt (by omega)] at h3
        exact h3
      · rw [if_neg hz] at h
        cases h
theorem jd_X {args : Array Value} {s : State} {tm : Term} {N : Nat} {f : Nat → Int32} (hN : N < 2147483648) (harr : (Cond.arrayOf tm .int).before args s = true) (hlen : (Term.length tm).eval args s none [] s = some (.int (Int32.ofNat N))) (hel : ∀ j : Nat, j < N → (Term.elem tm (.int (Int32.ofNat j))).eval args s none [] s = some (.int (f j))) : ∃ t : Nat, tm.eval args s none [] s = some (.ref t) ∧ va_X t N f s s.heap ∧ t < s.heap.size := by
  obtain ⟨t, cell, ht, hat, hsz⟩ := jd_len hN hlen rfl
  obtain ⟨hcell, hkn, -, -⟩ := State.arrayAt?_spec hat
  obtain ⟨hof, -⟩ := Cond.arrayOf_spec harr ht hcell
  refine ⟨t, ht, ⟨cell, hcell, hof, hkn, hsz, fun j hj => ?_⟩, (Array.getElem?_eq_some_iff.mp hcell).1⟩
  obtain ⟨a, i, cell2, h1, h2, h3, h4, h5⟩ := Term.elem_spec (hel j hj)
  cases ht.symm.trans h1
  cases hat.symm.trans h3
  have hi : i = Int32.ofNat j := by
    have e : (Term.int (Int32.ofNat j)).eval args s none [] s = some (.int (Int32.ofNat j)) := rfl
    cases h2.symm.trans e
    rfl
  have hc : i.toNatClampNeg = j := by rw [hi]; exact Int32.toNatClampNeg_ofNat_of_lt (by omega)
  rw [hc] at h5
  exact h5
set_option maxRecDepth 100000 in
theorem jd_least {args : Array Value} {s : State} (hg : ∀ c ∈ flatC (Jvm.Cond.and given_1 narrow_1), c.before args s = true) : ∃ t : Nat, (Term.static "HuntTable$HuntReader" "LEAST" "[I").eval args s none [] s = some (.ref t) ∧ va_X t 5 (fun j => Int32.ofInt (ja_ro 173 j)) s s.heap ∧ t < s.heap.size := by
  refine jd_X (by decide) (hg _ (by decide +kernel)) (va_eqt (hg (.eq (.length (.static "HuntTable$HuntReader" "LEAST" "[I")) (.int 5)) (by decide +kernel))) ?_
  intro j hj
  rcases j with _ | _ | _ | _ | _ | j
  · exact va_eqt (hg (.eq (.elem (.static "HuntTable$HuntReader" "LEAST" "[I") (.int 0)) (.int 0)) (by decide +kernel))
  · exact va_eqt (hg (.eq (.elem (.static "HuntTable$HuntReader" "LEAST" "[I") (.int 1)) (.int 0)) (by decide +kernel))
  · exact va_eqt (hg (.eq (.elem (.static "HuntTable$HuntReader" "LEAST" "[I") (.int 2)) (.int 1)) (by decide +kernel))
  · exact va_eqt (hg (.eq (.elem (.static "HuntTable$HuntReader" "LEAST" "[I") (.int 3)) (.int 0)) (by decide +kernel))
  · exact va_eqt (hg (.eq (.elem (.static "HuntTable$HuntReader" "LEAST" "[I") (.int 4)) (.int 0)) (by decide +kernel))
  · omega
set_option maxRecDepth 100000 in
theorem jd_most {args : Array Value} {s : State} (hg : ∀ c ∈ flatC (Jvm.Cond.and given_1 narrow_1), c.before args s = true) : ∃ t : Nat, (Term.static "HuntTable$HuntReader" "MOST" "[I").eval args s none [] s = some (.ref t) ∧ va_X t 5 (fun j => Int32.ofInt (ja_ro 174 j)) s s.heap ∧ t < s.heap.size := by
  refine jd_X (by decide) (hg _ (by decide +kernel)) (va_eqt (hg (.eq (.length (.static "HuntTable$HuntReader" "MOST" "[I")) (.int 5)) (by decide +kernel))) ?_
  intro j hj
  rcases j with _ | _ | _ | _ | _ | j
  · exact va_eqt (hg (.eq (.elem (.static "HuntTable$HuntReader" "MOST" "[I") (.int 0)) (.int 20)) (by decide +kernel))
  · exact va_eqt (hg (.eq (.elem (.static "HuntTable$HuntReader" "MOST" "[I") (.int 1)) (.int 20)) (by decide +kernel))
  · exact va_eqt (hg (.eq (.elem (.static "HuntTable$HuntReader" "MOST" "[I") (.int 2)) (.int 5)) (by decide +kernel))
  · exact va_eqt (hg (.eq (.elem (.static "HuntTable$HuntReader" "MOST" "[I") (.int 3)) (.int 9)) (by decide +kernel))
  · exact va_eqt (hg (.eq (.elem (.static "HuntTable$HuntReader" "MOST" "[I") (.int 4)) (.int 30)) (by decide +kernel))
  · omega
theorem jd_arr {args : Array Value} {s : State} {ty : FieldType} (h : (Cond.arrayClass ty).before args s = true) : ∃ cA, ArrOfT s cA ty ∧ s.vm.findClass ("[" ++ ty.toString) = some cA := by
  obtain ⟨c, k, comp, h1, h2, h3⟩ := Cond.arrayClass_spec h
  exact ⟨c, fun n z => ⟨fun k h => (by cases h), k, h2, comp, h3⟩, h1⟩
theorem jd_arr2 {args : Array Value} {s : State} (h : (Cond.arrayOver (.array .int)).before args s = true) : ∃ cA, ArrOfT s cA (.array .int) ∧ s.vm.findClass ("[" ++ (FieldType.array .int).toString) = some cA := by
  obtain ⟨comp, c, k, h1, h2, h3, h4, h5⟩ := Jvm.Stand.arrayOver_specB h
  exact ⟨c, fun n z => ⟨fun k h => (by cases h), k, h3, comp, h4⟩, h5⟩
set_option maxRecDepth 100000 in
theorem jd_inst : ∀ k, k < 13 → Cond.instantiable (jm_cn k) (jm_N k) ∈ lw_tbl := by decide +kernel
theorem jd_cls {args : Array Value} {s : State} (hts : ∀ w ∈ lw_tbl, w.before args s = true) : ∃ D : va_G, ∀ (c : Nat) (q : vw_C), jm_cl[c]? = some q → u_Kn s q.1 q.2.1 q.2.2 (D.1 c) (D.2 c) := by
  have hk : ∀ k, ∃ q : ClassId × (Nat → Nat), k < 13 → u_Kn s (jm_cn k) (jm_T k) (jm_N k) q.1 q.2 := fun k => by
    by_cases h : k < 13
    · obtain ⟨cC, iS, h1⟩ := u_known (ws := jm_W) (fun w hw => hts w (List.mem_filter.mp hw).1) (jk_in k h) (hts _ (jd_inst k h))
      exact ⟨(cC, iS), fun _ => h1⟩
    · exact ⟨(0, fun _ => 0), fun q => absurd q h⟩
  refine ⟨(fun k => (hk k).choose.1, fun k => (hk k).choose.2), fun c q hq => ?_⟩
  have hc : c < 13 := (List.getElem?_eq_some_iff.mp hq).1
  rw [jk_cl c hc] at hq
  cases hq
  exact (hk c).choose_spec hc
/-! the switch of phases -/
def jd_M2 (M : ja_M) (L : Nat) (xs : Nat → Int32) : ja_M := fun c i => if c = 175 then (xs i).toInt else if c = 0 ∧ i = 4 then (L : Int) else M c i
def jd_ad (ad : Nat → Nat) (b : Nat) : Nat → Nat := fun k => if k = 175 then b else ad k
def jd_L2 : ja_L := [some (jr 175), some (jr 1), some (jr 137), some (jr 171), some (ji 0), none, none]
theorem jd_ck_of {M : ja_M} (h : jd_ck M = true) : (M 0 0 = 171 ∧ M 0 1 = 171 ∧ (0 ≤ M 0 2 ∧ M 0 2 ≤ 20000)) ∧ M 93 4 = 0 ∧ ∀ c, c < 172 → (ja_kd c).1 < 13 → ∀ i, i < (ja_kd c).2 → jd_at M c i = true := by
  unfold jd_ck at h
  obtain ⟨h1, h2⟩ := jb_and h
  obtain ⟨h3, h4⟩ := jb_and h1
  obtain ⟨h5, h6⟩ := jb_and h4
  obtain ⟨h7, h8⟩ := jb_and h2
  refine ⟨⟨of_decide_eq_true h3, of_decide_eq_true h5, of_decide_eq_true h6⟩, of_decide_eq_true h7, fun c hc hk i hi => ?_⟩
  have h9 := List.all_eq_true.mp h8 c (List.mem_range.mpr hc)
  have e : Nat.blt (ja_kd c).1 13 = true := Nat.ble_eq_true_of_le hk
  rw [e] at h9
  exact List.all_eq_true.mp h9 i (List.mem_range.mpr hi)
theorem jd_kinds : ∀ c, c < 172 → 1 ≤ c → (ja_kd c).1 < 13 ∨ (ja_kd c).1 = 100 ∨ (ja_kd c).1 = 101 ∨ (ja_kd c).1 = 102 ∨ (ja_kd c).1 = 103 := by decide +kernel
theorem jd_103 : ∀ c, c < 172 → (ja_kd c).1 = 103 → c + (ja_kd c).2 ≤ 171 := by decide +kernel
set_option maxRecDepth 100000 in
theorem jd_fts : ∀ c, c < 172 → (ja_kd c).1 < 13 → ∀ i, i < (ja_kd c).2 → ja_ft (ja_kd c).1 i ≤ 3 := by decide +kernel
theorem jd_ppall : ja_ppL.all (fun r => Nat.ble r.length 60 && r.all (fun k => Nat.ble k 172)) = true := by decide +kernel
theorem jd_pprow (c : Nat) : (Nat.ble (ja_nth ja_ppL c []).length 60 && (ja_nth ja_ppL c []).all (fun k => Nat.ble k 172)) = true := ja_nthP (P := fun r => (Nat.ble r.length 60 && r.all (fun k => Nat.ble k 172)) = true) rfl ja_ppL (fun x hx => List.all_eq_true.mp jd_ppall x hx) c
theorem jd_pp (c i : Nat) : ja_pp c i ≤ 172 := ja_nthP (P := fun k => k ≤ 172) (by decide) (ja_nth ja_ppL c []) (fun x hx => Nat.le_of_ble_eq_true (List.all_eq_true.mp (jb_and (jd_pprow c)).2 x hx)) i
set_option maxRecDepth 100000 in
theorem jd_pp171a : ∀ c, c < 172 → ∀ i, i < 60 → ja_mut c i = false → ja_pp c i ≤ 171 := by decide +kernel
theorem jd_pp171 {c i : Nat} (hc : c < 172) (hm : ja_mut c i = false) : ja_pp c i ≤ 171 := by
  rcases Nat.lt_or_ge i 60 with q | q
  · exact jd_pp171a c hc i q hm
  · have e : ja_pp c i = 0 := ja_nth_out _ i _ (Nat.le_trans (Nat.le_of_ble_eq_true (jb_and (jd_pprow c)).1) q)
    omega
theorem jd_M2_c {M : ja_M} {L : Nat} {xs : Nat → Int32} {c i : Nat} (h1 : c ≠ 175) (h2 : ¬ (c = 0 ∧ i = 4)) : jd_M2 M L xs c i = M c i := by
  unfold jd_M2
  rw [if_neg h1, if_neg h2]
theorem jd_ad_k {ad : Nat → Nat} {b k : Nat} (h : k ≠ 175) : jd_ad ad b k = ad k := if_neg h
theorem jd_rdle (φ : Bool) (M : ja_M) (c i : Nat) : ja_rd φ M c i ≤ 172 := by
  have := jd_pp c i
  unfold ja_rd
  cases φ && !(ja_mut c i)
  · show (if M c i = 0 then 0 else ja_pp c i) ≤ 172
    split <;> omega
  · exact this
theorem jd_e {G : jb_G} {ad : Nat → Nat} {b : Nat} {M : ja_M} {L : Nat} {xs : Nat → Int32} {c : Nat} (hck : jd_ck M = true) (h1 : 1 ≤ c) (h2 : c < 172) : jb_e G true (jd_ad ad b) (jd_M2 M L xs) c = jb_e G false ad M c := by
  obtain ⟨-, -, hat⟩ := jd_ck_of hck
  have hM : ∀ i, jd_M2 M L xs c i = M c i := fun i => jd_M2_c (by omega) (by omega)
  have hf : (fun i => Int32.ofInt (jd_M2 M L xs c i)) = (fun i => Int32.ofInt (M c i)) := by funext i; rw [hM]
  have hl : (fun i => Int64.ofInt (jd_M2 M L xs c i)) = (fun i => Int64.ofInt (M c i)) := by funext i; rw [hM]
  unfold jb_e
  rw [hf, hl]
  rcases jd_kinds c h2 h1 with q | q | q | q | q
  · have hfs : jb_fs true (jd_ad ad b) (jd_M2 M L xs) c = jb_fs false ad M c := by
      unfold jb_fs
      apply List.map_congr_left
      intro i hi
      have hi := List.mem_range.mp hi
      have h3 := jd_fts c h2 q i hi
      have h4 := hat c h2 q i hi
      unfold jd_at at h4
      generalize hft : ja_ft (ja_kd c).1 i = ft at h3 h4
      rcases ft with _ | _ | _ | _ | ft
      · show Value.int (Int32.ofInt (jd_M2 M L xs c i)) = Value.int (Int32.ofInt (M c i))
        rw [hM]
      · show Value.int (Int32.ofInt (jd_M2 M L xs c i)) = Value.int (Int32.ofInt (M c i))
        rw [hM]
      · show Value.long (Int64.ofInt (jd_M2 M L xs c i)) = Value.long (Int64.ofInt (M c i))
        rw [hM]
      · have h5 : ja_rd false M c i = ja_rd true M c i := Nat.eq_of_beq_eq_true h4
        have h6 : ja_rd true (jd_M2 M L xs) c i = ja_rd true M c i := by unfold ja_rd; rw [hM]
        have h7 := jd_rdle true M c i
        show jb_v (jd_ad ad b) (jr (ja_rd true (jd_M2 M L xs) c i)) = jb_v ad (jr (ja_rd false M c i))
        rw [h5, h6]
        generalize ja_rd true M c i = k at h7
        cases k with
        | zero => rfl
        | succ k =>
          show Value.ref (jd_ad ad b (k + 1)) = Value.ref (ad (k + 1))
          rw [jd_ad_k (by omega)]
      · omega
    rw [hfs]
    have n0 : (ja_kd c).1 ≠ 103 := by omega
    simp only [n0, if_false]
  · simp [q]
  · simp [q]
  · simp [q]
  · have := jd_103 c h2 q
    have e : (fun i => if i < (ja_kd c).2 then some (jd_ad ad b (c + 1 + i)) else none) = (fun i => if i < (ja_kd c).2 then some (ad (c + 1 + i)) else none) := by
      funext i
      by_cases hi : i < (ja_kd c).2
      · rw [if_pos hi, if_pos hi, jd_ad_k (by omega)]
      · rw [if_neg hi, if_neg hi]
    rw [e]
    simp [q]
theorem jd_ws {G : jb_G} {ad : Nat → Nat} {b : Nat} {M : ja_M} {L : Nat} {xs : Nat → Int32} (hck : jd_ck M = true) : jb_ws G true (jd_ad ad b) (jd_M2 M L xs) = jb_ws G false ad M := by
  have h0 := (jd_ck_of hck).1.1
  have e0 : jd_M2 M L xs 0 0 = M 0 0 := jd_M2_c (by decide) (by decide)
  unfold jb_ws
  rw [e0, h0]
  apply List.map_congr_left
  intro k hk
  have hk : k < 171 := List.mem_range.mp hk
  rw [jd_e hck (by omega) (by omega), jd_ad_k (by omega)]
theorem jd_small {c i : Nat} {x : Int} (h : -1000 ≤ x ∧ x ≤ 1000) : jb_num c i x := by
  unfold jb_num
  split
  · show -9223372036854775808 ≤ x ∧ x < 9223372036854775808
    omega
  · show -2147483648 ≤ x ∧ x < 2147483648
    omega
theorem jd_lng175 (i : Nat) : jb_lng 175 i = false := rfl
theorem jd_Mok2 {M : ja_M} {L : Nat} {xs : Nat → Int32} (hck : jd_ck M = true) (hM : jb_Mok false M) (hL : L ≤ 3072) : jb_Mok true (jd_M2 M L xs) := by
  obtain ⟨⟨h0, h1, h2⟩, h3, -⟩ := jd_ck_of hck
  obtain ⟨m1, m2, m3, m4, m5, m6⟩ := hM
  have e0 : jd_M2 M L xs 0 0 = M 0 0 := jd_M2_c (by decide) (by decide)
  have e1 : jd_M2 M L xs 0 1 = M 0 1 := jd_M2_c (by decide) (by decide)
  have e2 : jd_M2 M L xs 0 2 = M 0 2 := jd_M2_c (by decide) (by decide)
  have e4 : jd_M2 M L xs 0 4 = (L : Int) := rfl
  refine ⟨fun c i hc => ?_, by rw [e0]; exact m2, fun _ => by rw [e0, h0]; decide, by rw [e1, e2]; exact m4, by rw [e4]; omega, fun c hc1 hc2 => ⟨fun i => ?_, fun hk => ?_⟩⟩
  · by_cases q : c = 175
    · subst q
      show jb_num 175 i (xs i).toInt
      unfold jb_num
      rw [jd_lng175]
      exact jn_r (xs i)
    · rw [jd_M2_c q (by omega)]
      exact m1 c i hc
  · rw [e0, h0] at hc2 ⊢
    have hc : c < 172 := by
      have : (171 : Int).toNat = 171 := rfl
      omega
    show ja_rd true (jd_M2 M L xs) c i ≤ 171
    unfold ja_rd
    cases hm : ja_mut c i with
    | false => exact jd_pp171 hc hm
    | true =>
      obtain ⟨a1, a2⟩ := jb_and hm
      have a1 := Nat.eq_of_beq_eq_true a1
      have a2 := Nat.eq_of_beq_eq_true a2
      subst a1 a2
      show (if jd_M2 M L xs 93 4 = 0 then 0 else ja_pp 93 4) ≤ 171
      rw [jd_M2_c (by decide) (by decide), h3, if_pos rfl]
      decide
  · rw [e0, h0] at hc2 ⊢
    have hc : c < 172 := by
      have : (171 : Int).toNat = 171 := rfl
      omega
    exact jd_103 c hc hk
theorem jd_Mok0 : jb_Mok false jd_M0 := by
  refine ⟨fun c i hc => jd_small ?_, by decide, fun h => (by cases h), by decide, by decide, fun c hc1 hc2 => ?_⟩
  · unfold jd_M0
    rw [if_neg (by omega)]
    by_cases q : c = 175
    · rw [if_pos q]
      rcases i with _ | _ | _ | _ | _ | i <;> first | decide | (unfold ja_ro; simp)
    · rw [if_neg q]
      decide
  · have : (jd_M0 0 0).toNat = 0 := rfl
    omega
/-- the same end, the script as it was -/
def jd_Mb (M Mf : ja_M) : ja_M := fun c i => if c = 175 then M c i else if c = 0 ∧ i = 4 then M 0 4 else Mf c i
