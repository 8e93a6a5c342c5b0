/-! tables: the other side -/
def jF4 (M N : ja_M) : Prop := ∀ c i, ¬ (c = 154 ∧ i < 36) → ¬ (c = 137 ∧ (i = 44 ∨ i = 47)) → N c i = M c i
theorem jF4.kH {M N : ja_M} (h : jF4 M N) : jKs kH M N := fun c i q => h c i (fun e => by rw [e.1] at q; cases q) (fun e => by
  obtain ⟨rfl, e⟩ := e
  rcases e with rfl | rfl <;> cases q)
theorem jF4.kF {M N : ja_M} (h : jF4 M N) : jKs kF M N := fun c i q => h c i (fun e => by rw [e.1] at q; cases q) (fun e => by
  obtain ⟨rfl, e⟩ := e
  rcases e with rfl | rfl <;> cases q)
/-- the row of a band is an order -/
def rwR (N : ja_M) (P b : Nat) (o : List Nat) : Prop := ∀ t, t < P → N 154 (6 * b + t) = (jv_nth o t : Int)
theorem js_R_ordOf (dd : Nat) {N : ja_M} {P b : Nat} {o : List Nat} (hH : jH N) (hP : N 11 3 = (P : Int)) (hb : (b : Int) < N 11 4) (ol : o.length = P) (op : ∀ p ∈ o, p < P) (hr : rwR N P b o) : ja_x true (dd + 3) 241 [jr 137, ji (b : Int)] N = some (some (ji (jv_num o)), N) := by
  have hB := hH.b
  have P6 : P ≤ 6 := by omega
  rw [f_R_orderOf, jv_num_digs, ol]
  have w := jz_loop (F := fun (a : Int) t => ja_D true (ja_x true (dd + 2)) k_R_orderOf 4 [some (jr 137), some (ji (b : Int)), some (ji a), some (ji t)] [] N) (N := fun t => jv_digs (ofn o) t) (n := P) P 0 (by omega) (fun t _ ht => by
    show ja_D true (ja_x true (dd + 2)) k_R_orderOf 4 _ [] N = ja_D true (ja_x true (dd + 2)) k_R_orderOf 4 [_, _, some (ji (jv_digs (ofn o) (t + 1))), _] [] N
    have hv : ∀ u, u < t → 0 ≤ ofn o u ∧ ofn o u ≤ 9 := fun u hu => by
      have := jv_nth_lt (t := u) op (by omega)
      show 0 ≤ ((jv_nth o u : Nat) : Int) ∧ ((jv_nth o u : Nat) : Int) ≤ 9
      omega
    have hd := jv_digs_b t hv
    have h10 := jv_10p (n := t) (by omega)
    have hx := jv_nth_lt (t := t) op (by omega)
    have e : oR N b t = (jv_nth o t : Int) := hr t ht
    rw [e_R_orderOf_4, hH.2.1.1, hP, if_pos (by omega), js_of (dd + 1) hH hb (by omega), jz_bI, e, ja_w_id (x := 10 * jv_digs (ofn o) t) (by omega) (by omega), ja_w_id (x := 10 * jv_digs (ofn o) t + (jv_nth o t : Int)) (by omega) (by omega), ja_w_id (x := (t : Int) + 1) (by omega) (by omega), Int.mul_comm 10]
    rfl)
  have w : ja_D true (ja_x true (dd + 2)) k_R_orderOf 4 [some (jr 137), some (ji (b : Int)), some (ji 0), some (ji 0)] [] N = ja_D true (ja_x true (dd + 2)) k_R_orderOf 4 [some (jr 137), some (ji (b : Int)), some (ji (jv_digs (ofn o) P)), some (ji (P : Int))] [] N := w
  rw [w, e_R_orderOf_4, hH.2.1.1, hP, if_neg (by omega)]
theorem jv_met_eq {N : ja_M} {P a b : Nat} {oa ob : List Nat} (ha : rwR N P a oa) (hb : rwR N P b ob) : pv_met P (oR N) a b ↔ jv_metO P oa ob = true := by
  unfold pv_met jv_metO
  rw [jv_any_iff]
  constructor
  · rintro ⟨t, h1, h2⟩
    refine ⟨t, h1, ?_⟩
    have h2 : N 154 (6 * a + t) = N 154 (6 * b + t) := h2
    rw [ha t h1, hb t h1] at h2
    exact beq_iff_eq.mpr (by omega)
  · rintro ⟨t, h1, h2⟩
    refine ⟨t, h1, ?_⟩
    show N 154 (6 * a + t) = N 154 (6 * b + t)
    rw [ha t h1, hb t h1, beq_iff_eq.mp h2]
theorem jv_fol_eq {N : ja_M} {P a b : Nat} {oa ob : List Nat} (ha : rwR N P a oa) (hb : rwR N P b ob) : pv_fol P (oR N) a b = ((jv_folO P oa ob : Nat) : Int) := by
  unfold pv_fol jv_folO
  rw [jc_cp]
  refine jv_cnt_congr _ (fun u hu => ?_)
  show decide (N 154 (6 * a + (u + 1)) = N 154 (6 * b + u)) = (jv_nth oa (u + 1) == jv_nth ob u)
  rw [ha (u + 1) (by omega), hb u (by omega), Bool.eq_iff_iff, decide_eq_true_eq, beq_iff_eq]
  omega
theorem js_goesWith (dd : Nat) {N : ja_M} {P b f : Nat} {o : List Nat} {dn : List (List Nat)} (hH : jH N) (hP : N 11 3 = (P : Int)) (hf : N 11 5 = (f : Int)) (hb : (b : Int) < N 11 4) (hl : dn.length = b) (hr : rwR N P b o) (hd : ∀ i d, dn[i]? = some d → rwR N P i d) : ja_x true (dd + 3) 290 [jr 137, ji (b : Int)] N = some (some (ji (if dn.all (fun d => jv_with P f o d) = true then 1 else 0)), N) := by
  have hB := hH.b
  have eP : (N 11 3).toNat = P := by omega
  have loop : ∀ (rest : List (List Nat)) (i : Nat), dn.drop i = rest → ja_D true (ja_x true (dd + 2)) k_R_goesWith 2 [some (jr 137), some (ji (b : Int)), some (ji (i : Int))] [] N = some (some (ji (if rest.all (fun d => jv_with P f o d) = true then 1 else 0)), N) := by
    intro rest
    induction rest with
    | nil =>
      intro i hi
      have := List.drop_eq_nil_iff.mp hi
      rw [e_R_goesWith_2, if_neg (by omega)]
      rfl
    | cons d rest ih =>
      intro i hi
      have hil : i < dn.length := by
        by_cases q : i < dn.length
        · exact q
        · rw [List.drop_eq_nil_iff.mpr (by omega)] at hi
          cases hi
      have hdi : dn[i]? = some d := by
        have := List.getElem?_drop (xs := dn) (i := i) (j := 0)
        rw [hi] at this
        exact this.symm
      have hd' : dn.drop (i + 1) = rest := by
        rw [← List.drop_drop, hi]
        rfl
      have rd := hd i d hdi
      have m1 := jv_met_eq hr rd
      have m2 := jv_fol_eq hr rd
      have m3 := jv_fol_eq rd hr
      have dm := js_R_doMeet dd (a := b) (b := i) hH hb (by omega)
      have f1 := js_R_fol dd (a := b) (b := i) hH hb (by omega)
      have f2 := js_R_fol dd (a := i) (b := b) hH (by omega) hb
      rw [eP] at dm f1 f2
      rw [m2] at f1
      rw [m3] at f2
      rw [e_R_goesWith_2, if_pos (by omega), dm, jz_bI, List.all_cons]
      by_cases q : jv_metO P o d = true
      · rw [jv_b1 (m1.mpr q), if_neg (by decide)]
        have : jv_with P f o d = false := by
          unfold jv_with
          rw [q]
          rfl
        rw [this]
        rfl
      · rw [jv_b0 (fun w => q (m1.mp w)), if_pos rfl, f1, jz_bI, hH.2.1.2.2.1, hf]
        have qf : jv_metO P o d = false := Bool.eq_false_iff.mpr q
        by_cases q1 : (f : Int) < ((jv_folO P o d : Nat) : Int)
        · have : jv_with P f o d = false := by
            unfold jv_with
            rw [qf, decide_eq_false (by omega)]
            rfl
          rw [if_pos q1, this]
          rfl
        · rw [if_neg q1, f2, jz_bI, hH.2.1.2.2.1, hf]
          by_cases q2 : (f : Int) < ((jv_folO P d o : Nat) : Int)
          · have : jv_with P f o d = false := by
              unfold jv_with
              rw [qf, decide_eq_false (p := jv_folO P d o ≤ f) (by omega), Bool.and_false]
              rfl
            rw [if_pos q2, this]
            rfl
          · have : jv_with P f o d = true := by
              unfold jv_with
              rw [qf, decide_eq_true (by omega), decide_eq_true (by omega)]
              rfl
            rw [if_neg q2, this, Bool.true_and, ja_w_id (by omega) (by omega)]
            exact ih (i + 1) hd'
  rw [f_R_goesWith]
  exact loop dn 0 rfl
/-- the order that is asked for, among tables that come behind c others -/
def tfnd (a : Int) (bb c : Nat) (L : List (List (List Nat))) (old : Int) : Int := if (c : Int) ≤ a ∧ a < ((min (c + L.length) 1000 : Nat) : Int) then jv_num ((L.getD (a.toNat - c) []).getD bb []) else old
theorem tfnd_nil (a : Int) (bb c : Nat) (old : Int) (hc : c ≤ 1000) : tfnd a bb c [] old = old := if_neg (fun q => by
  have : ([] : List (List (List Nat))).length = 0 := rfl
  omega)
theorem tfnd_app (a : Int) (bb c : Nat) (L1 L2 : List (List (List Nat))) (old : Int) (hc : c ≤ 1000) : tfnd a bb (min (c + L1.length) 1000) L2 (tfnd a bb c L1 old) = tfnd a bb c (L1 ++ L2) old := by
  unfold tfnd
  rw [List.length_append]
  by_cases h1 : (c : Int) ≤ a ∧ a < ((min (c + L1.length) 1000 : Nat) : Int)
  · rw [if_pos h1, if_neg (fun q => by omega), if_pos (by omega), List.getD_eq_getElem?_getD (l := L1 ++ L2), List.getElem?_append_left (by omega), ← List.getD_eq_getElem?_getD]
  · rw [if_neg h1]
    by_cases h2 : ((min (c + L1.length) 1000 : Nat) : Int) ≤ a ∧ a < ((min (min (c + L1.length) 1000 + L2.length) 1000 : Nat) : Int)
    · rw [if_pos h2, if_pos (by omega), List.getD_eq_getElem?_getD (l := L1 ++ L2), List.getElem?_append_right (by omega), ← List.getD_eq_getElem?_getD, show a.toNat - min (c + L1.length) 1000 = a.toNat - c - L1.length by omega]
    · rw [if_neg h2, if_neg (fun q => by omega)]
