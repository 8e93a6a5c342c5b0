/-! reading: worths, the other side -/
theorem rw_clause (dd : Nat) {N : ja_M} {T : Nat → Int} {n t p : Nat} {S : jw_S} (ht : tpok T n) (hb : bR N T n t) (h142 : N 142 t = (S.length : Int)) (hm : md N t 0 0 S) (hp : p ≤ n) (hS : 3 * S.length ≤ p) (hl : jw_len S ≤ p) : cOut N T n t S (wr_clause T n p) (ja_x true (dd + 61) 219 [jr 137] (atR (rM N t 0 (wflat S)) p)) := by
  have hn := ht.1
  have hs := sk_b (T := T) hp
  have ht5 := hb.2.2.2
  have hwl : (wflat S).length = jw_len S := wflat_len S
  have e14 : (atR (rM N t 0 (wflat S)) p) 137 14 = (t : Int) := hb.2.2.1
  have e4 : (atR (rM N t 0 (wflat S)) p) 137 4 = -1 := hb.2.1
  have e142 : (atR (rM N t 0 (wflat S)) p) 142 t = (S.length : Int) := h142
  have st := f_R_clause (dd + 60) (atR (rM N t 0 (wflat S)) p)
  rw [e14, if_pos (by omega), e4, if_pos rfl, js_R_look (dd + 58) (rM_tp hb.1) hn hp, jz_bI, show ((t : Int)).toNat = t from rfl, e142, ja_w_id (x := 90 * (t : Int)) (by omega) (by omega), ja_w_id (x := 90 * (t : Int) + (S.length : Int)) (by omega) (by omega), show 90 * (t : Int) + (S.length : Int) = ((90 * t + S.length : Nat) : Int) by omega] at st
  show cOut N T n t S _ (ja_x true (dd + 60 + 1) 219 [jr 137] (atR (rM N t 0 (wflat S)) p))
  rw [st]
  unfold wr_clause
  by_cases h1 : sg T n (sk T n p) = 121
  · have sq : sk T n p + 1 ≤ n := (sg_eq h1 (by decide)).1
    have hs2 := sk_b (T := T) (n := n) (p := sk T n p + 1) sq
    have e3 : (atR (rM N t 0 (wflat S)) (sk T n p)) 137 3 = (sk T n p : Int) := rfl
    have m4 : (ja_up (rM N t 0 (wflat S)) 137 3 ((sk T n p + 1 : Nat) : Int)) 137 4 = -1 := hb.2.1
    rw [if_pos ((sr_sg ht 121 (by decide)).mpr h1), if_pos h1, e_R_clause_21, e3, ja_w_id (by omega) (by omega), ja_up_up, show (sk T n p : Int) + 1 = ((sk T n p + 1 : Nat) : Int) by omega, m4, if_pos rfl, js_R_look (dd + 58) (p := sk T n p + 1) (rM_tp hb.1) hn sq, jz_bI]
    by_cases h2 : sg T n (sk T n (sk T n p + 1)) = 58
    · have sq2 : sk T n (sk T n p + 1) + 1 ≤ n := (sg_eq h2 (by decide)).1
      have e33 : (atR (rM N t 0 (wflat S)) (sk T n (sk T n p + 1))) 137 3 = (sk T n (sk T n p + 1) : Int) := rfl
      have n4 : (ja_up (rM N t 0 (wflat S)) 137 3 ((sk T n (sk T n p + 1) + 1 : Nat) : Int)) 137 4 = -1 := hb.2.1
      have n14 : (ja_up (rM N t 0 (wflat S)) 137 3 ((sk T n (sk T n p + 1) + 1 : Nat) : Int)) 137 14 = (t : Int) := hb.2.2.1
      have n141 : (ja_up (rM N t 0 (wflat S)) 137 3 ((sk T n (sk T n p + 1) + 1 : Nat) : Int)) 141 t = ((jw_len S : Nat) : Int) := by
        rw [← hwl]
        exact rM_len
      rw [if_pos ((sr_sg ht 58 (by decide)).mpr h2), if_pos h2, e_R_clause_37, e33, ja_w_id (by omega) (by omega), ja_up_up, show (sk T n (sk T n p + 1) : Int) + 1 = ((sk T n (sk T n p + 1) + 1 : Nat) : Int) by omega, n4, if_pos rfl, n14, if_pos (by omega), if_pos (by omega), show ((t : Int)).toNat = t from rfl, n141, show (((90 * t + S.length : Nat) : Int)).toNat = 90 * t + S.length from rfl, ja_up_cm (c := 137) (d := 143) (by omega), rM_up (by omega)]
      exact rw_body dd ht (hb.up (by omega)) ((jb_up_ne (by decide)).trans h142) (md_congr S 0 0 (fun i x y => by
        rw [jb_up_nej (by omega), jb_up_ne (by decide), jb_up_ne (by decide)]
        exact ⟨rfl, rfl, rfl⟩) hm) (by omega) jb_up_eq ((rF2.rf N t).up (by omega)) sq2 (by omega)
    · rw [if_neg (fun w => h2 ((sr_sg ht 58 (by decide)).mp w)), if_neg h2, js_R_bad (dd + 59) (N := rM N t 0 (wflat S)) hb.2.1, jz_bV]
      obtain ⟨N', g1, g2⟩ := js_R_37F (ja_x true (dd + 60)) (l := ((90 * t + S.length : Nat) : Int)) ((rM_f (d := 0) (p := sk T n (sk T n p + 1)) (f := sk T n (sk T n p + 1)) (K := 160) (cs := wflat S) hb (by omega) (by omega)).C (rF2.rf N t))
      exact cOut_f rfl g1 g2
  · rw [if_neg (fun w => h1 ((sr_sg ht 121 (by decide)).mp w)), if_neg h1, js_R_bad (dd + 59) (N := rM N t 0 (wflat S)) hb.2.1, jz_bV]
    obtain ⟨N', g1, g2⟩ := js_R_21F (ja_x true (dd + 60)) (l := ((90 * t + S.length : Nat) : Int)) ((rM_f (d := 0) (p := sk T n p) (f := sk T n p) (K := 160) (cs := wflat S) hb (by omega) (by omega)).C (rF2.rf N t))
    exact cOut_f rfl g1 g2
theorem js_R_atEndF (dd : Nat) {N : ja_M} {t f : Nat} {N' : ja_M} (h : fC N t f N') : ja_x true (dd + 1) 234 [jr 137] N' = some (some (ji (f : Int)), N') := by
  rw [f_R_atEnd, if_neg (fC_n h), h.1]
theorem rw_read_D (dd : Nat) {T : Nat → Int} {n t : Nat} (ht : tpok T n) : ∀ (m p : Nat) (S : jw_S) (N : ja_M), bR N T n t → N 142 t = (S.length : Int) → md N t 0 0 S → p ≤ n → n < p + m → wSok p S → ∃ N', ja_bV (ja_x true (dd + 61) 219 [jr 137] (atR (rM N t 0 (wflat S)) p)) (fun M2 => ja_D true (ja_x true (dd + 61)) k_R_readLaw 5 [some (jr 137), none] [] M2) = some (some (ji (wr_ans (wr_text T n m p S))), N') ∧ rF2 N t N' ∧ ∀ cs, (wr_text T n m p S).2 = some cs → ∃ N2 q, N' = atR (rM N2 t 0 (wflat cs)) q ∧ N2 142 t = (cs.length : Int) ∧ md N2 t 0 0 cs ∧ rF2 N t N2 := by
  intro m
  have hn := ht.1
  induction m with
  | zero =>
    intro p S N hb h142 hm hp hmm
    omega
  | succ m ih =>
    intro p S N hb h142 hm hp hmm ok
    obtain ⟨⟨c1, c2⟩, c3⟩ := wr_clause_ok (T := T) hp
    have hs := sk_b (T := T) c2
    obtain ⟨g1, g2⟩ := rw_clause dd ht hb h142 hm hp ok.2.1 ok.2.2.1
    cases e : (wr_clause T n p).2 with
    | none =>
      obtain ⟨N', k1, k2⟩ := g2 e
      rw [k1, jz_bV, e_R_readLaw_5, if_neg (fC_n k2), js_R_atEndF (dd + 60) k2, jz_bI, wr_text_n e]
      exact ⟨N', rfl, k2.2.2, fun cs h => by cases h⟩
    | some x =>
      obtain ⟨a, b⟩ := x
      obtain ⟨c4, c5, -⟩ := c3 a b e
      have ok2 := wSok_app hp ok e
      obtain ⟨N2, k1, k2, k3, k4, k5⟩ := g1 a b e
      have h4 : (atR (rM N2 t 0 (wflat (S ++ [(a, b)]))) (wr_clause T n p).1) 137 4 = -1 := k2.2.1
      have hlen : ((S ++ [(a, b)]).length : Int) = ((S.length + 1 : Nat) : Int) := by rw [List.length_append, List.length_singleton]
      have h4s : (atR (rM N2 t 0 (wflat (S ++ [(a, b)]))) (sk T n (wr_clause T n p).1)) 137 4 = -1 := k2.2.1
      rw [k1, jz_bV, e_R_readLaw_5, h4, if_pos rfl, js_R_look (dd + 59) (rM_tp k2.1) hn c2, jz_bI, wr_text_s e]
      have e3 : (atR (rM N2 t 0 (wflat (S ++ [(a, b)]))) (sk T n (wr_clause T n p).1)) 137 3 = (sk T n (wr_clause T n p).1 : Int) := rfl
      have fr : rF2 N t (atR (rM N2 t 0 (wflat (S ++ [(a, b)]))) (sk T n (wr_clause T n p).1)) := by
        have w2 := ok2.2.2.1
        have wl := wflat_len (S ++ [(a, b)])
        refine rF2.up (fun c i w x y z => ?_) (by omega)
        rw [rM_rF (N := N2) (t := t) (d := 0) (cs := wflat (S ++ [(a, b)])) (by omega) c i w x (fun q => y (by omega))]
        exact k5 c i w x y z
      by_cases q : n ≤ sk T n (wr_clause T n p).1
      · have ne : ¬ sr T n (sk T n (wr_clause T n p).1) = 59 := fun w => by
          have := (sr_n ht).mpr q
          omega
        rw [if_neg ne, if_pos q, f_R_atEnd (dd + 60), h4s, if_pos rfl, js_R_look (dd + 58) (rM_tp k2.1) hn hs.2, jz_bI, sk_i c2, if_pos ((sr_n ht).mpr q), h4s, jz_bI]
        exact ⟨_, rfl, fr, fun cs h => by
          have h2 : S ++ [(a, b)] = cs := by
            cases h
            rfl
          rw [← h2]
          exact ⟨N2, _, rfl, by rw [hlen]; exact k3, k4, k5⟩⟩
      · rw [if_neg q]
        by_cases q2 : sg T n (sk T n (wr_clause T n p).1) = 59
        · rw [if_pos ((sr_sg ht 59 (by decide)).mpr q2), if_pos q2, e3, ja_w_id (by omega) (by omega), ja_up_up]
          obtain ⟨N', y1, y2, y3⟩ := ih (sk T n (wr_clause T n p).1 + 1) (S ++ [(a, b)]) N2 k2 (by rw [hlen]; exact k3) k4 (by omega) (by omega) (wSok_mono ok2 (by omega))
          refine ⟨N', y1, k5.tr y2, fun cs h => ?_⟩
          obtain ⟨N3, r, z1, z2, z3, z4⟩ := y3 cs h
          exact ⟨N3, r, z1, z2, z3, k5.tr z4⟩
        · rw [if_neg (fun w => q2 ((sr_sg ht 59 (by decide)).mp w)), if_neg q2, f_R_atEnd (dd + 60), h4s, if_pos rfl, js_R_look (dd + 58) (rM_tp k2.1) hn hs.2, jz_bI, sk_i c2, if_neg (fun w => q ((sr_n ht).mp w)), js_R_bad (dd + 59) (N := rM N2 t 0 (wflat (S ++ [(a, b)]))) k2.2.1, jz_bV, jb_up_eq, jz_bI]
          exact ⟨_, rfl, fr.up (by omega), fun cs h => by cases h⟩
/-- the cells of a worth read by the other side -/
def rF3 (N : ja_M) (t : Nat) (N' : ja_M) : Prop := ∀ c i, ¬ (c = 137 ∧ (i = 3 ∨ i = 4 ∨ i = 5 ∨ i = 14)) → ¬ ((c = 139 ∨ c = 140) ∧ (340 * t ≤ i ∧ i < 340 * t + 340)) → ¬ ((c = 141 ∨ c = 142) ∧ i = t) → ¬ ((143 ≤ c ∧ c ≤ 145) ∧ (90 * t ≤ i ∧ i < 90 * t + 90)) → N' c i = N c i
theorem js_R_worth (dd : Nat) {M M1 : ja_M} {t : Nat} (hT : jT M) (tr : tpR M1 (M 3) (M 2 1).toNat) (ht5 : t < 5) : ∃ N', ja_x true (dd + 62) 217 [jr 137, ji (t : Int)] M1 = some (some (ji (wr_ans (wr_res M))), N') ∧ rF3 M1 t N' ∧ ∀ cs, (wr_res M).2 = some cs → ∃ N2 q, N' = atR (rM N2 t 0 (wflat cs)) q ∧ N2 142 t = (cs.length : Int) ∧ md N2 t 0 0 cs ∧ rF3 M1 t N2 := by
  obtain ⟨t1, t2⟩ := hT.tp
  have hb : bR (ja_up (ja_up (ja_up M1 137 14 (t : Int)) 137 4 (-1)) 142 t 0) (M 3) (M 2 1).toNat t := ⟨tr, rfl, rfl, ht5⟩
  obtain ⟨N', g1, g2, g3⟩ := rw_read_D dd t1 ((M 2 1).toNat + 1) 0 [] _ hb jb_up_eq trivial (Nat.zero_le _) (by omega) wSok_0
  have f0 : rF3 M1 t (ja_up (ja_up (ja_up M1 137 14 (t : Int)) 137 4 (-1)) 142 t 0) := fun c i w x y z => by
    rw [jz_up, if_neg (fun e => y (by omega)), jz_up, if_neg (fun e => w (by omega)), jz_up, if_neg (fun e => w (by omega))]
  have tr3 : ∀ N'', rF2 (ja_up (ja_up (ja_up M1 137 14 (t : Int)) 137 4 (-1)) 142 t 0) t N'' → rF3 M1 t N'' := fun N'' h c i w x y z => (h c i (fun e => w (by omega)) x y z).trans (f0 c i w x y z)
  refine ⟨N', ?_, tr3 N' g2, fun cs h => ?_⟩
  · have mem : ja_up (ja_up (ja_up (ja_up (ja_up (ja_up M1 137 14 (t : Int)) 137 3 0) 137 4 (-1)) 137 5 0) 141 t 0) 142 t 0 = atR (rM (ja_up (ja_up (ja_up M1 137 14 (t : Int)) 137 4 (-1)) 142 t 0) t 0 (wflat [])) 0 := by
      show _ = ja_up (rM _ t 0 []) 137 3 0
      rw [rM_0, ja_up_cm (c := 137) (i := 3) (d := 137) (j := 4) (by omega), ja_up_cm (c := 137) (i := 3) (d := 137) (j := 5) (by omega), ja_up_cm (c := 137) (i := 3) (d := 141) (by omega), ja_up_cm (c := 137) (i := 3) (d := 142) (by omega), ja_up_cm (c := 141) (d := 142) (by omega), ja_up_cm (c := 137) (i := 5) (d := 142) (by omega)]
    rw [f_R_readLaw, f_R_open (dd + 60), if_pos (by omega), if_pos (by omega), jz_bV, show ((t : Int)).toNat = t from rfl, mem]
    exact g1
  · obtain ⟨N2, q, z1, z2, z3, z4⟩ := g3 cs h
    exact ⟨N2, q, z1, z2, z3, tr3 N2 z4⟩
