/-! reading: worths, the other side's clause -/
def cOut (N : ja_M) (T : Nat → Int) (n t : Nat) (S : jw_S) (r : wC) (X : Option ja_R) : Prop := (∀ t' s', r.2 = some (t', s') → ∃ N2, X = some (none, atR (rM N2 t 0 (wflat (S ++ [(t', s')]))) r.1) ∧ bR N2 T n t ∧ N2 142 t = ((S.length + 1 : Nat) : Int) ∧ md N2 t 0 0 (S ++ [(t', s')]) ∧ rF2 N t N2) ∧ (r.2 = none → ∃ N', X = some (none, N') ∧ fC N t r.1 N')
theorem rw_fin (E : ja_E) {N N2 : ja_M} {T : Nat → Int} {n t q : Nat} {S : jw_S} {a b : jw_C} (hb : bR N2 T n t) (h142 : N2 142 t = (S.length : Int)) (hm : md N2 t 0 0 S) (hK : S.length < 90) (h3 : N2 143 (90 * t + S.length) = ((jw_len S : Nat) : Int)) (h4 : N2 144 (90 * t + S.length) = ((jw_len S + a.length : Nat) : Int)) (hf : rF2 N t N2) : ∃ N3, ja_D true E k_R_clause 134 [some (jr 137), some (ji ((90 * t + S.length : Nat) : Int)), none] [] (atR (rM N2 t 0 (wflat S ++ (a ++ b))) q) = some (none, atR (rM N3 t 0 (wflat (S ++ [(a, b)]))) q) ∧ bR N3 T n t ∧ N3 142 t = ((S.length + 1 : Nat) : Int) ∧ md N3 t 0 0 (S ++ [(a, b)]) ∧ rF2 N t N3 := by
  have e14 : (atR (rM N2 t 0 (wflat S ++ (a ++ b))) q) 137 14 = (t : Int) := hb.2.2.1
  have e142 : (atR (rM N2 t 0 (wflat S ++ (a ++ b))) q) 142 t = (S.length : Int) := h142
  have hl : (wflat S ++ (a ++ b)).length = jw_len S + a.length + b.length := by
    rw [List.length_append, List.length_append, wflat_len]
    omega
  refine ⟨ja_up (ja_up N2 145 (90 * t + S.length) ((jw_len S + a.length + b.length : Nat) : Int)) 142 t ((S.length : Int) + 1), ?_, (hb.up (by omega)).up (by omega), ?_, ?_, (hf.up (by omega)).up (by omega)⟩
  · rw [js_R_134 E e14 hb.2.2.2 hK rM_len e142 (by omega), hl, wflat_app, ja_up_cm (c := 137) (d := 145) (by omega), rM_up (by omega), ja_up_cm (c := 137) (d := 142) (by omega), rM_up (by omega)]
  · rw [jb_up_eq]
    omega
  · refine md_app S 0 0 (md_congr S 0 0 (fun i x y => ?_) hm) ?_
    · rw [jb_up_ne (by decide), jb_up_ne (by decide), jb_up_ne (by decide), jb_up_ne (by decide), jb_up_ne (by decide), jb_up_nej (by omega)]
      exact ⟨rfl, rfl, rfl⟩
    · rw [Nat.zero_add, Nat.zero_add, jb_up_ne (by decide), jb_up_ne (by decide), jb_up_ne (by decide), jb_up_ne (by decide), jb_up_ne (by decide), jb_up_eq]
      exact ⟨h3, h4, rfl⟩
theorem rw_tail (dd : Nat) {N N1 : ja_M} {T : Nat → Int} {n t q : Nat} {S : jw_S} {a : jw_C} (ht : tpok T n) (hb : bR N1 T n t) (h142 : N1 142 t = (S.length : Int)) (hm : md N1 t 0 0 S) (hK : S.length < 90) (h3 : N1 143 (90 * t + S.length) = ((jw_len S : Nat) : Int)) (hf : rF2 N t N1) (hq : q ≤ n) (hl : jw_len S + a.length ≤ q) : cOut N T n t S (wr_tl T n (q, some a)) (ja_D true (ja_x true (dd + 60)) k_R_clause 96 [some (jr 137), some (ji ((90 * t + S.length : Nat) : Int)), some (ji 1)] [] (atR (rM N1 t 0 (wflat S ++ a)) q)) := by
  have hn := ht.1
  have hs := sk_b (T := T) hq
  have ht5 := hb.2.2.2
  have e143 : (atR (rM N1 t 0 (wflat S ++ a)) q) 143 (90 * t + S.length) = ((jw_len S : Nat) : Int) := h3
  have st := e_R_clause_96 (ja_x true (dd + 60)) ((90 * t + S.length : Nat) : Int) 1 (atR (rM N1 t 0 (wflat S ++ a)) q)
  rw [if_pos (by omega), if_pos (by omega), if_neg (by decide), show (((90 * t + S.length : Nat) : Int)).toNat = 90 * t + S.length from rfl, e143, ja_up_cm (c := 137) (d := 144) (by omega), rM_up (by omega)] at st
  have hb2 : bR (ja_up N1 144 (90 * t + S.length) ((jw_len S : Nat) : Int)) T n t := hb.up (by omega)
  have e4 : (ja_up (rM (ja_up N1 144 (90 * t + S.length) ((jw_len S : Nat) : Int)) t 0 (wflat S ++ a)) 137 3 (q : Int)) 137 4 = -1 := hb2.2.1
  rw [e4, if_pos rfl, js_R_look (dd + 58) (rM_tp hb2.1) hn hq, jz_bI] at st
  have hla : (wflat S ++ a).length = jw_len S + a.length := by rw [List.length_append, wflat_len]
  by_cases c : sg T n (sk T n q) = 63
  · have sq := (sg_eq c (by decide)).1
    have e3 : (atR (rM (ja_up N1 144 (90 * t + S.length) ((jw_len S : Nat) : Int)) t 0 (wflat S ++ a)) (sk T n q)) 137 3 = (sk T n q : Int) := rfl
    have m14 : (ja_up (rM (ja_up N1 144 (90 * t + S.length) ((jw_len S : Nat) : Int)) t 0 (wflat S ++ a)) 137 3 ((sk T n q + 1 : Nat) : Int)) 137 14 = (t : Int) := hb2.2.2.1
    have m141 : (ja_up (rM (ja_up N1 144 (90 * t + S.length) ((jw_len S : Nat) : Int)) t 0 (wflat S ++ a)) 137 3 ((sk T n q + 1 : Nat) : Int)) 141 t = ((jw_len S + a.length : Nat) : Int) := by
      rw [← hla]
      exact rM_len
    rw [if_pos ((sr_sg ht 63 (by decide)).mpr c), e3, ja_w_id (by omega) (by omega), ja_up_up, show (sk T n q : Int) + 1 = ((sk T n q + 1 : Nat) : Int) by omega, m14, if_pos (by omega), if_pos (by omega), show ((t : Int)).toNat = t from rfl, m141, ja_up_cm (c := 137) (d := 144) (by omega), rM_up (by omega), ja_up_up] at st
    have hb3 : bR (ja_up N1 144 (90 * t + S.length) ((jw_len S + a.length : Nat) : Int)) T n t := hb.up (by omega)
    have f3 : rF2 N t (ja_up N1 144 (90 * t + S.length) ((jw_len S + a.length : Nat) : Int)) := hf.up (by omega)
    have hi := rw_sum (t := t) ht 6 0 (dd + 36) rfl
    obtain ⟨i1, i2⟩ := hi _ (sk T n q + 1) (wflat S ++ a) hb3 sq (by omega)
    rw [wr_tl_y (r := (q, some a)) rfl c]
    cases es : (wr_sum T n 6 (sk T n q + 1)).2 with
    | none =>
      obtain ⟨N', k1, k2⟩ := i2 es
      have k1 : ja_x true (dd + 60) 225 [jr 137] (ja_up (rM (ja_up N1 144 (90 * t + S.length) ((jw_len S + a.length : Nat) : Int)) t 0 (wflat S ++ a)) 137 3 ((sk T n q + 1 : Nat) : Int)) = _ := k1
      obtain ⟨N2, k3, k4⟩ := js_R_134F (ja_x true (dd + 60)) (k2.C f3) ht5 hK
      rw [k1, jz_bV, k3] at st
      refine ⟨fun t' s' h => ?_, fun _ => ⟨N2, st, k4⟩⟩
      cases h
    | some b =>
      have k1 := i1 b es
      have k1 : ja_x true (dd + 60) 225 [jr 137] (ja_up (rM (ja_up N1 144 (90 * t + S.length) ((jw_len S + a.length : Nat) : Int)) t 0 (wflat S ++ a)) 137 3 ((sk T n q + 1 : Nat) : Int)) = _ := k1
      obtain ⟨N3, k3, k4⟩ := rw_fin (ja_x true (dd + 60)) (q := (wr_sum T n 6 (sk T n q + 1)).1) (a := a) (b := b) (S := S) hb3 ((jb_up_ne (by decide)).trans h142) (md_congr S 0 0 (fun i x y => by
        rw [jb_up_ne (by decide), jb_up_nej (by omega), jb_up_ne (by decide)]
        exact ⟨rfl, rfl, rfl⟩) hm) hK ((jb_up_ne (by decide)).trans h3) jb_up_eq f3
      rw [k1, jz_bV, List.append_assoc, k3] at st
      refine ⟨fun t' s' h => ?_, fun h => ?_⟩
      · have h2 : a = t' ∧ b = s' := by
          cases h
          exact ⟨rfl, rfl⟩
        obtain ⟨rfl, rfl⟩ := h2
        exact ⟨N3, st, k4⟩
      · cases h
  · rw [if_neg (fun w => c ((sr_sg ht 63 (by decide)).mp w)), js_R_bad (dd + 59) (N := rM (ja_up N1 144 (90 * t + S.length) ((jw_len S : Nat) : Int)) t 0 (wflat S ++ a)) hb2.2.1, jz_bV] at st
    rw [wr_tl_f (r := (q, some a)) rfl c]
    refine ⟨fun t' s' h => (by cases h), fun _ => ⟨_, st, ?_⟩⟩
    exact (rM_f (K := 160) hb2 (by omega) (by omega)).C (hf.up (by omega))
