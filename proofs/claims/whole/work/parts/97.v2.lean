/-! a hunt taken: the other side -/
def jTk (M N : ja_M) : Prop := ∀ c i, ¬ (151 ≤ c ∧ c ≤ 155) → ¬ (c = 137 ∧ ((27 ≤ i ∧ i ≤ 30) ∨ i = 35 ∨ i = 43 ∨ i = 57)) → N c i = M c i
theorem jTk.up {M N : ja_M} (h : jTk M N) {c i : Nat} {v : Int} (q : (151 ≤ c ∧ c ≤ 155) ∨ (c = 137 ∧ ((27 ≤ i ∧ i ≤ 30) ∨ i = 35 ∨ i = 43 ∨ i = 57))) : jTk M (ja_up N c i v) := fun d j x y => by
  have : ¬ (d = c ∧ j = i) := fun e => by
    obtain ⟨rfl, rfl⟩ := e
    rcases q with q | q
    · exact x q
    · exact y q
  rw [jz_up, if_neg this]
  exact h d j x y
theorem js_takeHunt (dd : Nat) {M : ja_M} {P : Nat} (hP : M 137 20 = (P : Int)) (h1 : 2 ≤ P ∧ P ≤ 6) : ∃ N, ja_x true (dd + 1) 236 [jr 137] M = some (some (ji (M 137 21)), N) ∧ jTk M N ∧ (N 137 27 = M 137 20 ∧ N 137 28 = M 137 21 ∧ N 137 29 = M 137 22 ∧ N 137 30 = M 137 23) ∧ (N 137 35 = 0 ∧ N 137 43 = 0 ∧ N 137 57 = 0) ∧ (∀ j, j < 6 → N 151 j = M 148 j ∧ N 152 j = M 149 j) ∧ (∀ j, j < 6 → N 153 j = M 150 j ∧ N 155 j = 0) ∧ ∀ b t : Nat, b < 6 → t < 6 → N 154 (6 * b + t) = hv_o P b t := by
  have row : ∀ (b : Nat), b < 6 → ∀ (m t : Nat) (N : ja_M), t + m = 6 → N 137 27 = (P : Int) → (∀ b' t' : Nat, b' < 6 → t' < 6 → (b' < b ∨ (b' = b ∧ t' < t)) → N 154 (6 * b' + t') = hv_o P b' t') → ∃ N', ja_D true (ja_x true dd) k_R_takeHunt 59 [some (jr 137), some (ji (b : Int)), some (ji (t : Int))] [] N = ja_D true (ja_x true dd) k_R_takeHunt 41 [some (jr 137), some (ji ((b + 1 : Nat) : Int)), none] [] N' ∧ (∀ c i, c ≠ 154 → N' c i = N c i) ∧ ∀ b' t' : Nat, b' < 6 → t' < 6 → b' < b + 1 → N' 154 (6 * b' + t') = hv_o P b' t' := by
    intro b hb m
    induction m with
    | zero =>
      intro t N e h27 ho
      refine ⟨N, ?_, fun _ _ _ => rfl, fun b' t' x y z => ho b' t' x y (by omega)⟩
      rw [e_R_takeHunt_59, if_neg (by omega), ja_w_id (by omega) (by omega)]
      rfl
    | succ m ih =>
      intro t N e h27 ho
      obtain ⟨N', g1, g2, g3⟩ := ih (t + 1) (ja_up N 154 (6 * b + t) (hv_o P b t)) (by omega) ((jb_up_ne (by decide)).trans h27) (fun b' t' x1 x2 x3 => by
        by_cases z : 6 * b' + t' = 6 * b + t
        · rw [z, jb_up_eq, show b' = b by omega, show t' = t by omega]
        · rw [jb_up_nej z]
          exact ho b' t' x1 x2 (by omega))
      refine ⟨N', ?_, fun c i hc => (g2 c i hc).trans (jb_up_ne hc), g3⟩
      rw [e_R_takeHunt_59, if_pos (by omega), h27, jz_is0 (by omega), cond_false, ja_w_id (x := 6 * (b : Int)) (by omega) (by omega), ja_w_id (x := 6 * (b : Int) + (t : Int)) (by omega) (by omega), if_pos (by omega), ja_w_id (x := (t : Int) + 1) (by omega) (by omega), ja_w_id (x := (t : Int) + (b : Int)) (by omega) (by omega), show (6 * (b : Int) + (t : Int)).toNat = 6 * b + t by omega]
      exact g1
  have bands : ∀ (m b : Nat) (N : ja_M), b + m = 6 → jTk M N → (N 137 27 = M 137 20 ∧ N 137 28 = M 137 21 ∧ N 137 29 = M 137 22 ∧ N 137 30 = M 137 23) → (∀ j, j < 6 → N 151 j = M 148 j ∧ N 152 j = M 149 j) → (∀ j, j < b → N 153 j = M 150 j ∧ N 155 j = 0) → (∀ b' t' : Nat, b' < 6 → t' < 6 → b' < b → N 154 (6 * b' + t') = hv_o P b' t') → ∃ N', ja_D true (ja_x true dd) k_R_takeHunt 41 [some (jr 137), some (ji (b : Int)), none] [] N = some (some (ji (M 137 21)), N') ∧ jTk M N' ∧ (N' 137 27 = M 137 20 ∧ N' 137 28 = M 137 21 ∧ N' 137 29 = M 137 22 ∧ N' 137 30 = M 137 23) ∧ (N' 137 35 = 0 ∧ N' 137 43 = 0 ∧ N' 137 57 = 0) ∧ (∀ j, j < 6 → N' 151 j = M 148 j ∧ N' 152 j = M 149 j) ∧ (∀ j, j < 6 → N' 153 j = M 150 j ∧ N' 155 j = 0) ∧ ∀ b t : Nat, b < 6 → t < 6 → N' 154 (6 * b + t) = hv_o P b t := by
    intro m
    induction m with
    | zero =>
      intro b N e hf h4 hp hb ho
      refine ⟨ja_up (ja_up (ja_up N 137 43 0) 137 35 0) 137 57 0, ?_, ((hf.up (by omega)).up (by omega)).up (by omega), h4, ⟨rfl, rfl, rfl⟩, hp, fun j hj => hb j (by omega), fun b' t' x y => ho b' t' x y (by omega)⟩
      rw [e_R_takeHunt_41, if_neg (by omega), show (ja_up (ja_up (ja_up N 137 43 0) 137 35 0) 137 57 0) 137 28 = M 137 21 from h4.2.1]
    | succ m ih =>
      intro b N e hf h4 hp hb ho
      have h150 : N 150 b = M 150 b := hf 150 b (by omega) (by omega)
      have st := e_R_takeHunt_41 (ja_x true dd) (b : Int) N
      rw [if_pos (by omega), if_pos (by omega), if_pos (by omega), if_pos (by omega), show ((b : Int)).toNat = b from rfl] at st
      obtain ⟨N1, g1, g2, g3⟩ := row b (by omega) 6 0 (ja_up (ja_up N 153 b (N 150 b)) 155 b 0) (by omega) (h4.1.trans hP) (fun b' t' x y z => ho b' t' x y (by omega))
      have k : ∀ c i, c ≠ 154 → c ≠ 153 → c ≠ 155 → N1 c i = N c i := fun c i x y z => ((g2 c i x).trans (jb_up_ne z)).trans (jb_up_ne y)
      obtain ⟨N', k1, k2⟩ := ih (b + 1) N1 (by omega) (fun c i x y => (k c i (fun e => x (by omega)) (fun e => x (by omega)) (fun e => x (by omega))).trans (hf c i x y)) (by
        rw [k 137 27 (by decide) (by decide) (by decide), k 137 28 (by decide) (by decide) (by decide), k 137 29 (by decide) (by decide) (by decide), k 137 30 (by decide) (by decide) (by decide)]
        exact h4) (fun j hj => by
        rw [k 151 j (by decide) (by decide) (by decide), k 152 j (by decide) (by decide) (by decide)]
        exact hp j hj) (fun j hj => by
        rw [g2 153 j (by decide), g2 155 j (by decide), jb_up_ne (by decide)]
        by_cases z : j = b
        · rw [z, jb_up_eq, jb_up_eq]
          exact ⟨h150, rfl⟩
        · rw [jb_up_nej z, jb_up_nej z, jb_up_ne (by decide)]
          exact hb j (by omega)) g3
      exact ⟨N', st.trans (g1.trans k1), k2⟩
  have places : ∀ (m b : Nat) (N : ja_M), b + m = 6 → jTk M N → (N 137 27 = M 137 20 ∧ N 137 28 = M 137 21 ∧ N 137 29 = M 137 22 ∧ N 137 30 = M 137 23) → (∀ j, j < b → N 151 j = M 148 j ∧ N 152 j = M 149 j) → ∃ N', ja_D true (ja_x true dd) k_R_takeHunt 18 [some (jr 137), some (ji (b : Int)), none] [] N = some (some (ji (M 137 21)), N') ∧ jTk M N' ∧ (N' 137 27 = M 137 20 ∧ N' 137 28 = M 137 21 ∧ N' 137 29 = M 137 22 ∧ N' 137 30 = M 137 23) ∧ (N' 137 35 = 0 ∧ N' 137 43 = 0 ∧ N' 137 57 = 0) ∧ (∀ j, j < 6 → N' 151 j = M 148 j ∧ N' 152 j = M 149 j) ∧ (∀ j, j < 6 → N' 153 j = M 150 j ∧ N' 155 j = 0) ∧ ∀ b t : Nat, b < 6 → t < 6 → N' 154 (6 * b + t) = hv_o P b t := by
    intro m
    induction m with
    | zero =>
      intro b N e hf h4 hp
      obtain ⟨N', g1, g2⟩ := bands 6 0 N (by omega) hf h4 (fun j hj => hp j (by omega)) (fun j hj => absurd hj (Nat.not_lt_zero _)) (fun b' t' _ _ z => absurd z (Nat.not_lt_zero _))
      refine ⟨N', ?_, g2⟩
      rw [e_R_takeHunt_18, if_neg (by omega)]
      exact g1
    | succ m ih =>
      intro b N e hf h4 hp
      have h148 : N 148 b = M 148 b := hf 148 b (by omega) (by omega)
      have h149 : N 149 b = M 149 b := hf 149 b (by omega) (by omega)
      have st := e_R_takeHunt_18 (ja_x true dd) (b : Int) N
      rw [if_pos (by omega), if_pos (by omega), if_pos (by omega), if_pos (by omega), if_pos (by omega), show ((b : Int)).toNat = b from rfl, ja_w_id (by omega) (by omega)] at st
      obtain ⟨N', g1, g2⟩ := ih (b + 1) (ja_up (ja_up N 151 b (N 148 b)) 152 b ((ja_up N 151 b (N 148 b)) 149 b)) (by omega) ((hf.up (by omega)).up (by omega)) h4 (fun j hj => by
        rw [jb_up_ne (c := 152) (d := 151) (by decide)]
        by_cases z : j = b
        · rw [z, jb_up_eq, jb_up_eq]
          exact ⟨h148, h149⟩
        · rw [jb_up_nej z, jb_up_nej z, jb_up_ne (by decide)]
          exact hp j (by omega))
      exact ⟨N', st.trans g1, g2⟩
  have f0 : jTk M M := fun _ _ _ _ => rfl
  obtain ⟨N', g1, g2⟩ := places 6 0 (ja_up (ja_up (ja_up (ja_up M 137 27 (M 137 20)) 137 28 (M 137 21)) 137 29 (M 137 22)) 137 30 (M 137 23)) (by omega) ((((f0.up (by omega)).up (by omega)).up (by omega)).up (by omega)) ⟨rfl, rfl, rfl, rfl⟩ (fun j hj => absurd hj (Nat.not_lt_zero _))
  exact ⟨N', (f_R_takeHunt _ _).trans g1, g2⟩
