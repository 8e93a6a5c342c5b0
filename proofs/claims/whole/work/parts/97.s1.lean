/-! helpers: the other side's search in depth -/
def mt_mu (V N : ja_M) : Nat → Int := fun j => if V 168 j = 0 then N 167 j else -1
theorem mt_mu0 {V N : ja_M} {j : Nat} (h : V 168 j = 0) : mt_mu V N j = N 167 j := if_pos h
theorem mt_mu1 {V N : ja_M} {j : Nat} (h : V 168 j ≠ 0) : mt_mu V N j = -1 := if_neg h
theorem mt_mun {V N : ja_M} {j : Nat} (h : mt_mu V N j ≠ -1) : V 168 j = 0 := by
  by_cases q : V 168 j = 0
  · exact q
  · exact absurd (mt_mu1 q) h
def jF167 (M N : ja_M) : Prop := ∀ c i, c ≠ 167 → c ≠ 168 → N c i = M c i
theorem js_R_match {E : Nat → Nat → Bool} {n : Nat} {N0 : ja_M} (hn : n ≤ 36) (hE : ∀ a j, a < n → j < n → (N0 166 (36 * a + j) = 0 ↔ E a j = false)) (h51 : N0 137 51 = (n : Int)) (dd : Nat) : ∀ (u a : Nat) (N : ja_M) (L : List Nat), a < n → a ∉ L → (∀ x ∈ L, x < n) → jF167 N0 N → jv_cnt (fun j => decide (N 168 j = 0)) n ≤ (u : Int) → mt_ok E n (mt_mu N N) L → ∃ (r : Int) (N' : ja_M), ja_x true (dd + u + 1) 294 [jr 137, ji (a : Int)] N = some (some (ji r), N') ∧ jF167 N0 N' ∧ (∀ i, N 168 i ≠ 0 → N' 168 i ≠ 0 ∧ N' 167 i = N 167 i) ∧ ((r = 1 ∧ mt_ok E n (mt_mu N N') (a :: L)) ∨ (r = 0 ∧ (∀ i, N' 167 i = N 167 i) ∧ (∀ i, i < n → E a i = true → N' 168 i ≠ 0) ∧ ∀ i, i < n → N 168 i = 0 → N' 168 i ≠ 0 → N 167 i ≠ -1 ∧ ∀ x, x < n → E (N 167 i).toNat x = true → N' 168 x ≠ 0)) := by
  intro u
  induction u with
  | zero =>
    intro a N L ha haL hL hf hu hok
    have allm : ∀ j, j < n → N 168 j ≠ 0 := fun j hj z => by
      have := jv_cnt_pos (f := fun j => decide (N 168 j = 0)) (p := j) (decide_eq_true z) hj
      omega
    have loop : ∀ (k j : Nat), j + k = n → ja_D true (ja_x true (dd + 0)) k_R_match 2 [some (jr 137), some (ji (a : Int)), some (ji (j : Int))] [] N = some (some (ji 0), N) := by
      intro k
      induction k with
      | zero =>
        intro j e
        rw [e_R_match_2, hf 137 51 (by decide) (by decide), h51, if_neg (by omega)]
      | succ k ih =>
        intro j e
        have hj := ih (j + 1) (by omega)
        rw [e_R_match_2, hf 137 51 (by decide) (by decide), h51, if_pos (by omega), ja_w_id (x := 36 * (a : Int)) (by omega) (by omega), ja_w_id (x := 36 * (a : Int) + (j : Int)) (by omega) (by omega), if_pos (by omega), ja_w_id (x := (j : Int) + 1) (by omega) (by omega), show (j : Int) + 1 = ((j + 1 : Nat) : Int) by omega, hj, if_pos (show 0 ≤ (j : Int) ∧ (j : Int) < 36 by omega), show ((j : Int)).toNat = j from rfl, if_neg (allm j (by omega))]
        split <;> rfl
    refine ⟨0, N, (f_R_match _ _ _).trans (loop n 0 (by omega)), hf, fun i h => ⟨h, rfl⟩, Or.inr ⟨rfl, fun _ => rfl, fun i hi _ => allm i hi, fun i hi z => absurd z (allm i hi)⟩⟩
  | succ u ih =>
    intro a N L ha haL hL hf hu hok
    have loop : ∀ (k j : Nat) (N1 : ja_M), j + k = n → jF167 N0 N1 → (∀ i, N1 167 i = N 167 i) → (∀ i, N 168 i ≠ 0 → N1 168 i ≠ 0) → (∀ i, i < j → E a i = true → N1 168 i ≠ 0) → (∀ i, i < n → N 168 i = 0 → N1 168 i ≠ 0 → N 167 i ≠ -1 ∧ ∀ x, x < n → E (N 167 i).toNat x = true → N1 168 x ≠ 0) → jv_cnt (fun j => decide (N1 168 j = 0)) n ≤ ((u + 1 : Nat) : Int) → ∃ (r : Int) (N' : ja_M), ja_D true (ja_x true (dd + (u + 1))) k_R_match 2 [some (jr 137), some (ji (a : Int)), some (ji (j : Int))] [] N1 = some (some (ji r), N') ∧ jF167 N0 N' ∧ (∀ i, N 168 i ≠ 0 → N' 168 i ≠ 0 ∧ N' 167 i = N 167 i) ∧ ((r = 1 ∧ mt_ok E n (mt_mu N N') (a :: L)) ∨ (r = 0 ∧ (∀ i, N' 167 i = N 167 i) ∧ (∀ i, i < n → E a i = true → N' 168 i ≠ 0) ∧ ∀ i, i < n → N 168 i = 0 → N' 168 i ≠ 0 → N 167 i ≠ -1 ∧ ∀ x, x < n → E (N 167 i).toNat x = true → N' 168 x ≠ 0)) := by
      intro k
      induction k with
      | zero =>
        intro j N1 e f1 m1 g1 d1 c1 u1
        refine ⟨0, N1, ?_, f1, fun i h => ⟨g1 i h, m1 i⟩, Or.inr ⟨rfl, m1, fun i hi => d1 i (by omega), c1⟩⟩
        rw [e_R_match_2, f1 137 51 (by decide) (by decide), h51, if_neg (by omega)]
      | succ k ihk =>
        intro j N1 e f1 m1 g1 d1 c1 u1
        have hj : j < n := by omega
        have hst := e_R_match_2 (ja_x true (dd + (u + 1))) (a : Int) (j : Int) N1
        have b36 : 0 ≤ (j : Int) ∧ (j : Int) < 36 := by omega
        rw [f1 137 51 (by decide) (by decide), h51, if_pos (by omega), ja_w_id (x := 36 * (a : Int)) (by omega) (by omega), ja_w_id (x := 36 * (a : Int) + (j : Int)) (by omega) (by omega), if_pos (by omega), ja_w_id (x := (j : Int) + 1) (by omega) (by omega), show (j : Int) + 1 = ((j + 1 : Nat) : Int) by omega, show (36 * (a : Int) + (j : Int)).toNat = 36 * a + j by omega, f1 166 _ (by decide) (by decide), show ((j : Int)).toNat = j from rfl] at hst
        by_cases eE : E a j = true
        · have e0 : N0 166 (36 * a + j) ≠ 0 := fun z => by
            rw [(hE a j ha hj).mp z] at eE
            cases eE
          rw [if_neg e0, if_pos b36] at hst
          by_cases mk : N1 168 j = 0
          · have nmk : N 168 j = 0 := by
              by_cases q : N 168 j = 0
              · exact q
              · exact absurd mk (g1 j q)
            rw [if_pos mk, if_pos b36, if_pos b36, jb_up_ne (by decide), m1 j] at hst
            by_cases fr : N 167 j = -1
            · rw [if_pos fr, if_pos b36] at hst
              refine ⟨1, _, hst, fun c i x y => ?_, fun i h => ?_, Or.inl ⟨rfl, ?_⟩⟩
              · rw [jb_up_ne x, jb_up_ne y]
                exact f1 c i x y
              · have hij : i ≠ j := fun z => h (z ▸ nmk)
                refine ⟨?_, ?_⟩
                · rw [jb_up_ne (by decide), jb_up_nej hij]
                  exact g1 i h
                · rw [jb_up_nej hij, jb_up_ne (by decide)]
                  exact m1 i
              · have v : ∀ i, mt_mu N (ja_up (ja_up N1 168 j 1) 167 j (a : Int)) i = if i = j then (a : Int) else mt_mu N N i := fun i => by
                  by_cases z : i = j
                  · subst z
                    rw [mt_mu0 nmk, jb_up_eq, if_pos rfl]
                  · rw [if_neg z]
                    by_cases q : N 168 i = 0
                    · rw [mt_mu0 q, mt_mu0 q, jb_up_nej z, jb_up_ne (by decide)]
                      exact m1 i
                    · rw [mt_mu1 q, mt_mu1 q]
                have inL : ∀ i, i < n → mt_mu N N i ≠ (a : Int) := fun i hi z => by
                  rcases hok.1 i hi with y | ⟨x, y1, y2, -⟩
                  · omega
                  · exact haL (by rw [show a = x by omega]; exact y2)
                refine ⟨fun i hi => ?_, fun x hx => ?_, fun i i' hi hi' q q' => ?_⟩
                · rw [v]
                  by_cases z : i = j
                  · subst z
                    rw [if_pos rfl]
                    exact Or.inr ⟨a, rfl, List.mem_cons_self .., eE⟩
                  · rw [if_neg z]
                    rcases hok.1 i hi with y | ⟨x, y1, y2, y3⟩
                    · exact Or.inl y
                    · exact Or.inr ⟨x, y1, List.mem_cons_of_mem _ y2, y3⟩
                · rcases List.mem_cons.mp hx with rfl | hx
                  · exact ⟨j, hj, by rw [v, if_pos rfl]⟩
                  · obtain ⟨i, i1, i2⟩ := hok.2.1 x hx
                    refine ⟨i, i1, ?_⟩
                    rw [v, if_neg (fun z => ?_)]
                    · exact i2
                    · subst z
                      rw [mt_mu0 nmk] at i2
                      omega
                · rw [v, v] at q
                  rw [v] at q'
                  by_cases z : i = j
                  · by_cases z' : i' = j
                    · omega
                    · rw [if_pos z, if_neg z'] at q
                      exact absurd q.symm (inL i' hi')
                  · by_cases z' : i' = j
                    · rw [if_neg z, if_pos z'] at q
                      exact absurd q (inL i hi)
                    · rw [if_neg z, if_neg z'] at q
                      rw [if_neg z] at q'
                      exact hok.2.2 i i' hi hi' q q'
            · rw [if_neg fr, if_pos b36] at hst
              have mj : mt_mu N N j = N 167 j := mt_mu0 nmk
              obtain ⟨b, bj, bL, bE⟩ : ∃ b : Nat, N 167 j = (b : Int) ∧ b ∈ L ∧ E b j = true := by
                rcases hok.1 j hj with y | ⟨x, y1, y2, y3⟩
                · exact absurd (mj.symm.trans y) fr
                · exact ⟨x, mj.symm.trans y1, y2, y3⟩
              have P2 : ∀ x : Nat, Decidable (∃ i, i < n ∧ (ja_up N1 168 j 1) 168 i = 0 ∧ N 167 i = (x : Int)) := fun _ => Classical.propDecidable _
              have k168 : ∀ i, (ja_up N1 168 j 1) 168 i = 0 → N 168 i = 0 ∧ i ≠ j := fun i z => by
                by_cases y : i = j
                · subst y
                  rw [jb_up_eq] at z
                  omega
                · rw [jb_up_nej y] at z
                  refine ⟨?_, y⟩
                  by_cases q : N 168 i = 0
                  · exact q
                  · exact absurd z (g1 i q)
              have m2 : ∀ i, (ja_up N1 168 j 1) 167 i = N 167 i := fun i => (jb_up_ne (by decide)).trans (m1 i)
              have f2 : jF167 N0 (ja_up N1 168 j 1) := fun c i x y => (jb_up_ne y).trans (f1 c i x y)
              have g2 : ∀ i, N1 168 i ≠ 0 → (ja_up N1 168 j 1) 168 i ≠ 0 := fun i h z => by
                by_cases y : i = j
                · subst y
                  rw [jb_up_eq] at z
                  omega
                · rw [jb_up_nej y] at z
                  exact h z
              have j2 : (ja_up N1 168 j 1) 168 j ≠ 0 := by
                rw [jb_up_eq]
                decide
              have u2 : jv_cnt (fun i => decide ((ja_up N1 168 j 1) 168 i = 0)) n ≤ (u : Int) := by
                have e1 := jv_cnt_less (f := fun i => decide (N1 168 i = 0)) (p := j) (decide_eq_true mk) n
                rw [if_pos hj] at e1
                rw [jv_cnt_congr n (q := fun i => decide (N1 168 i = 0) && !(i == j)) (fun i _ => by
                  by_cases y : i = j
                  · subst y
                    rw [jb_up_eq]
                    simp
                  · rw [jb_up_nej y]
                    simp [y]), e1]
                omega
              have n2e : ∀ i, i ≠ j → N1 168 i = (ja_up N1 168 j 1) 168 i := fun i w => (jb_up_nej w).symm
              generalize ja_up N1 168 j 1 = N2 at hst P2 k168 m2 f2 g2 j2 u2 n2e
              have ok2 : mt_ok E n (mt_mu N2 N2) (L.filter (fun x => @decide _ (P2 x))) := by
                refine ⟨fun i hi => ?_, fun x hx => ?_, fun i i' hi hi' q q' => ?_⟩
                · by_cases z : N2 168 i = 0
                  · have z1 := k168 i z
                    have y0 := hok.1 i hi
                    rw [mt_mu0 z1.1] at y0
                    rw [mt_mu0 z, m2 i]
                    rcases y0 with y | ⟨x, y1, y2, y3⟩
                    · exact Or.inl y
                    · exact Or.inr ⟨x, y1, List.mem_filter.mpr ⟨y2, @decide_eq_true _ (P2 x) ⟨i, hi, z, y1⟩⟩, y3⟩
                  · exact Or.inl (mt_mu1 z)
                · obtain ⟨x1, x2⟩ := List.mem_filter.mp hx
                  obtain ⟨i, i1, i2, i3⟩ := @of_decide_eq_true _ (P2 x) x2
                  exact ⟨i, i1, by rw [mt_mu0 i2, m2 i]; exact i3⟩
                · have z := mt_mun q'
                  have z' := mt_mun (fun w => q' (q.trans w))
                  rw [mt_mu0 z, mt_mu0 z', m2, m2] at q
                  rw [mt_mu0 z, m2] at q'
                  exact hok.2.2 i i' hi hi' (by rw [mt_mu0 (k168 i z).1, mt_mu0 (k168 i' z').1]; exact q) (by rw [mt_mu0 (k168 i z).1]; exact q')
              have bn2 : b ∉ L.filter (fun x => @decide _ (P2 x)) := fun h => by
                obtain ⟨x1, x2⟩ := List.mem_filter.mp h
                obtain ⟨i, i1, i2, i3⟩ := @of_decide_eq_true _ (P2 b) x2
                have z := k168 i i2
                exact z.2 (hok.2.2 i j i1 hj (by rw [mt_mu0 z.1, mj, i3, bj]) (by rw [mt_mu0 z.1, i3]; omega))
              obtain ⟨r, N3, r1, r2, r3, r4⟩ := ih b N2 _ (hL b bL) bn2 (fun x hx => hL x (List.mem_filter.mp hx).1) f2 u2 ok2
              rw [bj, show dd + (u + 1) = dd + u + 1 by omega, r1, jz_bI] at hst
              rw [show dd + (u + 1) = dd + u + 1 by omega]
              rw [show dd + (u + 1) = dd + u + 1 by omega] at ihk
              rcases r4 with ⟨rfl, r4⟩ | ⟨rfl, r4, r5, r6⟩
              · rw [if_neg (by decide), if_pos b36] at hst
                refine ⟨1, _, hst, fun c i x y => ?_, fun i h => ?_, Or.inl ⟨rfl, ?_⟩⟩
                · rw [jb_up_ne x]
                  exact r2 c i x y
                · have hij : i ≠ j := fun z => h (z ▸ nmk)
                  have h3 := r3 i (g2 i (g1 i h))
                  refine ⟨?_, ?_⟩
                  · rw [jb_up_ne (by decide)]
                    exact h3.1
                  · rw [jb_up_nej hij, h3.2]
                    exact m2 i
                · have v0 : mt_mu N (ja_up N3 167 j (a : Int)) j = (a : Int) := by rw [mt_mu0 nmk, jb_up_eq]
                  have vm : ∀ i, i ≠ j → N 168 i = 0 → N2 168 i ≠ 0 → mt_mu N (ja_up N3 167 j (a : Int)) i = mt_mu N N i := fun i z q q2 => by
                    rw [mt_mu0 q, mt_mu0 q, jb_up_nej z, (r3 i q2).2]
                    exact m2 i
                  have vu : ∀ i, i ≠ j → N2 168 i = 0 → mt_mu N (ja_up N3 167 j (a : Int)) i = mt_mu N2 N3 i := fun i z q2 => by
                    rw [mt_mu0 (k168 i q2).1, mt_mu0 q2, jb_up_nej z]
                  have vx : ∀ i, N 168 i ≠ 0 → mt_mu N (ja_up N3 167 j (a : Int)) i = -1 := fun i q => mt_mu1 q
                  have big : ∀ i, i < n → i ≠ j → mt_mu N (ja_up N3 167 j (a : Int)) i = -1 ∨ ∃ x : Nat, mt_mu N (ja_up N3 167 j (a : Int)) i = (x : Int) ∧ x ∈ L ∧ E x i = true := fun i hi z => by
                    by_cases q : N 168 i = 0
                    · by_cases q2 : N2 168 i = 0
                      · rw [vu i z q2]
                        rcases r4.1 i hi with y | ⟨x, y1, y2, y3⟩
                        · exact Or.inl y
                        · refine Or.inr ⟨x, y1, ?_, y3⟩
                          rcases List.mem_cons.mp y2 with rfl | y2
                          · exact bL
                          · exact (List.mem_filter.mp y2).1
                      · rw [vm i z q q2]
                        exact hok.1 i hi
                    · exact Or.inl (vx i q)
                  refine ⟨fun i hi => ?_, fun x hx => ?_, fun i i' hi hi' q q' => ?_⟩
                  · by_cases z : i = j
                    · subst z
                      exact Or.inr ⟨a, v0, List.mem_cons_self .., eE⟩
                    · rcases big i hi z with y | ⟨x, y1, y2, y3⟩
                      · exact Or.inl y
                      · exact Or.inr ⟨x, y1, List.mem_cons_of_mem _ y2, y3⟩
                  · rcases List.mem_cons.mp hx with rfl | hx
                    · exact ⟨j, hj, v0⟩
                    · have cover : x ∈ b :: L.filter (fun x => @decide _ (P2 x)) → ∃ i, i < n ∧ mt_mu N (ja_up N3 167 j (a : Int)) i = (x : Int) := fun hm => by
                        obtain ⟨i, i1, i2⟩ := r4.2.1 x hm
                        have z := mt_mun (show mt_mu N2 N3 i ≠ -1 by omega)
                        exact ⟨i, i1, by rw [vu i (k168 i z).2 z]; exact i2⟩
                      obtain ⟨i, i1, i2⟩ := hok.2.1 x hx
                      have q := mt_mun (show mt_mu N N i ≠ -1 by omega)
                      by_cases z : i = j
                      · subst z
                        have : x = b := by
                          rw [mj] at i2
                          omega
                        subst this
                        exact cover (List.mem_cons_self ..)
                      · by_cases q2 : N2 168 i = 0
                        · rw [mt_mu0 q] at i2
                          exact cover (List.mem_cons_of_mem _ (List.mem_filter.mpr ⟨hx, @decide_eq_true _ (P2 x) ⟨i, i1, q2, i2⟩⟩))
                        · exact ⟨i, i1, by rw [vm i z q q2]; exact i2⟩
                  · have na : ∀ i, i < n → i ≠ j → mt_mu N (ja_up N3 167 j (a : Int)) i ≠ (a : Int) := fun i hi z w => by
                      rcases big i hi z with y | ⟨x, y1, y2, -⟩
                      · omega
                      · exact haL (by rw [show a = x by omega]; exact y2)
                    have mixed : ∀ i i', i < n → i' < n → i ≠ j → i' ≠ j → N 168 i = 0 → N2 168 i ≠ 0 → N2 168 i' = 0 → mt_mu N (ja_up N3 167 j (a : Int)) i = mt_mu N (ja_up N3 167 j (a : Int)) i' → mt_mu N (ja_up N3 167 j (a : Int)) i ≠ -1 → False := fun i i' hi hi' z z' y y2 y' q q' => by
                      rw [vm i z y y2] at q q'
                      rw [vu i' z' y'] at q
                      rcases r4.1 i' hi' with w | ⟨x, w1, w2, -⟩
                      · omega
                      · rcases List.mem_cons.mp w2 with rfl | w2
                        · exact z (hok.2.2 i j hi hj (by rw [mj]; omega) q')
                        · obtain ⟨i3, t1, t2, t3⟩ := @of_decide_eq_true _ (P2 x) (List.mem_filter.mp w2).2
                          have : i = i3 := hok.2.2 i i3 hi t1 (by rw [mt_mu0 (k168 i3 t2).1]; omega) q'
                          exact y2 (this ▸ t2)
                    by_cases z : i = j
                    · by_cases z' : i' = j
                      · omega
                      · subst z
                        rw [v0] at q
                        exact absurd q.symm (na i' hi' z')
                    · by_cases z' : i' = j
                      · subst z'
                        rw [v0] at q
                        exact absurd q (na i hi z)
                      · have y := mt_mun q'
                        have y' := mt_mun (fun w => q' (q.trans w))
                        by_cases y2 : N2 168 i = 0
                        · by_cases y2' : N2 168 i' = 0
                          · rw [vu i z y2, vu i' z' y2'] at q
                            rw [vu i z y2] at q'
                            exact r4.2.2 i i' hi hi' q q'
                          · exact (mixed i' i hi' hi z' z y' y2' y2 q.symm (fun w => q' (q.trans w))).elim
                        · by_cases y2' : N2 168 i' = 0
                          · exact (mixed i i' hi hi' z z' y y2 y2' q q').elim
                          · rw [vm i z y y2, vm i' z' y' y2'] at q
                            rw [vm i z y y2] at q'
                            exact hok.2.2 i i' hi hi' q q'
              · rw [if_pos rfl] at hst
                have m3 : ∀ i, N3 167 i = N 167 i := fun i => (r4 i).trans (m2 i)
                have g3 : ∀ i, N1 168 i ≠ 0 → N3 168 i ≠ 0 := fun i h => (r3 i (g2 i h)).1
                have u3 : jv_cnt (fun i => decide (N3 168 i = 0)) n ≤ ((u + 1 : Nat) : Int) := by
                  have mono : ∀ k, jv_cnt (fun i => decide (N3 168 i = 0)) k ≤ jv_cnt (fun i => decide (N2 168 i = 0)) k := by
                    intro k
                    induction k with
                    | zero => exact Int.le_refl _
                    | succ k ih2 =>
                      show jv_cnt _ k + (if decide (N3 168 k = 0) = true then 1 else 0) ≤ jv_cnt _ k + (if decide (N2 168 k = 0) = true then 1 else 0)
                      by_cases q : N2 168 k = 0
                      · rw [if_pos (decide_eq_true q)]
                        split <;> omega
                      · rw [if_neg (fun w => q (of_decide_eq_true w)), if_neg (fun w => (r3 k q).1 (of_decide_eq_true w))]
                        omega
                  have := mono n
                  omega
                obtain ⟨rr, N', t1, t2⟩ := ihk (j + 1) N3 (by omega) r2 m3 (fun i h => g3 i (g1 i h)) (fun i hi eEi => by
                  by_cases z : i = j
                  · subst z
                    exact (r3 i j2).1
                  · exact g3 i (d1 i (by omega) eEi)) (fun i hi z0 z3 => by
                  by_cases y1 : N1 168 i = 0
                  · by_cases y2 : N2 168 i = 0
                    · have := r6 i hi y2 z3
                      rw [m2 i] at this
                      exact this
                    · have hij : i = j := by
                        by_cases w : i = j
                        · exact w
                        · exact absurd (n2e i w ▸ y1) y2
                      subst hij
                      refine ⟨fr, fun x hx ex => ?_⟩
                      rw [bj, show ((b : Int)).toNat = b from rfl] at ex
                      exact r5 x hx ex
                  · have := c1 i hi z0 y1
                    exact ⟨this.1, fun x hx ex => g3 x (this.2 x hx ex)⟩) u3
                exact ⟨rr, N', hst.trans t1, t2⟩
          · rw [if_neg mk] at hst
            obtain ⟨rr, N', t1, t2⟩ := ihk (j + 1) N1 (by omega) f1 m1 g1 (fun i hi eEi => by
              by_cases z : i = j
              · subst z
                exact mk
              · exact d1 i (by omega) eEi) c1 u1
            exact ⟨rr, N', hst.trans t1, t2⟩
        · have e0 : N0 166 (36 * a + j) = 0 := (hE a j ha hj).mpr (Bool.eq_false_iff.mpr eE)
          rw [if_pos e0] at hst
          obtain ⟨rr, N', t1, t2⟩ := ihk (j + 1) N1 (by omega) f1 m1 g1 (fun i hi eEi => by
            by_cases z : i = j
            · subst z
              exact absurd eEi eE
            · exact d1 i (by omega) eEi) c1 u1
          exact ⟨rr, N', hst.trans t1, t2⟩
    obtain ⟨r, N', t1, t2⟩ := loop n 0 N (by omega) hf (fun _ => rfl) (fun _ h => h) (fun i hi => by omega) (fun i _ z z' => absurd z z') hu
    exact ⟨r, N', (f_R_match _ _ _).trans t1, t2⟩
