/-! helpers: looking on from one; joining one more -/
def mt_si (E : Nat → Nat → Bool) (n k : Nat) (m lf qu : Nat → Int) (Q : Nat) : Prop :=
  (1 ≤ Q ∧ Q ≤ n ∧ qu 0 = (k : Int)) ∧ (∀ i, 1 ≤ i → i < Q → ∃ j, j < n ∧ qu i = m j ∧ m j ≠ -1 ∧ lf j ≠ -1) ∧ (∀ i i', i < Q → i' < Q → qu i = qu i' → i = i') ∧ ∀ j, j < n → lf j = -1 ∨ ∃ i i', i < i' ∧ i' < Q ∧ lf j = qu i ∧ E (qu i).toNat j = true ∧ m j ≠ -1 ∧ qu i' = m j
theorem mt_si_nat {E : Nat → Nat → Bool} {n k Q : Nat} {m lf qu : Nat → Int} {L : List Nat} (hs : mt_si E n k m lf qu Q) (hok : mt_ok E n m L) (hL : ∀ x ∈ L, x < n) (hk : k < n) {i : Nat} (hi : i < Q) : ∃ a : Nat, qu i = (a : Int) ∧ a < n ∧ (1 ≤ i → a ∈ L) := by
  rcases Nat.eq_zero_or_pos i with z | z
  · subst z
    exact ⟨k, hs.1.2.2, hk, fun q => by omega⟩
  · obtain ⟨j, j1, j2, j3, j4⟩ := hs.2.1 i z hi
    rcases hok.1 j j1 with w | ⟨a, w1, w2, -⟩
    · exact absurd w j3
    · exact ⟨a, j2.trans w1, hL a w2, fun _ => w2⟩
theorem mt_si_push {E : Nat → Nat → Bool} {n k Q : Nat} {m lf qu lf' qu' : Nat → Int} {L : List Nat} {h j : Nat} (hs : mt_si E n k m lf qu Q) (hok : mt_ok E n m L) (hL : ∀ x ∈ L, x < n) (hk : k < n) (hkL : k ∉ L) (hh : h < Q) (hj : j < n) (hl : lf j = -1) (hm : m j ≠ -1) (e : E (qu h).toNat j = true) (hlf : ∀ i, lf' i = if i = j then qu h else lf i) (hqu : ∀ i, qu' i = if i = Q then m j else qu i) : Q < n ∧ mt_si E n k m lf' qu' (Q + 1) := by
  have hs0 := hs
  obtain ⟨⟨s1, s2, s3⟩, s4, s5, s6⟩ := hs
  have hnew : ∀ i, i < Q → qu i ≠ m j := fun i hi q => by
    rcases Nat.eq_zero_or_pos i with z | z
    · subst z
      rcases hok.1 j hj with w | ⟨a, w1, w2, -⟩
      · exact hm w
      · exact hkL (by rw [show k = a by omega]; exact w2)
    · obtain ⟨j', j1, j2, j3, j4⟩ := s4 i z hi
      have : j' = j := hok.2.2 j' j j1 hj (by omega) j3
      rw [this] at j4
      exact j4 hl
  have inj : ∀ i i', i < Q + 1 → i' < Q + 1 → qu' i = qu' i' → i = i' := fun i i' hi hi' q => by
    rw [hqu, hqu] at q
    by_cases z : i = Q
    · by_cases z' : i' = Q
      · omega
      · rw [if_pos z, if_neg z'] at q
        exact absurd q.symm (hnew i' (by omega))
    · by_cases z' : i' = Q
      · rw [if_neg z, if_pos z'] at q
        exact absurd q (hnew i (by omega))
      · rw [if_neg z, if_neg z'] at q
        exact s5 i i' (by omega) (by omega) q
  have nat : ∀ i, i < Q + 1 → ∃ a : Nat, qu' i = (a : Int) ∧ a < n := fun i hi => by
    rw [hqu]
    by_cases z : i = Q
    · rw [if_pos z]
      rcases hok.1 j hj with w | ⟨a, w1, w2, -⟩
      · exact absurd w hm
      · exact ⟨a, w1, hL a w2⟩
    · rw [if_neg z]
      obtain ⟨a, a1, a2, -⟩ := mt_si_nat hs0 hok hL hk (i := i) (by omega)
      exact ⟨a, a1, a2⟩
  have hQ : Q + 1 ≤ n := by
    have := jc_len n ((List.range (Q + 1)).map (fun i => (qu' i).toNat)) (jc_nodup_map (fun t u ht hu z => by
      obtain ⟨a, a1, -⟩ := nat t ht
      obtain ⟨b, b1, -⟩ := nat u hu
      have z : (qu' t).toNat = (qu' u).toNat := z
      exact inj t u ht hu (by omega))) (fun x hx => by
      obtain ⟨i, i1, rfl⟩ := List.mem_map.mp hx
      obtain ⟨a, a1, a2⟩ := nat i (List.mem_range.mp i1)
      show (qu' i).toNat < n
      omega)
    rw [List.length_map, List.length_range] at this
    exact this
  have old : ∀ i, i < Q → qu' i = qu i := fun i hi => (hqu i).trans (if_neg (by omega))
  have new : qu' Q = m j := (hqu Q).trans (if_pos rfl)
  have qh : qu h ≠ -1 := by
    obtain ⟨a, a1, -⟩ := mt_si_nat hs0 hok hL hk hh
    omega
  refine ⟨hQ, ⟨by omega, hQ, by rw [old 0 (by omega)]; exact s3⟩, fun i h1 h2 => ?_, inj, fun x hx => ?_⟩
  · by_cases z : i = Q
    · exact ⟨j, hj, by rw [z]; exact new, hm, by rw [hlf, if_pos rfl]; exact qh⟩
    · obtain ⟨j', j1, j2, j3, j4⟩ := s4 i h1 (by omega)
      refine ⟨j', j1, by rw [old i (by omega)]; exact j2, j3, ?_⟩
      rw [hlf]
      by_cases w : j' = j
      · rw [if_pos w]
        exact qh
      · rw [if_neg w]
        exact j4
  · rw [hlf]
    by_cases w : x = j
    · rw [if_pos w]
      exact Or.inr ⟨h, Q, hh, by omega, (old h hh).symm, by rw [old h hh, w]; exact e, by rw [w]; exact hm, by rw [w]; exact new⟩
    · rw [if_neg w]
      rcases s6 x hx with y | ⟨i, i', y1, y2, y3, y4, y5, y6⟩
      · exact Or.inl y
      · exact Or.inr ⟨i, i', y1, by omega, by rw [old i (by omega)]; exact y3, by rw [old i (by omega)]; exact y4, y5, by rw [old i' y2]; exact y6⟩
theorem mt_exit {E : Nat → Nat → Bool} {n k Q : Nat} {m lf qu : Nat → Int} {L : List Nat} (hs : mt_si E n k m lf qu Q) (hok : mt_ok E n m L) (hkL : k ∉ L) (hp : ∀ i, i < Q → ∀ x, x < n → E (qu i).toNat x = true → lf x ≠ -1) : ¬ mt_can E n (k :: L) := by
  obtain ⟨⟨s1, s2, s3⟩, s4, s5, s6⟩ := hs
  have mem : ∀ x, x ∈ (List.range n).filter (fun j => !(decide (lf j = -1))) ↔ x < n ∧ lf x ≠ -1 := fun x => by
    rw [List.mem_filter, List.mem_range]
    simp
  refine mt_fail (V := (List.range n).filter (fun j => !(decide (lf j = -1)))) hok hkL (List.Pairwise.filter _ List.nodup_range) (fun j hj => ?_) (fun j hj e => ?_) (fun j hj i hi e => ?_)
  · obtain ⟨j1, j2⟩ := (mem j).mp hj
    rcases s6 j j1 with y | ⟨i, i', y1, y2, y3, y4, y5, y6⟩
    · exact absurd y j2
    · exact ⟨j1, y5⟩
  · refine (mem j).mpr ⟨hj, hp 0 (by omega) j hj ?_⟩
    rw [s3]
    exact e
  · obtain ⟨j1, j2⟩ := (mem j).mp hj
    rcases s6 j j1 with y | ⟨a, b, y1, y2, y3, y4, y5, y6⟩
    · exact absurd y j2
    · refine (mem i).mpr ⟨hi, hp b y2 i hi ?_⟩
      rw [y6]
      exact e
theorem js_lookFrom {E : Nat → Nat → Bool} {n k : Nat} {L : List Nat} {N0 : ja_M} (hn : n ≤ 36) (h9 : N0 123 9 = (n : Int)) (hk : k < n) (hkL : k ∉ L) (hL : ∀ x ∈ L, x < n) (dd : Nat) (hcan : ∀ N, jF133 N0 N → ∀ a j : Nat, a < n → j < n → ja_x true (dd + 1) 180 [jr 123, ji (a : Int), ji (j : Int)] N = some (some (ji (if E a j = true then 1 else 0)), N)) {h a : Nat} (ha : a < n) : ∀ (r j : Nat) (N : ja_M) (Q : Nat), j + r = n → jF133 N0 N → mt_ok E n (N 134) L → N 123 10 = (Q : Int) → mt_si E n k (N 134) (N 135) (N 136) Q → h < Q → N 136 h = (a : Int) → (∀ i, i < j → E a i = true → N 135 i ≠ -1) → ∃ (v : Int) (N' : ja_M), ja_D true (ja_x true (dd + 1)) k_HelperCount_lookFrom 2 [some (jr 123), some (ji (a : Int)), some (ji (j : Int))] [] N = some (some (ji v), N') ∧ jF133 N0 N' ∧ (∀ i, N' 133 i = N 133 i) ∧ (∀ i, N' 134 i = N 134 i) ∧ ∃ Q' : Nat, (∀ i, i < Q → N' 136 i = N 136 i) ∧ Q ≤ Q' ∧ ((v = -1 ∧ N' 123 10 = (Q' : Int) ∧ mt_si E n k (N' 134) (N' 135) (N' 136) Q' ∧ (∀ i, N 135 i ≠ -1 → N' 135 i ≠ -1) ∧ (∀ i, i < n → E a i = true → N' 135 i ≠ -1)) ∨ (∃ f : Nat, v = (f : Int) ∧ f < n ∧ N' 134 f = -1 ∧ N' 135 f = (a : Int) ∧ E a f = true ∧ mt_si E n k (N' 134) (mt_wo (N' 135) f) (N' 136) Q')) := by
  intro r
  induction r with
  | zero =>
    intro j N Q e hf hok h10 hs hh hq hd
    have e9 : N 123 9 = (n : Int) := (hf 123 9 (by omega) (by omega)).trans h9
    refine ⟨-1, N, ?_, hf, fun _ => rfl, fun _ => rfl, Q, fun _ _ => rfl, Nat.le_refl _, Or.inl ⟨rfl, h10, hs, fun _ z => z, fun i hi => hd i (by omega)⟩⟩
    rw [e_HelperCount_lookFrom_2, e9, if_neg (by omega)]
  | succ r ih =>
    intro j N Q e hf hok h10 hs hh hq hd
    have e9 : N 123 9 = (n : Int) := (hf 123 9 (by omega) (by omega)).trans h9
    have b36 : 0 ≤ (j : Int) ∧ (j : Int) < 36 := by omega
    have st := e_HelperCount_lookFrom_2 (ja_x true (dd + 1)) (a : Int) (j : Int) N
    rw [e9, if_pos (by omega), if_pos b36, show ((j : Int)).toNat = j from rfl, ja_w_id (x := (j : Int) + 1) (by omega) (by omega), show (j : Int) + 1 = ((j + 1 : Nat) : Int) by omega] at st
    by_cases lk : N 135 j = -1
    · rw [if_pos lk, hcan N hf a j ha (by omega), jz_bI, jz_b0] at st
      by_cases eE : E a j = true
      · rw [if_pos eE, if_pos b36, if_pos b36, jb_up_ne (by decide)] at st
        by_cases fr : N 134 j = -1
        · rw [if_pos fr] at st
          have e134 : (ja_up N 135 j (a : Int)) 134 = N 134 := funext fun i => jb_up_ne (by decide)
          have e136 : (ja_up N 135 j (a : Int)) 136 = N 136 := funext fun i => jb_up_ne (by decide)
          have ewo : mt_wo ((ja_up N 135 j (a : Int)) 135) j = N 135 := funext fun i => by
            show (if i = j then -1 else ja_up N 135 j (a : Int) 135 i) = N 135 i
            by_cases z : i = j
            · rw [if_pos z, z, lk]
            · rw [if_neg z, jb_up_nej z]
          refine ⟨(j : Int), _, st, fun c i y z => ?_, fun i => jb_up_ne (by decide), fun i => jb_up_ne (by decide), Q, fun i _ => by rw [e136], Nat.le_refl _, Or.inr ⟨j, rfl, by omega, by rw [e134]; exact fr, jb_up_eq, eE, by rw [e134, e136, ewo]; exact hs⟩⟩
          rw [jb_up_ne (fun e => y (by omega))]
          exact hf c i y z
        · have hlf : ∀ i, (ja_up (ja_up (ja_up N 135 j (a : Int)) 136 Q (N 134 j)) 123 10 ((Q : Int) + 1)) 135 i = if i = j then N 136 h else N 135 i := fun i => by
            rw [jb_up_ne (by decide), jb_up_ne (by decide), hq]
            by_cases z : i = j
            · rw [z, jb_up_eq, if_pos rfl]
            · rw [jb_up_nej z, if_neg z]
          have hqu : ∀ i, (ja_up (ja_up (ja_up N 135 j (a : Int)) 136 Q (N 134 j)) 123 10 ((Q : Int) + 1)) 136 i = if i = Q then N 134 j else N 136 i := fun i => by
            rw [jb_up_ne (by decide)]
            by_cases z : i = Q
            · rw [z, jb_up_eq, if_pos rfl]
            · rw [jb_up_nej z, jb_up_ne (by decide), if_neg z]
          obtain ⟨hQn, hs2⟩ := mt_si_push hs hok hL hk hkL hh (show j < n by omega) lk fr (by rw [hq]; exact eE) hlf hqu
          have t1 : (ja_up N 135 j (a : Int)) 123 10 = (Q : Int) := (jb_up_ne (by decide)).trans h10
          have t2 : (ja_up (ja_up N 135 j (a : Int)) 136 Q (N 134 j)) 123 10 = (Q : Int) := (jb_up_ne (by decide)).trans t1
          rw [if_neg fr, t1, if_pos (by omega), if_pos b36, if_pos (by omega), show ((Q : Int)).toNat = Q from rfl, t2, ja_w_id (x := (Q : Int) + 1) (by omega) (by omega)] at st
          have e134 : (ja_up (ja_up (ja_up N 135 j (a : Int)) 136 Q (N 134 j)) 123 10 ((Q : Int) + 1)) 134 = N 134 := funext fun i => by rw [jb_up_ne (by decide), jb_up_ne (by decide), jb_up_ne (by decide)]
          have e133 : ∀ i, (ja_up (ja_up (ja_up N 135 j (a : Int)) 136 Q (N 134 j)) 123 10 ((Q : Int) + 1)) 133 i = N 133 i := fun i => by rw [jb_up_ne (by decide), jb_up_ne (by decide), jb_up_ne (by decide)]
          have e10 : (ja_up (ja_up (ja_up N 135 j (a : Int)) 136 Q (N 134 j)) 123 10 ((Q : Int) + 1)) 123 10 = ((Q + 1 : Nat) : Int) := by
            rw [jb_up_eq]
            omega
          have f2 : jF133 N0 (ja_up (ja_up (ja_up N 135 j (a : Int)) 136 Q (N 134 j)) 123 10 ((Q : Int) + 1)) := fun c i y z => by
            have z0 : ¬ (c = 123 ∧ i = 10) := z
            rw [jz_up, if_neg z0, jb_up_ne (fun e => y (by omega)), jb_up_ne (fun e => y (by omega))]
            exact hf c i y z
          generalize (ja_up (ja_up (ja_up N 135 j (a : Int)) 136 Q (N 134 j)) 123 10 ((Q : Int) + 1)) = N2 at st hlf hqu hs2 e134 e133 e10 f2
          obtain ⟨v, N', g1, g2, g3, g4, Q', g5, g6, g7⟩ := ih (j + 1) N2 (Q + 1) (by omega) f2 (by rw [e134]; exact hok) e10 (by rw [e134]; exact hs2) (by omega) (by rw [hqu, if_neg (by omega)]; exact hq) (fun i hi ei => by
            rw [hlf]
            by_cases z : i = j
            · rw [if_pos z, hq]
              omega
            · rw [if_neg z]
              exact hd i (by omega) ei)
          refine ⟨v, N', st.trans g1, g2, fun i => (g3 i).trans (e133 i), fun i => (g4 i).trans (by rw [e134]), Q', fun i hi => (g5 i (by omega)).trans ((hqu i).trans (if_neg (by omega))), by omega, ?_⟩
          rcases g7 with ⟨p1, p2, p3, p4, p5⟩ | p
          · refine Or.inl ⟨p1, p2, p3, fun i z => p4 i ?_, p5⟩
            rw [hlf]
            by_cases w : i = j
            · rw [if_pos w, hq]
              omega
            · rw [if_neg w]
              exact z
          · exact Or.inr p
      · rw [if_neg eE] at st
        obtain ⟨v, N', g1, g2⟩ := ih (j + 1) N Q (by omega) hf hok h10 hs hh hq (fun i hi ei => by
          by_cases z : i = j
          · rw [z] at ei
            exact absurd ei eE
          · exact hd i (by omega) ei)
        exact ⟨v, N', st.trans g1, g2⟩
    · rw [if_neg lk] at st
      obtain ⟨v, N', g1, g2⟩ := ih (j + 1) N Q (by omega) hf hok h10 hs hh hq (fun i hi ei => by
        by_cases z : i = j
        · rw [z]
          exact lk
        · exact hd i (by omega) ei)
      exact ⟨v, N', st.trans g1, g2⟩
theorem js_join {E : Nat → Nat → Bool} {n k : Nat} {L : List Nat} {N0 : ja_M} (hn : n ≤ 36) (h9 : N0 123 9 = (n : Int)) (hk : k < n) (hkL : k ∉ L) (hL : ∀ x ∈ L, x < n) (dd : Nat) (hcan : ∀ N, jF133 N0 N → ∀ a j : Nat, a < n → j < n → ja_x true (dd + 1) 180 [jr 123, ji (a : Int), ji (j : Int)] N = some (some (ji (if E a j = true then 1 else 0)), N)) {N : ja_M} (hf : jF133 N0 N) (hok : mt_ok E n (N 134) L) (hnx : mt_nx n (N 134) (N 133) L) : ∃ (r : Int) (N' : ja_M), ja_x true (dd + 3) 178 [jr 123, ji (k : Int)] N = some (some (ji r), N') ∧ jF133 N0 N' ∧ ((r = 1 ∧ mt_ok E n (N' 134) (k :: L) ∧ mt_nx n (N' 134) (N' 133) (k :: L)) ∨ (r = 0 ∧ mt_ok E n (N' 134) L ∧ mt_nx n (N' 134) (N' 133) L ∧ ¬ mt_can E n (k :: L))) := by
  have search : ∀ (r h : Nat) (N : ja_M) (Q : Nat), h + r = n → jF133 N0 N → mt_ok E n (N 134) L → mt_nx n (N 134) (N 133) L → N 123 10 = (Q : Int) → mt_si E n k (N 134) (N 135) (N 136) Q → h ≤ Q → (∀ i, i < h → ∀ x, x < n → E (N 136 i).toNat x = true → N 135 x ≠ -1) → ∃ (r : Int) (N' : ja_M), ja_D true (ja_x true (dd + 2)) k_HelperCount_joinOneMore 23 [some (jr 123), none, some (ji (h : Int)), none] [] N = some (some (ji r), N') ∧ jF133 N0 N' ∧ ((r = 1 ∧ mt_ok E n (N' 134) (k :: L) ∧ mt_nx n (N' 134) (N' 133) (k :: L)) ∨ (r = 0 ∧ mt_ok E n (N' 134) L ∧ mt_nx n (N' 134) (N' 133) L ∧ ¬ mt_can E n (k :: L))) := by
    intro r
    induction r with
    | zero =>
      intro h N Q e hf hok hnx h10 hs hh hp
      have := hs.1
      refine ⟨0, N, ?_, hf, Or.inr ⟨rfl, hok, hnx, mt_exit hs hok hkL (fun i hi => hp i (by omega))⟩⟩
      rw [e_HelperCount_joinOneMore_23, h10, if_neg (by omega)]
    | succ r ih =>
      intro h N Q e hf hok hnx h10 hs hh hp
      have st := e_HelperCount_joinOneMore_23 (ja_x true (dd + 2)) (h : Int) N
      by_cases hQ : h < Q
      · obtain ⟨a, a1, a2, -⟩ := mt_si_nat hs hok hL hk hQ
        obtain ⟨v, N1, g1, g2, g3, g4, Q', g5, g6, g7⟩ := js_lookFrom hn h9 hk hkL hL dd hcan (h := h) a2 n 0 N Q (by omega) hf hok h10 hs hQ a1 (fun i hi => by omega)
        have e133 : N1 133 = N 133 := funext g3
        have e134 : N1 134 = N 134 := funext g4
        rw [h10, if_pos (by omega), if_pos (by omega), if_pos (by omega), show ((h : Int)).toNat = h from rfl, a1, show ja_x true (dd + 2) 179 [jr 123, ji (a : Int)] N = _ from (f_HelperCount_lookFrom (dd + 1) _ _).trans g1, jz_bI, ja_w_id (x := (h : Int) + 1) (by omega) (by omega), show (h : Int) + 1 = ((h + 1 : Nat) : Int) by omega] at st
        rcases g7 with ⟨p1, p2, p3, p4, p5⟩ | ⟨f, p1, p2, p3, p4, p5, p6⟩
        · rw [if_pos p1] at st
          obtain ⟨rr, N', k1, k2⟩ := ih (h + 1) N1 Q' (by omega) g2 (by rw [e134]; exact hok) (by rw [e133, e134]; exact hnx) p2 p3 (by omega) (fun i hi x hx ex => by
            by_cases z : i = h
            · rw [z, g5 h hQ, a1] at ex
              exact p5 x hx ex
            · rw [g5 i (by omega)] at ex
              exact p4 x (hp i (by omega) x hx ex))
          exact ⟨rr, N', st.trans k1, k2⟩
        · rw [if_neg (by omega), p1] at st
          have wm : mt_wo (N1 134) f = N1 134 := funext fun i => by
            show (if i = f then -1 else N1 134 i) = N1 134 i
            by_cases z : i = f
            · rw [if_pos z, z, p3]
            · rw [if_neg z]
          have hok1 : mt_ok E n (N1 134) L := by rw [e134]; exact hok
          have qn : ∀ i, i < Q' → N1 136 i = (((N1 136 i).toNat : Nat) : Int) ∧ (N1 136 i).toNat < n ∧ (1 ≤ i → (N1 136 i).toNat ∈ L) := fun i hi => by
            obtain ⟨b, b1, b2, b3⟩ := mt_si_nat p6 hok1 hL hk hi
            rw [b1]
            exact ⟨rfl, b2, b3⟩
          have qh : (N1 136 h).toNat = a := by
            rw [g5 h hQ, a1]
            rfl
          have hs1 := p6.1
          obtain ⟨N', k1, k2⟩ := js_giveWay (q := fun i => (N1 136 i).toNat) hn h9 hk hkL hL (by show (N1 136 0).toNat = k; rw [hs1.2.2]; rfl) (dd + 1) h f 0 N1 g2 p2 (qn h (by omega)).2.1 (by show N1 135 f = (((N1 136 h).toNat : Nat) : Int); rw [qh]; exact p4) (by show E (N1 136 h).toNat f = true; rw [qh]; exact p5) (by omega) (by rw [wm]; exact hok1) (by rw [wm, e133, e134]; exact hnx) (fun i i' hi hi' z => by
            have z : (N1 136 i).toNat = (N1 136 i').toNat := z
            have := (qn i (by omega)).1
            have := (qn i' (by omega)).1
            exact p6.2.2.1 i i' (by omega) (by omega) (by omega)) (fun i' h1 h2 => ⟨(qn i' (by omega)).2.2 h1, fun j hj w => by
            rw [wm] at w
            have w : N1 134 j = (((N1 136 i').toNat : Nat) : Int) := w
            have w2 : N1 134 j = N1 136 i' := w.trans (qn i' (by omega)).1.symm
            obtain ⟨j', j1, j2, j3, j4⟩ := p6.2.1 i' h1 (by omega)
            have : j' = j := hok1.2.2 j' j j1 hj (by omega) j3
            subst this
            rcases p6.2.2.2 j' j1 with y | ⟨b, b', y1, y2, y3, y4, y5, y6⟩
            · exact absurd y j4
            · have : b' = i' := p6.2.2.1 b' i' y2 (by omega) (by omega)
              have zf : j' ≠ f := fun z => by
                rw [z] at j3
                exact j3 p3
              have y3' : N1 135 j' = N1 136 b := by
                have : mt_wo (N1 135) f j' = N1 135 j' := if_neg zf
                omega
              exact ⟨b, by omega, y3'.trans (qn b (by omega)).1, y4⟩⟩)
          refine ⟨1, N', ?_, k2.1, Or.inl ⟨rfl, k2.2⟩⟩
          rw [st, show ja_x true (dd + 2) 181 [jr 123, ji (f : Int)] N1 = _ from (f_HelperCount_giveWay (dd + 1) _ _).trans k1, jz_bV]
      · rw [h10, if_neg (by omega)] at st
        exact ⟨0, N, st, hf, Or.inr ⟨rfl, hok, hnx, mt_exit hs hok hkL (fun i hi => hp i (by omega))⟩⟩
  have clear : ∀ (r j : Nat) (N : ja_M), j + r = n → jF133 N0 N → mt_ok E n (N 134) L → mt_nx n (N 134) (N 133) L → (∀ i, i < j → N 135 i = -1) → ∃ (r : Int) (N' : ja_M), ja_D true (ja_x true (dd + 2)) k_HelperCount_joinOneMore 2 [some (jr 123), some (ji (k : Int)), some (ji (j : Int)), none] [] N = some (some (ji r), N') ∧ jF133 N0 N' ∧ ((r = 1 ∧ mt_ok E n (N' 134) (k :: L) ∧ mt_nx n (N' 134) (N' 133) (k :: L)) ∨ (r = 0 ∧ mt_ok E n (N' 134) L ∧ mt_nx n (N' 134) (N' 133) L ∧ ¬ mt_can E n (k :: L))) := by
    intro r
    induction r with
    | zero =>
      intro j N e hf hok hnx hc
      have e9 : N 123 9 = (n : Int) := (hf 123 9 (by omega) (by omega)).trans h9
      have e133 : (ja_up (ja_up N 136 0 (k : Int)) 123 10 1) 133 = N 133 := funext fun i => by rw [jb_up_ne (by decide), jb_up_ne (by decide)]
      have e134 : (ja_up (ja_up N 136 0 (k : Int)) 123 10 1) 134 = N 134 := funext fun i => by rw [jb_up_ne (by decide), jb_up_ne (by decide)]
      have e135 : (ja_up (ja_up N 136 0 (k : Int)) 123 10 1) 135 = N 135 := funext fun i => by rw [jb_up_ne (by decide), jb_up_ne (by decide)]
      have e136 : (ja_up (ja_up N 136 0 (k : Int)) 123 10 1) 136 0 = (k : Int) := by rw [jb_up_ne (by decide), jb_up_eq]
      obtain ⟨rr, N', g1, g2⟩ := search n 0 (ja_up (ja_up N 136 0 (k : Int)) 123 10 1) 1 (by omega) (fun c i y z => by
        rw [jz_up, if_neg z, jb_up_ne (fun e => y (by omega))]
        exact hf c i y z) (by rw [e134]; exact hok) (by rw [e133, e134]; exact hnx) (by rw [jb_up_eq]; rfl) ⟨⟨by omega, by omega, e136⟩, fun i h1 h2 => by omega, fun i i' hi hi' _ => by omega, fun i hi => Or.inl (by rw [e135]; exact hc i (by omega))⟩ (by omega) (fun i hi => by omega)
      refine ⟨rr, N', ?_, g2⟩
      rw [e_HelperCount_joinOneMore_2, e9, if_neg (by omega)]
      exact g1
    | succ r ih =>
      intro j N e hf hok hnx hc
      have e9 : N 123 9 = (n : Int) := (hf 123 9 (by omega) (by omega)).trans h9
      have e133 : (ja_up N 135 j (-1)) 133 = N 133 := funext fun i => jb_up_ne (by decide)
      have e134 : (ja_up N 135 j (-1)) 134 = N 134 := funext fun i => jb_up_ne (by decide)
      obtain ⟨rr, N', g1, g2⟩ := ih (j + 1) (ja_up N 135 j (-1)) (by omega) (fun c i y z => by
        rw [jb_up_ne (fun e => y (by omega))]
        exact hf c i y z) (by rw [e134]; exact hok) (by rw [e133, e134]; exact hnx) (fun i hi => by
        by_cases z : i = j
        · rw [z, jb_up_eq]
        · rw [jb_up_nej z]
          exact hc i (by omega))
      refine ⟨rr, N', ?_, g2⟩
      rw [e_HelperCount_joinOneMore_2, e9, if_pos (by omega), if_pos (by omega), show ((j : Int)).toNat = j from rfl, ja_w_id (x := (j : Int) + 1) (by omega) (by omega), show (j : Int) + 1 = ((j + 1 : Nat) : Int) by omega]
      exact g1
  obtain ⟨rr, N', g1, g2⟩ := clear n 0 N (by omega) hf hok hnx (fun i hi => by omega)
  exact ⟨rr, N', (f_HelperCount_joinOneMore _ _ _).trans g1, g2⟩
