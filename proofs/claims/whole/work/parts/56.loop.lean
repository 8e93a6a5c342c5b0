/-! THE LAW'S LOOP: it ends with 1 where each call keeps its promise -/
noncomputable abbrev jy_E : ja_E := ja_x true 2000
def jy_go (l : Int) (M : ja_M) : Prop := ∃ Mf, ja_D true jy_E k_Law_law 13 [some (jr 175), some (jr 1), some (jr 137), some (jr 171), some (ji l), none, none] [] M = some (some (ji 1), Mf) ∧ Mf 0 1 ≤ M 0 1 + (if M 93 4 = 0 then 1 else 0) + (M 0 4 - l) ∧ Mf 0 2 ≤ M 0 2 + (if M 93 4 = 0 then 5000 else 0) + 6 * (M 0 4 - l)
/-- what the loop has at its head -/
def jy_at (l : Int) (M : ja_M) : Prop := jJ M ∧ (∀ j, -2147483648 ≤ M 175 j ∧ M 175 j < 2147483648) ∧ (0 ≤ M 0 4 ∧ M 0 4 ≤ 3072) ∧ (0 ≤ l ∧ l ≤ M 0 4)
def jy_nx (l : Int) (M : ja_M) : Prop := ∀ M2, jJ M2 → M2 0 4 = M 0 4 → M2 175 = M 175 → jrm M M2 → jy_go (l + 6) M2
theorem jy_room {l : Int} {M M2 : ja_M} (e4 : M2 0 4 = M 0 4) (hr : jrm M M2) {o : Option ja_R} (ho : ja_D true jy_E k_Law_law 13 [some (jr 175), some (jr 1), some (jr 137), some (jr 171), some (ji (l + 6)), none, none] [] M2 = o) (h : jy_go (l + 6) M2) : ∃ Mf, o = some (some (ji 1), Mf) ∧ Mf 0 1 ≤ M 0 1 + (if M 93 4 = 0 then 1 else 0) + (M 0 4 - l) ∧ Mf 0 2 ≤ M 0 2 + (if M 93 4 = 0 then 5000 else 0) + 6 * (M 0 4 - l) := by
  obtain ⟨Mf, h1, h2, h3⟩ := h
  obtain ⟨r1, r2⟩ := hr
  refine ⟨Mf, ho.symm.trans h1, ?_, ?_⟩
  · rw [e4] at h2
    omega
  · rw [e4] at h3
    omega
theorem jy_gr {y : Nat} {as : List ja_V} {M M1 : ja_M} {v : Option ja_V} (h : jy_E y as M = some (v, M1)) : M1 0 4 = M 0 4 ∧ M1 175 = M 175 := by
  have g := jp_x true 2000 y as M _ h
  exact ⟨g.2.2.2.1, funext (fun j => g.2.2.2.2 j)⟩
def jy_o0 : Prop := ∀ a1 a2 a3 a4 a5 : Int, (-2147483648 ≤ a1 ∧ a1 < 2147483648) → (-2147483648 ≤ a2 ∧ a2 < 2147483648) → (-2147483648 ≤ a3 ∧ a3 < 2147483648) → (-2147483648 ≤ a4 ∧ a4 < 2147483648) → (-2147483648 ≤ a5 ∧ a5 < 2147483648) → jOp (jy_E 12 [jr 1, ji a1, ji a2, ji a3, ji a4, ji a5]) (jy_E 202 [jr 137, ji a1, ji a2, ji a3, ji a4, ji a5])
theorem jy_c0 (op : jy_o0) {l : Int} {M : ja_M} (ha : jy_at l M) (h6 : l + 6 ≤ M 0 4) (nx : jy_nx l M) : ∃ Mf, ja_D true jy_E k_Law_law 25 [some (jr 175), some (jr 1), some (jr 137), some (jr 171), some (ji l), none, none] [] M = some (some (ji 1), Mf) ∧ Mf 0 1 ≤ M 0 1 + (if M 93 4 = 0 then 1 else 0) + (M 0 4 - l) ∧ Mf 0 2 ≤ M 0 2 + (if M 93 4 = 0 then 5000 else 0) + 6 * (M 0 4 - l) := by
  obtain ⟨hJ, hs, hL, hl⟩ := ha
  have w1 : ja_w (l + 1) = l + 1 := ja_w_id (by omega) (by omega)
  have b1 : 0 ≤ l + 1 ∧ l + 1 < M 0 4 := by omega
  have w2 : ja_w (l + 2) = l + 2 := ja_w_id (by omega) (by omega)
  have b2 : 0 ≤ l + 2 ∧ l + 2 < M 0 4 := by omega
  have w3 : ja_w (l + 3) = l + 3 := ja_w_id (by omega) (by omega)
  have b3 : 0 ≤ l + 3 ∧ l + 3 < M 0 4 := by omega
  have w4 : ja_w (l + 4) = l + 4 := ja_w_id (by omega) (by omega)
  have b4 : 0 ≤ l + 4 ∧ l + 4 < M 0 4 := by omega
  have w5 : ja_w (l + 5) = l + 5 := ja_w_id (by omega) (by omega)
  have b5 : 0 ≤ l + 5 ∧ l + 5 < M 0 4 := by omega
  have w6 : ja_w (l + 6) = l + 6 := ja_w_id (by omega) (by omega)
  obtain ⟨v, M1, M2, hX, hR, hJ2, hrm⟩ := op (M 175 (l + 1).toNat) (M 175 (l + 2).toNat) (M 175 (l + 3).toNat) (M 175 (l + 4).toNat) (M 175 (l + 5).toNat) (hs _) (hs _) (hs _) (hs _) (hs _) M hJ
  obtain ⟨g1, g2⟩ := jy_gr hX
  obtain ⟨g3, g4⟩ := jy_gr hR
  refine jy_room (M2 := M2) (g3.trans g1) hrm ?_ (nx M2 hJ2 (g3.trans g1) (g4.trans g2) hrm)
  rw [e_Law_25, w1, w2, w3, w4, w5, if_pos b1, if_pos b2, if_pos b3, if_pos b4, if_pos b5, hX, jz_bI, g1, g2, if_pos b1, if_pos b2, if_pos b3, if_pos b4, if_pos b5, hR, jz_bI, if_pos rfl, w6]
def jy_o1 : Prop := ∀ a1 : Int, (-2147483648 ≤ a1 ∧ a1 < 2147483648) → jOp (jy_E 17 [jr 1, ji a1]) (jy_E 204 [jr 137, ji a1])
theorem jy_c1 (op : jy_o1) {l : Int} {M : ja_M} (ha : jy_at l M) (h6 : l + 6 ≤ M 0 4) (nx : jy_nx l M) : ∃ Mf, ja_D true jy_E k_Law_law 82 [some (jr 175), some (jr 1), some (jr 137), some (jr 171), some (ji l), none, none] [] M = some (some (ji 1), Mf) ∧ Mf 0 1 ≤ M 0 1 + (if M 93 4 = 0 then 1 else 0) + (M 0 4 - l) ∧ Mf 0 2 ≤ M 0 2 + (if M 93 4 = 0 then 5000 else 0) + 6 * (M 0 4 - l) := by
  obtain ⟨hJ, hs, hL, hl⟩ := ha
  have w1 : ja_w (l + 1) = l + 1 := ja_w_id (by omega) (by omega)
  have b1 : 0 ≤ l + 1 ∧ l + 1 < M 0 4 := by omega
  have w6 : ja_w (l + 6) = l + 6 := ja_w_id (by omega) (by omega)
  obtain ⟨v, M1, M2, hX, hR, hJ2, hrm⟩ := op (M 175 (l + 1).toNat) (hs _) M hJ
  obtain ⟨g1, g2⟩ := jy_gr hX
  obtain ⟨g3, g4⟩ := jy_gr hR
  refine jy_room (M2 := M2) (g3.trans g1) hrm ?_ (nx M2 hJ2 (g3.trans g1) (g4.trans g2) hrm)
  rw [e_Law_82, w1, if_pos b1, hX, jz_bI, g1, g2, if_pos b1, hR, jz_bI, if_pos rfl, w6]
def jy_o2 : Prop := ∀ a1 : Int, (-2147483648 ≤ a1 ∧ a1 < 2147483648) → jOp (jy_E 19 [jr 1, ji a1]) (jy_E 205 [jr 137, ji a1])
theorem jy_c2 (op : jy_o2) {l : Int} {M : ja_M} (ha : jy_at l M) (h6 : l + 6 ≤ M 0 4) (nx : jy_nx l M) : ∃ Mf, ja_D true jy_E k_Law_law 99 [some (jr 175), some (jr 1), some (jr 137), some (jr 171), some (ji l), none, none] [] M = some (some (ji 1), Mf) ∧ Mf 0 1 ≤ M 0 1 + (if M 93 4 = 0 then 1 else 0) + (M 0 4 - l) ∧ Mf 0 2 ≤ M 0 2 + (if M 93 4 = 0 then 5000 else 0) + 6 * (M 0 4 - l) := by
  obtain ⟨hJ, hs, hL, hl⟩ := ha
  have w1 : ja_w (l + 1) = l + 1 := ja_w_id (by omega) (by omega)
  have b1 : 0 ≤ l + 1 ∧ l + 1 < M 0 4 := by omega
  have w6 : ja_w (l + 6) = l + 6 := ja_w_id (by omega) (by omega)
  obtain ⟨v, M1, M2, hX, hR, hJ2, hrm⟩ := op (M 175 (l + 1).toNat) (hs _) M hJ
  obtain ⟨g1, g2⟩ := jy_gr hX
  obtain ⟨g3, g4⟩ := jy_gr hR
  refine jy_room (M2 := M2) (g3.trans g1) hrm ?_ (nx M2 hJ2 (g3.trans g1) (g4.trans g2) hrm)
  rw [e_Law_99, w1, if_pos b1, hX, jz_bI, g1, g2, if_pos b1, hR, jz_bI, if_pos rfl, w6]
def jy_o3 : Prop := ∀ a1 : Int, (-2147483648 ≤ a1 ∧ a1 < 2147483648) → jOp (jy_E 54 [jr 1, ji a1]) (jy_E 235 [jr 137, ji a1])
theorem jy_c3 (op : jy_o3) {l : Int} {M : ja_M} (ha : jy_at l M) (h6 : l + 6 ≤ M 0 4) (nx : jy_nx l M) : ∃ Mf, ja_D true jy_E k_Law_law 116 [some (jr 175), some (jr 1), some (jr 137), some (jr 171), some (ji l), none, none] [] M = some (some (ji 1), Mf) ∧ Mf 0 1 ≤ M 0 1 + (if M 93 4 = 0 then 1 else 0) + (M 0 4 - l) ∧ Mf 0 2 ≤ M 0 2 + (if M 93 4 = 0 then 5000 else 0) + 6 * (M 0 4 - l) := by
  obtain ⟨hJ, hs, hL, hl⟩ := ha
  have w1 : ja_w (l + 1) = l + 1 := ja_w_id (by omega) (by omega)
  have b1 : 0 ≤ l + 1 ∧ l + 1 < M 0 4 := by omega
  have w6 : ja_w (l + 6) = l + 6 := ja_w_id (by omega) (by omega)
  obtain ⟨v, M1, M2, hX, hR, hJ2, hrm⟩ := op (M 175 (l + 1).toNat) (hs _) M hJ
  obtain ⟨g1, g2⟩ := jy_gr hX
  obtain ⟨g3, g4⟩ := jy_gr hR
  refine jy_room (M2 := M2) (g3.trans g1) hrm ?_ (nx M2 hJ2 (g3.trans g1) (g4.trans g2) hrm)
  rw [e_Law_116, w1, if_pos b1, hX, jz_bI, g1, g2, if_pos b1, hR, jz_bI, if_pos rfl, w6]
def jy_o5 : Prop := ∀ a1 a2 : Int, (-2147483648 ≤ a1 ∧ a1 < 2147483648) → (-2147483648 ≤ a2 ∧ a2 < 2147483648) → jOp (jy_E 66 [jr 1, ji a1, ji a2]) (jy_E 239 [jr 137, ji a1, ji a2])
theorem jy_c5 (op : jy_o5) {l : Int} {M : ja_M} (ha : jy_at l M) (h6 : l + 6 ≤ M 0 4) (nx : jy_nx l M) : ∃ Mf, ja_D true jy_E k_Law_law 178 [some (jr 175), some (jr 1), some (jr 137), some (jr 171), some (ji l), none, none] [] M = some (some (ji 1), Mf) ∧ Mf 0 1 ≤ M 0 1 + (if M 93 4 = 0 then 1 else 0) + (M 0 4 - l) ∧ Mf 0 2 ≤ M 0 2 + (if M 93 4 = 0 then 5000 else 0) + 6 * (M 0 4 - l) := by
  obtain ⟨hJ, hs, hL, hl⟩ := ha
  have w1 : ja_w (l + 1) = l + 1 := ja_w_id (by omega) (by omega)
  have b1 : 0 ≤ l + 1 ∧ l + 1 < M 0 4 := by omega
  have w2 : ja_w (l + 2) = l + 2 := ja_w_id (by omega) (by omega)
  have b2 : 0 ≤ l + 2 ∧ l + 2 < M 0 4 := by omega
  have w6 : ja_w (l + 6) = l + 6 := ja_w_id (by omega) (by omega)
  obtain ⟨v, M1, M2, hX, hR, hJ2, hrm⟩ := op (M 175 (l + 1).toNat) (M 175 (l + 2).toNat) (hs _) (hs _) M hJ
  obtain ⟨g1, g2⟩ := jy_gr hX
  obtain ⟨g3, g4⟩ := jy_gr hR
  refine jy_room (M2 := M2) (g3.trans g1) hrm ?_ (nx M2 hJ2 (g3.trans g1) (g4.trans g2) hrm)
  rw [e_Law_178, w1, w2, if_pos b1, if_pos b2, hX, jz_bI, g1, g2, if_pos b1, if_pos b2, hR, jz_bI, if_pos rfl, w6]
def jy_o6 : Prop := ∀ a1 a2 : Int, (-2147483648 ≤ a1 ∧ a1 < 2147483648) → (-2147483648 ≤ a2 ∧ a2 < 2147483648) → jOp (jy_E 73 [jr 1, ji a1, ji a2]) (jy_E 243 [jr 137, ji a1, ji a2])
theorem jy_c6 (op : jy_o6) {l : Int} {M : ja_M} (ha : jy_at l M) (h6 : l + 6 ≤ M 0 4) (nx : jy_nx l M) : ∃ Mf, ja_D true jy_E k_Law_law 205 [some (jr 175), some (jr 1), some (jr 137), some (jr 171), some (ji l), none, none] [] M = some (some (ji 1), Mf) ∧ Mf 0 1 ≤ M 0 1 + (if M 93 4 = 0 then 1 else 0) + (M 0 4 - l) ∧ Mf 0 2 ≤ M 0 2 + (if M 93 4 = 0 then 5000 else 0) + 6 * (M 0 4 - l) := by
  obtain ⟨hJ, hs, hL, hl⟩ := ha
  have w1 : ja_w (l + 1) = l + 1 := ja_w_id (by omega) (by omega)
  have b1 : 0 ≤ l + 1 ∧ l + 1 < M 0 4 := by omega
  have w2 : ja_w (l + 2) = l + 2 := ja_w_id (by omega) (by omega)
  have b2 : 0 ≤ l + 2 ∧ l + 2 < M 0 4 := by omega
  have w6 : ja_w (l + 6) = l + 6 := ja_w_id (by omega) (by omega)
  obtain ⟨v, M1, M2, hX, hR, hJ2, hrm⟩ := op (M 175 (l + 1).toNat) (M 175 (l + 2).toNat) (hs _) (hs _) M hJ
  obtain ⟨g1, g2⟩ := jy_gr hX
  obtain ⟨g3, g4⟩ := jy_gr hR
  refine jy_room (M2 := M2) (g3.trans g1) hrm ?_ (nx M2 hJ2 (g3.trans g1) (g4.trans g2) hrm)
  rw [e_Law_205, w1, w2, if_pos b1, if_pos b2, hX, jz_bI, g1, g2, if_pos b1, if_pos b2, hR, jz_bI, if_pos rfl, w6]
def jy_o7 : Prop := ∀ a1 a2 : Int, (-2147483648 ≤ a1 ∧ a1 < 2147483648) → (-2147483648 ≤ a2 ∧ a2 < 2147483648) → jOp (jy_E 79 [jr 1, ji a1, ji a2]) (jy_E 249 [jr 137, ji a1, ji a2])
theorem jy_c7 (op : jy_o7) {l : Int} {M : ja_M} (ha : jy_at l M) (h6 : l + 6 ≤ M 0 4) (nx : jy_nx l M) : ∃ Mf, ja_D true jy_E k_Law_law 232 [some (jr 175), some (jr 1), some (jr 137), some (jr 171), some (ji l), none, none] [] M = some (some (ji 1), Mf) ∧ Mf 0 1 ≤ M 0 1 + (if M 93 4 = 0 then 1 else 0) + (M 0 4 - l) ∧ Mf 0 2 ≤ M 0 2 + (if M 93 4 = 0 then 5000 else 0) + 6 * (M 0 4 - l) := by
  obtain ⟨hJ, hs, hL, hl⟩ := ha
  have w1 : ja_w (l + 1) = l + 1 := ja_w_id (by omega) (by omega)
  have b1 : 0 ≤ l + 1 ∧ l + 1 < M 0 4 := by omega
  have w2 : ja_w (l + 2) = l + 2 := ja_w_id (by omega) (by omega)
  have b2 : 0 ≤ l + 2 ∧ l + 2 < M 0 4 := by omega
  have w6 : ja_w (l + 6) = l + 6 := ja_w_id (by omega) (by omega)
  obtain ⟨v, M1, M2, hX, hR, hJ2, hrm⟩ := op (M 175 (l + 1).toNat) (M 175 (l + 2).toNat) (hs _) (hs _) M hJ
  obtain ⟨g1, g2⟩ := jy_gr hX
  obtain ⟨g3, g4⟩ := jy_gr hR
  refine jy_room (M2 := M2) (g3.trans g1) hrm ?_ (nx M2 hJ2 (g3.trans g1) (g4.trans g2) hrm)
  rw [e_Law_232, w1, w2, if_pos b1, if_pos b2, hX, jz_bI, g1, g2, if_pos b1, if_pos b2, hR, jz_bI, if_pos rfl, w6]
def jy_o8 : Prop := ∀ a1 : Int, (-2147483648 ≤ a1 ∧ a1 < 2147483648) → jOp (jy_E 81 [jr 1, ji a1]) (jy_E 250 [jr 137, ji a1])
theorem jy_c8 (op : jy_o8) {l : Int} {M : ja_M} (ha : jy_at l M) (h6 : l + 6 ≤ M 0 4) (nx : jy_nx l M) : ∃ Mf, ja_D true jy_E k_Law_law 259 [some (jr 175), some (jr 1), some (jr 137), some (jr 171), some (ji l), none, none] [] M = some (some (ji 1), Mf) ∧ Mf 0 1 ≤ M 0 1 + (if M 93 4 = 0 then 1 else 0) + (M 0 4 - l) ∧ Mf 0 2 ≤ M 0 2 + (if M 93 4 = 0 then 5000 else 0) + 6 * (M 0 4 - l) := by
  obtain ⟨hJ, hs, hL, hl⟩ := ha
  have w1 : ja_w (l + 1) = l + 1 := ja_w_id (by omega) (by omega)
  have b1 : 0 ≤ l + 1 ∧ l + 1 < M 0 4 := by omega
  have w6 : ja_w (l + 6) = l + 6 := ja_w_id (by omega) (by omega)
  obtain ⟨v, M1, M2, hX, hR, hJ2, hrm⟩ := op (M 175 (l + 1).toNat) (hs _) M hJ
  obtain ⟨g1, g2⟩ := jy_gr hX
  obtain ⟨g3, g4⟩ := jy_gr hR
  refine jy_room (M2 := M2) (g3.trans g1) hrm ?_ (nx M2 hJ2 (g3.trans g1) (g4.trans g2) hrm)
  rw [e_Law_259, w1, if_pos b1, hX, jz_bI, g1, g2, if_pos b1, hR, jz_bI, if_pos rfl, w6]
def jy_o9 : Prop := jOp (jy_E 83 [jr 1]) (jy_E 251 [jr 137])
theorem jy_c9 (op : jy_o9) {l : Int} {M : ja_M} (ha : jy_at l M) (h6 : l + 6 ≤ M 0 4) (nx : jy_nx l M) : ∃ Mf, ja_D true jy_E k_Law_law 276 [some (jr 175), some (jr 1), some (jr 137), some (jr 171), some (ji l), none, none] [] M = some (some (ji 1), Mf) ∧ Mf 0 1 ≤ M 0 1 + (if M 93 4 = 0 then 1 else 0) + (M 0 4 - l) ∧ Mf 0 2 ≤ M 0 2 + (if M 93 4 = 0 then 5000 else 0) + 6 * (M 0 4 - l) := by
  obtain ⟨hJ, hs, hL, hl⟩ := ha
  have w6 : ja_w (l + 6) = l + 6 := ja_w_id (by omega) (by omega)
  obtain ⟨v, M1, M2, hX, hR, hJ2, hrm⟩ := op M hJ
  obtain ⟨g1, g2⟩ := jy_gr hX
  obtain ⟨g3, g4⟩ := jy_gr hR
  refine jy_room (M2 := M2) (g3.trans g1) hrm ?_ (nx M2 hJ2 (g3.trans g1) (g4.trans g2) hrm)
  rw [e_Law_276, hX, jz_bI, hR, jz_bI, if_pos rfl, w6]
def jy_o10 : Prop := ∀ a1 a2 : Int, (-2147483648 ≤ a1 ∧ a1 < 2147483648) → (-2147483648 ≤ a2 ∧ a2 < 2147483648) → jOp (jy_E 86 [jr 1, ji a1, ji a2]) (jy_E 252 [jr 137, ji a1, ji a2])
theorem jy_c10 (op : jy_o10) {l : Int} {M : ja_M} (ha : jy_at l M) (h6 : l + 6 ≤ M 0 4) (nx : jy_nx l M) : ∃ Mf, ja_D true jy_E k_Law_law 283 [some (jr 175), some (jr 1), some (jr 137), some (jr 171), some (ji l), none, none] [] M = some (some (ji 1), Mf) ∧ Mf 0 1 ≤ M 0 1 + (if M 93 4 = 0 then 1 else 0) + (M 0 4 - l) ∧ Mf 0 2 ≤ M 0 2 + (if M 93 4 = 0 then 5000 else 0) + 6 * (M 0 4 - l) := by
  obtain ⟨hJ, hs, hL, hl⟩ := ha
  have w1 : ja_w (l + 1) = l + 1 := ja_w_id (by omega) (by omega)
  have b1 : 0 ≤ l + 1 ∧ l + 1 < M 0 4 := by omega
  have w2 : ja_w (l + 2) = l + 2 := ja_w_id (by omega) (by omega)
  have b2 : 0 ≤ l + 2 ∧ l + 2 < M 0 4 := by omega
  have w6 : ja_w (l + 6) = l + 6 := ja_w_id (by omega) (by omega)
  obtain ⟨v, M1, M2, hX, hR, hJ2, hrm⟩ := op (M 175 (l + 1).toNat) (M 175 (l + 2).toNat) (hs _) (hs _) M hJ
  obtain ⟨g1, g2⟩ := jy_gr hX
  obtain ⟨g3, g4⟩ := jy_gr hR
  refine jy_room (M2 := M2) (g3.trans g1) hrm ?_ (nx M2 hJ2 (g3.trans g1) (g4.trans g2) hrm)
  rw [e_Law_283, w1, w2, if_pos b1, if_pos b2, hX, jz_bI, g1, g2, if_pos b1, if_pos b2, hR, jz_bI, if_pos rfl, w6]
def jy_o11 : Prop := ∀ a1 a2 : Int, (-2147483648 ≤ a1 ∧ a1 < 2147483648) → (-2147483648 ≤ a2 ∧ a2 < 2147483648) → jOp (jy_E 87 [jr 1, ji a1, ji a2]) (jy_E 253 [jr 137, ji a1, ji a2])
theorem jy_c11 (op : jy_o11) {l : Int} {M : ja_M} (ha : jy_at l M) (h6 : l + 6 ≤ M 0 4) (nx : jy_nx l M) : ∃ Mf, ja_D true jy_E k_Law_law 310 [some (jr 175), some (jr 1), some (jr 137), some (jr 171), some (ji l), none, none] [] M = some (some (ji 1), Mf) ∧ Mf 0 1 ≤ M 0 1 + (if M 93 4 = 0 then 1 else 0) + (M 0 4 - l) ∧ Mf 0 2 ≤ M 0 2 + (if M 93 4 = 0 then 5000 else 0) + 6 * (M 0 4 - l) := by
  obtain ⟨hJ, hs, hL, hl⟩ := ha
  have w1 : ja_w (l + 1) = l + 1 := ja_w_id (by omega) (by omega)
  have b1 : 0 ≤ l + 1 ∧ l + 1 < M 0 4 := by omega
  have w2 : ja_w (l + 2) = l + 2 := ja_w_id (by omega) (by omega)
  have b2 : 0 ≤ l + 2 ∧ l + 2 < M 0 4 := by omega
  have w6 : ja_w (l + 6) = l + 6 := ja_w_id (by omega) (by omega)
  obtain ⟨v, M1, M2, hX, hR, hJ2, hrm⟩ := op (M 175 (l + 1).toNat) (M 175 (l + 2).toNat) (hs _) (hs _) M hJ
  obtain ⟨g1, g2⟩ := jy_gr hX
  obtain ⟨g3, g4⟩ := jy_gr hR
  refine jy_room (M2 := M2) (g3.trans g1) hrm ?_ (nx M2 hJ2 (g3.trans g1) (g4.trans g2) hrm)
  rw [e_Law_310, w1, w2, if_pos b1, if_pos b2, hX, jz_bI, g1, g2, if_pos b1, if_pos b2, hR, jz_bI, if_pos rfl, w6]
def jy_o12 : Prop := jOp (jy_E 89 [jr 1]) (jy_E 255 [jr 137])
theorem jy_c12 (op : jy_o12) {l : Int} {M : ja_M} (ha : jy_at l M) (h6 : l + 6 ≤ M 0 4) (nx : jy_nx l M) : ∃ Mf, ja_D true jy_E k_Law_law 337 [some (jr 175), some (jr 1), some (jr 137), some (jr 171), some (ji l), none, none] [] M = some (some (ji 1), Mf) ∧ Mf 0 1 ≤ M 0 1 + (if M 93 4 = 0 then 1 else 0) + (M 0 4 - l) ∧ Mf 0 2 ≤ M 0 2 + (if M 93 4 = 0 then 5000 else 0) + 6 * (M 0 4 - l) := by
  obtain ⟨hJ, hs, hL, hl⟩ := ha
  have w6 : ja_w (l + 6) = l + 6 := ja_w_id (by omega) (by omega)
  obtain ⟨v, M1, M2, hX, hR, hJ2, hrm⟩ := op M hJ
  obtain ⟨g1, g2⟩ := jy_gr hX
  obtain ⟨g3, g4⟩ := jy_gr hR
  refine jy_room (M2 := M2) (g3.trans g1) hrm ?_ (nx M2 hJ2 (g3.trans g1) (g4.trans g2) hrm)
  rw [e_Law_337, hX, jz_bI, hR, jz_bI, if_pos rfl, w6]
def jy_o13 : Prop := ∀ a1 : Int, (-2147483648 ≤ a1 ∧ a1 < 2147483648) → jOp (jy_E 97 [jr 1, ji a1]) (jy_E 258 [jr 137, ji a1])
theorem jy_c13 (op : jy_o13) {l : Int} {M : ja_M} (ha : jy_at l M) (h6 : l + 6 ≤ M 0 4) (nx : jy_nx l M) : ∃ Mf, ja_D true jy_E k_Law_law 344 [some (jr 175), some (jr 1), some (jr 137), some (jr 171), some (ji l), none, none] [] M = some (some (ji 1), Mf) ∧ Mf 0 1 ≤ M 0 1 + (if M 93 4 = 0 then 1 else 0) + (M 0 4 - l) ∧ Mf 0 2 ≤ M 0 2 + (if M 93 4 = 0 then 5000 else 0) + 6 * (M 0 4 - l) := by
  obtain ⟨hJ, hs, hL, hl⟩ := ha
  have w1 : ja_w (l + 1) = l + 1 := ja_w_id (by omega) (by omega)
  have b1 : 0 ≤ l + 1 ∧ l + 1 < M 0 4 := by omega
  have w6 : ja_w (l + 6) = l + 6 := ja_w_id (by omega) (by omega)
  obtain ⟨v, M1, M2, hX, hR, hJ2, hrm⟩ := op (M 175 (l + 1).toNat) (hs _) M hJ
  obtain ⟨g1, g2⟩ := jy_gr hX
  obtain ⟨g3, g4⟩ := jy_gr hR
  refine jy_room (M2 := M2) (g3.trans g1) hrm ?_ (nx M2 hJ2 (g3.trans g1) (g4.trans g2) hrm)
  rw [e_Law_344, w1, if_pos b1, hX, jz_bI, g1, g2, if_pos b1, hR, jz_bI, if_pos rfl, w6]
def jy_o14 : Prop := ∀ a1 a2 a3 : Int, (-2147483648 ≤ a1 ∧ a1 < 2147483648) → (-2147483648 ≤ a2 ∧ a2 < 2147483648) → (-2147483648 ≤ a3 ∧ a3 < 2147483648) → jOp (jy_E 98 [jr 1, ji a1, ji a2, ji a3]) (jy_E 260 [jr 137, ji a1, ji a2, ji a3])
theorem jy_c14 (op : jy_o14) {l : Int} {M : ja_M} (ha : jy_at l M) (h6 : l + 6 ≤ M 0 4) (nx : jy_nx l M) : ∃ Mf, ja_D true jy_E k_Law_law 361 [some (jr 175), some (jr 1), some (jr 137), some (jr 171), some (ji l), none, none] [] M = some (some (ji 1), Mf) ∧ Mf 0 1 ≤ M 0 1 + (if M 93 4 = 0 then 1 else 0) + (M 0 4 - l) ∧ Mf 0 2 ≤ M 0 2 + (if M 93 4 = 0 then 5000 else 0) + 6 * (M 0 4 - l) := by
  obtain ⟨hJ, hs, hL, hl⟩ := ha
  have w1 : ja_w (l + 1) = l + 1 := ja_w_id (by omega) (by omega)
  have b1 : 0 ≤ l + 1 ∧ l + 1 < M 0 4 := by omega
  have w2 : ja_w (l + 2) = l + 2 := ja_w_id (by omega) (by omega)
  have b2 : 0 ≤ l + 2 ∧ l + 2 < M 0 4 := by omega
  have w3 : ja_w (l + 3) = l + 3 := ja_w_id (by omega) (by omega)
  have b3 : 0 ≤ l + 3 ∧ l + 3 < M 0 4 := by omega
  have w6 : ja_w (l + 6) = l + 6 := ja_w_id (by omega) (by omega)
  obtain ⟨v, M1, M2, hX, hR, hJ2, hrm⟩ := op (M 175 (l + 1).toNat) (M 175 (l + 2).toNat) (M 175 (l + 3).toNat) (hs _) (hs _) (hs _) M hJ
  obtain ⟨g1, g2⟩ := jy_gr hX
  obtain ⟨g3, g4⟩ := jy_gr hR
  refine jy_room (M2 := M2) (g3.trans g1) hrm ?_ (nx M2 hJ2 (g3.trans g1) (g4.trans g2) hrm)
  rw [e_Law_361, w1, w2, w3, if_pos b1, if_pos b2, if_pos b3, hX, jz_bI, g1, g2, if_pos b1, if_pos b2, if_pos b3, hR, jz_bI, if_pos rfl, w6]
def jy_o15 : Prop := jOp (jy_E 100 [jr 1]) (jy_E 261 [jr 137])
theorem jy_c15 (op : jy_o15) {l : Int} {M : ja_M} (ha : jy_at l M) (h6 : l + 6 ≤ M 0 4) (nx : jy_nx l M) : ∃ Mf, ja_D true jy_E k_Law_law 398 [some (jr 175), some (jr 1), some (jr 137), some (jr 171), some (ji l), none, none] [] M = some (some (ji 1), Mf) ∧ Mf 0 1 ≤ M 0 1 + (if M 93 4 = 0 then 1 else 0) + (M 0 4 - l) ∧ Mf 0 2 ≤ M 0 2 + (if M 93 4 = 0 then 5000 else 0) + 6 * (M 0 4 - l) := by
  obtain ⟨hJ, hs, hL, hl⟩ := ha
  have w6 : ja_w (l + 6) = l + 6 := ja_w_id (by omega) (by omega)
  obtain ⟨v, M1, M2, hX, hR, hJ2, hrm⟩ := op M hJ
  obtain ⟨g1, g2⟩ := jy_gr hX
  obtain ⟨g3, g4⟩ := jy_gr hR
  refine jy_room (M2 := M2) (g3.trans g1) hrm ?_ (nx M2 hJ2 (g3.trans g1) (g4.trans g2) hrm)
  rw [e_Law_398, hX, jz_bI, hR, jz_bI, if_pos rfl, w6]
def jy_o16 : Prop := ∀ a1 a2 : Int, (-2147483648 ≤ a1 ∧ a1 < 2147483648) → (-2147483648 ≤ a2 ∧ a2 < 2147483648) → jOp (jy_E 103 [jr 1, ji a1, ji a2]) (jy_E 262 [jr 137, ji a1, ji a2])
theorem jy_c16 (op : jy_o16) {l : Int} {M : ja_M} (ha : jy_at l M) (h6 : l + 6 ≤ M 0 4) (nx : jy_nx l M) : ∃ Mf, ja_D true jy_E k_Law_law 405 [some (jr 175), some (jr 1), some (jr 137), some (jr 171), some (ji l), none, none] [] M = some (some (ji 1), Mf) ∧ Mf 0 1 ≤ M 0 1 + (if M 93 4 = 0 then 1 else 0) + (M 0 4 - l) ∧ Mf 0 2 ≤ M 0 2 + (if M 93 4 = 0 then 5000 else 0) + 6 * (M 0 4 - l) := by
  obtain ⟨hJ, hs, hL, hl⟩ := ha
  have w1 : ja_w (l + 1) = l + 1 := ja_w_id (by omega) (by omega)
  have b1 : 0 ≤ l + 1 ∧ l + 1 < M 0 4 := by omega
  have w2 : ja_w (l + 2) = l + 2 := ja_w_id (by omega) (by omega)
  have b2 : 0 ≤ l + 2 ∧ l + 2 < M 0 4 := by omega
  have w6 : ja_w (l + 6) = l + 6 := ja_w_id (by omega) (by omega)
  obtain ⟨v, M1, M2, hX, hR, hJ2, hrm⟩ := op (M 175 (l + 1).toNat) (M 175 (l + 2).toNat) (hs _) (hs _) M hJ
  obtain ⟨g1, g2⟩ := jy_gr hX
  obtain ⟨g3, g4⟩ := jy_gr hR
  refine jy_room (M2 := M2) (g3.trans g1) hrm ?_ (nx M2 hJ2 (g3.trans g1) (g4.trans g2) hrm)
  rw [e_Law_405, w1, w2, if_pos b1, if_pos b2, hX, jz_bI, g1, g2, if_pos b1, if_pos b2, hR, jz_bI, if_pos rfl, w6]
def jy_o17 : Prop := jOp (jy_E 105 [jr 1]) (jy_E 263 [jr 137])
theorem jy_c17 (op : jy_o17) {l : Int} {M : ja_M} (ha : jy_at l M) (h6 : l + 6 ≤ M 0 4) (nx : jy_nx l M) : ∃ Mf, ja_D true jy_E k_Law_law 432 [some (jr 175), some (jr 1), some (jr 137), some (jr 171), some (ji l), none, none] [] M = some (some (ji 1), Mf) ∧ Mf 0 1 ≤ M 0 1 + (if M 93 4 = 0 then 1 else 0) + (M 0 4 - l) ∧ Mf 0 2 ≤ M 0 2 + (if M 93 4 = 0 then 5000 else 0) + 6 * (M 0 4 - l) := by
  obtain ⟨hJ, hs, hL, hl⟩ := ha
  have w6 : ja_w (l + 6) = l + 6 := ja_w_id (by omega) (by omega)
  obtain ⟨v, M1, M2, hX, hR, hJ2, hrm⟩ := op M hJ
  obtain ⟨g1, g2⟩ := jy_gr hX
  obtain ⟨g3, g4⟩ := jy_gr hR
  refine jy_room (M2 := M2) (g3.trans g1) hrm ?_ (nx M2 hJ2 (g3.trans g1) (g4.trans g2) hrm)
  rw [e_Law_432, hX, jz_bI, hR, jz_bI, if_pos rfl, w6]
def jy_o18 : Prop := ∀ a1 : Int, (-2147483648 ≤ a1 ∧ a1 < 2147483648) → jOp (jy_E 110 [jr 1, ji a1]) (jy_E 270 [jr 137, ji a1])
theorem jy_c18 (op : jy_o18) {l : Int} {M : ja_M} (ha : jy_at l M) (h6 : l + 6 ≤ M 0 4) (nx : jy_nx l M) : ∃ Mf, ja_D true jy_E k_Law_law 439 [some (jr 175), some (jr 1), some (jr 137), some (jr 171), some (ji l), none, none] [] M = some (some (ji 1), Mf) ∧ Mf 0 1 ≤ M 0 1 + (if M 93 4 = 0 then 1 else 0) + (M 0 4 - l) ∧ Mf 0 2 ≤ M 0 2 + (if M 93 4 = 0 then 5000 else 0) + 6 * (M 0 4 - l) := by
  obtain ⟨hJ, hs, hL, hl⟩ := ha
  have w1 : ja_w (l + 1) = l + 1 := ja_w_id (by omega) (by omega)
  have b1 : 0 ≤ l + 1 ∧ l + 1 < M 0 4 := by omega
  have w6 : ja_w (l + 6) = l + 6 := ja_w_id (by omega) (by omega)
  obtain ⟨v, M1, M2, hX, hR, hJ2, hrm⟩ := op (M 175 (l + 1).toNat) (hs _) M hJ
  obtain ⟨g1, g2⟩ := jy_gr hX
  obtain ⟨g3, g4⟩ := jy_gr hR
  refine jy_room (M2 := M2) (g3.trans g1) hrm ?_ (nx M2 hJ2 (g3.trans g1) (g4.trans g2) hrm)
  rw [e_Law_439, w1, if_pos b1, hX, jz_bI, g1, g2, if_pos b1, hR, jz_bI, if_pos rfl, w6]
def jy_o19 : Prop := ∀ a1 a2 : Int, (-2147483648 ≤ a1 ∧ a1 < 2147483648) → (-2147483648 ≤ a2 ∧ a2 < 2147483648) → jOp (jy_E 121 [jr 1, ji a1, ji a2]) (jy_E 264 [jr 137, ji a1, ji a2])
theorem jy_c19 (op : jy_o19) {l : Int} {M : ja_M} (ha : jy_at l M) (h6 : l + 6 ≤ M 0 4) (nx : jy_nx l M) : ∃ Mf, ja_D true jy_E k_Law_law 456 [some (jr 175), some (jr 1), some (jr 137), some (jr 171), some (ji l), none, none] [] M = some (some (ji 1), Mf) ∧ Mf 0 1 ≤ M 0 1 + (if M 93 4 = 0 then 1 else 0) + (M 0 4 - l) ∧ Mf 0 2 ≤ M 0 2 + (if M 93 4 = 0 then 5000 else 0) + 6 * (M 0 4 - l) := by
  obtain ⟨hJ, hs, hL, hl⟩ := ha
  have w1 : ja_w (l + 1) = l + 1 := ja_w_id (by omega) (by omega)
  have b1 : 0 ≤ l + 1 ∧ l + 1 < M 0 4 := by omega
  have w2 : ja_w (l + 2) = l + 2 := ja_w_id (by omega) (by omega)
  have b2 : 0 ≤ l + 2 ∧ l + 2 < M 0 4 := by omega
  have w6 : ja_w (l + 6) = l + 6 := ja_w_id (by omega) (by omega)
  obtain ⟨v, M1, M2, hX, hR, hJ2, hrm⟩ := op (M 175 (l + 1).toNat) (M 175 (l + 2).toNat) (hs _) (hs _) M hJ
  obtain ⟨g1, g2⟩ := jy_gr hX
  obtain ⟨g3, g4⟩ := jy_gr hR
  refine jy_room (M2 := M2) (g3.trans g1) hrm ?_ (nx M2 hJ2 (g3.trans g1) (g4.trans g2) hrm)
  rw [e_Law_456, w1, w2, if_pos b1, if_pos b2, hX, jz_bI, g1, g2, if_pos b1, if_pos b2, hR, jz_bI, if_pos rfl, w6]
def jy_o20 : Prop := ∀ a1 : Int, (-2147483648 ≤ a1 ∧ a1 < 2147483648) → jOp (jy_E 123 [jr 1, ji a1]) (jy_E 268 [jr 137, ji a1])
theorem jy_c20 (op : jy_o20) {l : Int} {M : ja_M} (ha : jy_at l M) (h6 : l + 6 ≤ M 0 4) (nx : jy_nx l M) : ∃ Mf, ja_D true jy_E k_Law_law 483 [some (jr 175), some (jr 1), some (jr 137), some (jr 171), some (ji l), none, none] [] M = some (some (ji 1), Mf) ∧ Mf 0 1 ≤ M 0 1 + (if M 93 4 = 0 then 1 else 0) + (M 0 4 - l) ∧ Mf 0 2 ≤ M 0 2 + (if M 93 4 = 0 then 5000 else 0) + 6 * (M 0 4 - l) := by
  obtain ⟨hJ, hs, hL, hl⟩ := ha
  have w1 : ja_w (l + 1) = l + 1 := ja_w_id (by omega) (by omega)
  have b1 : 0 ≤ l + 1 ∧ l + 1 < M 0 4 := by omega
  have w6 : ja_w (l + 6) = l + 6 := ja_w_id (by omega) (by omega)
  obtain ⟨v, M1, M2, hX, hR, hJ2, hrm⟩ := op (M 175 (l + 1).toNat) (hs _) M hJ
  obtain ⟨g1, g2⟩ := jy_gr hX
  obtain ⟨g3, g4⟩ := jy_gr hR
  refine jy_room (M2 := M2) (g3.trans g1) hrm ?_ (nx M2 hJ2 (g3.trans g1) (g4.trans g2) hrm)
  rw [e_Law_483, w1, if_pos b1, hX, jz_bI, g1, g2, if_pos b1, hR, jz_bI, if_pos rfl, w6]
def jy_o21 : Prop := ∀ a1 : Int, (-2147483648 ≤ a1 ∧ a1 < 2147483648) → jOp (jy_E 125 [jr 1, ji a1]) (jy_E 276 [jr 137, ji a1])
theorem jy_c21 (op : jy_o21) {l : Int} {M : ja_M} (ha : jy_at l M) (h6 : l + 6 ≤ M 0 4) (nx : jy_nx l M) : ∃ Mf, ja_D true jy_E k_Law_law 500 [some (jr 175), some (jr 1), some (jr 137), some (jr 171), some (ji l), none, none] [] M = some (some (ji 1), Mf) ∧ Mf 0 1 ≤ M 0 1 + (if M 93 4 = 0 then 1 else 0) + (M 0 4 - l) ∧ Mf 0 2 ≤ M 0 2 + (if M 93 4 = 0 then 5000 else 0) + 6 * (M 0 4 - l) := by
  obtain ⟨hJ, hs, hL, hl⟩ := ha
  have w1 : ja_w (l + 1) = l + 1 := ja_w_id (by omega) (by omega)
  have b1 : 0 ≤ l + 1 ∧ l + 1 < M 0 4 := by omega
  have w6 : ja_w (l + 6) = l + 6 := ja_w_id (by omega) (by omega)
  obtain ⟨v, M1, M2, hX, hR, hJ2, hrm⟩ := op (M 175 (l + 1).toNat) (hs _) M hJ
  obtain ⟨g1, g2⟩ := jy_gr hX
  obtain ⟨g3, g4⟩ := jy_gr hR
  refine jy_room (M2 := M2) (g3.trans g1) hrm ?_ (nx M2 hJ2 (g3.trans g1) (g4.trans g2) hrm)
  rw [e_Law_500, w1, if_pos b1, hX, jz_bI, g1, g2, if_pos b1, hR, jz_bI, if_pos rfl, w6]
def jy_o22 : Prop := ∀ a1 a2 : Int, (-2147483648 ≤ a1 ∧ a1 < 2147483648) → (-2147483648 ≤ a2 ∧ a2 < 2147483648) → jOp (jy_E 130 [jr 1, ji a1, ji a2]) (jy_E 278 [jr 137, ji a1, ji a2])
theorem jy_c22 (op : jy_o22) {l : Int} {M : ja_M} (ha : jy_at l M) (h6 : l + 6 ≤ M 0 4) (nx : jy_nx l M) : ∃ Mf, ja_D true jy_E k_Law_law 517 [some (jr 175), some (jr 1), some (jr 137), some (jr 171), some (ji l), none, none] [] M = some (some (ji 1), Mf) ∧ Mf 0 1 ≤ M 0 1 + (if M 93 4 = 0 then 1 else 0) + (M 0 4 - l) ∧ Mf 0 2 ≤ M 0 2 + (if M 93 4 = 0 then 5000 else 0) + 6 * (M 0 4 - l) := by
  obtain ⟨hJ, hs, hL, hl⟩ := ha
  have w1 : ja_w (l + 1) = l + 1 := ja_w_id (by omega) (by omega)
  have b1 : 0 ≤ l + 1 ∧ l + 1 < M 0 4 := by omega
  have w2 : ja_w (l + 2) = l + 2 := ja_w_id (by omega) (by omega)
  have b2 : 0 ≤ l + 2 ∧ l + 2 < M 0 4 := by omega
  have w6 : ja_w (l + 6) = l + 6 := ja_w_id (by omega) (by omega)
  obtain ⟨v, M1, M2, hX, hR, hJ2, hrm⟩ := op (M 175 (l + 1).toNat) (M 175 (l + 2).toNat) (hs _) (hs _) M hJ
  obtain ⟨g1, g2⟩ := jy_gr hX
  obtain ⟨g3, g4⟩ := jy_gr hR
  refine jy_room (M2 := M2) (g3.trans g1) hrm ?_ (nx M2 hJ2 (g3.trans g1) (g4.trans g2) hrm)
  rw [e_Law_517, w1, w2, if_pos b1, if_pos b2, hX, jz_bI, g1, g2, if_pos b1, if_pos b2, hR, jz_bI, if_pos rfl, w6]
def jy_o23 : Prop := ∀ a1 a2 : Int, (-2147483648 ≤ a1 ∧ a1 < 2147483648) → (-2147483648 ≤ a2 ∧ a2 < 2147483648) → jOp (jy_E 137 [jr 1, ji a1, ji a2]) (jy_E 279 [jr 137, ji a1, ji a2])
theorem jy_c23 (op : jy_o23) {l : Int} {M : ja_M} (ha : jy_at l M) (h6 : l + 6 ≤ M 0 4) (nx : jy_nx l M) : ∃ Mf, ja_D true jy_E k_Law_law 544 [some (jr 175), some (jr 1), some (jr 137), some (jr 171), some (ji l), none, none] [] M = some (some (ji 1), Mf) ∧ Mf 0 1 ≤ M 0 1 + (if M 93 4 = 0 then 1 else 0) + (M 0 4 - l) ∧ Mf 0 2 ≤ M 0 2 + (if M 93 4 = 0 then 5000 else 0) + 6 * (M 0 4 - l) := by
  obtain ⟨hJ, hs, hL, hl⟩ := ha
  have w1 : ja_w (l + 1) = l + 1 := ja_w_id (by omega) (by omega)
  have b1 : 0 ≤ l + 1 ∧ l + 1 < M 0 4 := by omega
  have w2 : ja_w (l + 2) = l + 2 := ja_w_id (by omega) (by omega)
  have b2 : 0 ≤ l + 2 ∧ l + 2 < M 0 4 := by omega
  have w6 : ja_w (l + 6) = l + 6 := ja_w_id (by omega) (by omega)
  obtain ⟨v, M1, M2, hX, hR, hJ2, hrm⟩ := op (M 175 (l + 1).toNat) (M 175 (l + 2).toNat) (hs _) (hs _) M hJ
  obtain ⟨g1, g2⟩ := jy_gr hX
  obtain ⟨g3, g4⟩ := jy_gr hR
  refine jy_room (M2 := M2) (g3.trans g1) hrm ?_ (nx M2 hJ2 (g3.trans g1) (g4.trans g2) hrm)
  rw [e_Law_544, w1, w2, if_pos b1, if_pos b2, hX, jz_bI, g1, g2, if_pos b1, if_pos b2, hR, jz_bI, if_pos rfl, w6]
def jy_o24 : Prop := ∀ a1 a2 : Int, (-2147483648 ≤ a1 ∧ a1 < 2147483648) → (-2147483648 ≤ a2 ∧ a2 < 2147483648) → jOp (jy_E 144 [jr 1, ji a1, ji a2]) (jy_E 283 [jr 137, ji a1, ji a2])
theorem jy_c24 (op : jy_o24) {l : Int} {M : ja_M} (ha : jy_at l M) (h6 : l + 6 ≤ M 0 4) (nx : jy_nx l M) : ∃ Mf, ja_D true jy_E k_Law_law 571 [some (jr 175), some (jr 1), some (jr 137), some (jr 171), some (ji l), none, none] [] M = some (some (ji 1), Mf) ∧ Mf 0 1 ≤ M 0 1 + (if M 93 4 = 0 then 1 else 0) + (M 0 4 - l) ∧ Mf 0 2 ≤ M 0 2 + (if M 93 4 = 0 then 5000 else 0) + 6 * (M 0 4 - l) := by
  obtain ⟨hJ, hs, hL, hl⟩ := ha
  have w1 : ja_w (l + 1) = l + 1 := ja_w_id (by omega) (by omega)
  have b1 : 0 ≤ l + 1 ∧ l + 1 < M 0 4 := by omega
  have w2 : ja_w (l + 2) = l + 2 := ja_w_id (by omega) (by omega)
  have b2 : 0 ≤ l + 2 ∧ l + 2 < M 0 4 := by omega
  have w6 : ja_w (l + 6) = l + 6 := ja_w_id (by omega) (by omega)
  obtain ⟨v, M1, M2, hX, hR, hJ2, hrm⟩ := op (M 175 (l + 1).toNat) (M 175 (l + 2).toNat) (hs _) (hs _) M hJ
  obtain ⟨g1, g2⟩ := jy_gr hX
  obtain ⟨g3, g4⟩ := jy_gr hR
  refine jy_room (M2 := M2) (g3.trans g1) hrm ?_ (nx M2 hJ2 (g3.trans g1) (g4.trans g2) hrm)
  rw [e_Law_571, w1, w2, if_pos b1, if_pos b2, hX, jz_bI, g1, g2, if_pos b1, if_pos b2, hR, jz_bI, if_pos rfl, w6]
def jy_o26 : Prop := ∀ a1 : Int, (-2147483648 ≤ a1 ∧ a1 < 2147483648) → jOp (jy_E 151 [jr 1, ji a1]) (jy_E 286 [jr 137, ji a1])
theorem jy_c26 (op : jy_o26) {l : Int} {M : ja_M} (ha : jy_at l M) (h6 : l + 6 ≤ M 0 4) (nx : jy_nx l M) : ∃ Mf, ja_D true jy_E k_Law_law 653 [some (jr 175), some (jr 1), some (jr 137), some (jr 171), some (ji l), none, none] [] M = some (some (ji 1), Mf) ∧ Mf 0 1 ≤ M 0 1 + (if M 93 4 = 0 then 1 else 0) + (M 0 4 - l) ∧ Mf 0 2 ≤ M 0 2 + (if M 93 4 = 0 then 5000 else 0) + 6 * (M 0 4 - l) := by
  obtain ⟨hJ, hs, hL, hl⟩ := ha
  have w1 : ja_w (l + 1) = l + 1 := ja_w_id (by omega) (by omega)
  have b1 : 0 ≤ l + 1 ∧ l + 1 < M 0 4 := by omega
  have w6 : ja_w (l + 6) = l + 6 := ja_w_id (by omega) (by omega)
  obtain ⟨v, M1, M2, hX, hR, hJ2, hrm⟩ := op (M 175 (l + 1).toNat) (hs _) M hJ
  obtain ⟨g1, g2⟩ := jy_gr hX
  obtain ⟨g3, g4⟩ := jy_gr hR
  refine jy_room (M2 := M2) (g3.trans g1) hrm ?_ (nx M2 hJ2 (g3.trans g1) (g4.trans g2) hrm)
  rw [e_Law_653, w1, if_pos b1, hX, jz_bI, g1, g2, if_pos b1, hR, jz_bI, if_pos rfl, w6]
def jy_o27 : Prop := ∀ a1 a2 : Int, (-2147483648 ≤ a1 ∧ a1 < 2147483648) → (-2147483648 ≤ a2 ∧ a2 < 2147483648) → jOp (jy_E 154 [jr 1, ji a1, ji a2]) (jy_E 288 [jr 137, ji a1, ji a2])
theorem jy_c27 (op : jy_o27) {l : Int} {M : ja_M} (ha : jy_at l M) (h6 : l + 6 ≤ M 0 4) (nx : jy_nx l M) : ∃ Mf, ja_D true jy_E k_Law_law 670 [some (jr 175), some (jr 1), some (jr 137), some (jr 171), some (ji l), none, none] [] M = some (some (ji 1), Mf) ∧ Mf 0 1 ≤ M 0 1 + (if M 93 4 = 0 then 1 else 0) + (M 0 4 - l) ∧ Mf 0 2 ≤ M 0 2 + (if M 93 4 = 0 then 5000 else 0) + 6 * (M 0 4 - l) := by
  obtain ⟨hJ, hs, hL, hl⟩ := ha
  have w1 : ja_w (l + 1) = l + 1 := ja_w_id (by omega) (by omega)
  have b1 : 0 ≤ l + 1 ∧ l + 1 < M 0 4 := by omega
  have w2 : ja_w (l + 2) = l + 2 := ja_w_id (by omega) (by omega)
  have b2 : 0 ≤ l + 2 ∧ l + 2 < M 0 4 := by omega
  have w6 : ja_w (l + 6) = l + 6 := ja_w_id (by omega) (by omega)
  obtain ⟨v, M1, M2, hX, hR, hJ2, hrm⟩ := op (M 175 (l + 1).toNat) (M 175 (l + 2).toNat) (hs _) (hs _) M hJ
  obtain ⟨g1, g2⟩ := jy_gr hX
  obtain ⟨g3, g4⟩ := jy_gr hR
  refine jy_room (M2 := M2) (g3.trans g1) hrm ?_ (nx M2 hJ2 (g3.trans g1) (g4.trans g2) hrm)
  rw [e_Law_670, w1, w2, if_pos b1, if_pos b2, hX, jz_bI, g1, g2, if_pos b1, if_pos b2, hR, jz_bI, if_pos rfl, w6]
def jy_o28 : Prop := ∀ a1 a2 a3 a4 : Int, (-2147483648 ≤ a1 ∧ a1 < 2147483648) → (-2147483648 ≤ a2 ∧ a2 < 2147483648) → (-2147483648 ≤ a3 ∧ a3 < 2147483648) → (-2147483648 ≤ a4 ∧ a4 < 2147483648) → jOp (jy_E 171 [jr 1, ji a1, ji a2, ji a3, ji a4]) (jy_E 291 [jr 137, ji a1, ji a2, ji a3, ji a4])
theorem jy_c28 (op : jy_o28) {l : Int} {M : ja_M} (ha : jy_at l M) (h6 : l + 6 ≤ M 0 4) (nx : jy_nx l M) : ∃ Mf, ja_D true jy_E k_Law_law 697 [some (jr 175), some (jr 1), some (jr 137), some (jr 171), some (ji l), none, none] [] M = some (some (ji 1), Mf) ∧ Mf 0 1 ≤ M 0 1 + (if M 93 4 = 0 then 1 else 0) + (M 0 4 - l) ∧ Mf 0 2 ≤ M 0 2 + (if M 93 4 = 0 then 5000 else 0) + 6 * (M 0 4 - l) := by
  obtain ⟨hJ, hs, hL, hl⟩ := ha
  have w1 : ja_w (l + 1) = l + 1 := ja_w_id (by omega) (by omega)
  have b1 : 0 ≤ l + 1 ∧ l + 1 < M 0 4 := by omega
  have w2 : ja_w (l + 2) = l + 2 := ja_w_id (by omega) (by omega)
  have b2 : 0 ≤ l + 2 ∧ l + 2 < M 0 4 := by omega
  have w3 : ja_w (l + 3) = l + 3 := ja_w_id (by omega) (by omega)
  have b3 : 0 ≤ l + 3 ∧ l + 3 < M 0 4 := by omega
  have w4 : ja_w (l + 4) = l + 4 := ja_w_id (by omega) (by omega)
  have b4 : 0 ≤ l + 4 ∧ l + 4 < M 0 4 := by omega
  have w6 : ja_w (l + 6) = l + 6 := ja_w_id (by omega) (by omega)
  obtain ⟨v, M1, M2, hX, hR, hJ2, hrm⟩ := op (M 175 (l + 1).toNat) (M 175 (l + 2).toNat) (M 175 (l + 3).toNat) (M 175 (l + 4).toNat) (hs _) (hs _) (hs _) (hs _) M hJ
  obtain ⟨g1, g2⟩ := jy_gr hX
  obtain ⟨g3, g4⟩ := jy_gr hR
  refine jy_room (M2 := M2) (g3.trans g1) hrm ?_ (nx M2 hJ2 (g3.trans g1) (g4.trans g2) hrm)
  rw [e_Law_697, w1, w2, w3, w4, if_pos b1, if_pos b2, if_pos b3, if_pos b4, hX, jz_bI, g1, g2, if_pos b1, if_pos b2, if_pos b3, if_pos b4, hR, jz_bI, if_pos rfl, w6]
def jy_o29 : Prop := ∀ a1 : Int, (-2147483648 ≤ a1 ∧ a1 < 2147483648) → jOp (jy_E 173 [jr 1, ji a1]) (jy_E 292 [jr 137, ji a1])
theorem jy_c29 (op : jy_o29) {l : Int} {M : ja_M} (ha : jy_at l M) (h6 : l + 6 ≤ M 0 4) (nx : jy_nx l M) : ∃ Mf, ja_D true jy_E k_Law_law 744 [some (jr 175), some (jr 1), some (jr 137), some (jr 171), some (ji l), none, none] [] M = some (some (ji 1), Mf) ∧ Mf 0 1 ≤ M 0 1 + (if M 93 4 = 0 then 1 else 0) + (M 0 4 - l) ∧ Mf 0 2 ≤ M 0 2 + (if M 93 4 = 0 then 5000 else 0) + 6 * (M 0 4 - l) := by
  obtain ⟨hJ, hs, hL, hl⟩ := ha
  have w1 : ja_w (l + 1) = l + 1 := ja_w_id (by omega) (by omega)
  have b1 : 0 ≤ l + 1 ∧ l + 1 < M 0 4 := by omega
  have w6 : ja_w (l + 6) = l + 6 := ja_w_id (by omega) (by omega)
  obtain ⟨v, M1, M2, hX, hR, hJ2, hrm⟩ := op (M 175 (l + 1).toNat) (hs _) M hJ
  obtain ⟨g1, g2⟩ := jy_gr hX
  obtain ⟨g3, g4⟩ := jy_gr hR
  refine jy_room (M2 := M2) (g3.trans g1) hrm ?_ (nx M2 hJ2 (g3.trans g1) (g4.trans g2) hrm)
  rw [e_Law_744, w1, if_pos b1, hX, jz_bI, g1, g2, if_pos b1, hR, jz_bI, if_pos rfl, w6]
def jy_o30 : Prop := ∀ a1 a2 a3 : Int, (-2147483648 ≤ a1 ∧ a1 < 2147483648) → (-2147483648 ≤ a2 ∧ a2 < 2147483648) → (-2147483648 ≤ a3 ∧ a3 < 2147483648) → jOp (jy_E 182 [jr 1, ji a1, ji a2, ji a3]) (jy_E 295 [jr 137, ji a1, ji a2, ji a3])
theorem jy_c30 (op : jy_o30) {l : Int} {M : ja_M} (ha : jy_at l M) (h6 : l + 6 ≤ M 0 4) (nx : jy_nx l M) : ∃ Mf, ja_D true jy_E k_Law_law 761 [some (jr 175), some (jr 1), some (jr 137), some (jr 171), some (ji l), none, none] [] M = some (some (ji 1), Mf) ∧ Mf 0 1 ≤ M 0 1 + (if M 93 4 = 0 then 1 else 0) + (M 0 4 - l) ∧ Mf 0 2 ≤ M 0 2 + (if M 93 4 = 0 then 5000 else 0) + 6 * (M 0 4 - l) := by
  obtain ⟨hJ, hs, hL, hl⟩ := ha
  have w1 : ja_w (l + 1) = l + 1 := ja_w_id (by omega) (by omega)
  have b1 : 0 ≤ l + 1 ∧ l + 1 < M 0 4 := by omega
  have w2 : ja_w (l + 2) = l + 2 := ja_w_id (by omega) (by omega)
  have b2 : 0 ≤ l + 2 ∧ l + 2 < M 0 4 := by omega
  have w3 : ja_w (l + 3) = l + 3 := ja_w_id (by omega) (by omega)
  have b3 : 0 ≤ l + 3 ∧ l + 3 < M 0 4 := by omega
  have w6 : ja_w (l + 6) = l + 6 := ja_w_id (by omega) (by omega)
  obtain ⟨v, M1, M2, hX, hR, hJ2, hrm⟩ := op (M 175 (l + 1).toNat) (M 175 (l + 2).toNat) (M 175 (l + 3).toNat) (hs _) (hs _) (hs _) M hJ
  obtain ⟨g1, g2⟩ := jy_gr hX
  obtain ⟨g3, g4⟩ := jy_gr hR
  refine jy_room (M2 := M2) (g3.trans g1) hrm ?_ (nx M2 hJ2 (g3.trans g1) (g4.trans g2) hrm)
  rw [e_Law_761, w1, w2, w3, if_pos b1, if_pos b2, if_pos b3, hX, jz_bI, g1, g2, if_pos b1, if_pos b2, if_pos b3, hR, jz_bI, if_pos rfl, w6]
def jy_o31 : Prop := ∀ a1 a2 : Int, (-2147483648 ≤ a1 ∧ a1 < 2147483648) → (-2147483648 ≤ a2 ∧ a2 < 2147483648) → jOp (jy_E 185 [jr 1, jl (ja_lor (ja_lshl a1 32) (ja_land a2 4294967295))]) (jy_E 297 [jr 137, jl (ja_lor (ja_lshl a1 32) (ja_land a2 4294967295))])
theorem jy_c31 (op : jy_o31) {l : Int} {M : ja_M} (ha : jy_at l M) (h6 : l + 6 ≤ M 0 4) (nx : jy_nx l M) : ∃ Mf, ja_D true jy_E k_Law_law 798 [some (jr 175), some (jr 1), some (jr 137), some (jr 171), some (ji l), none, none] [] M = some (some (ji 1), Mf) ∧ Mf 0 1 ≤ M 0 1 + (if M 93 4 = 0 then 1 else 0) + (M 0 4 - l) ∧ Mf 0 2 ≤ M 0 2 + (if M 93 4 = 0 then 5000 else 0) + 6 * (M 0 4 - l) := by
  obtain ⟨hJ, hs, hL, hl⟩ := ha
  have w1 : ja_w (l + 1) = l + 1 := ja_w_id (by omega) (by omega)
  have b1 : 0 ≤ l + 1 ∧ l + 1 < M 0 4 := by omega
  have w2 : ja_w (l + 2) = l + 2 := ja_w_id (by omega) (by omega)
  have b2 : 0 ≤ l + 2 ∧ l + 2 < M 0 4 := by omega
  have w6 : ja_w (l + 6) = l + 6 := ja_w_id (by omega) (by omega)
  obtain ⟨v, M1, M2, hX, hR, hJ2, hrm⟩ := op (M 175 (l + 1).toNat) (M 175 (l + 2).toNat) (hs _) (hs _) M hJ
  obtain ⟨g1, g2⟩ := jy_gr hX
  obtain ⟨g3, g4⟩ := jy_gr hR
  refine jy_room (M2 := M2) (g3.trans g1) hrm ?_ (nx M2 hJ2 (g3.trans g1) (g4.trans g2) hrm)
  rw [e_Law_798, w1, w2, if_pos b1, if_pos b2, hX, jz_bI, g1, g2, if_pos b1, if_pos b2, hR, jz_bI, if_pos rfl, w6]
def jy_o32 : Prop := jOp (jy_E 189 [jr 1]) (jy_E 298 [jr 137])
theorem jy_c32 (op : jy_o32) {l : Int} {M : ja_M} (ha : jy_at l M) (h6 : l + 6 ≤ M 0 4) (nx : jy_nx l M) : ∃ Mf, ja_D true jy_E k_Law_law 839 [some (jr 175), some (jr 1), some (jr 137), some (jr 171), some (ji l), none, none] [] M = some (some (ji 1), Mf) ∧ Mf 0 1 ≤ M 0 1 + (if M 93 4 = 0 then 1 else 0) + (M 0 4 - l) ∧ Mf 0 2 ≤ M 0 2 + (if M 93 4 = 0 then 5000 else 0) + 6 * (M 0 4 - l) := by
  obtain ⟨hJ, hs, hL, hl⟩ := ha
  have w6 : ja_w (l + 6) = l + 6 := ja_w_id (by omega) (by omega)
  obtain ⟨v, M1, M2, hX, hR, hJ2, hrm⟩ := op M hJ
  obtain ⟨g1, g2⟩ := jy_gr hX
  obtain ⟨g3, g4⟩ := jy_gr hR
  refine jy_room (M2 := M2) (g3.trans g1) hrm ?_ (nx M2 hJ2 (g3.trans g1) (g4.trans g2) hrm)
  rw [e_Law_839, hX, jz_bI, hR, jz_bI, if_pos rfl, w6]
def jy_o33 : Prop := jOp (jy_E 191 [jr 1]) (jy_E 299 [jr 137])
theorem jy_c33 (op : jy_o33) {l : Int} {M : ja_M} (ha : jy_at l M) (h6 : l + 6 ≤ M 0 4) (nx : jy_nx l M) : ∃ Mf, ja_D true jy_E k_Law_law 846 [some (jr 175), some (jr 1), some (jr 137), some (jr 171), some (ji l), none, none] [] M = some (some (ji 1), Mf) ∧ Mf 0 1 ≤ M 0 1 + (if M 93 4 = 0 then 1 else 0) + (M 0 4 - l) ∧ Mf 0 2 ≤ M 0 2 + (if M 93 4 = 0 then 5000 else 0) + 6 * (M 0 4 - l) := by
  obtain ⟨hJ, hs, hL, hl⟩ := ha
  have w6 : ja_w (l + 6) = l + 6 := ja_w_id (by omega) (by omega)
  obtain ⟨v, M1, M2, hX, hR, hJ2, hrm⟩ := op M hJ
  obtain ⟨g1, g2⟩ := jy_gr hX
  obtain ⟨g3, g4⟩ := jy_gr hR
  refine jy_room (M2 := M2) (g3.trans g1) hrm ?_ (nx M2 hJ2 (g3.trans g1) (g4.trans g2) hrm)
  rw [e_Law_846, hX, jz_bI, hR, jz_bI, if_pos rfl, w6]
def jy_o34 : Prop := jOp (jy_E 194 [jr 1]) (jy_E 300 [jr 137])
theorem jy_c34 (op : jy_o34) {l : Int} {M : ja_M} (ha : jy_at l M) (h6 : l + 6 ≤ M 0 4) (nx : jy_nx l M) : ∃ Mf, ja_D true jy_E k_Law_law 853 [some (jr 175), some (jr 1), some (jr 137), some (jr 171), some (ji l), none, none] [] M = some (some (ji 1), Mf) ∧ Mf 0 1 ≤ M 0 1 + (if M 93 4 = 0 then 1 else 0) + (M 0 4 - l) ∧ Mf 0 2 ≤ M 0 2 + (if M 93 4 = 0 then 5000 else 0) + 6 * (M 0 4 - l) := by
  obtain ⟨hJ, hs, hL, hl⟩ := ha
  have w6 : ja_w (l + 6) = l + 6 := ja_w_id (by omega) (by omega)
  obtain ⟨v, M1, M2, hX, hR, hJ2, hrm⟩ := op M hJ
  obtain ⟨g1, g2⟩ := jy_gr hX
  obtain ⟨g3, g4⟩ := jy_gr hR
  refine jy_room (M2 := M2) (g3.trans g1) hrm ?_ (nx M2 hJ2 (g3.trans g1) (g4.trans g2) hrm)
  rw [e_Law_853, hX, jz_bI, hR, jz_bI, if_pos rfl, w6]
def jy_o35 : Prop := ∀ a1 : Int, (-2147483648 ≤ a1 ∧ a1 < 2147483648) → jOp (jy_E 196 [jr 1, ji a1]) (jy_E 301 [jr 137, ji a1])
theorem jy_c35 (op : jy_o35) {l : Int} {M : ja_M} (ha : jy_at l M) (h6 : l + 6 ≤ M 0 4) (nx : jy_nx l M) : ∃ Mf, ja_D true jy_E k_Law_law 860 [some (jr 175), some (jr 1), some (jr 137), some (jr 171), some (ji l), none, none] [] M = some (some (ji 1), Mf) ∧ Mf 0 1 ≤ M 0 1 + (if M 93 4 = 0 then 1 else 0) + (M 0 4 - l) ∧ Mf 0 2 ≤ M 0 2 + (if M 93 4 = 0 then 5000 else 0) + 6 * (M 0 4 - l) := by
  obtain ⟨hJ, hs, hL, hl⟩ := ha
  have w1 : ja_w (l + 1) = l + 1 := ja_w_id (by omega) (by omega)
  have b1 : 0 ≤ l + 1 ∧ l + 1 < M 0 4 := by omega
  have w6 : ja_w (l + 6) = l + 6 := ja_w_id (by omega) (by omega)
  obtain ⟨v, M1, M2, hX, hR, hJ2, hrm⟩ := op (M 175 (l + 1).toNat) (hs _) M hJ
  obtain ⟨g1, g2⟩ := jy_gr hX
  obtain ⟨g3, g4⟩ := jy_gr hR
  refine jy_room (M2 := M2) (g3.trans g1) hrm ?_ (nx M2 hJ2 (g3.trans g1) (g4.trans g2) hrm)
  rw [e_Law_860, w1, if_pos b1, hX, jz_bI, g1, g2, if_pos b1, hR, jz_bI, if_pos rfl, w6]
/-- place: what the reference answers (the class's side is the small machine's own row) -/
def jy_o4 : Prop := ∀ a1 a2 : Int, (-2147483648 ≤ a1 ∧ a1 < 2147483648) → (-2147483648 ≤ a2 ∧ a2 < 2147483648) → ∀ M, jH M → jy_E 237 [jr 137, ji a1, ji a2] M = some (some (ji (if (0 ≤ a1 ∧ a1 < M 11 3) ∧ (0 ≤ a2 ∧ a2 ≤ 1) then (if a2 = 0 then M 12 a1.toNat else M 13 a1.toNat) else 0)), ja_up M 137 0 (if (0 ≤ a1 ∧ a1 < M 11 3) ∧ (0 ≤ a2 ∧ a2 ≤ 1) then 0 else 1))
theorem jy_thrown (M : ja_M) : jy_E 201 [jr 137] M = some (some (ji (M 137 0)), M) := f_R_thrown 1999 M
theorem jy_c4 (op : jy_o4) {l : Int} {M : ja_M} (ha : jy_at l M) (h6 : l + 6 ≤ M 0 4) (nx : jy_nx l M) : ∃ Mf, ja_D true jy_E k_Law_law 133 [some (jr 175), some (jr 1), some (jr 137), some (jr 171), some (ji l), none, none] [] M = some (some (ji 1), Mf) ∧ Mf 0 1 ≤ M 0 1 + (if M 93 4 = 0 then 1 else 0) + (M 0 4 - l) ∧ Mf 0 2 ≤ M 0 2 + (if M 93 4 = 0 then 5000 else 0) + 6 * (M 0 4 - l) := by
  obtain ⟨hJ, hs, hL, hl⟩ := ha
  have hH := hJ.1.2.1
  have hb := hH.b
  have w1 : ja_w (l + 1) = l + 1 := ja_w_id (by omega) (by omega)
  have b1 : 0 ≤ l + 1 ∧ l + 1 < M 0 4 := by omega
  have w2 : ja_w (l + 2) = l + 2 := ja_w_id (by omega) (by omega)
  have b2 : 0 ≤ l + 2 ∧ l + 2 < M 0 4 := by omega
  have w6 : ja_w (l + 6) = l + 6 := ja_w_id (by omega) (by omega)
  by_cases c : (0 ≤ M 175 (l + 1).toNat ∧ M 175 (l + 1).toNat < M 11 3) ∧ (0 ≤ M 175 (l + 2).toNat ∧ M 175 (l + 2).toNat ≤ 1)
  · generalize hw : (if M 175 (l + 2).toNat = 0 then M 12 (M 175 (l + 1).toNat).toNat else M 13 (M 175 (l + 1).toNat).toNat) = w
    have k1 : jK M (ja_up M 171 0 w) := (jKs.rf M).up rfl
    have k2 : jK M (ja_up (ja_up M 171 0 w) 137 0 0) := k1.up rfl
    have e4 : ja_up M 171 0 w 0 4 = M 0 4 := jb_up_ne (by decide)
    have e175 : ∀ j, ja_up M 171 0 w 175 j = M 175 j := fun j => jb_up_ne (by decide)
    have e11 : ja_up M 171 0 w 11 3 = M 11 3 := jb_up_ne (by decide)
    have e12 : ∀ j, ja_up M 171 0 w 12 j = M 12 j := fun j => jb_up_ne (by decide)
    have e13 : ∀ j, ja_up M 171 0 w 13 j = M 13 j := fun j => jb_up_ne (by decide)
    have hR := op _ _ (hs (l + 1).toNat) (hs (l + 2).toNat) (ja_up M 171 0 w) (hH.kp (k1.of jk_H))
    rw [e11, if_pos c, if_pos c, e12, e13, hw] at hR
    have key : ja_D true jy_E k_Law_law 133 [some (jr 175), some (jr 1), some (jr 137), some (jr 171), some (ji l), none, none] [] M = ja_D true jy_E k_Law_law 13 [some (jr 175), some (jr 1), some (jr 137), some (jr 171), some (ji (l + 6)), none, none] [] (ja_up (ja_up M 171 0 w) 137 0 0) := by
      rw [e_Law_133, w1, w2, if_pos b1, if_pos b2, if_pos c, if_pos hb.1.2, hw, e4, if_pos b1, if_pos b2, e175, e175, hR, jz_bI, jy_thrown, jz_bI, jb_up_eq, if_pos rfl, jb_up_ne (by decide), jb_up_eq, show (if w < w then (-1 : Int) else if w = w then 0 else 1) = 0 by simp, if_pos rfl, w6]
    refine jy_room (M2 := ja_up (ja_up M 171 0 w) 137 0 0) ?_ ?_ key.symm (nx _ (hJ.kp k2) ?_ ?_ ?_)
    · rw [jb_up_ne (by decide), e4]
    · exact jrm.same (fun i => by rw [jb_up_ne (by decide), jb_up_ne (by decide)]) (k2 93 4 rfl)
    · rw [jb_up_ne (by decide), e4]
    · funext j
      rw [jb_up_ne (by decide), e175]
    · exact jrm.same (fun i => by rw [jb_up_ne (by decide), jb_up_ne (by decide)]) (k2 93 4 rfl)
  · have k1 : jK M (ja_up (ja_up M 0 1 (M 0 1 + 1)) 0 2 (M 0 2 + 6)) := ((jKs.rf M).up rfl).up rfl
    have k2 : jK M (ja_up (ja_up (ja_up M 0 1 (M 0 1 + 1)) 0 2 (M 0 2 + 6)) 137 0 1) := k1.up rfl
    have e4 : ja_up (ja_up M 0 1 (M 0 1 + 1)) 0 2 (M 0 2 + 6) 0 4 = M 0 4 := by rw [jb_up_nej (by decide), jb_up_nej (by decide)]
    have e175 : ∀ j, ja_up (ja_up M 0 1 (M 0 1 + 1)) 0 2 (M 0 2 + 6) 175 j = M 175 j := fun j => by rw [jb_up_ne (by decide), jb_up_ne (by decide)]
    have e11 : ja_up (ja_up M 0 1 (M 0 1 + 1)) 0 2 (M 0 2 + 6) 11 3 = M 11 3 := by rw [jb_up_ne (by decide), jb_up_ne (by decide)]
    have e1 : ja_up (ja_up M 0 1 (M 0 1 + 1)) 0 2 (M 0 2 + 6) 0 1 = M 0 1 + 1 := by rw [jb_up_nej (by decide), jb_up_eq]
    have e2 : ja_up (ja_up M 0 1 (M 0 1 + 1)) 0 2 (M 0 2 + 6) 0 2 = M 0 2 + 6 := jb_up_eq
    have e93 : ja_up (ja_up M 0 1 (M 0 1 + 1)) 0 2 (M 0 2 + 6) 93 4 = M 93 4 := by rw [jb_up_ne (by decide), jb_up_ne (by decide)]
    have hR := op _ _ (hs (l + 1).toNat) (hs (l + 2).toNat) (ja_up (ja_up M 0 1 (M 0 1 + 1)) 0 2 (M 0 2 + 6)) (hH.kp (k1.of jk_H))
    rw [e11, if_neg c, if_neg c] at hR
    have key : ja_D true jy_E k_Law_law 133 [some (jr 175), some (jr 1), some (jr 137), some (jr 171), some (ji l), none, none] [] M = ja_D true jy_E k_Law_law 13 [some (jr 175), some (jr 1), some (jr 137), some (jr 171), some (ji (l + 6)), none, none] [] (ja_up (ja_up (ja_up M 0 1 (M 0 1 + 1)) 0 2 (M 0 2 + 6)) 137 0 1) := by
      rw [e_Law_133, w1, w2, if_pos b1, if_pos b2, if_neg c, e4, if_pos b1, if_pos b2, e175, e175, hR, jz_bI, jy_thrown, jz_bI, jb_up_eq, if_pos rfl, w6]
    generalize ja_up (ja_up M 0 1 (M 0 1 + 1)) 0 2 (M 0 2 + 6) = N at *
    have hr : jrm M (ja_up N 137 0 1) := by
      unfold jrm
      rw [jb_up_ne (by decide), jb_up_ne (by decide), jb_up_ne (by decide), e1, e2, e93]
      omega
    refine jy_room (M2 := ja_up N 137 0 1) ?_ hr key.symm (nx _ (hJ.kp k2) ?_ ?_ hr)
    · rw [jb_up_ne (by decide), e4]
    · rw [jb_up_ne (by decide), e4]
    · funext j
      rw [jb_up_ne (by decide), e175]
def jy_o25 : Prop := ∀ a1 a2 a3 a4 : Int, (-2147483648 ≤ a1 ∧ a1 < 2147483648) → (-2147483648 ≤ a2 ∧ a2 < 2147483648) → (-2147483648 ≤ a3 ∧ a3 < 2147483648) → (a4 = 0 ∨ a4 = 1) → jOp (jy_E 148 [jr 1, ji a1, ji a2, ji a3, ji a4]) (jy_E 285 [jr 137, ji a1, ji a2, ji a3, ji a4])
theorem jy_c25 (op : jy_o25) {l : Int} {M : ja_M} (ha : jy_at l M) (h6 : l + 6 ≤ M 0 4) (nx : jy_nx l M) : ∃ Mf, ja_D true jy_E k_Law_law 598 [some (jr 175), some (jr 1), some (jr 137), some (jr 171), some (ji l), none, none] [] M = some (some (ji 1), Mf) ∧ Mf 0 1 ≤ M 0 1 + (if M 93 4 = 0 then 1 else 0) + (M 0 4 - l) ∧ Mf 0 2 ≤ M 0 2 + (if M 93 4 = 0 then 5000 else 0) + 6 * (M 0 4 - l) := by
  obtain ⟨hJ, hs, hL, hl⟩ := ha
  have w1 : ja_w (l + 1) = l + 1 := ja_w_id (by omega) (by omega)
  have b1 : 0 ≤ l + 1 ∧ l + 1 < M 0 4 := by omega
  have w2 : ja_w (l + 2) = l + 2 := ja_w_id (by omega) (by omega)
  have b2 : 0 ≤ l + 2 ∧ l + 2 < M 0 4 := by omega
  have w3 : ja_w (l + 3) = l + 3 := ja_w_id (by omega) (by omega)
  have b3 : 0 ≤ l + 3 ∧ l + 3 < M 0 4 := by omega
  have w4 : ja_w (l + 4) = l + 4 := ja_w_id (by omega) (by omega)
  have b4 : 0 ≤ l + 4 ∧ l + 4 < M 0 4 := by omega
  have w6 : ja_w (l + 6) = l + 6 := ja_w_id (by omega) (by omega)
  by_cases z : M 175 (l + 4).toNat = 0
  · obtain ⟨v, M1, M2, hX, hR, hJ2, hrm⟩ := op (M 175 (l + 1).toNat) (M 175 (l + 2).toNat) (M 175 (l + 3).toNat) 0 (hs _) (hs _) (hs _) (Or.inl rfl) M hJ
    obtain ⟨g1, g2⟩ := jy_gr hX
    obtain ⟨g3, g4⟩ := jy_gr hR
    refine jy_room (M2 := M2) (g3.trans g1) hrm ?_ (nx M2 hJ2 (g3.trans g1) (g4.trans g2) hrm)
    rw [e_Law_598, w1, w2, w3, w4, if_pos b1, if_pos b2, if_pos b3, if_pos b4, if_pos z, hX, jz_bI, g1, g2, if_pos b1, if_pos b2, if_pos b3, if_pos b4, if_pos z, hR, jz_bI, if_pos rfl, w6]
  · obtain ⟨v, M1, M2, hX, hR, hJ2, hrm⟩ := op (M 175 (l + 1).toNat) (M 175 (l + 2).toNat) (M 175 (l + 3).toNat) 1 (hs _) (hs _) (hs _) (Or.inr rfl) M hJ
    obtain ⟨g1, g2⟩ := jy_gr hX
    obtain ⟨g3, g4⟩ := jy_gr hR
    refine jy_room (M2 := M2) (g3.trans g1) hrm ?_ (nx M2 hJ2 (g3.trans g1) (g4.trans g2) hrm)
    rw [e_Law_598, w1, w2, w3, w4, if_pos b1, if_pos b2, if_pos b3, if_pos b4, if_neg z, hX, jz_bI, g1, g2, if_pos b1, if_pos b2, if_pos b3, if_pos b4, if_neg z, hR, jz_bI, if_pos rfl, w6]
theorem jy_cd {x l : Int} {M : ja_M} (ha : jy_at l M) (h6 : l + 6 ≤ M 0 4) (nx : jy_nx l M) : ∃ Mf, ja_sw x (fun t => ja_D true jy_E k_Law_law t [some (jr 175), some (jr 1), some (jr 137), some (jr 171), some (ji l), none, none] [] M) 877 [] = some (some (ji 1), Mf) ∧ Mf 0 1 ≤ M 0 1 + (if M 93 4 = 0 then 1 else 0) + (M 0 4 - l) ∧ Mf 0 2 ≤ M 0 2 + (if M 93 4 = 0 then 5000 else 0) + 6 * (M 0 4 - l) := by
  obtain ⟨hJ, hs, hL, hl⟩ := ha
  have w6 : ja_w (l + 6) = l + 6 := ja_w_id (by omega) (by omega)
  refine jy_room (M2 := M) rfl (jrm.same (fun _ => rfl) rfl) ?_ (nx M hJ rfl rfl (jrm.same (fun _ => rfl) rfl))
  show _ = ja_D true jy_E k_Law_law 877 [some (jr 175), some (jr 1), some (jr 137), some (jr 171), some (ji l), none, none] [] M
  rw [e_Law_877, w6]
theorem jy_step (o0 : jy_o0) (o1 : jy_o1) (o2 : jy_o2) (o3 : jy_o3) (o4 : jy_o4) (o5 : jy_o5) (o6 : jy_o6) (o7 : jy_o7) (o8 : jy_o8) (o9 : jy_o9) (o10 : jy_o10) (o11 : jy_o11) (o12 : jy_o12) (o13 : jy_o13) (o14 : jy_o14) (o15 : jy_o15) (o16 : jy_o16) (o17 : jy_o17) (o18 : jy_o18) (o19 : jy_o19) (o20 : jy_o20) (o21 : jy_o21) (o22 : jy_o22) (o23 : jy_o23) (o24 : jy_o24) (o25 : jy_o25) (o26 : jy_o26) (o27 : jy_o27) (o28 : jy_o28) (o29 : jy_o29) (o30 : jy_o30) (o31 : jy_o31) (o32 : jy_o32) (o33 : jy_o33) (o34 : jy_o34) (o35 : jy_o35) {l : Int} {M : ja_M} (ha : jy_at l M) (h6 : l + 6 ≤ M 0 4) (nx : jy_nx l M) : jy_go l M := by
  have hL := ha.2.2.1
  have hl := ha.2.2.2
  unfold jy_go
  rw [e_Law_head, ja_w_id (x := M 0 4 - 6) (by omega) (by omega), if_neg (by omega), if_pos ⟨hl.1, by omega⟩]
  generalize ja_and (M 175 l.toNat) 63 = x
  unfold ja_sw
  by_cases q0 : x = 0
  · rw [if_pos q0]
    exact jy_c0 o0 ha h6 nx
  rw [if_neg q0]
  unfold ja_sw
  by_cases q1 : x = 1
  · rw [if_pos q1]
    exact jy_c1 o1 ha h6 nx
  rw [if_neg q1]
  unfold ja_sw
  by_cases q2 : x = 2
  · rw [if_pos q2]
    exact jy_c2 o2 ha h6 nx
  rw [if_neg q2]
  unfold ja_sw
  by_cases q3 : x = 3
  · rw [if_pos q3]
    exact jy_c3 o3 ha h6 nx
  rw [if_neg q3]
  unfold ja_sw
  by_cases q4 : x = 4
  · rw [if_pos q4]
    exact jy_c4 o4 ha h6 nx
  rw [if_neg q4]
  unfold ja_sw
  by_cases q5 : x = 5
  · rw [if_pos q5]
    exact jy_c5 o5 ha h6 nx
  rw [if_neg q5]
  unfold ja_sw
  by_cases q6 : x = 6
  · rw [if_pos q6]
    exact jy_c6 o6 ha h6 nx
  rw [if_neg q6]
  unfold ja_sw
  by_cases q7 : x = 7
  · rw [if_pos q7]
    exact jy_c7 o7 ha h6 nx
  rw [if_neg q7]
  unfold ja_sw
  by_cases q8 : x = 8
  · rw [if_pos q8]
    exact jy_c8 o8 ha h6 nx
  rw [if_neg q8]
  unfold ja_sw
  by_cases q9 : x = 9
  · rw [if_pos q9]
    exact jy_c9 o9 ha h6 nx
  rw [if_neg q9]
  unfold ja_sw
  by_cases q10 : x = 10
  · rw [if_pos q10]
    exact jy_c10 o10 ha h6 nx
  rw [if_neg q10]
  unfold ja_sw
  by_cases q11 : x = 11
  · rw [if_pos q11]
    exact jy_c11 o11 ha h6 nx
  rw [if_neg q11]
  unfold ja_sw
  by_cases q12 : x = 12
  · rw [if_pos q12]
    exact jy_c12 o12 ha h6 nx
  rw [if_neg q12]
  unfold ja_sw
  by_cases q13 : x = 13
  · rw [if_pos q13]
    exact jy_c13 o13 ha h6 nx
  rw [if_neg q13]
  unfold ja_sw
  by_cases q14 : x = 14
  · rw [if_pos q14]
    exact jy_c14 o14 ha h6 nx
  rw [if_neg q14]
  unfold ja_sw
  by_cases q15 : x = 15
  · rw [if_pos q15]
    exact jy_c15 o15 ha h6 nx
  rw [if_neg q15]
  unfold ja_sw
  by_cases q16 : x = 16
  · rw [if_pos q16]
    exact jy_c16 o16 ha h6 nx
  rw [if_neg q16]
  unfold ja_sw
  by_cases q17 : x = 17
  · rw [if_pos q17]
    exact jy_c17 o17 ha h6 nx
  rw [if_neg q17]
  unfold ja_sw
  by_cases q18 : x = 18
  · rw [if_pos q18]
    exact jy_c18 o18 ha h6 nx
  rw [if_neg q18]
  unfold ja_sw
  by_cases q19 : x = 19
  · rw [if_pos q19]
    exact jy_c19 o19 ha h6 nx
  rw [if_neg q19]
  unfold ja_sw
  by_cases q20 : x = 20
  · rw [if_pos q20]
    exact jy_c20 o20 ha h6 nx
  rw [if_neg q20]
  unfold ja_sw
  by_cases q21 : x = 21
  · rw [if_pos q21]
    exact jy_c21 o21 ha h6 nx
  rw [if_neg q21]
  unfold ja_sw
  by_cases q22 : x = 22
  · rw [if_pos q22]
    exact jy_c22 o22 ha h6 nx
  rw [if_neg q22]
  unfold ja_sw
  by_cases q23 : x = 23
  · rw [if_pos q23]
    exact jy_c23 o23 ha h6 nx
  rw [if_neg q23]
  unfold ja_sw
  by_cases q24 : x = 24
  · rw [if_pos q24]
    exact jy_c24 o24 ha h6 nx
  rw [if_neg q24]
  unfold ja_sw
  by_cases q25 : x = 25
  · rw [if_pos q25]
    exact jy_c25 o25 ha h6 nx
  rw [if_neg q25]
  unfold ja_sw
  by_cases q26 : x = 26
  · rw [if_pos q26]
    exact jy_c26 o26 ha h6 nx
  rw [if_neg q26]
  unfold ja_sw
  by_cases q27 : x = 27
  · rw [if_pos q27]
    exact jy_c27 o27 ha h6 nx
  rw [if_neg q27]
  unfold ja_sw
  by_cases q28 : x = 28
  · rw [if_pos q28]
    exact jy_c28 o28 ha h6 nx
  rw [if_neg q28]
  unfold ja_sw
  by_cases q29 : x = 29
  · rw [if_pos q29]
    exact jy_c29 o29 ha h6 nx
  rw [if_neg q29]
  unfold ja_sw
  by_cases q30 : x = 30
  · rw [if_pos q30]
    exact jy_c30 o30 ha h6 nx
  rw [if_neg q30]
  unfold ja_sw
  by_cases q31 : x = 31
  · rw [if_pos q31]
    exact jy_c31 o31 ha h6 nx
  rw [if_neg q31]
  unfold ja_sw
  by_cases q32 : x = 32
  · rw [if_pos q32]
    exact jy_c32 o32 ha h6 nx
  rw [if_neg q32]
  unfold ja_sw
  by_cases q33 : x = 33
  · rw [if_pos q33]
    exact jy_c33 o33 ha h6 nx
  rw [if_neg q33]
  unfold ja_sw
  by_cases q34 : x = 34
  · rw [if_pos q34]
    exact jy_c34 o34 ha h6 nx
  rw [if_neg q34]
  unfold ja_sw
  by_cases q35 : x = 35
  · rw [if_pos q35]
    exact jy_c35 o35 ha h6 nx
  rw [if_neg q35]
  exact jy_cd ha h6 nx
theorem jy_loop (o0 : jy_o0) (o1 : jy_o1) (o2 : jy_o2) (o3 : jy_o3) (o4 : jy_o4) (o5 : jy_o5) (o6 : jy_o6) (o7 : jy_o7) (o8 : jy_o8) (o9 : jy_o9) (o10 : jy_o10) (o11 : jy_o11) (o12 : jy_o12) (o13 : jy_o13) (o14 : jy_o14) (o15 : jy_o15) (o16 : jy_o16) (o17 : jy_o17) (o18 : jy_o18) (o19 : jy_o19) (o20 : jy_o20) (o21 : jy_o21) (o22 : jy_o22) (o23 : jy_o23) (o24 : jy_o24) (o25 : jy_o25) (o26 : jy_o26) (o27 : jy_o27) (o28 : jy_o28) (o29 : jy_o29) (o30 : jy_o30) (o31 : jy_o31) (o32 : jy_o32) (o33 : jy_o33) (o34 : jy_o34) (o35 : jy_o35) : ∀ (n : Nat) (l : Int) (M : ja_M), M 0 4 - l < 6 * n → jy_at l M → jy_go l M
  | 0, l, M, h, ha => by
    have hl := ha.2.2.2
    omega
  | n + 1, l, M, h, ha => by
    have hL := ha.2.2.1
    have hl := ha.2.2.2
    by_cases h6 : l + 6 ≤ M 0 4
    · refine jy_step o0 o1 o2 o3 o4 o5 o6 o7 o8 o9 o10 o11 o12 o13 o14 o15 o16 o17 o18 o19 o20 o21 o22 o23 o24 o25 o26 o27 o28 o29 o30 o31 o32 o33 o34 o35 ha h6 (fun M2 j2 e4 e175 hr => jy_loop o0 o1 o2 o3 o4 o5 o6 o7 o8 o9 o10 o11 o12 o13 o14 o15 o16 o17 o18 o19 o20 o21 o22 o23 o24 o25 o26 o27 o28 o29 o30 o31 o32 o33 o34 o35 n (l + 6) M2 (by rw [e4]; omega) ⟨j2, by rw [e175]; exact ha.2.1, by rw [e4]; exact hL, by rw [e4]; omega⟩)
    · refine ⟨M, ?_, ?_, ?_⟩
      · rw [e_Law_head, ja_w_id (x := M 0 4 - 6) (by omega) (by omega), if_pos (by omega)]
      · split <;> omega
      · split <;> omega
/-- the state behind the constructors -/
theorem jy_init {M : ja_M} {L : Nat} {xs : Nat → Int32} (h : jd_ck M = true) : jJ (jd_M2 M L xs) := by
  obtain ⟨⟨h0, -, -⟩, hF, hat⟩ := jd_ck_of h
  have g : ∀ c i, c < 172 → 1 ≤ c → (ja_kd c).1 < 13 → i < (ja_kd c).2 → ja_ft (ja_kd c).1 i ≠ 3 → jd_M2 M L xs c i = if (c = 15 ∧ i = 5) ∨ (c = 137 ∧ i = 33) then -1 else 0 := by
    intro c i hc h1 hk hi hf
    rw [jd_M2_c (by omega) (by omega)]
    have q := hat c hc hk i hi
    unfold jd_at at q
    have e : Nat.beq (ja_ft (ja_kd c).1 i) 3 = false := by
      cases e : Nat.beq (ja_ft (ja_kd c).1 i) 3 with
      | false => rfl
      | true => exact absurd (Nat.eq_of_beq_eq_true e) hf
    rw [e] at q
    exact of_decide_eq_true q
  have z : ∀ c i, (c < 172 ∧ 1 ≤ c ∧ (ja_kd c).1 < 13 ∧ i < (ja_kd c).2 ∧ ja_ft (ja_kd c).1 i ≠ 3) → ¬ ((c = 15 ∧ i = 5) ∨ (c = 137 ∧ i = 33)) → jd_M2 M L xs c i = 0 := fun c i q n => by
    rw [g c i q.1 q.2.1 q.2.2.1 q.2.2.2.1 q.2.2.2.2, if_neg n]
  have e1 : jd_M2 M L xs 2 1 = 0 := z 2 1 (by decide) (by decide)
  have e2 : jd_M2 M L xs 137 2 = 0 := z 137 2 (by decide) (by decide)
  have e3 : jd_M2 M L xs 11 3 = 0 := z 11 3 (by decide) (by decide)
  have e4 : jd_M2 M L xs 11 4 = 0 := z 11 4 (by decide) (by decide)
  have e5 : jd_M2 M L xs 11 5 = 0 := z 11 5 (by decide) (by decide)
  have e6 : jd_M2 M L xs 11 6 = 0 := z 11 6 (by decide) (by decide)
  have e7 : jd_M2 M L xs 137 27 = 0 := z 137 27 (by decide) (by decide)
  have e8 : jd_M2 M L xs 137 28 = 0 := z 137 28 (by decide) (by decide)
  have e9 : jd_M2 M L xs 137 29 = 0 := z 137 29 (by decide) (by decide)
  have e10 : jd_M2 M L xs 137 30 = 0 := z 137 30 (by decide) (by decide)
  have e11 : jd_M2 M L xs 15 4 = 0 := z 15 4 (by decide) (by decide)
  have e12 : jd_M2 M L xs 15 5 = -1 := (g 15 5 (by decide) (by decide) (by decide) (by decide) (by decide)).trans rfl
  have e13 : jd_M2 M L xs 137 13 = 0 := z 137 13 (by decide) (by decide)
  have e14 : jd_M2 M L xs 137 33 = -1 := (g 137 33 (by decide) (by decide) (by decide) (by decide) (by decide)).trans rfl
  have e15 : jd_M2 M L xs 33 3 = 0 := z 33 3 (by decide) (by decide)
  have e16 : jd_M2 M L xs 33 4 = 0 := z 33 4 (by decide) (by decide)
  have e17 : jd_M2 M L xs 33 7 = 0 := z 33 7 (by decide) (by decide)
  have e18 : jd_M2 M L xs 137 35 = 0 := z 137 35 (by decide) (by decide)
  have e19 : jd_M2 M L xs 137 57 = 0 := z 137 57 (by decide) (by decide)
  have e20 : jd_M2 M L xs 93 3 = 0 := z 93 3 (by decide) (by decide)
  have e21 : jd_M2 M L xs 93 5 = 0 := z 93 5 (by decide) (by decide)
  have e22 : jd_M2 M L xs 137 43 = 0 := z 137 43 (by decide) (by decide)
  have e23 : jd_M2 M L xs 93 4 = 0 := (jd_M2_c (by decide) (by decide)).trans hF
  have e24 : jd_M2 M L xs 0 0 = 171 := (jd_M2_c (by decide) (by decide)).trans h0
  generalize jd_M2 M L xs = N at *
  refine ⟨⟨⟨by omega, by omega, fun j hj => by omega⟩, ⟨Or.inl ⟨e3, e4, e5, e6⟩, by omega, fun j hj => by omega, fun j hj => by omega⟩, ⟨fun b t hb => by omega, fun b t u hb => by omega, fun b hb => by omega⟩⟩, ⟨⟨by omega, by omega, by omega, by omega, fun k hk => by omega⟩, ⟨by omega, by omega, by omega, fun k b hk => by omega⟩, ⟨Or.inl e17, by omega, fun q => by omega⟩⟩, ⟨by omega, by omega, fun k hk => by omega, fun b t hb => by omega⟩, Or.inl ⟨e23, e24⟩, Or.inl e21, fun q => by omega⟩
theorem jy_owes (o0 : jy_o0) (o1 : jy_o1) (o2 : jy_o2) (o3 : jy_o3) (o4 : jy_o4) (o5 : jy_o5) (o6 : jy_o6) (o7 : jy_o7) (o8 : jy_o8) (o9 : jy_o9) (o10 : jy_o10) (o11 : jy_o11) (o12 : jy_o12) (o13 : jy_o13) (o14 : jy_o14) (o15 : jy_o15) (o16 : jy_o16) (o17 : jy_o17) (o18 : jy_o18) (o19 : jy_o19) (o20 : jy_o20) (o21 : jy_o21) (o22 : jy_o22) (o23 : jy_o23) (o24 : jy_o24) (o25 : jy_o25) (o26 : jy_o26) (o27 : jy_o27) (o28 : jy_o28) (o29 : jy_o29) (o30 : jy_o30) (o31 : jy_o31) (o32 : jy_o32) (o33 : jy_o33) (o34 : jy_o34) (o35 : jy_o35) {L : Nat} {xs : Nat → Int32} (hL : L ≤ 3072) : jd_owes L xs := by
  intro M1 hck
  have e4 : jd_M2 M1 L xs 0 4 = (L : Int) := rfl
  obtain ⟨⟨h0, h1, h2⟩, h3, -⟩ := jd_ck_of hck
  have e1 : jd_M2 M1 L xs 0 1 = 171 := (jd_M2_c (by decide) (by decide)).trans h1
  have e2 : jd_M2 M1 L xs 0 2 = M1 0 2 := jd_M2_c (by decide) (by decide)
  obtain ⟨Mf, g1, g2, g3⟩ := jy_loop o0 o1 o2 o3 o4 o5 o6 o7 o8 o9 o10 o11 o12 o13 o14 o15 o16 o17 o18 o19 o20 o21 o22 o23 o24 o25 o26 o27 o28 o29 o30 o31 o32 o33 o34 o35 600 0 (jd_M2 M1 L xs) (by rw [e4]; omega) ⟨jy_init hck, fun j => jn_r (xs j), by rw [e4]; omega, by rw [e4]; omega⟩
  obtain ⟨n, hn⟩ := ja_D_ex g1
  refine ⟨n, Mf, hn, ?_, ?_⟩
  · rw [e1, e4] at g2
    have : (if jd_M2 M1 L xs 93 4 = 0 then (1 : Int) else 0) ≤ 1 := by split <;> omega
    omega
  · rw [e2, e4] at g3
    have : (if jd_M2 M1 L xs 93 4 = 0 then (5000 : Int) else 0) ≤ 5000 := by split <;> omega
    omega
