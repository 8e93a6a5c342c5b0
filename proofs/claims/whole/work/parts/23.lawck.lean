/-! the law's rows are the real code -/
set_option maxRecDepth 100000 in
theorem jl_r0 : jc_rows 302 0 ((k_Law_law.drop 0).take 40) = true := by decide +kernel
set_option maxRecDepth 100000 in
theorem jl_r1 : jc_rows 302 40 ((k_Law_law.drop 40).take 40) = true := by decide +kernel
set_option maxRecDepth 100000 in
theorem jl_r2 : jc_rows 302 80 ((k_Law_law.drop 80).take 40) = true := by decide +kernel
set_option maxRecDepth 100000 in
theorem jl_r3 : jc_rows 302 120 ((k_Law_law.drop 120).take 40) = true := by decide +kernel
set_option maxRecDepth 100000 in
theorem jl_r4 : jc_rows 302 160 ((k_Law_law.drop 160).take 40) = true := by decide +kernel
set_option maxRecDepth 100000 in
theorem jl_r5 : jc_rows 302 200 ((k_Law_law.drop 200).take 40) = true := by decide +kernel
set_option maxRecDepth 100000 in
theorem jl_r6 : jc_rows 302 240 ((k_Law_law.drop 240).take 40) = true := by decide +kernel
set_option maxRecDepth 100000 in
theorem jl_r7 : jc_rows 302 280 ((k_Law_law.drop 280).take 40) = true := by decide +kernel
set_option maxRecDepth 100000 in
theorem jl_r8 : jc_rows 302 320 ((k_Law_law.drop 320).take 40) = true := by decide +kernel
set_option maxRecDepth 100000 in
theorem jl_r9 : jc_rows 302 360 ((k_Law_law.drop 360).take 40) = true := by decide +kernel
set_option maxRecDepth 100000 in
theorem jl_r10 : jc_rows 302 400 ((k_Law_law.drop 400).take 40) = true := by decide +kernel
set_option maxRecDepth 100000 in
theorem jl_r11 : jc_rows 302 440 ((k_Law_law.drop 440).take 40) = true := by decide +kernel
set_option maxRecDepth 100000 in
theorem jl_r12 : jc_rows 302 480 ((k_Law_law.drop 480).take 40) = true := by decide +kernel
set_option maxRecDepth 100000 in
theorem jl_r13 : jc_rows 302 520 ((k_Law_law.drop 520).take 40) = true := by decide +kernel
set_option maxRecDepth 100000 in
theorem jl_r14 : jc_rows 302 560 ((k_Law_law.drop 560).take 40) = true := by decide +kernel
set_option maxRecDepth 100000 in
theorem jl_r15 : jc_rows 302 600 ((k_Law_law.drop 600).take 40) = true := by decide +kernel
set_option maxRecDepth 100000 in
theorem jl_r16 : jc_rows 302 640 ((k_Law_law.drop 640).take 40) = true := by decide +kernel
set_option maxRecDepth 100000 in
theorem jl_r17 : jc_rows 302 680 ((k_Law_law.drop 680).take 40) = true := by decide +kernel
set_option maxRecDepth 100000 in
theorem jl_r18 : jc_rows 302 720 ((k_Law_law.drop 720).take 40) = true := by decide +kernel
set_option maxRecDepth 100000 in
theorem jl_r19 : jc_rows 302 760 ((k_Law_law.drop 760).take 40) = true := by decide +kernel
set_option maxRecDepth 100000 in
theorem jl_r20 : jc_rows 302 800 ((k_Law_law.drop 800).take 40) = true := by decide +kernel
set_option maxRecDepth 100000 in
theorem jl_r21 : jc_rows 302 840 ((k_Law_law.drop 840).take 40) = true := by decide +kernel
set_option maxRecDepth 100000 in
theorem jl_r22 : jc_rows 302 880 ((k_Law_law.drop 880).take 40) = true := by decide +kernel
theorem jl_rs : ∀ c, c < 23 → jc_rows 302 (40 * c) ((k_Law_law.drop (40 * c)).take 40) = true := by
  intro c hc
  rcases c with _ | _ | _ | _ | _ | _ | _ | _ | _ | _ | _ | _ | _ | _ | _ | _ | _ | _ | _ | _ | _ | _ | _ | c
  · exact jl_r0
  · exact jl_r1
  · exact jl_r2
  · exact jl_r3
  · exact jl_r4
  · exact jl_r5
  · exact jl_r6
  · exact jl_r7
  · exact jl_r8
  · exact jl_r9
  · exact jl_r10
  · exact jl_r11
  · exact jl_r12
  · exact jl_r13
  · exact jl_r14
  · exact jl_r15
  · exact jl_r16
  · exact jl_r17
  · exact jl_r18
  · exact jl_r19
  · exact jl_r20
  · exact jl_r21
  · exact jl_r22
  · omega
theorem ja_nth_drop {α : Type} (d : α) : ∀ (l : List α) (n k : Nat), ja_nth (l.drop n) k d = ja_nth l (n + k) d
  | [], n, k => by
    rw [List.drop_nil]
    rfl
  | _ :: _, 0, k => by rw [Nat.zero_add]; rfl
  | x :: l, n + 1, k => by
    rw [List.drop_succ_cons, ja_nth_drop d l n k, show n + 1 + k = (n + k) + 1 by omega]
    rfl
theorem ja_nth_take {α : Type} (d : α) : ∀ (l : List α) (n k : Nat), k < n → ja_nth (l.take n) k d = ja_nth l k d
  | [], n, k, _ => by rw [List.take_nil]
  | _ :: _, 0, k, h => by omega
  | x :: l, n + 1, 0, _ => rfl
  | x :: l, n + 1, k + 1, h => by
    rw [List.take_succ_cons]
    exact ja_nth_take d l n k (by omega)
theorem jl_len : k_Law_law.length = 881 := by decide +kernel
theorem jl_ck : ∀ i, i < (ja_code 302).length → jc_row 302 i (ja_nth (ja_code 302) i ja_row0) = true := by
  intro i hi
  have e : ja_code 302 = k_Law_law := rfl
  rw [e] at hi ⊢
  rw [jl_len] at hi
  have hc : i / 40 < 23 := by omega
  have h := jc_rows_of _ (40 * (i / 40)) (i % 40) (jl_rs _ hc) (by rw [List.length_take, List.length_drop, jl_len]; omega)
  rw [ja_nth_take _ _ _ _ (by omega), ja_nth_drop, show 40 * (i / 40) + i % 40 = i by omega] at h
  exact h
