/-! the line: what both sides read from it -/
abbrev fg (t : Nat → Nat) (n a : Nat) : Prop := a < n ∧ 48 ≤ t a ∧ t a ≤ 57
def nmb (t : Nat → Nat) (n a : Nat) : Nat := if fg t n (a + 1) then 10 * (t a - 48) + (t (a + 1) - 48) else t a - 48
def dgs (t : Nat → Nat) (n a : Nat) : Nat := if fg t n (a + 1) then 2 else 1
def shm (s mk c k : Nat) : Nat := if s = 35 then mk ||| (2 ^ k - 1) * 2 ^ c else mk
def shu (s un c k : Nat) : Nat := if s = 63 then un ||| (2 ^ k - 1) * 2 ^ c else un
def scan (t : Nat → Nat) (n : Nat) : Nat → Nat → Nat → Nat → Nat → Int32 × Nat × Nat
  | 0, _, _, mk, un => (0, mk, un)
  | f + 1, p, c, mk, un =>
    if n ≤ p then (if 16 ≤ c then -1 else nI n, mk, un)
    else if ¬ (t p = 35 ∨ t p = 46 ∨ t p = 63) ∨ 16 ≤ c then (nI p, mk, un)
    else if p + 1 < n ∧ t (p + 1) = 42 then
      (if fg t n (p + 2) ∧ 2 ≤ nmb t n (p + 2) ∧ nmb t n (p + 2) ≤ 16 - c then scan t n f (p + 2 + dgs t n (p + 2)) (c + nmb t n (p + 2)) (shm (t p) mk c (nmb t n (p + 2))) (shu (t p) un c (nmb t n (p + 2))) else (nI (p + 2), mk, un))
    else scan t n f (p + 1) (c + 1) (shm (t p) mk c 1) (shu (t p) un c 1)
def G2 (f : Nat → Nat → Int32) (k i j : Nat) (a b : Int32) : Nat → Nat → Int32 := up2 (up2 f k i a) k j b
theorem G2_i {f : Nat → Nat → Int32} {k i j : Nat} {a b : Int32} (h : i ≠ j) : G2 f k i j a b k i = a := by simp [G2, up2, h]
theorem G2_j {f : Nat → Nat → Int32} {k i j : Nat} {a b : Int32} : G2 f k i j a b k j = b := by simp [G2, up2]
theorem G2_o {f : Nat → Nat → Int32} {k i j x : Nat} {a b : Int32} (h1 : x ≠ i) (h2 : x ≠ j) : G2 f k i j a b k x = f k x := by simp [G2, up2, h1, h2]
theorem G2_n {f : Nat → Nat → Int32} {k i j x y : Nat} {a b : Int32} (h1 : x ≠ k) : G2 f k i j a b x y = f x y := by simp [G2, up2, h1]
theorem G2_ui {f : Nat → Nat → Int32} {k i j : Nat} {a b c : Int32} (h : i ≠ j) : up2 (G2 f k i j a b) k i c = G2 f k i j c b := by
  funext x y
  by_cases hx : x = k
  · subst hx
    by_cases hy : y = i
    · subst hy; simp [G2, up2, h]
    · by_cases hz : y = j
      · subst hz; simp [G2, up2, hy]
      · simp [G2, up2, hy, hz]
  · simp [G2, up2, hx]
theorem G2_uj {f : Nat → Nat → Int32} {k i j : Nat} {a b c : Int32} : up2 (G2 f k i j a b) k j c = G2 f k i j a c := by
  funext x y
  by_cases hx : x = k
  · subst hx
    by_cases hz : y = j
    · subst hz; simp [G2, up2]
    · simp [G2, up2, hz]
  · simp [G2, up2, hx]
section LINE
variable {X : AX} {d : Nat} {Q : Option Value → AH → Prop} {hi g : Nat → Nat → Int32} {hj : Nat → Nat → Int64} {t : Nat → Nat} {n : Nat}
abbrev rdL (g : Nat → Nat → Int32) (ko jo ka : Nat) (t : Nat → Nat) (n : Nat) : Prop := g ko jo = nI n ∧ n ≤ 40 ∧ (∀ i, i < n → g ka i = nI (t i)) ∧ ∀ i, t i < 256
theorem c_Line_isSign {h : AH} {s : Nat} (hs : s < 256) : cwp X d m_Line_isSign [.int (nI s)] h Q = Q (some (.int (bI (s = 35 ∨ s = 46 ∨ s = 63)))) h := by
  simp (disch := omega) only [e_Line_isSign, ↓s_Line_isSign_0, ↓s_Line_isSign_1, ↓s_Line_isSign_3, ↓s_Line_isSign_6, ↓s_Line_isSign_7, ↓s_Line_isSign_9, ↓s_Line_isSign_12, ↓s_Line_isSign_13, ↓s_Line_isSign_15, ↓s_Line_isSign_18, ↓s_Line_isSign_19, ↓s_Line_isSign_22, ↓s_Line_isSign_23_0, ↓s_Line_isSign_23_1, ↓s_Line_isSign_23_b, nI_leI, nI_ltI, nI_eq, N_z, nI_add, pk_sub, pk_mul, kL_i, kL_r, kL_d, kL_l, kL_k, kL_f, Option.toList_some, Option.toList_none, List.cons_append, List.nil_append, bI_z, N_and, N_or, N_shl, N_shr, Nat.one_mul, Nat.reduceAdd]
  unfold bI
  by_cases h1 : s = 35 <;> by_cases h2 : s = 46 <;> by_cases h3 : s = 63 <;> simp [h1, h2, h3]
theorem c_Line_isFigureAt {a : Nat} (hr : rdL g 1 1 2 t n) (ha : a < 100) : cwp X d m_Line_isFigureAt [.ref 1, .int (nI a)] (HP g hj) Q = Q (some (.int (bI (fg t n a)))) (HP g hj) := by
  obtain ⟨h1, h2, h3, h4⟩ := hr
  have h5 := h4 a
  by_cases hl : a < n
  · have e := h3 a hl
    simp (disch := omega) only [e_Line_isFigureAt, ↓s_Line_isFigureAt_0, ↓s_Line_isFigureAt_1, ↓s_Line_isFigureAt_2, ↓s_Line_isFigureAt_5, ↓s_Line_isFigureAt_8, ↓s_Line_isFigureAt_9, ↓s_Line_isFigureAt_12, ↓s_Line_isFigureAt_13, ↓s_Line_isFigureAt_14, ↓s_Line_isFigureAt_16, ↓s_Line_isFigureAt_19, ↓s_Line_isFigureAt_20, ↓s_Line_isFigureAt_23, ↓s_Line_isFigureAt_24, ↓s_Line_isFigureAt_25, ↓s_Line_isFigureAt_27, ↓s_Line_isFigureAt_30, ↓s_Line_isFigureAt_31, ↓s_Line_isFigureAt_34, ↓s_Line_isFigureAt_35_0, ↓s_Line_isFigureAt_35_1, ↓s_Line_isFigureAt_35_b, nI_leI, nI_ltI, nI_eq, N_z, nI_add, pk_sub, pk_mul, kL_i, kL_r, kL_d, kL_l, kL_k, kL_f, Option.toList_some, Option.toList_none, List.cons_append, List.nil_append, bI_z, N_and, N_or, N_shl, N_shr, Nat.one_mul, Nat.reduceAdd, h1, e]
    rw [if_neg (by omega)]
    unfold bI
    by_cases g1 : t a < 48
    · rw [if_pos g1, if_neg (fun z => by omega)]
    · rw [if_neg g1]
      by_cases g2 : 57 < t a
      · rw [if_pos g2, if_neg (fun z => by omega)]
      · rw [if_neg g2, if_pos ⟨hl, by omega, by omega⟩]
  · simp (disch := omega) only [e_Line_isFigureAt, ↓s_Line_isFigureAt_0, ↓s_Line_isFigureAt_1, ↓s_Line_isFigureAt_2, ↓s_Line_isFigureAt_5, ↓s_Line_isFigureAt_8, ↓s_Line_isFigureAt_9, ↓s_Line_isFigureAt_12, ↓s_Line_isFigureAt_13, ↓s_Line_isFigureAt_14, ↓s_Line_isFigureAt_16, ↓s_Line_isFigureAt_19, ↓s_Line_isFigureAt_20, ↓s_Line_isFigureAt_23, ↓s_Line_isFigureAt_24, ↓s_Line_isFigureAt_25, ↓s_Line_isFigureAt_27, ↓s_Line_isFigureAt_30, ↓s_Line_isFigureAt_31, ↓s_Line_isFigureAt_34, ↓s_Line_isFigureAt_35_0, ↓s_Line_isFigureAt_35_1, ↓s_Line_isFigureAt_35_b, nI_leI, nI_ltI, nI_eq, N_z, nI_add, pk_sub, pk_mul, kL_i, kL_r, kL_d, kL_l, kL_k, kL_f, Option.toList_some, Option.toList_none, List.cons_append, List.nil_append, bI_z, N_and, N_or, N_shl, N_shr, Nat.one_mul, Nat.reduceAdd, h1]
    rw [if_pos (by omega), bI_f (fun z => hl z.1)]
theorem c_Line_numberAt {a : Nat} (hr : rdL g 1 1 2 t n) (ha : a < 90) : cwp X (d + 1) m_Line_numberAt [.ref 1, .int (nI a)] (HP g hj) Q = Q (some (.int (if fg t n a then nI (nmb t n a) else nI 0))) (HP g hj) := by
  obtain ⟨h1, h2, h3, h4⟩ := id hr
  have h5 := h4 a
  have h6 := h4 (a + 1)
  simp (disch := omega) only [e_Line_numberAt, ↓s_Line_numberAt_0, ↓s_Line_numberAt_1, ↓s_Line_numberAt_2, ↓s_Line_numberAt_5, c_Line_isFigureAt hr, nI_leI, nI_ltI, nI_eq, N_z, nI_add, pk_sub, pk_mul, kL_i, kL_r, kL_d, kL_l, kL_k, kL_f, Option.toList_some, Option.toList_none, List.cons_append, List.nil_append, bI_z, N_and, N_or, N_shl, N_shr, Nat.one_mul, Nat.reduceAdd]
  by_cases hf : fg t n a
  · have e := h3 a hf.1
    rw [if_pos (fun z => z hf), if_pos hf]
    simp (disch := omega) only [↓s_Line_numberAt_0, ↓s_Line_numberAt_1, ↓s_Line_numberAt_2, ↓s_Line_numberAt_5, ↓s_Line_numberAt_8, ↓s_Line_numberAt_9, ↓s_Line_numberAt_10, ↓s_Line_numberAt_11, ↓s_Line_numberAt_14, ↓s_Line_numberAt_15, ↓s_Line_numberAt_16, ↓s_Line_numberAt_18, ↓s_Line_numberAt_19, ↓s_Line_numberAt_20, ↓s_Line_numberAt_21, ↓s_Line_numberAt_22, ↓s_Line_numberAt_23, ↓s_Line_numberAt_24, ↓s_Line_numberAt_27, ↓s_Line_numberAt_30, ↓s_Line_numberAt_32, ↓s_Line_numberAt_33, ↓s_Line_numberAt_34, ↓s_Line_numberAt_35, ↓s_Line_numberAt_38, ↓s_Line_numberAt_39, ↓s_Line_numberAt_40, ↓s_Line_numberAt_41, ↓s_Line_numberAt_42, ↓s_Line_numberAt_43, ↓s_Line_numberAt_45, ↓s_Line_numberAt_46, ↓s_Line_numberAt_49, ↓s_Line_numberAt_50, c_Line_isFigureAt hr, nI_leI, nI_ltI, nI_eq, N_z, nI_add, pk_sub, pk_mul, kL_i, kL_r, kL_d, kL_l, kL_k, kL_f, Option.toList_some, Option.toList_none, List.cons_append, List.nil_append, bI_z, N_and, N_or, N_shl, N_shr, Nat.one_mul, Nat.reduceAdd, e]
    unfold nmb
    by_cases hg : fg t n (a + 1)
    · have e2 := h3 (a + 1) hg.1
      rw [if_neg (fun z => z hg), if_pos hg]
      simp (disch := omega) only [↓s_Line_numberAt_0, ↓s_Line_numberAt_1, ↓s_Line_numberAt_2, ↓s_Line_numberAt_5, ↓s_Line_numberAt_8, ↓s_Line_numberAt_9, ↓s_Line_numberAt_10, ↓s_Line_numberAt_11, ↓s_Line_numberAt_14, ↓s_Line_numberAt_15, ↓s_Line_numberAt_16, ↓s_Line_numberAt_18, ↓s_Line_numberAt_19, ↓s_Line_numberAt_20, ↓s_Line_numberAt_21, ↓s_Line_numberAt_22, ↓s_Line_numberAt_23, ↓s_Line_numberAt_24, ↓s_Line_numberAt_27, ↓s_Line_numberAt_30, ↓s_Line_numberAt_32, ↓s_Line_numberAt_33, ↓s_Line_numberAt_34, ↓s_Line_numberAt_35, ↓s_Line_numberAt_38, ↓s_Line_numberAt_39, ↓s_Line_numberAt_40, ↓s_Line_numberAt_41, ↓s_Line_numberAt_42, ↓s_Line_numberAt_43, ↓s_Line_numberAt_45, ↓s_Line_numberAt_46, ↓s_Line_numberAt_49, ↓s_Line_numberAt_50, nI_leI, nI_ltI, nI_eq, N_z, nI_add, pk_sub, pk_mul, kL_i, kL_r, kL_d, kL_l, kL_k, kL_f, Option.toList_some, Option.toList_none, List.cons_append, List.nil_append, bI_z, N_and, N_or, N_shl, N_shr, Nat.one_mul, Nat.reduceAdd, e2]
      congr 4
      omega
    · rw [if_pos hg, if_neg hg]
  · rw [if_neg (fun z => z hf), if_neg hf]
    simp (disch := omega) only [↓s_Line_numberAt_0, ↓s_Line_numberAt_1, ↓s_Line_numberAt_2, ↓s_Line_numberAt_5, ↓s_Line_numberAt_8, ↓s_Line_numberAt_9, ↓s_Line_numberAt_10, ↓s_Line_numberAt_11, ↓s_Line_numberAt_14, ↓s_Line_numberAt_15, ↓s_Line_numberAt_16, ↓s_Line_numberAt_18, ↓s_Line_numberAt_19, ↓s_Line_numberAt_20, ↓s_Line_numberAt_21, ↓s_Line_numberAt_22, ↓s_Line_numberAt_23, ↓s_Line_numberAt_24, ↓s_Line_numberAt_27, ↓s_Line_numberAt_30, ↓s_Line_numberAt_32, ↓s_Line_numberAt_33, ↓s_Line_numberAt_34, ↓s_Line_numberAt_35, ↓s_Line_numberAt_38, ↓s_Line_numberAt_39, ↓s_Line_numberAt_40, ↓s_Line_numberAt_41, ↓s_Line_numberAt_42, ↓s_Line_numberAt_43, ↓s_Line_numberAt_45, ↓s_Line_numberAt_46, ↓s_Line_numberAt_49, ↓s_Line_numberAt_50]
theorem c_Line_show {s c k mk un : Nat} (hs : s < 256) (hc : c < 32) (hk : k < 32) : cwp X d m_Line_show [.ref 1, .int (nI s), .int (nI c), .int (nI k)] (HP (G2 hi 1 2 3 (nI mk) (nI un)) hj) Q = Q none (HP (G2 hi 1 2 3 (nI (shm s mk c k)) (nI (shu s un c k))) hj) := by
  have hp : 1 ≤ 2 ^ k := Nat.one_le_two_pow
  simp (disch := omega) only [e_Line_show, ↓s_Line_show_0, ↓s_Line_show_1, ↓s_Line_show_2, ↓s_Line_show_3, ↓s_Line_show_4, ↓s_Line_show_5, ↓s_Line_show_6, ↓s_Line_show_7, ↓s_Line_show_9, ↓s_Line_show_10, ↓s_Line_show_12, ↓s_Line_show_15, ↓s_Line_show_16, ↓s_Line_show_17, ↓s_Line_show_20, ↓s_Line_show_22, ↓s_Line_show_23, ↓s_Line_show_26, ↓s_Line_show_29, ↓s_Line_show_30, ↓s_Line_show_32, ↓s_Line_show_35, ↓s_Line_show_36, ↓s_Line_show_37, ↓s_Line_show_40, ↓s_Line_show_42, ↓s_Line_show_43, ↓s_Line_show_46, nI_leI, nI_ltI, nI_eq, N_z, nI_add, pk_sub, pk_mul, kL_i, kL_r, kL_d, kL_l, kL_k, kL_f, Option.toList_some, Option.toList_none, List.cons_append, List.nil_append, bI_z, N_and, N_or, N_shl, N_shr, Nat.one_mul, Nat.reduceAdd, G2_i, G2_j, G2_ui, G2_uj]
  unfold shm shu
  by_cases h1 : s = 35
  · subst h1
    simp
  · by_cases h2 : s = 63
    · subst h2
      simp
    · simp [h1, h2]
end LINE
