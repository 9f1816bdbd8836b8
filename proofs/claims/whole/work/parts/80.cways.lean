/-! the class's answers out of the ways -/
section CWAYS
variable {X : AX} {d : Nat} {Q : Option Value → AH → Prop} {g : Nat → Nat → Int32} {hj : Nat → Nat → Int64} {σ τ : ST} {t : Nat → Nat} {n : Nat} {a a1 a2 : Int32}
theorem FR_may (f : FR σ g hj) {l : Nat} (hl : l < σ 11 0) : g 23 l = nI (mmy σ l) := by
  have := f.2.2.2.2.2 l hl
  unfold mmy
  split at this
  · rename_i h; rw [if_pos h]; exact this.2.2
  · rename_i h; rw [if_neg h]; exact this.2
theorem FR_best (f : FR σ g hj) {l : Nat} (hl : l < σ 11 0) (h0 : 0 < (wyl σ).length) : g 21 l = bstA σ l 0 ∧ g 22 l = bstA σ l 1 := by
  have := f.2.2.2.2.2 l hl
  unfold bstA
  split at this
  · rename_i h; rw [if_pos h, if_pos h]; exact ⟨this.1, this.2.1⟩
  · rename_i h; rw [if_neg h, if_neg h, if_pos rfl, if_neg (by omega)]; exact this.1 h0
theorem p_C_ways (c : CR t n σ τ g hj) (K : KC g hj Q (t, n, σ, τ, aWays σ)) : cwp X (d + 33) m_C_ways [.ref 0] (HP g hj) Q := by
  simp only [e_C_ways, ↓s_C_ways_0, ↓s_C_ways_1, ↓s_C_ways_4]
  refine c_refusal c (fun g' hj' c' e1 e2 => ?_)
  have := K g' hj' c'.1 e1 e2
  change Q (some (.int (aWays σ))) (HP g' hj') at this
  unfold aWays at this
  unfold rf
  simp (disch := omega) only [↓s_C_ways_7, ↓s_C_ways_9, ↓s_C_ways_12, ↓s_C_ways_14, ↓s_C_ways_24, Option.toList_some, List.cons_append, List.nil_append, ite_not]
  by_cases h8 : 8 < (PL σ).length
  · rw [if_pos h8] at this
    rw [if_pos h8, if_pos rfl]
    exact this
  · rw [if_neg h8] at this
    rw [if_neg h8]
    have e8 := (c'.2 (by omega)).2.2.2.2.1
    rw [if_neg (by split; decide; decide)]
    simp (disch := omega) only [↓s_C_ways_17, ↓s_C_ways_18, ↓s_C_ways_21, ↓s_C_ways_24, e8]
    exact this
theorem p_C_stones (c : CR t n σ τ g hj) (K : KC g hj Q (t, n, σ, τ, aStones σ)) : cwp X (d + 33) m_C_stones [.ref 0] (HP g hj) Q := by
  simp only [e_C_stones, ↓s_C_stones_0, ↓s_C_stones_1, ↓s_C_stones_4]
  refine c_refusal c (fun g' hj' c' e1 e2 => ?_)
  have := K g' hj' c'.1 e1 e2
  change Q (some (.int (aStones σ))) (HP g' hj') at this
  unfold aStones at this
  simp (disch := omega) only [↓s_C_stones_7, ↓s_C_stones_8, ↓s_C_stones_9, ↓s_C_stones_12, ↓s_C_stones_13, ↓s_C_stones_23, Option.toList_some, List.cons_append, List.nil_append, kL_r]
  by_cases h0 : rf σ = 0
  · rw [orR_0 h0] at this
    obtain ⟨h1, h2⟩ := rf_0 h0
    have e9 := (c'.2 h1).2.2.2.2.2.1
    rw [if_pos h0]
    simp (disch := omega) only [↓s_C_stones_16, ↓s_C_stones_17, ↓s_C_stones_20, ↓s_C_stones_23, e9]
    exact this
  · rw [orR_n h0] at this
    rw [if_neg h0]
    exact this
theorem p_C_best (c : CR t n σ τ g hj) (K : KC g hj Q (bestS t n σ τ a1 a2)) : cwp X (d + 33) m_C_best [.ref 0, .int a1, .int a2] (HP g hj) Q := by
  have w := c.2.1.1.2.2.2.1.1
  unfold bestS at K
  simp (disch := omega) only [e_C_best, ↓s_C_best_0, ↓s_C_best_1, ↓s_C_best_2, ↓s_C_best_5, ↓s_C_best_8, ↓s_C_best_9, ↓s_C_best_10, ↓s_C_best_13, ↓s_C_best_16, ↓s_C_best_18, c_C_isLump c.2.1, c_C_isBelowN, nI_leI, nI_ltI, nI_eq, N_z, nI_add, pk_sub, pk_mul, kL_i, kL_r, kL_d, kL_l, kL_k, kL_f, Option.toList_some, Option.toList_none, List.cons_append, List.nil_append, bI_z, N_and, N_or, N_shl, N_shr, Nat.one_mul, Nat.reduceAdd, lg_cmp_eq, L_and, L_or, bI_1, bI_0, if_true, if_false, reduceIte, N_m1x, ite_not]
  by_cases h1 : inR a1 (σ 11 0)
  case neg =>
    rw [if_neg (fun z => h1 z.1)] at K
    rw [if_neg h1]
    exact KC_0 c K
  rw [if_pos h1]
  by_cases h2 : inR a2 2
  case neg =>
    rw [if_neg (fun z => h2 z.2)] at K
    rw [if_neg h2]
    exact KC_0 c K
  rw [if_pos h2]
  rw [if_pos ⟨h1, h2⟩] at K
  obtain ⟨l, hl, rfl⟩ := inR_n h1 (by omega)
  obtain ⟨u, hu, rfl⟩ := inR_n h2 (by omega)
  rw [nn_n (by omega), nn_n (by omega)] at K
  simp only [↓s_C_best_19, ↓s_C_best_20, ↓s_C_best_23]
  refine c_refusal c (fun g' hj' c' e1 e2 => ?_)
  have := K g' hj' c'.1 e1 e2
  change Q (some (.int (aBestN σ l u))) (HP g' hj') at this
  unfold aBestN at this
  simp (disch := omega) only [↓s_C_best_26, ↓s_C_best_27, ↓s_C_best_28, ↓s_C_best_31, ↓s_C_best_32, Option.toList_some, List.cons_append, List.nil_append, kL_r, kL_i]
  by_cases h0 : rf σ = 0
  · rw [orR_0 h0] at this
    obtain ⟨h1, h2⟩ := rf_0 h0
    obtain ⟨b1, b2⟩ := FR_best (c'.2 h1).2 hl h2
    rw [if_pos h0]
    simp (disch := omega) only [↓s_C_best_33, ↓s_C_best_34, ↓s_C_best_37, ↓s_C_best_38, ↓s_C_best_41, ↓s_C_best_44, ↓s_C_best_45, ↓s_C_best_46, ↓s_C_best_49, ↓s_C_best_50, ↓s_C_best_53, ↓s_C_best_56, ↓s_C_best_57, ↓s_C_best_58, nI_leI, nI_ltI, nI_eq, N_z, nI_add, pk_sub, pk_mul, kL_i, kL_r, kL_d, kL_l, kL_k, kL_f, Option.toList_some, Option.toList_none, List.cons_append, List.nil_append, bI_z, N_and, N_or, N_shl, N_shr, Nat.one_mul, Nat.reduceAdd, lg_cmp_eq, L_and, L_or, bI_1, bI_0, if_true, if_false, reduceIte, N_m1x, ite_not, b1, b2]
    rcases (show u = 0 ∨ u = 1 by omega) with rfl | rfl
    · rw [if_pos rfl]; exact this
    · rw [if_neg (by omega)]; exact this
  · rw [orR_n h0] at this
    rw [if_neg h0]
    exact this
theorem p_C_may (c : CR t n σ τ g hj) (K : KC g hj Q (mayS t n σ τ a1)) : cwp X (d + 33) m_C_may [.ref 0, .int a1] (HP g hj) Q := by
  have w := c.2.1.1.2.2.2.1.1
  unfold mayS at K
  simp (disch := omega) only [e_C_may, ↓s_C_may_0, ↓s_C_may_1, ↓s_C_may_2, ↓s_C_may_5, ↓s_C_may_8, ↓s_C_may_10, c_C_isLump c.2.1, nI_leI, nI_ltI, nI_eq, N_z, nI_add, pk_sub, pk_mul, kL_i, kL_r, kL_d, kL_l, kL_k, kL_f, Option.toList_some, Option.toList_none, List.cons_append, List.nil_append, bI_z, N_and, N_or, N_shl, N_shr, Nat.one_mul, Nat.reduceAdd, lg_cmp_eq, L_and, L_or, bI_1, bI_0, if_true, if_false, reduceIte, N_m1x, ite_not]
  by_cases h1 : inR a1 (σ 11 0)
  case neg =>
    rw [if_neg h1] at K ⊢
    exact KC_0 c K
  rw [if_pos h1] at K ⊢
  obtain ⟨l, hl, rfl⟩ := inR_n h1 (by omega)
  rw [nn_n (by omega)] at K
  simp only [↓s_C_may_11, ↓s_C_may_12, ↓s_C_may_15]
  refine c_refusal c (fun g' hj' c' e1 e2 => ?_)
  have := K g' hj' c'.1 e1 e2
  change Q (some (.int (aMayN σ l))) (HP g' hj') at this
  unfold aMayN at this
  simp (disch := omega) only [↓s_C_may_18, ↓s_C_may_19, ↓s_C_may_20, ↓s_C_may_23, ↓s_C_may_24, ↓s_C_may_36, Option.toList_some, List.cons_append, List.nil_append, kL_r, kL_i]
  by_cases h0 : rf σ = 0
  · rw [orR_0 h0] at this
    obtain ⟨h1, h2⟩ := rf_0 h0
    have e := FR_may (c'.2 h1).2 hl
    rw [if_pos h0]
    simp (disch := omega) only [↓s_C_may_27, ↓s_C_may_28, ↓s_C_may_31, ↓s_C_may_34, ↓s_C_may_35, ↓s_C_may_36, e]
    exact this
  · rw [orR_n h0] at this
    rw [if_neg h0]
    exact this
theorem l_C_stonesI {l : Nat} (c : C0 σ g hj) (e23 : g 23 l = nI (mmy σ l)) (hl : l < σ 11 0) : ∀ (m r : Nat), r + m = σ 2 0 → wp X (d + 1) m_C_stonesItMayBeOf 4 [.ref 0, .int (nI l), .int (nI (stB σ l r)), .int (nI r)] [] (HP g hj) Q = Q (some (.int (nI (stB σ l (σ 2 0))))) (HP g hj)
  | 0, r, hr => by
    have w := c.1.2.1.1
    have e0 := c.2.1.1
    have : r = σ 2 0 := by omega
    subst this
    rw [s_C_stonesItMayBeOf_4]
    simp (disch := omega) only [↓s_C_stonesItMayBeOf_5, ↓s_C_stonesItMayBeOf_6, ↓s_C_stonesItMayBeOf_9, ↓s_C_stonesItMayBeOf_12, ↓s_C_stonesItMayBeOf_50, ↓s_C_stonesItMayBeOf_51, nI_leI, nI_ltI, nI_eq, N_z, nI_add, pk_sub, pk_mul, kL_i, kL_r, kL_d, kL_l, kL_k, kL_f, Option.toList_some, Option.toList_none, List.cons_append, List.nil_append, bI_z, N_and, N_or, N_shl, N_shr, Nat.one_mul, Nat.reduceAdd, lg_cmp_eq, L_and, L_or, bI_1, bI_0, if_true, if_false, reduceIte, N_m1x, ite_not, e0, Nat.le_refl]
  | m + 1, r, hr => by
    have w := c.1.2.1.1
    have w1 := c.1.2.2.2.1.1
    have e0 := c.2.1.1
    have hm := mmy_lt hl
    have st := stone_lt c.1 6 r (by omega)
    change stone σ r < σ 2 0 at st
    have e : stB σ l (r + 1) = stB σ l r ||| (if (mmy σ l).testBit r = true then 2 ^ stone σ r else 0) := rfl
    rw [s_C_stonesItMayBeOf_4]
    simp (disch := omega) only [↓s_C_stonesItMayBeOf_5, ↓s_C_stonesItMayBeOf_6, ↓s_C_stonesItMayBeOf_9, ↓s_C_stonesItMayBeOf_12, ↓s_C_stonesItMayBeOf_15, ↓s_C_stonesItMayBeOf_16, ↓s_C_stonesItMayBeOf_19, ↓s_C_stonesItMayBeOf_22, ↓s_C_stonesItMayBeOf_23, ↓s_C_stonesItMayBeOf_24, ↓s_C_stonesItMayBeOf_25, ↓s_C_stonesItMayBeOf_28, ↓s_C_stonesItMayBeOf_31, ↓s_C_stonesItMayBeOf_32, ↓s_C_stonesItMayBeOf_33, ↓s_C_stonesItMayBeOf_34, ↓s_C_stonesItMayBeOf_37, ↓s_C_stonesItMayBeOf_38, ↓s_C_stonesItMayBeOf_41, ↓s_C_stonesItMayBeOf_42, ↓s_C_stonesItMayBeOf_43, ↓s_C_stonesItMayBeOf_44, ↓s_C_stonesItMayBeOf_47, nI_leI, nI_ltI, nI_eq, N_z, nI_add, pk_sub, pk_mul, kL_i, kL_r, kL_d, kL_l, kL_k, kL_f, Option.toList_some, Option.toList_none, List.cons_append, List.nil_append, bI_z, N_and, N_or, N_shl, N_shr, Nat.one_mul, Nat.reduceAdd, lg_cmp_eq, L_and, L_or, bI_1, bI_0, if_true, if_false, reduceIte, N_m1x, ite_not, e0, e23, c_C_hasBit, c_Rings_stoneOf c.1 c.2.1]
    rw [if_neg (by omega)]
    by_cases h1 : (mmy σ l).testBit r = true
    · rw [if_pos h1] at e ⊢
      rw [← e]
      exact l_C_stonesI c e23 hl m (r + 1) (by omega)
    · rw [if_neg h1, Nat.or_zero] at e
      rw [if_neg h1, ← e]
      exact l_C_stonesI c e23 hl m (r + 1) (by omega)
theorem c_C_stonesI {l : Nat} (c : C0 σ g hj) (e23 : g 23 l = nI (mmy σ l)) (hl : l < σ 11 0) : cwp X (d + 1) m_C_stonesItMayBeOf [.ref 0, .int (nI l)] (HP g hj) Q = Q (some (.int (nI (stB σ l (σ 2 0))))) (HP g hj) := by
  simp only [e_C_stonesItMayBeOf, ↓s_C_stonesItMayBeOf_0, ↓s_C_stonesItMayBeOf_1, ↓s_C_stonesItMayBeOf_2, ↓s_C_stonesItMayBeOf_3, kL_i, kL_d]
  exact l_C_stonesI c e23 hl (σ 2 0) 0 (by omega)
theorem l_C_sure {v1 : Int32} (c : C0 σ g hj) (f : FR σ g hj) : ∀ (m l : Nat), l + m = σ 11 0 → wp X (d + 2) m_C_sure 18 [.ref 0, .int v1, .int (nI (bts (fun l => decide (stN σ l = 1)) l)), .int (nI l)] [] (HP g hj) Q = Q (some (.int (nI (bts (fun l => decide (stN σ l = 1)) (σ 11 0))))) (HP g hj)
  | 0, l, hl => by
    have w := c.1.2.2.2.1.1
    have e0 := c.2.2.2.1
    have : l = σ 11 0 := by omega
    subst this
    rw [s_C_sure_18]
    simp (disch := omega) only [↓s_C_sure_19, ↓s_C_sure_20, ↓s_C_sure_23, ↓s_C_sure_26, ↓s_C_sure_53, ↓s_C_sure_54, nI_leI, nI_ltI, nI_eq, N_z, nI_add, pk_sub, pk_mul, kL_i, kL_r, kL_d, kL_l, kL_k, kL_f, Option.toList_some, Option.toList_none, List.cons_append, List.nil_append, bI_z, N_and, N_or, N_shl, N_shr, Nat.one_mul, Nat.reduceAdd, lg_cmp_eq, L_and, L_or, bI_1, bI_0, if_true, if_false, reduceIte, N_m1x, ite_not, e0, Nat.le_refl]
  | m + 1, l, hl => by
    have w := c.1.2.2.2.1.1
    have e0 := c.2.2.2.1
    have sb := stB_lt (l := l) c.1 (σ 2 0) (Nat.le_refl _)
    have sn := stN_le (σ := σ) (l := l)
    have en : pcn (stB σ l (σ 2 0)) 16 = stN σ l := rfl
    have e : bts (fun l => decide (stN σ l = 1)) (l + 1) = bts (fun l => decide (stN σ l = 1)) l ||| (if decide (stN σ l = 1) = true then 2 ^ l else 0) := rfl
    rw [s_C_sure_18]
    simp (disch := omega) only [↓s_C_sure_19, ↓s_C_sure_20, ↓s_C_sure_23, ↓s_C_sure_26, ↓s_C_sure_29, ↓s_C_sure_30, ↓s_C_sure_31, ↓s_C_sure_34, ↓s_C_sure_37, ↓s_C_sure_38, ↓s_C_sure_41, ↓s_C_sure_42, ↓s_C_sure_43, ↓s_C_sure_44, ↓s_C_sure_45, ↓s_C_sure_46, ↓s_C_sure_47, ↓s_C_sure_50, nI_leI, nI_ltI, nI_eq, N_z, nI_add, pk_sub, pk_mul, kL_i, kL_r, kL_d, kL_l, kL_k, kL_f, Option.toList_some, Option.toList_none, List.cons_append, List.nil_append, bI_z, N_and, N_or, N_shl, N_shr, Nat.one_mul, Nat.reduceAdd, lg_cmp_eq, L_and, L_or, bI_1, bI_0, if_true, if_false, reduceIte, N_m1x, ite_not, e0, c_C_stonesI c (FR_may f (show l < σ 11 0 by omega)), c_JI_bitCount, en]
    rw [if_neg (by omega)]
    by_cases h1 : stN σ l = 1
    · rw [if_pos h1]
      rw [if_pos (decide_eq_true h1)] at e
      rw [← e]
      exact l_C_sure c f m (l + 1) (by omega)
    · rw [if_neg h1]
      rw [if_neg (by simpa using h1), Nat.or_zero] at e
      rw [← e]
      exact l_C_sure c f m (l + 1) (by omega)
theorem p_C_sure (c : CR t n σ τ g hj) (K : KC g hj Q (t, n, σ, τ, aSure σ)) : cwp X (d + 33) m_C_sure [.ref 0] (HP g hj) Q := by
  simp only [e_C_sure, ↓s_C_sure_0, ↓s_C_sure_1, ↓s_C_sure_4]
  refine c_refusal c (fun g' hj' c' e1 e2 => ?_)
  have := K g' hj' c'.1 e1 e2
  change Q (some (.int (aSure σ))) (HP g' hj') at this
  unfold aSure at this
  simp (disch := omega) only [↓s_C_sure_7, ↓s_C_sure_8, ↓s_C_sure_9, ↓s_C_sure_12, ↓s_C_sure_13, Option.toList_some, List.cons_append, List.nil_append, kL_r, kL_i]
  by_cases h0 : rf σ = 0
  · rw [orR_0 h0] at this
    obtain ⟨h1, h2⟩ := rf_0 h0
    rw [if_pos h0]
    simp (disch := omega) only [↓s_C_sure_14, ↓s_C_sure_15, ↓s_C_sure_16, ↓s_C_sure_17, kL_i]
    exact (l_C_sure c'.1.2.1 (c'.2 h1).2 (σ 11 0) 0 (by omega)).mpr this
  · rw [orR_n h0] at this
    rw [if_neg h0]
    exact this
theorem c_C_isPressedBy {l h : Nat} (c : C0 σ g hj) (f : FR σ g hj) (hl : l < σ 11 0) (hh : h < σ 6 0) : cwp X (d + 3) m_C_isPressedBy [.ref 0, .int (nI l), .int (nI h)] (HP g hj) Q = Q (some (.int (bI (isB σ l h = true)))) (HP g hj) := by
  have w := c.1.2.2.2.1.1
  have w1 := c.1.2.1.1
  have w2 := c.1.2.2.1.1
  obtain ⟨q1, q2, q3⟩ := c.2.2.1.2 h hh
  obtain ⟨v1, v2, v3, v4⟩ := c.1.2.2.1.2 h hh
  have e23 := FR_may f hl
  have hm := mmy_lt hl
  have ls : spn (σ 9 h) (σ 10 h) &&& dd σ l (σ 7 h) < 1152921504606846976 := Nat.lt_of_le_of_lt Nat.and_le_left (spn_lt v4)
  simp (disch := first | assumption | omega) only [e_C_isPressedBy, ↓s_C_isPressedBy_0, ↓s_C_isPressedBy_1, ↓s_C_isPressedBy_4, ↓s_C_isPressedBy_7, ↓s_C_isPressedBy_8, ↓s_C_isPressedBy_9, ↓s_C_isPressedBy_10, ↓s_C_isPressedBy_11, ↓s_C_isPressedBy_14, ↓s_C_isPressedBy_17, ↓s_C_isPressedBy_18, ↓s_C_isPressedBy_19, ↓s_C_isPressedBy_20, ↓s_C_isPressedBy_23, ↓s_C_isPressedBy_26, ↓s_C_isPressedBy_27, ↓s_C_isPressedBy_30, ↓s_C_isPressedBy_33, ↓s_C_isPressedBy_34, ↓s_C_isPressedBy_35, ↓s_C_isPressedBy_36, ↓s_C_isPressedBy_39, ↓s_C_isPressedBy_40, ↓s_C_isPressedBy_41, ↓s_C_isPressedBy_44, ↓s_C_isPressedBy_45, ↓s_C_isPressedBy_46, ↓s_C_isPressedBy_47, ↓s_C_isPressedBy_50, ↓s_C_isPressedBy_51, ↓s_C_isPressedBy_54, ↓s_C_isPressedBy_55_0, ↓s_C_isPressedBy_55_1, ↓s_C_isPressedBy_55_b, nI_leI, nI_ltI, nI_eq, N_z, nI_add, pk_sub, pk_mul, kL_i, kL_r, kL_d, kL_l, kL_k, kL_f, Option.toList_some, Option.toList_none, List.cons_append, List.nil_append, bI_z, N_and, N_or, N_shl, N_shr, Nat.one_mul, Nat.reduceAdd, lg_cmp_eq, L_and, L_or, bI_1, bI_0, if_true, if_false, reduceIte, N_m1x, ite_not, q1, q3, e23, c_C_hasBit, c_Matches_sharedDays c, L_inj]
  unfold isB
  by_cases h1 : (mmy σ l).testBit (σ 7 h) = true
  · rw [if_pos h1]
    by_cases h2 : spn (σ 9 h) (σ 10 h) &&& dd σ l (σ 7 h) = 0
    · rw [if_pos h2, bI_f (by unfold dd at h2; simp [h2])]
    · rw [if_neg h2, bI_t (by unfold dd at h2; simp [h1, h2])]
  · rw [if_neg h1, bI_f (by simp [h1])]
theorem l_C_pressed {l : Nat} {v2 : Int32} (c : C0 σ g hj) (f : FR σ g hj) (hl : l < σ 11 0) : ∀ (m h : Nat), h + m = σ 6 0 → wp X (d + 4) m_C_pressed 30 [.ref 0, .int (nI l), .int v2, .int (nI (prB σ l h)), .int (nI h)] [] (HP g hj) Q = Q (some (.int (nI (prB σ l (σ 6 0))))) (HP g hj)
  | 0, h, hh => by
    have w := c.1.2.2.1.1
    have e0 := c.2.2.1.1
    have : h = σ 6 0 := by omega
    subst this
    rw [s_C_pressed_30]
    simp (disch := omega) only [↓s_C_pressed_32, ↓s_C_pressed_33, ↓s_C_pressed_36, ↓s_C_pressed_39, ↓s_C_pressed_73, ↓s_C_pressed_74, nI_leI, nI_ltI, nI_eq, N_z, nI_add, pk_sub, pk_mul, kL_i, kL_r, kL_d, kL_l, kL_k, kL_f, Option.toList_some, Option.toList_none, List.cons_append, List.nil_append, bI_z, N_and, N_or, N_shl, N_shr, Nat.one_mul, Nat.reduceAdd, lg_cmp_eq, L_and, L_or, bI_1, bI_0, if_true, if_false, reduceIte, N_m1x, ite_not, e0, Nat.le_refl]
  | m + 1, h, hh => by
    have w := c.1.2.2.1.1
    have e0 := c.2.2.1.1
    have q2 := (c.2.2.1.2 h (by omega)).2.1
    have v2 := (c.1.2.2.1.2 h (by omega)).2.1
    have e : prB σ l (h + 1) = prB σ l h ||| (if isB σ l h = true then 2 ^ σ 8 h else 0) := rfl
    rw [s_C_pressed_30]
    simp (disch := first | assumption | omega) only [↓s_C_pressed_32, ↓s_C_pressed_33, ↓s_C_pressed_36, ↓s_C_pressed_39, ↓s_C_pressed_42, ↓s_C_pressed_43, ↓s_C_pressed_44, ↓s_C_pressed_46, ↓s_C_pressed_49, ↓s_C_pressed_52, ↓s_C_pressed_53, ↓s_C_pressed_54, ↓s_C_pressed_55, ↓s_C_pressed_58, ↓s_C_pressed_61, ↓s_C_pressed_63, ↓s_C_pressed_64, ↓s_C_pressed_65, ↓s_C_pressed_66, ↓s_C_pressed_67, ↓s_C_pressed_70, nI_leI, nI_ltI, nI_eq, N_z, nI_add, pk_sub, pk_mul, kL_i, kL_r, kL_d, kL_l, kL_k, kL_f, Option.toList_some, Option.toList_none, List.cons_append, List.nil_append, bI_z, N_and, N_or, N_shl, N_shr, Nat.one_mul, Nat.reduceAdd, lg_cmp_eq, L_and, L_or, bI_1, bI_0, if_true, if_false, reduceIte, N_m1x, ite_not, e0, q2, c_C_isPressedBy c f]
    rw [if_neg (by omega)]
    by_cases h1 : isB σ l h = true
    · rw [if_pos h1] at e ⊢
      rw [← e]
      exact l_C_pressed c f hl m (h + 1) (by omega)
    · rw [if_neg h1, Nat.or_zero] at e
      rw [if_neg h1, ← e]
      exact l_C_pressed c f hl m (h + 1) (by omega)
theorem p_C_pressed (c : CR t n σ τ g hj) (K : KC g hj Q (presS t n σ τ a1)) : cwp X (d + 33) m_C_pressed [.ref 0, .int a1] (HP g hj) Q := by
  have w := c.2.1.1.2.2.2.1.1
  unfold presS at K
  simp (disch := omega) only [e_C_pressed, ↓s_C_pressed_0, ↓s_C_pressed_1, ↓s_C_pressed_2, ↓s_C_pressed_5, ↓s_C_pressed_8, ↓s_C_pressed_10, c_C_isLump c.2.1, nI_leI, nI_ltI, nI_eq, N_z, nI_add, pk_sub, pk_mul, kL_i, kL_r, kL_d, kL_l, kL_k, kL_f, Option.toList_some, Option.toList_none, List.cons_append, List.nil_append, bI_z, N_and, N_or, N_shl, N_shr, Nat.one_mul, Nat.reduceAdd, lg_cmp_eq, L_and, L_or, bI_1, bI_0, if_true, if_false, reduceIte, N_m1x, ite_not]
  by_cases h1 : inR a1 (σ 11 0)
  case neg =>
    rw [if_neg h1] at K ⊢
    exact KC_0 c K
  rw [if_pos h1] at K ⊢
  obtain ⟨l, hl, rfl⟩ := inR_n h1 (by omega)
  rw [nn_n (by omega)] at K
  simp only [↓s_C_pressed_11, ↓s_C_pressed_12, ↓s_C_pressed_15]
  refine c_refusal c (fun g' hj' c' e1 e2 => ?_)
  have := K g' hj' c'.1 e1 e2
  change Q (some (.int (aPress σ l))) (HP g' hj') at this
  unfold aPress at this
  simp (disch := omega) only [↓s_C_pressed_18, ↓s_C_pressed_19, ↓s_C_pressed_20, ↓s_C_pressed_23, ↓s_C_pressed_24, Option.toList_some, List.cons_append, List.nil_append, kL_r, kL_i]
  by_cases h0 : rf σ = 0
  · rw [orR_0 h0] at this
    obtain ⟨h1, h2⟩ := rf_0 h0
    rw [if_pos h0]
    simp (disch := omega) only [↓s_C_pressed_25, ↓s_C_pressed_26, ↓s_C_pressed_27, ↓s_C_pressed_28, kL_i]
    exact (l_C_pressed c'.1.2.1 (c'.2 h1).2 hl (σ 6 0) 0 (by omega)).mpr this
  · rw [orR_n h0] at this
    rw [if_neg h0]
    exact this
theorem l_C_hasLump {h : Nat} (c : C0 σ g hj) (f : FR σ g hj) (hh : h < σ 6 0) : ∀ (m l : Nat), l + m = σ 11 0 → wp X (d + 4) m_C_hasLump 2 [.ref 0, .int (nI h), .int (nI l)] [] (HP g hj) Q = Q (some (.int (bI (anyF (fun l => isB σ l h) m l = true)))) (HP g hj)
  | 0, l, hl => by
    have w := c.1.2.2.2.1.1
    have e0 := c.2.2.2.1
    have : l = σ 11 0 := by omega
    subst this
    rw [s_C_hasLump_2]
    simp (disch := omega) only [↓s_C_hasLump_3, ↓s_C_hasLump_4, ↓s_C_hasLump_7, ↓s_C_hasLump_10, ↓s_C_hasLump_30, ↓s_C_hasLump_31_0, ↓s_C_hasLump_31_1, ↓s_C_hasLump_31_b, nI_leI, nI_ltI, nI_eq, N_z, nI_add, pk_sub, pk_mul, kL_i, kL_r, kL_d, kL_l, kL_k, kL_f, Option.toList_some, Option.toList_none, List.cons_append, List.nil_append, bI_z, N_and, N_or, N_shl, N_shr, Nat.one_mul, Nat.reduceAdd, lg_cmp_eq, L_and, L_or, bI_1, bI_0, if_true, if_false, reduceIte, N_m1x, ite_not, e0, Nat.le_refl]
    rw [bI_f (by unfold anyF; decide)]
  | m + 1, l, hl => by
    have w := c.1.2.2.2.1.1
    have e0 := c.2.2.2.1
    have e : anyF (fun l => isB σ l h) (m + 1) l = (isB σ l h || anyF (fun l => isB σ l h) m (l + 1)) := rfl
    rw [s_C_hasLump_2]
    simp (disch := first | assumption | omega) only [↓s_C_hasLump_3, ↓s_C_hasLump_4, ↓s_C_hasLump_7, ↓s_C_hasLump_10, ↓s_C_hasLump_13, ↓s_C_hasLump_14, ↓s_C_hasLump_15, ↓s_C_hasLump_16, ↓s_C_hasLump_19, ↓s_C_hasLump_22, ↓s_C_hasLump_23_0, ↓s_C_hasLump_23_1, ↓s_C_hasLump_23_b, ↓s_C_hasLump_24, ↓s_C_hasLump_27, nI_leI, nI_ltI, nI_eq, N_z, nI_add, pk_sub, pk_mul, kL_i, kL_r, kL_d, kL_l, kL_k, kL_f, Option.toList_some, Option.toList_none, List.cons_append, List.nil_append, bI_z, N_and, N_or, N_shl, N_shr, Nat.one_mul, Nat.reduceAdd, lg_cmp_eq, L_and, L_or, bI_1, bI_0, if_true, if_false, reduceIte, N_m1x, ite_not, e0, c_C_isPressedBy c f]
    rw [if_neg (by omega), e]
    by_cases h1 : isB σ l h = true
    · rw [if_pos h1, bI_t (by simp [h1])]
    · have h1' : isB σ l h = false := by simpa using h1
      rw [if_neg h1, h1', Bool.false_or]
      exact l_C_hasLump c f hh m (l + 1) (by omega)
theorem l_C_empty {v1 : Int32} (c : C0 σ g hj) (f : FR σ g hj) : ∀ (m h : Nat), h + m = σ 6 0 → wp X (d + 5) m_C_empty 18 [.ref 0, .int v1, .int (nI (bts (fun h => !anyF (fun l => isB σ l h) (σ 11 0) 0) h)), .int (nI h)] [] (HP g hj) Q = Q (some (.int (nI (bts (fun h => !anyF (fun l => isB σ l h) (σ 11 0) 0) (σ 6 0))))) (HP g hj)
  | 0, h, hh => by
    have w := c.1.2.2.1.1
    have e0 := c.2.2.1.1
    have : h = σ 6 0 := by omega
    subst this
    rw [s_C_empty_18]
    simp (disch := omega) only [↓s_C_empty_19, ↓s_C_empty_20, ↓s_C_empty_23, ↓s_C_empty_26, ↓s_C_empty_49, ↓s_C_empty_50, nI_leI, nI_ltI, nI_eq, N_z, nI_add, pk_sub, pk_mul, kL_i, kL_r, kL_d, kL_l, kL_k, kL_f, Option.toList_some, Option.toList_none, List.cons_append, List.nil_append, bI_z, N_and, N_or, N_shl, N_shr, Nat.one_mul, Nat.reduceAdd, lg_cmp_eq, L_and, L_or, bI_1, bI_0, if_true, if_false, reduceIte, N_m1x, ite_not, e0, Nat.le_refl]
  | m + 1, h, hh => by
    have w := c.1.2.2.1.1
    have e0 := c.2.2.1.1
    have k1 := fun Q' => l_C_hasLump (X := X) (d := d) (Q := Q') c f (show h < σ 6 0 by omega) (σ 11 0) 0 (by omega)
    have e : bts (fun h => !anyF (fun l => isB σ l h) (σ 11 0) 0) (h + 1) = bts (fun h => !anyF (fun l => isB σ l h) (σ 11 0) 0) h ||| (if (!anyF (fun l => isB σ l h) (σ 11 0) 0) = true then 2 ^ h else 0) := rfl
    rw [s_C_empty_18]
    simp (disch := omega) only [↓s_C_empty_19, ↓s_C_empty_20, ↓s_C_empty_23, ↓s_C_empty_26, ↓s_C_empty_29, ↓s_C_empty_30, ↓s_C_empty_31, nI_leI, nI_ltI, nI_eq, N_z, nI_add, pk_sub, pk_mul, kL_i, kL_r, kL_d, kL_l, kL_k, kL_f, Option.toList_some, Option.toList_none, List.cons_append, List.nil_append, bI_z, N_and, N_or, N_shl, N_shr, Nat.one_mul, Nat.reduceAdd, lg_cmp_eq, L_and, L_or, bI_1, bI_0, if_true, if_false, reduceIte, N_m1x, ite_not, e0, e_C_hasLump, ↓s_C_hasLump_0, ↓s_C_hasLump_1, k1]
    rw [if_neg (by omega)]
    simp (disch := omega) only [↓s_C_empty_34, ↓s_C_empty_37, ↓s_C_empty_38, ↓s_C_empty_39, ↓s_C_empty_40, ↓s_C_empty_41, ↓s_C_empty_42, ↓s_C_empty_43, ↓s_C_empty_46, nI_leI, nI_ltI, nI_eq, N_z, nI_add, pk_sub, pk_mul, kL_i, kL_r, kL_d, kL_l, kL_k, kL_f, Option.toList_some, Option.toList_none, List.cons_append, List.nil_append, bI_z, N_and, N_or, N_shl, N_shr, Nat.one_mul, Nat.reduceAdd, lg_cmp_eq, L_and, L_or, bI_1, bI_0, if_true, if_false, reduceIte, N_m1x, ite_not]
    by_cases h1 : anyF (fun l => isB σ l h) (σ 11 0) 0 = true
    · rw [if_pos h1]
      rw [if_neg (by simp [h1]), Nat.or_zero] at e
      rw [← e]
      exact l_C_empty c f m (h + 1) (by omega)
    · rw [if_neg h1]
      rw [if_pos (by simpa using h1)] at e
      rw [← e]
      exact l_C_empty c f m (h + 1) (by omega)
theorem p_C_empty (c : CR t n σ τ g hj) (K : KC g hj Q (t, n, σ, τ, aEmpty σ)) : cwp X (d + 33) m_C_empty [.ref 0] (HP g hj) Q := by
  simp only [e_C_empty, ↓s_C_empty_0, ↓s_C_empty_1, ↓s_C_empty_4]
  refine c_refusal c (fun g' hj' c' e1 e2 => ?_)
  have := K g' hj' c'.1 e1 e2
  change Q (some (.int (aEmpty σ))) (HP g' hj') at this
  unfold aEmpty at this
  simp (disch := omega) only [↓s_C_empty_7, ↓s_C_empty_8, ↓s_C_empty_9, ↓s_C_empty_12, ↓s_C_empty_13, Option.toList_some, List.cons_append, List.nil_append, kL_r, kL_i]
  by_cases h0 : rf σ = 0
  · rw [orR_0 h0] at this
    obtain ⟨h1, h2⟩ := rf_0 h0
    rw [if_pos h0]
    simp (disch := omega) only [↓s_C_empty_14, ↓s_C_empty_15, ↓s_C_empty_16, ↓s_C_empty_17, kL_i]
    exact (l_C_empty c'.1.2.1 (c'.2 h1).2 (σ 6 0) 0 (by omega)).mpr this
  · rw [orR_n h0] at this
    rw [if_neg h0]
    exact this
theorem c_C_worth {l : Nat} (c : C0 σ g hj) (f : FR σ g hj) (hl : l < σ 11 0) : cwp X (d + 2) m_C_worthOfCleaning [.ref 0, .int (nI l)] (HP g hj) Q = Q (some (.int (nI (wthC σ l)))) (HP g hj) := by
  have w := c.1.2.2.2.1.1
  have sb := stB_lt (l := l) c.1 (σ 2 0) (Nat.le_refl _)
  have sn := stN_le (σ := σ) (l := l)
  have en : pcn (stB σ l (σ 2 0)) 16 = stN σ l := rfl
  have f1 := (c.2.2.2.2.2 l hl).2.1
  have x1 := (c.1.2.2.2.1.2 l hl).2.1
  have pn := pcn_le (σ 13 l) 16
  simp (disch := omega) only [e_C_worthOfCleaning, ↓s_C_worthOfCleaning_0, ↓s_C_worthOfCleaning_1, ↓s_C_worthOfCleaning_2, ↓s_C_worthOfCleaning_5, ↓s_C_worthOfCleaning_8, ↓s_C_worthOfCleaning_9, ↓s_C_worthOfCleaning_10, ↓s_C_worthOfCleaning_13, ↓s_C_worthOfCleaning_16, ↓s_C_worthOfCleaning_17, ↓s_C_worthOfCleaning_18, ↓s_C_worthOfCleaning_21, ↓s_C_worthOfCleaning_22, ↓s_C_worthOfCleaning_23, ↓s_C_worthOfCleaning_24, ↓s_C_worthOfCleaning_27, ↓s_C_worthOfCleaning_28, ↓s_C_worthOfCleaning_29, ↓s_C_worthOfCleaning_32, ↓s_C_worthOfCleaning_33, ↓s_C_worthOfCleaning_36, ↓s_C_worthOfCleaning_37, ↓s_C_worthOfCleaning_39, ↓s_C_worthOfCleaning_40, ↓s_C_worthOfCleaning_41, ↓s_C_worthOfCleaning_42, nI_leI, nI_ltI, nI_eq, N_z, nI_add, pk_sub, pk_mul, kL_i, kL_r, kL_d, kL_l, kL_k, kL_f, Option.toList_some, Option.toList_none, List.cons_append, List.nil_append, bI_z, N_and, N_or, N_shl, N_shr, Nat.one_mul, Nat.reduceAdd, lg_cmp_eq, L_and, L_or, bI_1, bI_0, if_true, if_false, reduceIte, N_m1x, ite_not, f1, c_C_stonesI c (FR_may f hl) hl, c_JI_bitCount, en]
  unfold wthC
  by_cases h1 : stN σ l < 2
  · rw [if_pos h1, if_pos (Or.inl h1)]
  · rw [if_neg h1]
    by_cases h2 : 1 ≤ pcn (σ 13 l) 16
    · rw [if_pos h2, if_neg (by omega)]
    · rw [if_neg h2, if_pos (Or.inr (by omega))]
theorem l_C_clean {v1 : Int32} (c : C0 σ g hj) (f : FR σ g hj) : ∀ (m l : Nat) (v5 : Value), l + m = σ 11 0 → wp X (d + 3) m_C_clean 21 [.ref 0, .int v1, .int (oI (clF σ l).1), .int (nI (clF σ l).2), .int (nI l), v5] [] (HP g hj) Q = Q (some (.int (oI (clF σ (σ 11 0)).1))) (HP g hj)
  | 0, l, v5, hl => by
    have w := c.1.2.2.2.1.1
    have e0 := c.2.2.2.1
    have : l = σ 11 0 := by omega
    subst this
    rw [s_C_clean_21]
    simp (disch := omega) only [↓s_C_clean_23, ↓s_C_clean_24, ↓s_C_clean_27, ↓s_C_clean_30, ↓s_C_clean_59, ↓s_C_clean_60, nI_leI, nI_ltI, nI_eq, N_z, nI_add, pk_sub, pk_mul, kL_i, kL_r, kL_d, kL_l, kL_k, kL_f, Option.toList_some, Option.toList_none, List.cons_append, List.nil_append, bI_z, N_and, N_or, N_shl, N_shr, Nat.one_mul, Nat.reduceAdd, lg_cmp_eq, L_and, L_or, bI_1, bI_0, if_true, if_false, reduceIte, N_m1x, ite_not, e0, Nat.le_refl]
  | m + 1, l, v5, hl => by
    have w := c.1.2.2.2.1.1
    have e0 := c.2.2.2.1
    have wb : ∀ x, wthC σ x ≤ 1000 := by
      intro x
      have := stN_le (σ := σ) (l := x)
      have := pcn_le (σ 13 x) 16
      unfold wthC
      split <;> omega
    obtain ⟨q1, q2, q3⟩ := clF_ok σ l
    have cb_ : (clF σ l).2 ≤ 1000 := by
      by_cases h0 : (clF σ l).1 = 0
      · rw [q2 h0]; omega
      · rw [(q3 h0).1]; exact wb _
    have wl := wb l
    have e : clF σ (l + 1) = if (clF σ l).2 < wthC σ l then (l + 1, wthC σ l) else clF σ l := rfl
    rw [s_C_clean_21]
    simp (disch := first | assumption | omega) only [↓s_C_clean_23, ↓s_C_clean_24, ↓s_C_clean_27, ↓s_C_clean_30, ↓s_C_clean_33, ↓s_C_clean_34, ↓s_C_clean_36, ↓s_C_clean_39, ↓s_C_clean_41, ↓s_C_clean_43, ↓s_C_clean_44, ↓s_C_clean_47, ↓s_C_clean_49, ↓s_C_clean_50, ↓s_C_clean_52, ↓s_C_clean_53, ↓s_C_clean_56, nI_leI, nI_ltI, nI_eq, N_z, nI_add, pk_sub, pk_mul, kL_i, kL_r, kL_d, kL_l, kL_k, kL_f, Option.toList_some, Option.toList_none, List.cons_append, List.nil_append, bI_z, N_and, N_or, N_shl, N_shr, Nat.one_mul, Nat.reduceAdd, lg_cmp_eq, L_and, L_or, bI_1, bI_0, if_true, if_false, reduceIte, N_m1x, ite_not, e0, c_C_worth c f]
    rw [if_neg (by omega)]
    by_cases h1 : (clF σ l).2 < wthC σ l
    · rw [if_pos h1] at e
      rw [if_neg (by omega)]
      have ih := l_C_clean (v1 := v1) c f m (l + 1) (.int (nI (wthC σ l))) (by omega)
      rw [e] at ih
      exact ih
    · rw [if_neg h1] at e
      rw [if_pos (by omega), ← e]
      exact l_C_clean c f m (l + 1) _ (by omega)
theorem p_C_clean (c : CR t n σ τ g hj) (K : KC g hj Q (t, n, σ, τ, aClean σ)) : cwp X (d + 33) m_C_clean [.ref 0] (HP g hj) Q := by
  simp only [e_C_clean, ↓s_C_clean_0, ↓s_C_clean_1, ↓s_C_clean_4]
  refine c_refusal c (fun g' hj' c' e1 e2 => ?_)
  have := K g' hj' c'.1 e1 e2
  change Q (some (.int (aClean σ))) (HP g' hj') at this
  unfold aClean at this
  simp (disch := omega) only [↓s_C_clean_7, ↓s_C_clean_8, ↓s_C_clean_9, ↓s_C_clean_12, ↓s_C_clean_13, Option.toList_some, List.cons_append, List.nil_append, kL_r, kL_i]
  by_cases h0 : rf σ = 0
  · rw [orR_0 h0] at this
    obtain ⟨h1, h2⟩ := rf_0 h0
    rw [if_pos h0]
    simp (disch := omega) only [↓s_C_clean_14, ↓s_C_clean_15, ↓s_C_clean_16, ↓s_C_clean_17, ↓s_C_clean_18, ↓s_C_clean_19, kL_i]
    exact (l_C_clean c'.1.2.1 (c'.2 h1).2 (σ 11 0) 0 _ (by omega)).mpr this
  · rw [orR_n h0] at this
    rw [if_neg h0]
    exact this
theorem l_C_write {s M : Nat} {v2 : Int32} {g0 : Nat → Nat → Int32} (hs : s < 4) (hr : 0 < (wyl σ).length) (hM : M ≤ 12) (hML : M ≤ σ 11 0) : ∀ (m l : Nat) (τ : ST) (g : Nat → Nat → Int32), l + m = M → M ≤ τ 21 s → τ 19 s ≠ 0 → CR t n σ τ g hj → FR σ g hj → (∀ k, 51 ≤ k → g k = g0 k) → KC g0 hj Q (t, n, σ, wrT σ s m l τ, nI M) →
    wp X (d + 2) m_C_write 71 [.ref 0, .int (nI s), .int v2, .int (nI M), .int (nI l)] [] (HP g hj) Q
  | 0, l, τ, g, hl, hm, h0, c, f, f1, K => by
    have : l = M := by omega
    subst this
    rw [s_C_write_71]
    simp (disch := omega) only [↓s_C_write_73, ↓s_C_write_74, ↓s_C_write_103, ↓s_C_write_104, nI_leI, nI_ltI, nI_eq, N_z, nI_add, pk_sub, pk_mul, kL_i, kL_r, kL_d, kL_l, kL_k, kL_f, Option.toList_some, Option.toList_none, List.cons_append, List.nil_append, bI_z, N_and, N_or, N_shl, N_shr, Nat.one_mul, Nat.reduceAdd, lg_cmp_eq, L_and, L_or, bI_1, bI_0, if_true, if_false, reduceIte, N_m1x, ite_not, Nat.le_refl]
    exact K g hj c f1 (fun _ _ => rfl)
  | m + 1, l, τ, g, hl, hm, h0, c, f, f1, K => by
    have b1 := (FR_best f (show l < σ 11 0 by omega) hr).1
    have c5 := c.2.2.2.2
    rw [s_C_write_71]
    simp (disch := omega) only [↓s_C_write_73, ↓s_C_write_74, ↓s_C_write_77, ↓s_C_write_78, ↓s_C_write_81, ↓s_C_write_82, ↓s_C_write_84, ↓s_C_write_85, ↓s_C_write_88, ↓s_C_write_91, ↓s_C_write_93, ↓s_C_write_94, ↓s_C_write_97, ↓s_C_write_100, nI_leI, nI_ltI, nI_eq, N_z, nI_add, pk_sub, pk_mul, kL_i, kL_r, kL_d, kL_l, kL_k, kL_f, Option.toList_some, Option.toList_none, List.cons_append, List.nil_append, bI_z, N_and, N_or, N_shl, N_shr, Nat.one_mul, Nat.reduceAdd, lg_cmp_eq, L_and, L_or, bI_1, bI_0, if_true, if_false, reduceIte, N_m1x, ite_not, b1, c_Sheets_store c5 hs h0]
    rw [if_neg (by omega)]
    have pt21 : puT τ s l (bstA σ l 0) 21 = τ 21 := by unfold puT; simp (disch := omega) only [u2_r]
    have pt19 : puT τ s l (bstA σ l 0) 19 = τ 19 := by unfold puT; simp (disch := omega) only [u2_r]
    have cr := CR_sh c (CS_st c5 hs (a := bstA σ l 0) (show l < τ 21 s by omega)) (fun k h1 => by simp (disch := omega) only [u2_r])
    have f2 : FR σ (up2 g 48 (s * 48 + l) (kpv τ s (bstA σ l 0))) hj := by
      unfold FR rdCh rdTb at f ⊢
      simp (disch := omega) only [u2_r]
      exact f
    refine l_C_write hs hr hM hML m (l + 1) (puT τ s l (bstA σ l 0)) _ (by omega) (by rw [pt21]; exact hm) (by rw [pt19]; exact h0) cr f2 (fun k hk => by rw [u2_r _ _ _ (by omega)]; exact f1 k hk) K
theorem p_C_write (c : CR t n σ τ g hj) (K : KC g hj Q (wrS t n σ τ a)) : cwp X (d + 33) m_C_write [.ref 0, .int a] (HP g hj) Q := by
  unfold wrS at K
  simp (disch := omega) only [e_C_write, ↓s_C_write_0, ↓s_C_write_1, ↓s_C_write_4, ↓s_C_write_5, ↓s_C_write_8, ↓s_C_write_11, ↓s_C_write_13, c_Sheets_isSheet, nI_leI, nI_ltI, nI_eq, N_z, nI_add, pk_sub, pk_mul, kL_i, kL_r, kL_d, kL_l, kL_k, kL_f, Option.toList_some, Option.toList_none, List.cons_append, List.nil_append, bI_z, N_and, N_or, N_shl, N_shr, Nat.one_mul, Nat.reduceAdd, lg_cmp_eq, L_and, L_or, bI_1, bI_0, if_true, if_false, reduceIte, N_m1x, ite_not]
  by_cases h1 : inR a 4
  case neg =>
    rw [if_neg h1] at K ⊢
    exact KC_0 c K
  rw [if_pos h1] at K ⊢
  obtain ⟨s, hs, rfl⟩ := inR_n h1 (by omega)
  rw [nn_n (by omega)] at K
  have c5 := c.2.2.2.2
  simp (disch := omega) only [↓s_C_write_14, ↓s_C_write_15, ↓s_C_write_18, ↓s_C_write_19, ↓s_C_write_22, ↓s_C_write_25, ↓s_C_write_26, ↓s_C_write_29, ↓s_C_write_30, ↓s_C_write_33, c_Sheets_isLost c5 hs, c_Sheets_find, nI_leI, nI_ltI, nI_eq, N_z, nI_add, pk_sub, pk_mul, kL_i, kL_r, kL_d, kL_l, kL_k, kL_f, Option.toList_some, Option.toList_none, List.cons_append, List.nil_append, bI_z, N_and, N_or, N_shl, N_shr, Nat.one_mul, Nat.reduceAdd, lg_cmp_eq, L_and, L_or, bI_1, bI_0, if_true, if_false, reduceIte, N_m1x, ite_not]
  by_cases h2 : τ 19 s = 0
  · rw [if_pos h2] at K ⊢
    exact K _ _ (CR_fn c (by omega)) (fun k h1 => by simp (disch := omega) only [u2_r]) (fun _ _ => rfl)
  rw [if_neg h2] at K ⊢
  simp only [↓s_C_write_34, ↓s_C_write_35, ↓s_C_write_38]
  refine c_refusal c (fun g' hj' c' e1 e2 => ?_)
  simp (disch := omega) only [↓s_C_write_41, ↓s_C_write_42, ↓s_C_write_43, ↓s_C_write_46, ↓s_C_write_47, Option.toList_some, List.cons_append, List.nil_append, kL_r, kL_i]
  by_cases h0 : rf σ = 0
  · rw [if_pos h0] at K ⊢
    obtain ⟨h3, h4⟩ := rf_0 h0
    have w := c.2.1.1.2.2.2.1.1
    have cs := c'.1.2.2.2.2
    have ws := (cs.1.1 s hs).2.2
    have es := cs.2.2 s hs
    rw [if_neg h2] at es
    have el := c'.1.2.1.2.2.2.1
    have emin : (if σ 11 0 < τ 21 s then σ 11 0 else τ 21 s) = min (τ 21 s) (σ 11 0) := by
      split
      · rw [Nat.min_eq_right (by omega)]
      · rw [Nat.min_eq_left (by omega)]
    have ml : min (τ 21 s) (σ 11 0) ≤ σ 11 0 := Nat.min_le_right _ _
    have mr : min (τ 21 s) (σ 11 0) ≤ τ 21 s := Nat.min_le_left _ _
    simp (disch := omega) only [↓s_C_write_48, ↓s_C_write_49, ↓s_C_write_52, ↓s_C_write_55, ↓s_C_write_56, ↓s_C_write_57, ↓s_C_write_58, ↓s_C_write_61, ↓s_C_write_64, ↓s_C_write_67, ↓s_C_write_68, ↓s_C_write_69, nI_leI, nI_ltI, nI_eq, N_z, nI_add, pk_sub, pk_mul, kL_i, kL_r, kL_d, kL_l, kL_k, kL_f, Option.toList_some, Option.toList_none, List.cons_append, List.nil_append, bI_z, N_and, N_or, N_shl, N_shr, Nat.one_mul, Nat.reduceAdd, lg_cmp_eq, L_and, L_or, bI_1, bI_0, if_true, if_false, reduceIte, N_m1x, ite_not, es.1, el, ite_N, emin]
    refine l_C_write (g0 := g') hs h4 (by omega) ml (min (τ 21 s) (σ 11 0)) 0 τ g' (by omega) mr h2 c'.1 (c'.2 h3).2 (fun _ _ => rfl) (fun g2 hj2 q1 q2 q3 => K g2 hj2 q1 (fun k hk => (q2 k hk).trans (e1 k hk)) (fun k hk => (q3 k hk).trans (e2 k hk)))
  · rw [if_neg h0] at K ⊢
    exact K g' hj' c'.1 e1 e2
end CWAYS
