/-! the model's answers out of the ways -/
section MWAYS
variable {X : AX} {d : Nat} {Q : Option Value → AH → Prop} {g : Nat → Nat → Int32} {hj : Nat → Nat → Int64} {σ τ : ST} {t : Nat → Nat} {n : Nat} {a a1 a2 : Int32}
theorem FM_may (f : FM σ g hj) {l : Nat} (hl : l < σ 11 0) : g 78 l = nI (mmy σ l) := by
  have := f.2.2.2.2 l hl
  unfold mmy
  split at this
  · rename_i h; rw [if_pos h]; exact this
  · rename_i h; rw [if_neg h]; exact this.2
theorem c_M_waysNow (c : MR t n σ τ g hj) (K : KFr g hj Q t n σ τ (aWays σ)) : cwp X (d + 7) m_M_waysNow [.ref 51] (HP g hj) Q := by
  simp only [e_M_waysNow, ↓s_M_waysNow_0, ↓s_M_waysNow_1]
  refine c_M_works c (fun g' hj' c' e1 e2 => ?_)
  have := K g' hj' c' e1 e2
  unfold aWays at this
  simp (disch := omega) only [↓s_M_waysNow_4, ↓s_M_waysNow_14, ↓s_M_waysNow_16, nI_leI, nI_ltI, nI_eq, N_z, nI_add, pk_sub, pk_mul, kL_i, kL_r, kL_d, kL_l, kL_k, kL_f, Option.toList_some, Option.toList_none, List.cons_append, List.nil_append, bI_z, N_and, N_or, N_shl, N_shr, Nat.one_mul, Nat.reduceAdd, lg_cmp_eq, L_and, L_or, bI_1, bI_0, if_true, if_false, reduceIte, N_m1x, ite_not]
  by_cases h8 : 8 < (PL σ).length
  · rw [if_pos h8] at this ⊢
    exact this
  · rw [if_neg h8] at this ⊢
    have e34 := (c'.2 (by omega)).2.2.2.1
    simp (disch := omega) only [↓s_M_waysNow_7, ↓s_M_waysNow_8, ↓s_M_waysNow_11, ↓s_M_waysNow_14, ↓s_M_waysNow_16, nI_leI, nI_ltI, nI_eq, N_z, nI_add, pk_sub, pk_mul, kL_i, kL_r, kL_d, kL_l, kL_k, kL_f, Option.toList_some, Option.toList_none, List.cons_append, List.nil_append, bI_z, N_and, N_or, N_shl, N_shr, Nat.one_mul, Nat.reduceAdd, lg_cmp_eq, L_and, L_or, bI_1, bI_0, if_true, if_false, reduceIte, N_m1x, ite_not, e34]
    exact this
theorem p_M_ways (c : MR t n σ τ g hj) (K : KM g hj Q (t, n, σ, τ, aWays σ)) : cwp X (d + 8) m_M_ways [.ref 51] (HP g hj) Q := by
  simp only [e_M_ways, ↓s_M_ways_0, ↓s_M_ways_1]
  refine c_M_waysNow c (fun g' hj' c' e1 e2 => ?_)
  simp (disch := omega) only [↓s_M_ways_4, nI_leI, nI_ltI, nI_eq, N_z, nI_add, pk_sub, pk_mul, kL_i, kL_r, kL_d, kL_l, kL_k, kL_f, Option.toList_some, Option.toList_none, List.cons_append, List.nil_append, bI_z, N_and, N_or, N_shl, N_shr, Nat.one_mul, Nat.reduceAdd, lg_cmp_eq, L_and, L_or, bI_1, bI_0, if_true, if_false, reduceIte, N_m1x, ite_not]
  exact K g' hj' c'.1 e1 e2
theorem orR_0 {v : Int32} (h : rf σ = 0) : orR σ v = v := if_pos h
theorem orR_n {v : Int32} (h : ¬ rf σ = 0) : orR σ v = rf σ := if_neg h
theorem c_M_stonesNow (c : MR t n σ τ g hj) (K : KFr g hj Q t n σ τ (aStones σ)) : cwp X (d + 8) m_M_stonesNow [.ref 51] (HP g hj) Q := by
  simp only [e_M_stonesNow, ↓s_M_stonesNow_0, ↓s_M_stonesNow_1]
  refine c_M_refuses c (fun g' hj' c' e1 e2 => ?_)
  have := K g' hj' c' e1 e2
  unfold aStones at this
  simp (disch := omega) only [↓s_M_stonesNow_4, ↓s_M_stonesNow_5, ↓s_M_stonesNow_6, ↓s_M_stonesNow_9, ↓s_M_stonesNow_10, ↓s_M_stonesNow_17, Option.toList_some, List.cons_append, List.nil_append, kL_r]
  by_cases h0 : rf σ = 0
  · rw [orR_0 h0] at this
    obtain ⟨h1, h2⟩ := rf_0 h0
    have e35 := (c'.2 h1).2.2.2.2.1 h2
    rw [if_pos h0]
    simp (disch := omega) only [↓s_M_stonesNow_13, ↓s_M_stonesNow_14, ↓s_M_stonesNow_17, e35]
    exact this
  · rw [orR_n h0] at this
    rw [if_neg h0]
    exact this
theorem p_M_stones (c : MR t n σ τ g hj) (K : KM g hj Q (t, n, σ, τ, aStones σ)) : cwp X (d + 9) m_M_stones [.ref 51] (HP g hj) Q := by
  simp only [e_M_stones, ↓s_M_stones_0, ↓s_M_stones_1]
  refine c_M_stonesNow c (fun g' hj' c' e1 e2 => ?_)
  simp (disch := omega) only [↓s_M_stones_4, nI_leI, nI_ltI, nI_eq, N_z, nI_add, pk_sub, pk_mul, kL_i, kL_r, kL_d, kL_l, kL_k, kL_f, Option.toList_some, Option.toList_none, List.cons_append, List.nil_append, bI_z, N_and, N_or, N_shl, N_shr, Nat.one_mul, Nat.reduceAdd, lg_cmp_eq, L_and, L_or, bI_1, bI_0, if_true, if_false, reduceIte, N_m1x, ite_not]
  exact K g' hj' c'.1 e1 e2
theorem c_M_bestNow {l u : Nat} (c : MR t n σ τ g hj) (hl : l < σ 11 0) (hu : u < 2) (K : KFr g hj Q t n σ τ (aBestN σ l u)) : cwp X (d + 8) m_M_bestNow [.ref 51, .int (nI l), .int (nI u)] (HP g hj) Q := by
  simp only [e_M_bestNow, ↓s_M_bestNow_0, ↓s_M_bestNow_1]
  refine c_M_refuses c (fun g' hj' c' e1 e2 => ?_)
  have := K g' hj' c' e1 e2
  have w := c'.1.2.1.1.2.2.2.1.1
  have w2 := c'.1.2.1.1.2.2.2.2.1
  have w3 : 2 ^ σ 11 0 ≤ 2 ^ 12 := pow_le w
  have ea := c'.1.2.1.2.2.2.2.1
  unfold aBestN at this
  simp (disch := omega) only [↓s_M_bestNow_4, ↓s_M_bestNow_5, ↓s_M_bestNow_6, ↓s_M_bestNow_9, ↓s_M_bestNow_10, Option.toList_some, List.cons_append, List.nil_append, kL_r, kL_i]
  by_cases h0 : rf σ = 0
  · rw [orR_0 h0] at this
    obtain ⟨h1, h2⟩ := rf_0 h0
    have f := (c'.2 h1).2
    rw [if_pos h0]
    simp (disch := omega) only [↓s_M_bestNow_11, ↓s_M_bestNow_12, ↓s_M_bestNow_15, ↓s_M_bestNow_16, ↓s_M_bestNow_19, ↓s_M_bestNow_22, ↓s_M_bestNow_23, ↓s_M_bestNow_55, nI_leI, nI_ltI, nI_eq, N_z, nI_add, pk_sub, pk_mul, kL_i, kL_r, kL_d, kL_l, kL_k, kL_f, Option.toList_some, Option.toList_none, List.cons_append, List.nil_append, bI_z, N_and, N_or, N_shl, N_shr, Nat.one_mul, Nat.reduceAdd, lg_cmp_eq, L_and, L_or, bI_1, bI_0, if_true, if_false, reduceIte, N_m1x, ite_not, ea, c_M_has]
    have f5 := f.2.2.2.2 l hl
    unfold bstA at this
    by_cases hA : (σ 18 0).testBit l = true
    · rw [if_pos hA] at this ⊢
      exact this
    · rw [if_neg hA] at this f5 ⊢
      have e77 := f5.1 h2
      have bv := bst_val c'.1.2.1.1 h2 l (PL_mem.mpr ⟨hl, hA⟩)
      obtain ⟨r1, r2, r3, r4⟩ := (f.2.1.1 l hl).2 _ bv
      have on6 := on_le (σ := σ) (l := l) 6
      simp (disch := omega) only [↓s_M_bestNow_26, ↓s_M_bestNow_27, ↓s_M_bestNow_30, ↓s_M_bestNow_31, ↓s_M_bestNow_34, ↓s_M_bestNow_35, ↓s_M_bestNow_38, ↓s_M_bestNow_39, ↓s_M_bestNow_40, ↓s_M_bestNow_41, ↓s_M_bestNow_44, ↓s_M_bestNow_45, ↓s_M_bestNow_48, ↓s_M_bestNow_49, ↓s_M_bestNow_52, ↓s_M_bestNow_53, ↓s_M_bestNow_54, ↓s_M_bestNow_55, nI_leI, nI_ltI, nI_eq, N_z, nI_add, pk_sub, pk_mul, kL_i, kL_r, kL_d, kL_l, kL_k, kL_f, Option.toList_some, Option.toList_none, List.cons_append, List.nil_append, bI_z, N_and, N_or, N_shl, N_shr, Nat.one_mul, Nat.reduceAdd, lg_cmp_eq, L_and, L_or, bI_1, bI_0, if_true, if_false, reduceIte, N_m1x, ite_not, e77, r1, r2]
      rcases (show u = 0 ∨ u = 1 by omega) with rfl | rfl
      · rw [if_pos rfl] at this ⊢
        exact this
      · rw [if_neg (by omega)] at this ⊢
        exact this
  · rw [orR_n h0] at this
    rw [if_neg h0]
    exact this
noncomputable def bestS (t : Nat → Nat) (n : Nat) (σ τ : ST) (a1 a2 : Int32) : SS := (t, n, σ, τ, if inR a1 (σ 11 0) ∧ inR a2 2 then aBestN σ (nn a1) (nn a2) else -2)
theorem p_M_best (c : MR t n σ τ g hj) (K : KM g hj Q (bestS t n σ τ a1 a2)) : cwp X (d + 9) m_M_best [.ref 51, .int a1, .int a2] (HP g hj) Q := by
  have w := c.2.1.1.2.2.2.1.1
  unfold bestS at K
  simp (disch := omega) only [e_M_best, ↓s_M_best_0, ↓s_M_best_1, ↓s_M_best_2, ↓s_M_best_5, ↓s_M_best_8, ↓s_M_best_9, ↓s_M_best_10, ↓s_M_best_11, ↓s_M_best_14, ↓s_M_best_26, ↓s_M_best_28, c_M_isLump c.2.1, c_M_in, in_c, nI_leI, nI_ltI, nI_eq, N_z, nI_add, pk_sub, pk_mul, kL_i, kL_r, kL_d, kL_l, kL_k, kL_f, Option.toList_some, Option.toList_none, List.cons_append, List.nil_append, bI_z, N_and, N_or, N_shl, N_shr, Nat.one_mul, Nat.reduceAdd, lg_cmp_eq, L_and, L_or, bI_1, bI_0, if_true, if_false, reduceIte, N_m1x, ite_not]
  by_cases h1 : inR a1 (σ 11 0)
  case neg =>
    rw [if_neg (fun z => h1 z.1)] at K
    rw [if_neg h1]
    exact KM_0 c K
  rw [if_pos h1]
  by_cases h2 : inR a2 2
  case neg =>
    rw [if_neg (fun z => h2 z.2)] at K
    rw [if_neg h2]
    exact KM_0 c K
  rw [if_pos h2]
  rw [if_pos ⟨h1, h2⟩] at K
  obtain ⟨l, hl, rfl⟩ := inR_n h1 (by omega)
  obtain ⟨u, hu, rfl⟩ := inR_n h2 (by omega)
  rw [nn_n (by omega), nn_n (by omega)] at K
  simp only [↓s_M_best_17, ↓s_M_best_18, ↓s_M_best_19, ↓s_M_best_20]
  refine c_M_bestNow c hl hu (fun g' hj' c' e1 e2 => ?_)
  simp (disch := omega) only [↓s_M_best_23, ↓s_M_best_26, ↓s_M_best_28, nI_leI, nI_ltI, nI_eq, N_z, nI_add, pk_sub, pk_mul, kL_i, kL_r, kL_d, kL_l, kL_k, kL_f, Option.toList_some, Option.toList_none, List.cons_append, List.nil_append, bI_z, N_and, N_or, N_shl, N_shr, Nat.one_mul, Nat.reduceAdd, lg_cmp_eq, L_and, L_or, bI_1, bI_0, if_true, if_false, reduceIte, N_m1x, ite_not]
  exact K g' hj' c'.1 e1 e2
theorem c_M_mayNow {l : Nat} (c : MR t n σ τ g hj) (hl : l < σ 11 0) (K : KFr g hj Q t n σ τ (aMayN σ l)) : cwp X (d + 8) m_M_mayNow [.ref 51, .int (nI l)] (HP g hj) Q := by
  simp only [e_M_mayNow, ↓s_M_mayNow_0, ↓s_M_mayNow_1]
  refine c_M_refuses c (fun g' hj' c' e1 e2 => ?_)
  have := K g' hj' c' e1 e2
  have w := c'.1.2.1.1.2.2.2.1.1
  unfold aMayN at this
  simp (disch := omega) only [↓s_M_mayNow_4, ↓s_M_mayNow_5, ↓s_M_mayNow_6, ↓s_M_mayNow_9, ↓s_M_mayNow_10, ↓s_M_mayNow_19, Option.toList_some, List.cons_append, List.nil_append, kL_r, kL_i]
  by_cases h0 : rf σ = 0
  · rw [orR_0 h0] at this
    obtain ⟨h1, h2⟩ := rf_0 h0
    have e := FM_may (c'.2 h1).2 hl
    rw [if_pos h0]
    simp (disch := omega) only [↓s_M_mayNow_13, ↓s_M_mayNow_14, ↓s_M_mayNow_17, ↓s_M_mayNow_18, ↓s_M_mayNow_19, e]
    exact this
  · rw [orR_n h0] at this
    rw [if_neg h0]
    exact this
noncomputable def mayS (t : Nat → Nat) (n : Nat) (σ τ : ST) (a1 : Int32) : SS := (t, n, σ, τ, if inR a1 (σ 11 0) then aMayN σ (nn a1) else -2)
theorem p_M_may (c : MR t n σ τ g hj) (K : KM g hj Q (mayS t n σ τ a1)) : cwp X (d + 9) m_M_may [.ref 51, .int a1] (HP g hj) Q := by
  have w := c.2.1.1.2.2.2.1.1
  unfold mayS at K
  simp (disch := omega) only [e_M_may, ↓s_M_may_0, ↓s_M_may_1, ↓s_M_may_2, ↓s_M_may_5, ↓s_M_may_16, ↓s_M_may_18, c_M_isLump c.2.1, nI_leI, nI_ltI, nI_eq, N_z, nI_add, pk_sub, pk_mul, kL_i, kL_r, kL_d, kL_l, kL_k, kL_f, Option.toList_some, Option.toList_none, List.cons_append, List.nil_append, bI_z, N_and, N_or, N_shl, N_shr, Nat.one_mul, Nat.reduceAdd, lg_cmp_eq, L_and, L_or, bI_1, bI_0, if_true, if_false, reduceIte, N_m1x, ite_not]
  by_cases h1 : inR a1 (σ 11 0)
  case neg =>
    rw [if_neg h1] at K ⊢
    exact KM_0 c K
  rw [if_pos h1] at K ⊢
  obtain ⟨l, hl, rfl⟩ := inR_n h1 (by omega)
  rw [nn_n (by omega)] at K
  simp only [↓s_M_may_8, ↓s_M_may_9, ↓s_M_may_10]
  refine c_M_mayNow c hl (fun g' hj' c' e1 e2 => ?_)
  simp (disch := omega) only [↓s_M_may_13, ↓s_M_may_16, ↓s_M_may_18, nI_leI, nI_ltI, nI_eq, N_z, nI_add, pk_sub, pk_mul, kL_i, kL_r, kL_d, kL_l, kL_k, kL_f, Option.toList_some, Option.toList_none, List.cons_append, List.nil_append, bI_z, N_and, N_or, N_shl, N_shr, Nat.one_mul, Nat.reduceAdd, lg_cmp_eq, L_and, L_or, bI_1, bI_0, if_true, if_false, reduceIte, N_m1x, ite_not]
  exact K g' hj' c'.1 e1 e2
theorem l_M_stonesOf {l : Nat} (c : M0 σ g hj) (e78 : g 78 l = nI (mmy σ l)) (hl : l < σ 11 0) : ∀ (m r : Nat), r + m = σ 2 0 → wp X (d + 1) m_M_stonesOf 4 [.ref 51, .int (nI l), .int (nI (stB σ l r)), .int (nI r)] [] (HP g hj) Q = Q (some (.int (nI (stN σ l)))) (HP g hj)
  | 0, r, hr => by
    have w := c.1.2.1.1
    have e0 := c.2.1.1
    have : r = σ 2 0 := by omega
    subst this
    have hs := stB_lt (l := l) c.1 (σ 2 0) (Nat.le_refl _)
    rw [s_M_stonesOf_4]
    simp (disch := omega) only [↓s_M_stonesOf_5, ↓s_M_stonesOf_6, ↓s_M_stonesOf_9, ↓s_M_stonesOf_45, ↓s_M_stonesOf_46, ↓s_M_stonesOf_49, nI_leI, nI_ltI, nI_eq, N_z, nI_add, pk_sub, pk_mul, kL_i, kL_r, kL_d, kL_l, kL_k, kL_f, Option.toList_some, Option.toList_none, List.cons_append, List.nil_append, bI_z, N_and, N_or, N_shl, N_shr, Nat.one_mul, Nat.reduceAdd, lg_cmp_eq, L_and, L_or, bI_1, bI_0, if_true, if_false, reduceIte, N_m1x, ite_not, e0, Nat.le_refl, c_M_onesOf]
    rfl
  | m + 1, r, hr => by
    have w := c.1.2.1.1
    have w1 := c.1.2.2.2.1.1
    have e0 := c.2.1.1
    have hm := mmy_lt hl
    have st := stone_lt c.1 6 r (by omega)
    change stone σ r < σ 2 0 at st
    have e : stB σ l (r + 1) = stB σ l r ||| (if (mmy σ l).testBit r = true then 2 ^ stone σ r else 0) := rfl
    rw [s_M_stonesOf_4]
    simp (disch := omega) only [↓s_M_stonesOf_5, ↓s_M_stonesOf_6, ↓s_M_stonesOf_9, ↓s_M_stonesOf_12, ↓s_M_stonesOf_13, ↓s_M_stonesOf_14, ↓s_M_stonesOf_17, ↓s_M_stonesOf_18, ↓s_M_stonesOf_19, ↓s_M_stonesOf_20, ↓s_M_stonesOf_23, ↓s_M_stonesOf_26, ↓s_M_stonesOf_27, ↓s_M_stonesOf_28, ↓s_M_stonesOf_29, ↓s_M_stonesOf_32, ↓s_M_stonesOf_33, ↓s_M_stonesOf_36, ↓s_M_stonesOf_37, ↓s_M_stonesOf_38, ↓s_M_stonesOf_39, ↓s_M_stonesOf_42, nI_leI, nI_ltI, nI_eq, N_z, nI_add, pk_sub, pk_mul, kL_i, kL_r, kL_d, kL_l, kL_k, kL_f, Option.toList_some, Option.toList_none, List.cons_append, List.nil_append, bI_z, N_and, N_or, N_shl, N_shr, Nat.one_mul, Nat.reduceAdd, lg_cmp_eq, L_and, L_or, bI_1, bI_0, if_true, if_false, reduceIte, N_m1x, ite_not, e0, e78, c_M_has, c_M_stoneOf c.1 c.2.1]
    rw [if_neg (by omega)]
    by_cases h1 : (mmy σ l).testBit r = true
    · rw [if_pos h1] at e ⊢
      rw [← e]
      exact l_M_stonesOf c e78 hl m (r + 1) (by omega)
    · rw [if_neg h1] at e ⊢
      rw [← e]
      exact l_M_stonesOf c e78 hl m (r + 1) (by omega)
theorem c_M_stonesOf {l : Nat} (c : M0 σ g hj) (e78 : g 78 l = nI (mmy σ l)) (hl : l < σ 11 0) : cwp X (d + 1) m_M_stonesOf [.ref 51, .int (nI l)] (HP g hj) Q = Q (some (.int (nI (stN σ l)))) (HP g hj) := by
  simp only [e_M_stonesOf, ↓s_M_stonesOf_0, ↓s_M_stonesOf_1, ↓s_M_stonesOf_2, ↓s_M_stonesOf_3, kL_i, kL_d]
  exact l_M_stonesOf c e78 hl (σ 2 0) 0 (by omega)
theorem l_M_sureNow (c : M0 σ g hj) (f : FM σ g hj) : ∀ (m l : Nat), l + m = σ 11 0 → wp X (d + 2) m_M_sureNow 9 [.ref 51, .int (nI 0), .int (nI (bts (fun l => decide (stN σ l = 1)) l)), .int (nI l)] [] (HP g hj) Q = Q (some (.int (nI (bts (fun l => decide (stN σ l = 1)) (σ 11 0))))) (HP g hj)
  | 0, l, hl => by
    have w := c.1.2.2.2.1.1
    have e0 := c.2.2.2.1
    have : l = σ 11 0 := by omega
    subst this
    rw [s_M_sureNow_9]
    simp (disch := omega) only [↓s_M_sureNow_10, ↓s_M_sureNow_11, ↓s_M_sureNow_14, ↓s_M_sureNow_17, ↓s_M_sureNow_18, ↓s_M_sureNow_57, ↓s_M_sureNow_58, ↓s_M_sureNow_61, ↓s_M_sureNow_62, ↓s_M_sureNow_65, ↓s_M_sureNow_66, nI_leI, nI_ltI, nI_eq, N_z, nI_add, pk_sub, pk_mul, kL_i, kL_r, kL_d, kL_l, kL_k, kL_f, Option.toList_some, Option.toList_none, List.cons_append, List.nil_append, bI_z, N_and, N_or, N_shl, N_shr, Nat.one_mul, Nat.reduceAdd, lg_cmp_eq, L_and, L_or, bI_1, bI_0, if_true, if_false, reduceIte, N_m1x, ite_not, Nat.one_ne_zero, Nat.zero_ne_one, eq_self, not_true_eq_false, not_false_eq_true, e0, Nat.le_refl]
  | m + 1, l, hl => by
    have w := c.1.2.2.2.1.1
    have e0 := c.2.2.2.1
    have w3 : 2 ^ σ 11 0 ≤ 2 ^ 12 := pow_le w
    have w4 := prs_lt σ
    have sn := stN_le (σ := σ) (l := l)
    have e : bts (fun l => decide (stN σ l = 1)) (l + 1) = bts (fun l => decide (stN σ l = 1)) l ||| (if decide (stN σ l = 1) = true then 2 ^ l else 0) := rfl
    rw [s_M_sureNow_9]
    simp (disch := omega) only [↓s_M_sureNow_10, ↓s_M_sureNow_11, ↓s_M_sureNow_14, ↓s_M_sureNow_17, ↓s_M_sureNow_18, ↓s_M_sureNow_21, ↓s_M_sureNow_22, ↓s_M_sureNow_23, ↓s_M_sureNow_26, ↓s_M_sureNow_27, ↓s_M_sureNow_30, ↓s_M_sureNow_33, ↓s_M_sureNow_34, ↓s_M_sureNow_35, ↓s_M_sureNow_38, ↓s_M_sureNow_39, ↓s_M_sureNow_42, ↓s_M_sureNow_43, ↓s_M_sureNow_44, ↓s_M_sureNow_45, ↓s_M_sureNow_48, ↓s_M_sureNow_49, ↓s_M_sureNow_50, ↓s_M_sureNow_51, ↓s_M_sureNow_54, nI_leI, nI_ltI, nI_eq, N_z, nI_add, pk_sub, pk_mul, kL_i, kL_r, kL_d, kL_l, kL_k, kL_f, Option.toList_some, Option.toList_none, List.cons_append, List.nil_append, bI_z, N_and, N_or, N_shl, N_shr, Nat.one_mul, Nat.reduceAdd, lg_cmp_eq, L_and, L_or, bI_1, bI_0, if_true, if_false, reduceIte, N_m1x, ite_not, Nat.one_ne_zero, Nat.zero_ne_one, eq_self, not_true_eq_false, not_false_eq_true, e0, c_M_present c, c_M_has, c_M_stonesOf c (FM_may f (show l < σ 11 0 by omega))]
    rw [if_neg (by omega), prs_tb (by omega) w]
    by_cases hA : (σ 18 0).testBit l = true
    · rw [if_neg (by simp [hA])]
      rw [if_neg (by rw [stN_0 hA]; decide)] at e
      rw [← e]
      exact l_M_sureNow c f m (l + 1) (by omega)
    · rw [if_pos (by simp [hA])]
      by_cases h1 : stN σ l = 1
      · rw [if_pos h1]
        rw [if_pos (decide_eq_true h1)] at e
        rw [← e]
        exact l_M_sureNow c f m (l + 1) (by omega)
      · rw [if_neg h1]
        rw [if_neg (by simpa using h1)] at e
        rw [← e]
        exact l_M_sureNow c f m (l + 1) (by omega)
theorem rf_c : rf σ = -4 ∨ rf σ = -3 ∨ rf σ = 0 := by
  unfold rf
  split
  · exact Or.inl rfl
  · split
    · exact Or.inr (Or.inl rfl)
    · exact Or.inr (Or.inr rfl)
theorem c_M_sureNow (c : MR t n σ τ g hj) (K : KFr g hj Q t n σ τ (aSure σ)) : cwp X (d + 8) m_M_sureNow [.ref 51] (HP g hj) Q := by
  simp only [e_M_sureNow, ↓s_M_sureNow_0, ↓s_M_sureNow_1]
  refine c_M_refuses c (fun g' hj' c' e1 e2 => ?_)
  have := K g' hj' c' e1 e2
  have w := c'.1.2.1.1.2.2.2.1.1
  have e0 := c'.1.2.1.2.2.2.1
  unfold aSure at this
  simp (disch := omega) only [↓s_M_sureNow_4, ↓s_M_sureNow_5, ↓s_M_sureNow_6, ↓s_M_sureNow_7, ↓s_M_sureNow_8, Option.toList_some, List.cons_append, List.nil_append, kL_r, kL_i]
  by_cases h0 : rf σ = 0
  · rw [orR_0 h0] at this
    obtain ⟨h1, h2⟩ := rf_0 h0
    rw [h0]
    exact (l_M_sureNow c'.1.2.1 (c'.2 h1).2 (σ 11 0) 0 (by omega)).mpr this
  · rw [orR_n h0] at this
    rw [s_M_sureNow_9]
    simp (disch := omega) only [↓s_M_sureNow_10, ↓s_M_sureNow_11, ↓s_M_sureNow_14, ↓s_M_sureNow_17, ↓s_M_sureNow_18, ↓s_M_sureNow_57, ↓s_M_sureNow_58, ↓s_M_sureNow_61, ↓s_M_sureNow_62, ↓s_M_sureNow_65, ↓s_M_sureNow_66, nI_leI, nI_ltI, nI_eq, N_z, nI_add, pk_sub, pk_mul, kL_i, kL_r, kL_d, kL_l, kL_k, kL_f, Option.toList_some, Option.toList_none, List.cons_append, List.nil_append, bI_z, N_and, N_or, N_shl, N_shr, Nat.one_mul, Nat.reduceAdd, lg_cmp_eq, L_and, L_or, bI_1, bI_0, if_true, if_false, reduceIte, N_m1x, ite_not, e0, h0, ite_self]
    exact this
theorem p_M_sure (c : MR t n σ τ g hj) (K : KM g hj Q (t, n, σ, τ, aSure σ)) : cwp X (d + 9) m_M_sure [.ref 51] (HP g hj) Q := by
  simp only [e_M_sure, ↓s_M_sure_0, ↓s_M_sure_1]
  refine c_M_sureNow c (fun g' hj' c' e1 e2 => ?_)
  simp (disch := omega) only [↓s_M_sure_4, nI_leI, nI_ltI, nI_eq, N_z, nI_add, pk_sub, pk_mul, kL_i, kL_r, kL_d, kL_l, kL_k, kL_f, Option.toList_some, Option.toList_none, List.cons_append, List.nil_append, bI_z, N_and, N_or, N_shl, N_shr, Nat.one_mul, Nat.reduceAdd, lg_cmp_eq, L_and, L_or, bI_1, bI_0, if_true, if_false, reduceIte, N_m1x, ite_not]
  exact K g' hj' c'.1 e1 e2
theorem and3 (a b c : Nat) : a &&& b &&& c = b &&& (a &&& c) := by
  rw [Nat.and_comm a b, Nat.and_assoc]
theorem c_M_isBy {l h : Nat} (c : M0 σ g hj) (f : FM σ g hj) (hl : l < σ 11 0) (hh : h < σ 6 0) : cwp X (d + 1) m_M_isBy [.ref 51, .int (nI l), .int (nI h)] (HP g hj) Q = Q (some (.int (bI (isB σ l h = true)))) (HP g hj) := by
  have w := c.1.2.2.2.1.1
  have w1 := c.1.2.1.1
  have w2 := c.1.2.2.1.1
  obtain ⟨q1, q2, q3, q4⟩ := c.2.2.1.2 h hh
  obtain ⟨v1, v2, v3, v4⟩ := c.1.2.2.1.2 h hh
  obtain ⟨f0, f1, f2, f3, f4⟩ := c.2.2.2.2.2 l hl
  obtain ⟨x0, x1, x2, x3, x4, x5⟩ := c.1.2.2.2.1.2 l hl
  have e78 := FM_may f hl
  have hm := mmy_lt hl
  have hy := f.2.1.2 (σ 7 h) v1
  have ls : spn (σ 9 h) (σ 10 h) &&& (ld σ l &&& dys σ (σ 7 h)) < 1152921504606846976 := Nat.lt_of_le_of_lt Nat.and_le_left (spn_lt v4)
  have e3 : spn (σ 14 l) (σ 15 l) &&& spn (σ 9 h) (σ 10 h) &&& dys σ (σ 7 h) = spn (σ 9 h) (σ 10 h) &&& (ld σ l &&& dys σ (σ 7 h)) := and3 _ _ _
  simp (disch := omega) only [e_M_isBy, ↓s_M_isBy_0, ↓s_M_isBy_1, ↓s_M_isBy_4, ↓s_M_isBy_5, ↓s_M_isBy_6, ↓s_M_isBy_7, ↓s_M_isBy_8, ↓s_M_isBy_11, ↓s_M_isBy_12, ↓s_M_isBy_13, ↓s_M_isBy_14, ↓s_M_isBy_17, ↓s_M_isBy_20, ↓s_M_isBy_21, ↓s_M_isBy_24, ↓s_M_isBy_25, ↓s_M_isBy_26, ↓s_M_isBy_27, ↓s_M_isBy_30, ↓s_M_isBy_31, ↓s_M_isBy_32, ↓s_M_isBy_35, ↓s_M_isBy_36, ↓s_M_isBy_39, ↓s_M_isBy_40, ↓s_M_isBy_41, ↓s_M_isBy_42, ↓s_M_isBy_45, ↓s_M_isBy_46, ↓s_M_isBy_47, ↓s_M_isBy_50, ↓s_M_isBy_51, ↓s_M_isBy_52, ↓s_M_isBy_55, ↓s_M_isBy_56, ↓s_M_isBy_57, ↓s_M_isBy_58, ↓s_M_isBy_59, ↓s_M_isBy_60, ↓s_M_isBy_63, ↓s_M_isBy_64, ↓s_M_isBy_67, ↓s_M_isBy_68_0, ↓s_M_isBy_68_1, ↓s_M_isBy_68_b, nI_leI, nI_ltI, nI_eq, N_z, nI_add, pk_sub, pk_mul, kL_i, kL_r, kL_d, kL_l, kL_k, kL_f, Option.toList_some, Option.toList_none, List.cons_append, List.nil_append, bI_z, N_and, N_or, N_shl, N_shr, Nat.one_mul, Nat.reduceAdd, lg_cmp_eq, L_and, L_or, bI_1, bI_0, if_true, if_false, reduceIte, N_m1x, ite_not, q1, q3, q4, f2, f3, e78, hy, c_M_has, c_M_span, e3, L_inj]
  unfold isB
  by_cases h1 : (mmy σ l).testBit (σ 7 h) = true
  · rw [if_pos h1]
    by_cases h2 : spn (σ 9 h) (σ 10 h) &&& (ld σ l &&& dys σ (σ 7 h)) = 0
    · rw [if_pos h2, bI_f (by simp [h2])]
    · rw [if_neg h2, bI_t (by simp [h1, h2])]
  · rw [if_neg h1, bI_f (by simp [h1])]
theorem l_M_pressed {l : Nat} (c : M0 σ g hj) (f : FM σ g hj) (hl : l < σ 11 0) : ∀ (m h : Nat), h + m = σ 6 0 → wp X (d + 2) m_M_pressed 21 [.ref 51, .int (nI l), .int (nI 0), .int (nI (prB σ l h)), .int (nI h)] [] (HP g hj) Q = Q (some (.int (nI (prB σ l (σ 6 0))))) (HP g hj)
  | 0, h, hh => by
    have w := c.1.2.2.1.1
    have e0 := c.2.2.1.1
    have : h = σ 6 0 := by omega
    subst this
    rw [s_M_pressed_21]
    simp (disch := omega) only [↓s_M_pressed_23, ↓s_M_pressed_24, ↓s_M_pressed_27, ↓s_M_pressed_30, ↓s_M_pressed_31, ↓s_M_pressed_66, ↓s_M_pressed_67, ↓s_M_pressed_70, ↓s_M_pressed_71, ↓s_M_pressed_74, ↓s_M_pressed_75, nI_leI, nI_ltI, nI_eq, N_z, nI_add, pk_sub, pk_mul, kL_i, kL_r, kL_d, kL_l, kL_k, kL_f, Option.toList_some, Option.toList_none, List.cons_append, List.nil_append, bI_z, N_and, N_or, N_shl, N_shr, Nat.one_mul, Nat.reduceAdd, lg_cmp_eq, L_and, L_or, bI_1, bI_0, if_true, if_false, reduceIte, N_m1x, ite_not, Nat.one_ne_zero, Nat.zero_ne_one, eq_self, not_true_eq_false, not_false_eq_true, e0, Nat.le_refl]
  | m + 1, h, hh => by
    have w := c.1.2.2.1.1
    have e0 := c.2.2.1.1
    have q2 := (c.2.2.1.2 h (by omega)).2.1
    have v2 := (c.1.2.2.1.2 h (by omega)).2.1
    have e : prB σ l (h + 1) = prB σ l h ||| (if isB σ l h = true then 2 ^ σ 8 h else 0) := rfl
    rw [s_M_pressed_21]
    simp (disch := first | assumption | omega) only [↓s_M_pressed_23, ↓s_M_pressed_24, ↓s_M_pressed_27, ↓s_M_pressed_30, ↓s_M_pressed_31, ↓s_M_pressed_34, ↓s_M_pressed_35, ↓s_M_pressed_36, ↓s_M_pressed_37, ↓s_M_pressed_39, ↓s_M_pressed_42, ↓s_M_pressed_45, ↓s_M_pressed_46, ↓s_M_pressed_47, ↓s_M_pressed_50, ↓s_M_pressed_52, ↓s_M_pressed_53, ↓s_M_pressed_54, ↓s_M_pressed_57, ↓s_M_pressed_58, ↓s_M_pressed_59, ↓s_M_pressed_60, ↓s_M_pressed_63, nI_leI, nI_ltI, nI_eq, N_z, nI_add, pk_sub, pk_mul, kL_i, kL_r, kL_d, kL_l, kL_k, kL_f, Option.toList_some, Option.toList_none, List.cons_append, List.nil_append, bI_z, N_and, N_or, N_shl, N_shr, Nat.one_mul, Nat.reduceAdd, lg_cmp_eq, L_and, L_or, bI_1, bI_0, if_true, if_false, reduceIte, N_m1x, ite_not, Nat.one_ne_zero, Nat.zero_ne_one, eq_self, not_true_eq_false, not_false_eq_true, e0, q2, c_M_isBy c f]
    rw [if_neg (by omega)]
    by_cases h1 : isB σ l h = true
    · rw [if_pos h1] at e ⊢
      rw [← e]
      exact l_M_pressed c f hl m (h + 1) (by omega)
    · rw [if_neg h1] at e ⊢
      rw [← e]
      exact l_M_pressed c f hl m (h + 1) (by omega)
noncomputable def presS (t : Nat → Nat) (n : Nat) (σ τ : ST) (a1 : Int32) : SS := (t, n, σ, τ, if inR a1 (σ 11 0) then aPress σ (nn a1) else -2)
theorem p_M_pressed (c : MR t n σ τ g hj) (K : KM g hj Q (presS t n σ τ a1)) : cwp X (d + 9) m_M_pressed [.ref 51, .int a1] (HP g hj) Q := by
  have w := c.2.1.1.2.2.2.1.1
  unfold presS at K
  simp (disch := omega) only [e_M_pressed, ↓s_M_pressed_0, ↓s_M_pressed_1, ↓s_M_pressed_2, ↓s_M_pressed_5, ↓s_M_pressed_8, ↓s_M_pressed_10, c_M_isLump c.2.1, nI_leI, nI_ltI, nI_eq, N_z, nI_add, pk_sub, pk_mul, kL_i, kL_r, kL_d, kL_l, kL_k, kL_f, Option.toList_some, Option.toList_none, List.cons_append, List.nil_append, bI_z, N_and, N_or, N_shl, N_shr, Nat.one_mul, Nat.reduceAdd, lg_cmp_eq, L_and, L_or, bI_1, bI_0, if_true, if_false, reduceIte, N_m1x, ite_not]
  by_cases h1 : inR a1 (σ 11 0)
  case neg =>
    rw [if_neg h1] at K ⊢
    exact KM_0 c K
  rw [if_pos h1] at K ⊢
  obtain ⟨l, hl, rfl⟩ := inR_n h1 (by omega)
  rw [nn_n (by omega)] at K
  simp only [↓s_M_pressed_11, ↓s_M_pressed_12]
  refine c_M_refuses c (fun g' hj' c' e1 e2 => ?_)
  have := K g' hj' c'.1 e1 e2
  change Q (some (.int (aPress σ l))) (HP g' hj') at this
  have w := c'.1.2.1.1.2.2.1.1
  have e0 := c'.1.2.1.2.2.1.1
  unfold aPress at this
  simp (disch := omega) only [↓s_M_pressed_15, ↓s_M_pressed_16, ↓s_M_pressed_17, ↓s_M_pressed_18, ↓s_M_pressed_19, Option.toList_some, List.cons_append, List.nil_append, kL_r, kL_i]
  by_cases h0 : rf σ = 0
  · rw [orR_0 h0] at this
    obtain ⟨h1, h2⟩ := rf_0 h0
    rw [h0]
    exact (l_M_pressed c'.1.2.1 (c'.2 h1).2 hl (σ 6 0) 0 (by omega)).mpr this
  · rw [orR_n h0] at this
    rw [s_M_pressed_21]
    simp (disch := omega) only [↓s_M_pressed_23, ↓s_M_pressed_24, ↓s_M_pressed_27, ↓s_M_pressed_30, ↓s_M_pressed_31, ↓s_M_pressed_66, ↓s_M_pressed_67, ↓s_M_pressed_70, ↓s_M_pressed_71, ↓s_M_pressed_74, ↓s_M_pressed_75, nI_leI, nI_ltI, nI_eq, N_z, nI_add, pk_sub, pk_mul, kL_i, kL_r, kL_d, kL_l, kL_k, kL_f, Option.toList_some, Option.toList_none, List.cons_append, List.nil_append, bI_z, N_and, N_or, N_shl, N_shr, Nat.one_mul, Nat.reduceAdd, lg_cmp_eq, L_and, L_or, bI_1, bI_0, if_true, if_false, reduceIte, N_m1x, ite_not, e0, h0, ite_self]
    exact this
end MWAYS
