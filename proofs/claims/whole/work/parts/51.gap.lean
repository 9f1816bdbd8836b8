/-! gap, count -/
theorem L_bit {D k : Nat} (hD : D < 9223372036854775808) (hk : k < 64) : lN D >>> ((nI k).toInt64 &&& 63) &&& lN 1 = lN (D / 2 ^ k % 2) := by
  rw [L_shr hD hk, L_and, Nat.and_one_is_mod]
theorem L_b0 (D k : Nat) : (lN (D / 2 ^ k % 2) = lN 0) = ¬ D.testBit k = true := by
  rw [← tb_dm]
  apply propext
  rw [L_inj (by omega) (by omega)]
  omega
theorem L_b1 (D k : Nat) : (lN (D / 2 ^ k % 2) = lN 1) = (D.testBit k = true) := by
  rw [← tb_dm]
  apply propext
  rw [L_inj (by omega) (by omega)]
section GAP
variable {X : AX} {d : Nat} {Q : Option Value → AH → Prop} {g : Nat → Nat → Int32} {hj : Nat → Nat → Int64} {σ τ : ST} {a1 a2 a3 : Int32} {t : Nat → Nat} {n : Nat} {h : AH}
theorem gpd_lt {o : Nat} (w : WF σ) : ∀ l, l ≤ σ 11 0 → gpd σ o l < 1152921504606846976
  | 0, _ => by simp [gpd]
  | l + 1, hl => by
    have h1 := gpd_lt (o := o) w l (by omega)
    unfold gpd
    refine Nat.or_lt_two_pow (n := 60) h1 ?_
    split
    · exact ld_lt w (by omega)
    · omega
theorem l_C_longestHole {D : Nat} (hD : D < 1152921504606846976) : ∀ (k i : Nat), i + k = 60 → wp X d m_C_longestHole 10 [.long (lN D), DUM, .int (nI (gph D i).1), .int (nI (if (gph D i).2 = 0 then i else i - (gph D i).2)), .int (nI (if (gph D i).2 = 0 then 0 else 1)), .int (nI i)] [] h Q = Q (some (.int (nI (gph D 60).1))) h
  | 0, i, hi => by
    have : i = 60 := by omega
    subst this
    rw [s_C_longestHole_10]
    simp (disch := omega) only [↓s_C_longestHole_12, ↓s_C_longestHole_14, ↓s_C_longestHole_60, ↓s_C_longestHole_61, nI_leI, nI_ltI, nI_eq, N_z, nI_add, pk_sub, pk_mul, kL_i, kL_r, kL_d, kL_l, kL_k, kL_f, Option.toList_some, Option.toList_none, List.cons_append, List.nil_append, bI_z, N_and, N_or, N_shl, N_shr, Nat.one_mul, Nat.reduceAdd, lg_cmp_eq, L_and, L_or, bI_1, bI_0, if_true, if_false, reduceIte, N_m1x, ite_not, Nat.le_refl]
  | k + 1, i, hi => by
    obtain ⟨p1, p2, p3⟩ := gph_le D i
    have ih := l_C_longestHole hD k (i + 1) (by omega)
    have e : gph D (i + 1) = if D.testBit i = true then (if (gph D i).2 = 0 then 0 else if (gph D i).1 < i - (gph D i).2 then i - (gph D i).2 else (gph D i).1, i + 1) else gph D i := rfl
    rw [s_C_longestHole_10]
    simp (disch := omega) only [↓s_C_longestHole_12, ↓s_C_longestHole_14, ↓s_C_longestHole_17, ↓s_C_longestHole_18, ↓s_C_longestHole_20, ↓s_C_longestHole_21, ↓s_C_longestHole_22, ↓s_C_longestHole_23, ↓s_C_longestHole_24, ↓s_C_longestHole_25, nI_leI, L_bit, lg_cmp_eq, L_b0, ite_not]
    rw [if_neg (by omega)]
    by_cases h1 : D.testBit i = true
    · rw [if_pos h1] at e ⊢
      rw [e] at ih
      simp only [Nat.add_one_ne_zero, if_false, Nat.sub_self] at ih
      by_cases h2 : (gph D i).2 = 0
      · simp only [h2, if_true] at ih ⊢
        simp (disch := omega) only [↓s_C_longestHole_28, ↓s_C_longestHole_30, ↓s_C_longestHole_33, ↓s_C_longestHole_34, ↓s_C_longestHole_35, ↓s_C_longestHole_38, ↓s_C_longestHole_41, ↓s_C_longestHole_42, ↓s_C_longestHole_43, ↓s_C_longestHole_44, ↓s_C_longestHole_46, ↓s_C_longestHole_47, ↓s_C_longestHole_48, ↓s_C_longestHole_51, ↓s_C_longestHole_54, ↓s_C_longestHole_57, nI_leI, nI_ltI, nI_eq, N_z, nI_add, pk_sub, pk_mul, kL_i, kL_r, kL_d, kL_l, kL_k, kL_f, Option.toList_some, Option.toList_none, List.cons_append, List.nil_append, bI_z, N_and, N_or, N_shl, N_shr, Nat.one_mul, Nat.reduceAdd, lg_cmp_eq, L_and, L_or, bI_1, bI_0, if_true, if_false, reduceIte, N_m1x, ite_not, Nat.one_ne_zero, Nat.zero_ne_one, eq_self, not_true_eq_false, not_false_eq_true, ih]
      · simp only [h2, if_false] at ih ⊢
        simp (disch := omega) only [↓s_C_longestHole_28, ↓s_C_longestHole_30, ↓s_C_longestHole_33, ↓s_C_longestHole_34, ↓s_C_longestHole_35, ↓s_C_longestHole_38, ↓s_C_longestHole_41, ↓s_C_longestHole_42, ↓s_C_longestHole_43, ↓s_C_longestHole_44, ↓s_C_longestHole_46, ↓s_C_longestHole_47, ↓s_C_longestHole_48, ↓s_C_longestHole_51, ↓s_C_longestHole_54, ↓s_C_longestHole_57, nI_leI, nI_ltI, nI_eq, N_z, nI_add, pk_sub, pk_mul, kL_i, kL_r, kL_d, kL_l, kL_k, kL_f, Option.toList_some, Option.toList_none, List.cons_append, List.nil_append, bI_z, N_and, N_or, N_shl, N_shr, Nat.one_mul, Nat.reduceAdd, lg_cmp_eq, L_and, L_or, bI_1, bI_0, if_true, if_false, reduceIte, N_m1x, ite_not, Nat.one_ne_zero, Nat.zero_ne_one, eq_self, not_true_eq_false, not_false_eq_true, ite_N, ih]
    · rw [if_neg h1] at e ⊢
      rw [e] at ih
      simp (disch := omega) only [↓s_C_longestHole_51, ↓s_C_longestHole_54, ↓s_C_longestHole_57, nI_leI, nI_ltI, nI_eq, N_z, nI_add, pk_sub, pk_mul, kL_i, kL_r, kL_d, kL_l, kL_k, kL_f, Option.toList_some, Option.toList_none, List.cons_append, List.nil_append, bI_z, N_and, N_or, N_shl, N_shr, Nat.one_mul, Nat.reduceAdd, lg_cmp_eq, L_and, L_or, bI_1, bI_0, if_true, if_false, reduceIte, N_m1x, ite_not]
      have e2 : (if (gph D i).2 = 0 then i else i - (gph D i).2) + 1 = (if (gph D i).2 = 0 then i + 1 else i + 1 - (gph D i).2) := by split <;> omega
      rw [e2]
      exact ih
theorem c_C_longestHole {D : Nat} (hD : D < 1152921504606846976) : cwp X d m_C_longestHole [.long (lN D)] h Q = Q (some (.int (nI (gph D 60).1))) h := by
  simp (disch := omega) only [e_C_longestHole, ↓s_C_longestHole_0, ↓s_C_longestHole_1, ↓s_C_longestHole_2, ↓s_C_longestHole_3, ↓s_C_longestHole_4, ↓s_C_longestHole_5, ↓s_C_longestHole_7, ↓s_C_longestHole_8, kL_i, kL_d, kL_l, kL_k]
  exact l_C_longestHole hD 60 0 rfl
theorem l_C_gap {o : Nat} {P : Prop} (c : C0 σ g hj) (ho : o < 4) (K : ∀ v4, wp X (d + 3) m_C_gap 59 [.ref 0, .int (nI o), .long (lN (gpd σ o (σ 11 0))), DUM, v4] [] (HP g hj) Q = P) : ∀ (k i : Nat), i + k = σ 11 0 → wp X (d + 3) m_C_gap 16 [.ref 0, .int (nI o), .long (lN (gpd σ o i)), DUM, .int (nI i)] [] (HP g hj) Q = P
  | 0, i, hi => by
    have w := c.1.2.2.2.1.1
    have e0 := c.2.2.2.1
    have : i = σ 11 0 := by omega
    subst this
    rw [s_C_gap_16]
    simp (disch := omega) only [↓s_C_gap_18, ↓s_C_gap_19, ↓s_C_gap_22, ↓s_C_gap_25, nI_leI, nI_ltI, nI_eq, N_z, nI_add, pk_sub, pk_mul, kL_i, kL_r, kL_d, kL_l, kL_k, kL_f, Option.toList_some, Option.toList_none, List.cons_append, List.nil_append, bI_z, N_and, N_or, N_shl, N_shr, Nat.one_mul, Nat.reduceAdd, lg_cmp_eq, L_and, L_or, bI_1, bI_0, if_true, if_false, reduceIte, N_m1x, ite_not, e0, Nat.le_refl]
    exact K _
  | k + 1, i, hi => by
    have w := c.1.2.2.2.1.1
    have e0 := c.2.2.2.1
    have e : gpd σ o (i + 1) = gpd σ o i ||| (if peg σ i o = true then ld σ i else 0) := rfl
    rw [s_C_gap_16]
    simp (disch := omega) only [↓s_C_gap_18, ↓s_C_gap_19, ↓s_C_gap_22, ↓s_C_gap_25, ↓s_C_gap_28, ↓s_C_gap_29, ↓s_C_gap_32, ↓s_C_gap_34, ↓s_C_gap_35, ↓s_C_gap_38, ↓s_C_gap_41, ↓s_C_gap_42, ↓s_C_gap_43, ↓s_C_gap_46, ↓s_C_gap_48, ↓s_C_gap_51, ↓s_C_gap_52, ↓s_C_gap_53, ↓s_C_gap_56, nI_leI, nI_ltI, nI_eq, N_z, nI_add, pk_sub, pk_mul, kL_i, kL_r, kL_d, kL_l, kL_k, kL_f, Option.toList_some, Option.toList_none, List.cons_append, List.nil_append, bI_z, N_and, N_or, N_shl, N_shr, Nat.one_mul, Nat.reduceAdd, lg_cmp_eq, L_and, L_or, bI_1, bI_0, if_true, if_false, reduceIte, N_m1x, ite_not, e0, c_isPegAt c, c_Lumps_daysOf c]
    rw [if_neg (by omega)]
    by_cases h1 : peg σ i o = true
    · rw [if_pos h1] at e ⊢
      rw [← e]
      exact l_C_gap c ho K k (i + 1) (by omega)
    · rw [if_neg h1] at e ⊢
      rw [Nat.or_zero] at e
      rw [← e]
      exact l_C_gap c ho K k (i + 1) (by omega)
theorem p_C_gap (c : CR t n σ τ g hj) (K : KC g hj Q (gaS t n σ τ a1)) : cwp X (d + 3) m_C_gap [.ref 0, .int a1] (HP g hj) Q := by
  refine (?_ : _ = _).mpr (KC_0 c K)
  simp only [e_C_gap, ↓s_C_gap_0, ↓s_C_gap_1, ↓s_C_gap_2, ↓s_C_gap_5, ↓s_C_gap_8, ↓s_C_gap_10, c_C_isBelowN, nI_leI, nI_ltI, nI_eq, N_z, nI_add, pk_sub, pk_mul, kL_i, kL_r, kL_d, kL_l, kL_k, kL_f, Option.toList_some, Option.toList_none, List.cons_append, List.nil_append, bI_z, N_and, N_or, N_shl, N_shr, Nat.one_mul, Nat.reduceAdd, lg_cmp_eq, L_and, L_or, bI_1, bI_0, if_true, if_false, reduceIte, N_m1x, ite_not, Qi]
  refine itc (fun h1 => ?_)
  obtain ⟨o, ho, rfl⟩ := inR_n h1 (by omega)
  rw [nn_n (by omega)]
  simp (disch := omega) only [↓s_C_gap_11, ↓s_C_gap_12, ↓s_C_gap_13, ↓s_C_gap_14, nI_leI, nI_ltI, nI_eq, N_z, nI_add, pk_sub, pk_mul, kL_i, kL_r, kL_d, kL_l, kL_k, kL_f, Option.toList_some, Option.toList_none, List.cons_append, List.nil_append, bI_z, N_and, N_or, N_shl, N_shr, Nat.one_mul, Nat.reduceAdd, lg_cmp_eq, L_and, L_or, bI_1, bI_0, if_true, if_false, reduceIte, N_m1x, ite_not]
  refine l_C_gap c.2.1 ho (fun v4 => ?_) (σ 11 0) 0 (by omega)
  simp (disch := omega) only [↓s_C_gap_59, ↓s_C_gap_60, ↓s_C_gap_63, c_C_longestHole (gpd_lt c.2.1.1 _ (Nat.le_refl _)), nI_leI, nI_ltI, nI_eq, N_z, nI_add, pk_sub, pk_mul, kL_i, kL_r, kL_d, kL_l, kL_k, kL_f, Option.toList_some, Option.toList_none, List.cons_append, List.nil_append, bI_z, N_and, N_or, N_shl, N_shr, Nat.one_mul, Nat.reduceAdd, lg_cmp_eq, L_and, L_or, bI_1, bI_0, if_true, if_false, reduceIte, N_m1x, ite_not]
theorem l_M_gap1 {o : Nat} {P : Prop} {v5 v6 : Value} (c : M0 σ g hj) (ho : o < 4) (K : ∀ v4, wp X (d + 3) m_M_gap 66 [.ref 51, .int (nI o), .long (lN (gpd σ o (σ 11 0))), DUM, v4, v5, v6] [] (HP g hj) Q = P) : ∀ (k i : Nat), i + k = σ 11 0 → wp X (d + 3) m_M_gap 17 [.ref 51, .int (nI o), .long (lN (gpd σ o i)), DUM, .int (nI i), v5, v6] [] (HP g hj) Q = P
  | 0, i, hi => by
    have w := c.1.2.2.2.1.1
    have e0 := c.2.2.2.1
    have : i = σ 11 0 := by omega
    subst this
    rw [s_M_gap_17]
    simp (disch := omega) only [↓s_M_gap_19, ↓s_M_gap_20, ↓s_M_gap_23, nI_leI, nI_ltI, nI_eq, N_z, nI_add, pk_sub, pk_mul, kL_i, kL_r, kL_d, kL_l, kL_k, kL_f, Option.toList_some, Option.toList_none, List.cons_append, List.nil_append, bI_z, N_and, N_or, N_shl, N_shr, Nat.one_mul, Nat.reduceAdd, lg_cmp_eq, L_and, L_or, bI_1, bI_0, if_true, if_false, reduceIte, N_m1x, ite_not, e0, Nat.le_refl]
    exact K _
  | k + 1, i, hi => by
    have w := c.1.2.2.2.1.1
    have e0 := c.2.2.2.1
    obtain ⟨f0, f1, f2, f3, f4, f5⟩ := c.2.2.2.2.2 i (by omega)
    obtain ⟨x0, x1, x2, x3, x4, x5, x6⟩ := c.1.2.2.2.1.2 i (by omega)
    have e : gpd σ o (i + 1) = gpd σ o i ||| (if peg σ i o = true then spn (σ 14 i) (σ 15 i) else 0) := rfl
    rw [s_M_gap_17]
    simp (disch := omega) only [↓s_M_gap_19, ↓s_M_gap_20, ↓s_M_gap_23, ↓s_M_gap_26, ↓s_M_gap_27, ↓s_M_gap_28, ↓s_M_gap_30, ↓s_M_gap_31, ↓s_M_gap_34, ↓s_M_gap_37, ↓s_M_gap_38, ↓s_M_gap_41, ↓s_M_gap_43, ↓s_M_gap_44, ↓s_M_gap_45, ↓s_M_gap_48, ↓s_M_gap_50, ↓s_M_gap_51, ↓s_M_gap_54, ↓s_M_gap_57, ↓s_M_gap_58, ↓s_M_gap_59, ↓s_M_gap_60, ↓s_M_gap_63, nI_leI, nI_ltI, nI_eq, N_z, nI_add, pk_sub, pk_mul, kL_i, kL_r, kL_d, kL_l, kL_k, kL_f, Option.toList_some, Option.toList_none, List.cons_append, List.nil_append, bI_z, N_and, N_or, N_shl, N_shr, Nat.one_mul, Nat.reduceAdd, lg_cmp_eq, L_and, L_or, bI_1, bI_0, if_true, if_false, reduceIte, N_m1x, ite_not, e0, c_M_isPeg c, c_M_span, f2, f3]
    rw [if_neg (by omega)]
    by_cases h1 : peg σ i o = true
    · rw [if_pos h1] at e ⊢
      rw [← e]
      exact l_M_gap1 c ho K k (i + 1) (by omega)
    · rw [if_neg h1] at e ⊢
      rw [← e]
      exact l_M_gap1 c ho K k (i + 1) (by omega)
theorem l_M_gap2 {o D : Nat} (hD : D < 1152921504606846976) : ∀ (k i : Nat), i + k = 60 → wp X d m_M_gap 75 [.ref 51, .int (nI o), .long (lN D), DUM, .int (nI (gph D i).1), .int (oI (gph D i).2), .int (nI i)] [] (HP g hj) Q = Q (some (.int (nI (gph D 60).1))) (HP g hj)
  | 0, i, hi => by
    have : i = 60 := by omega
    subst this
    rw [s_M_gap_75]
    simp (disch := omega) only [↓s_M_gap_77, ↓s_M_gap_79, ↓s_M_gap_135, ↓s_M_gap_137, nI_leI, nI_ltI, nI_eq, N_z, nI_add, pk_sub, pk_mul, kL_i, kL_r, kL_d, kL_l, kL_k, kL_f, Option.toList_some, Option.toList_none, List.cons_append, List.nil_append, bI_z, N_and, N_or, N_shl, N_shr, Nat.one_mul, Nat.reduceAdd, lg_cmp_eq, L_and, L_or, bI_1, bI_0, if_true, if_false, reduceIte, N_m1x, ite_not, Nat.le_refl]
  | k + 1, i, hi => by
    obtain ⟨p1, p2, p3⟩ := gph_le D i
    have ih := l_M_gap2 (o := o) hD k (i + 1) (by omega)
    have e : gph D (i + 1) = if D.testBit i = true then (if (gph D i).2 = 0 then 0 else if (gph D i).1 < i - (gph D i).2 then i - (gph D i).2 else (gph D i).1, i + 1) else gph D i := rfl
    rw [s_M_gap_75]
    simp (disch := omega) only [↓s_M_gap_77, ↓s_M_gap_79, ↓s_M_gap_82, ↓s_M_gap_83, ↓s_M_gap_85, ↓s_M_gap_86, ↓s_M_gap_87, ↓s_M_gap_88, ↓s_M_gap_89, ↓s_M_gap_90, nI_leI, L_bit, lg_cmp_eq, L_b1, ite_not]
    rw [if_neg (by omega)]
    by_cases h1 : D.testBit i = true
    · rw [if_pos h1] at e ⊢
      rw [e] at ih
      rw [show oI ((_, i + 1) : Nat × Nat).2 = nI i from rfl] at ih
      simp (disch := omega) only [↓s_M_gap_93, ↓s_M_gap_95, ↓s_M_gap_96, oI_m1]
      by_cases h2 : (gph D i).2 = 0
      · simp only [h2, if_true] at ih ⊢
        have p4 := p3 h2
        rw [p4]
        simp (disch := omega) only [↓s_M_gap_121, ↓s_M_gap_123, ↓s_M_gap_125, ↓s_M_gap_127, ↓s_M_gap_129, ↓s_M_gap_132, nI_leI, nI_ltI, nI_eq, N_z, nI_add, pk_sub, pk_mul, kL_i, kL_r, kL_d, kL_l, kL_k, kL_f, Option.toList_some, Option.toList_none, List.cons_append, List.nil_append, bI_z, N_and, N_or, N_shl, N_shr, Nat.one_mul, Nat.reduceAdd, lg_cmp_eq, L_and, L_or, bI_1, bI_0, if_true, if_false, reduceIte, N_m1x, ite_not, ih]
      · simp only [h2, if_false] at ih ⊢
        have e2 : oI (gph D i).2 = nI ((gph D i).2 - 1) := if_neg h2
        have e3 : i - ((gph D i).2 - 1) - 1 = i - (gph D i).2 := by omega
        rw [e2]
        simp (disch := omega) only [↓s_M_gap_99, ↓s_M_gap_101, ↓s_M_gap_103, ↓s_M_gap_104, ↓s_M_gap_105, ↓s_M_gap_106, ↓s_M_gap_108, nI_leI, nI_ltI, nI_eq, N_z, nI_add, pk_sub, pk_mul, kL_i, kL_r, kL_d, kL_l, kL_k, kL_f, Option.toList_some, Option.toList_none, List.cons_append, List.nil_append, bI_z, N_and, N_or, N_shl, N_shr, Nat.one_mul, Nat.reduceAdd, lg_cmp_eq, L_and, L_or, bI_1, bI_0, if_true, if_false, reduceIte, N_m1x, ite_not, e3]
        by_cases h3 : (gph D i).1 < i - (gph D i).2
        · rw [if_pos h3] at ih
          rw [if_neg (by omega)]
          simp (disch := omega) only [↓s_M_gap_111, ↓s_M_gap_113, ↓s_M_gap_115, ↓s_M_gap_116, ↓s_M_gap_117, ↓s_M_gap_118, ↓s_M_gap_121, ↓s_M_gap_123, ↓s_M_gap_125, ↓s_M_gap_127, ↓s_M_gap_129, ↓s_M_gap_132, nI_leI, nI_ltI, nI_eq, N_z, nI_add, pk_sub, pk_mul, kL_i, kL_r, kL_d, kL_l, kL_k, kL_f, Option.toList_some, Option.toList_none, List.cons_append, List.nil_append, bI_z, N_and, N_or, N_shl, N_shr, Nat.one_mul, Nat.reduceAdd, lg_cmp_eq, L_and, L_or, bI_1, bI_0, if_true, if_false, reduceIte, N_m1x, ite_not, e3, ih]
        · rw [if_neg h3] at ih
          rw [if_pos (by omega)]
          simp (disch := omega) only [↓s_M_gap_121, ↓s_M_gap_123, ↓s_M_gap_125, ↓s_M_gap_127, ↓s_M_gap_129, ↓s_M_gap_132, nI_leI, nI_ltI, nI_eq, N_z, nI_add, pk_sub, pk_mul, kL_i, kL_r, kL_d, kL_l, kL_k, kL_f, Option.toList_some, Option.toList_none, List.cons_append, List.nil_append, bI_z, N_and, N_or, N_shl, N_shr, Nat.one_mul, Nat.reduceAdd, lg_cmp_eq, L_and, L_or, bI_1, bI_0, if_true, if_false, reduceIte, N_m1x, ite_not, ih]
    · rw [if_neg h1] at e ⊢
      rw [e] at ih
      simp (disch := omega) only [↓s_M_gap_129, ↓s_M_gap_132, nI_leI, nI_ltI, nI_eq, N_z, nI_add, pk_sub, pk_mul, kL_i, kL_r, kL_d, kL_l, kL_k, kL_f, Option.toList_some, Option.toList_none, List.cons_append, List.nil_append, bI_z, N_and, N_or, N_shl, N_shr, Nat.one_mul, Nat.reduceAdd, lg_cmp_eq, L_and, L_or, bI_1, bI_0, if_true, if_false, reduceIte, N_m1x, ite_not]
      have e3 : killL (.int (oI (gph D i).2)) = .int (oI (gph D i).2) := rfl
      exact ih
theorem p_M_gap (c : MR t n σ τ g hj) (K : KM g hj Q (gaS t n σ τ a1)) : cwp X (d + 3) m_M_gap [.ref 51, .int a1] (HP g hj) Q := by
  refine (?_ : _ = _).mpr (KM_0 c K)
  simp (disch := omega) only [e_M_gap, ↓s_M_gap_0, ↓s_M_gap_1, ↓s_M_gap_2, ↓s_M_gap_3, ↓s_M_gap_6, ↓s_M_gap_9, ↓s_M_gap_11, c_M_in, in_c, nI_leI, nI_ltI, nI_eq, N_z, nI_add, pk_sub, pk_mul, kL_i, kL_r, kL_d, kL_l, kL_k, kL_f, Option.toList_some, Option.toList_none, List.cons_append, List.nil_append, bI_z, N_and, N_or, N_shl, N_shr, Nat.one_mul, Nat.reduceAdd, lg_cmp_eq, L_and, L_or, bI_1, bI_0, if_true, if_false, reduceIte, N_m1x, ite_not, Qi]
  refine itc (fun h1 => ?_)
  obtain ⟨o, ho, rfl⟩ := inR_n h1 (by omega)
  rw [nn_n (by omega)]
  simp (disch := omega) only [↓s_M_gap_12, ↓s_M_gap_13, ↓s_M_gap_14, ↓s_M_gap_15, nI_leI, nI_ltI, nI_eq, N_z, nI_add, pk_sub, pk_mul, kL_i, kL_r, kL_d, kL_l, kL_k, kL_f, Option.toList_some, Option.toList_none, List.cons_append, List.nil_append, bI_z, N_and, N_or, N_shl, N_shr, Nat.one_mul, Nat.reduceAdd, lg_cmp_eq, L_and, L_or, bI_1, bI_0, if_true, if_false, reduceIte, N_m1x, ite_not]
  refine l_M_gap1 c.2.1 ho (fun v4 => ?_) (σ 11 0) 0 (by omega)
  simp (disch := omega) only [↓s_M_gap_66, ↓s_M_gap_67, ↓s_M_gap_69, ↓s_M_gap_70, ↓s_M_gap_72, ↓s_M_gap_73, nI_leI, nI_ltI, nI_eq, N_z, nI_add, pk_sub, pk_mul, kL_i, kL_r, kL_d, kL_l, kL_k, kL_f, Option.toList_some, Option.toList_none, List.cons_append, List.nil_append, bI_z, N_and, N_or, N_shl, N_shr, Nat.one_mul, Nat.reduceAdd, lg_cmp_eq, L_and, L_or, bI_1, bI_0, if_true, if_false, reduceIte, N_m1x, ite_not]
  exact l_M_gap2 (gpd_lt c.2.1.1 _ (Nat.le_refl _)) 60 0 rfl
theorem l_stonesOfAll (c : C0 σ g hj) : ∀ (k i : Nat), i + k = σ 2 0 → wp X d m_Rings_stonesOfAll 4 [.ref 3, .int (nI (cnt1 (fun r => decide (σ 4 r = 0)) i)), .int (nI i)] [] (HP g hj) Q = Q (some (.int (nI (cnt1 (fun r => decide (σ 4 r = 0)) (σ 2 0))))) (HP g hj)
  | 0, i, hi => by
    have w := c.1.2.1.1
    have e0 := c.2.1.1
    have : i = σ 2 0 := by omega
    subst this
    rw [s_Rings_stonesOfAll_4]
    simp (disch := omega) only [↓s_Rings_stonesOfAll_5, ↓s_Rings_stonesOfAll_6, ↓s_Rings_stonesOfAll_9, ↓s_Rings_stonesOfAll_31, ↓s_Rings_stonesOfAll_32, nI_leI, nI_ltI, nI_eq, N_z, nI_add, pk_sub, pk_mul, kL_i, kL_r, kL_d, kL_l, kL_k, kL_f, Option.toList_some, Option.toList_none, List.cons_append, List.nil_append, bI_z, N_and, N_or, N_shl, N_shr, Nat.one_mul, Nat.reduceAdd, lg_cmp_eq, L_and, L_or, bI_1, bI_0, if_true, if_false, reduceIte, N_m1x, ite_not, e0, Nat.le_refl]
  | k + 1, i, hi => by
    have w := c.1.2.1.1
    have e0 := c.2.1.1
    have f := (c.2.1.2 i (by omega)).2.1
    have f2 := (c.1.2.1.2 i (by omega)).2.1
    have e : cnt1 (fun r => decide (σ 4 r = 0)) (i + 1) = cnt1 (fun r => decide (σ 4 r = 0)) i + (if decide (σ 4 i = 0) = true then 1 else 0) := rfl
    rw [s_Rings_stonesOfAll_4]
    simp (disch := omega) only [↓s_Rings_stonesOfAll_5, ↓s_Rings_stonesOfAll_6, ↓s_Rings_stonesOfAll_9, ↓s_Rings_stonesOfAll_12, ↓s_Rings_stonesOfAll_13, ↓s_Rings_stonesOfAll_16, ↓s_Rings_stonesOfAll_17, ↓s_Rings_stonesOfAll_18, ↓s_Rings_stonesOfAll_19, ↓s_Rings_stonesOfAll_22, ↓s_Rings_stonesOfAll_25, ↓s_Rings_stonesOfAll_28, nI_leI, nI_ltI, nI_eq, N_z, nI_add, pk_sub, pk_mul, kL_i, kL_r, kL_d, kL_l, kL_k, kL_f, Option.toList_some, Option.toList_none, List.cons_append, List.nil_append, bI_z, N_and, N_or, N_shl, N_shr, Nat.one_mul, Nat.reduceAdd, lg_cmp_eq, L_and, L_or, bI_1, bI_0, if_true, if_false, reduceIte, N_m1x, ite_not, e0, f, oI_m1]
    rw [if_neg (by omega)]
    by_cases h1 : σ 4 i = 0
    · rw [if_pos h1]
      rw [if_pos (decide_eq_true h1)] at e
      rw [← e]
      exact l_stonesOfAll c k (i + 1) (by omega)
    · rw [if_neg h1]
      rw [if_neg (by simpa using h1), Nat.add_zero (cnt1 _ i)] at e
      rw [← e]
      exact l_stonesOfAll c k (i + 1) (by omega)
theorem l_unseenOfAll (c : C0 σ g hj) : ∀ (k i : Nat), i + k = σ 11 0 → wp X (d + 1) m_Lumps_unseenOfAll 4 [.ref 10, .int (nI (usn σ i)), .int (nI i)] [] (HP g hj) Q = Q (some (.int (nI (usn σ (σ 11 0))))) (HP g hj)
  | 0, i, hi => by
    have w := c.1.2.2.2.1.1
    have e0 := c.2.2.2.1
    have : i = σ 11 0 := by omega
    subst this
    rw [s_Lumps_unseenOfAll_4]
    simp (disch := omega) only [↓s_Lumps_unseenOfAll_5, ↓s_Lumps_unseenOfAll_6, ↓s_Lumps_unseenOfAll_9, ↓s_Lumps_unseenOfAll_30, ↓s_Lumps_unseenOfAll_31, nI_leI, nI_ltI, nI_eq, N_z, nI_add, pk_sub, pk_mul, kL_i, kL_r, kL_d, kL_l, kL_k, kL_f, Option.toList_some, Option.toList_none, List.cons_append, List.nil_append, bI_z, N_and, N_or, N_shl, N_shr, Nat.one_mul, Nat.reduceAdd, lg_cmp_eq, L_and, L_or, bI_1, bI_0, if_true, if_false, reduceIte, N_m1x, ite_not, e0, Nat.le_refl]
  | k + 1, i, hi => by
    have w := c.1.2.2.2.1.1
    have e0 := c.2.2.2.1
    have f := (c.2.2.2.2.2 i (by omega)).2.1
    have f2 := (c.1.2.2.2.1.2 i (by omega)).2.1
    have e : usn σ (i + 1) = usn σ i + pcn (σ 13 i) 16 := rfl
    rw [s_Lumps_unseenOfAll_4]
    simp (disch := omega) only [↓s_Lumps_unseenOfAll_5, ↓s_Lumps_unseenOfAll_6, ↓s_Lumps_unseenOfAll_9, ↓s_Lumps_unseenOfAll_12, ↓s_Lumps_unseenOfAll_13, ↓s_Lumps_unseenOfAll_14, ↓s_Lumps_unseenOfAll_17, ↓s_Lumps_unseenOfAll_18, ↓s_Lumps_unseenOfAll_19, ↓s_Lumps_unseenOfAll_22, ↓s_Lumps_unseenOfAll_23, ↓s_Lumps_unseenOfAll_24, ↓s_Lumps_unseenOfAll_27, nI_leI, nI_ltI, nI_eq, N_z, nI_add, pk_sub, pk_mul, kL_i, kL_r, kL_d, kL_l, kL_k, kL_f, Option.toList_some, Option.toList_none, List.cons_append, List.nil_append, bI_z, N_and, N_or, N_shl, N_shr, Nat.one_mul, Nat.reduceAdd, lg_cmp_eq, L_and, L_or, bI_1, bI_0, if_true, if_false, reduceIte, N_m1x, ite_not, e0, f, c_JI_bitCount, ← e]
    rw [if_neg (by omega)]
    exact l_unseenOfAll c k (i + 1) (by omega)
theorem p_C_countA (c : CR t n σ τ g hj) : cwp X (d + 2) m_C_count [.ref 0, .int a1] (HP g hj) Q = Q (some (.int (ctA n σ τ a1))) (HP g hj) := by
  have e1 := c.1.1
  have e2 := c.2.1.2.1.1
  have e3 := c.2.1.2.2.1.1
  have e4 := c.2.1.2.2.2.1
  have e5 := c.2.1.2.2.2.2.1
  have e6 := c.2.2.2.2.2.1
  unfold ctA
  have k1 : ∀ Q', cwp X (d + 1) m_Rings_stonesOfAll [.ref 3] (HP g hj) Q' = Q' (some (.int (nI (cnt1 (fun r => decide (σ 4 r = 0)) (σ 2 0))))) (HP g hj) := fun Q' => by
    simp only [e_Rings_stonesOfAll, ↓s_Rings_stonesOfAll_0, ↓s_Rings_stonesOfAll_1, ↓s_Rings_stonesOfAll_2, ↓s_Rings_stonesOfAll_3, kL_i, kL_d, kL_r]
    exact l_stonesOfAll c.2.1 (σ 2 0) 0 (by omega)
  have k2 : ∀ Q', cwp X (d + 1) m_Lumps_unseenOfAll [.ref 10] (HP g hj) Q' = Q' (some (.int (nI (usn σ (σ 11 0))))) (HP g hj) := fun Q' => by
    simp only [e_Lumps_unseenOfAll, ↓s_Lumps_unseenOfAll_0, ↓s_Lumps_unseenOfAll_1, ↓s_Lumps_unseenOfAll_2, ↓s_Lumps_unseenOfAll_3, kL_i, kL_d, kL_r]
    exact l_unseenOfAll c.2.1 (σ 11 0) 0 (by omega)
  simp only [e_C_count, ↓s_C_count_0, ↓s_C_count_1, ↓s_C_count_52, ↓s_C_count_53, ↓s_C_count_56, ↓s_C_count_59, ↓s_C_count_60, ↓s_C_count_61, ↓s_C_count_64, ↓s_C_count_67, ↓s_C_count_68, ↓s_C_count_69, ↓s_C_count_72, ↓s_C_count_75, ↓s_C_count_76, ↓s_C_count_77, ↓s_C_count_80, ↓s_C_count_83, ↓s_C_count_84, ↓s_C_count_85, ↓s_C_count_88, ↓s_C_count_91, ↓s_C_count_92, ↓s_C_count_93, ↓s_C_count_96, ↓s_C_count_99, ↓s_C_count_100, ↓s_C_count_101, ↓s_C_count_104, ↓s_C_count_107, ↓s_C_count_108, ↓s_C_count_109, ↓s_C_count_112, ↓s_C_count_115, ↓s_C_count_116, ↓s_C_count_118, Qi, e1, e2, e3, e4, e5, e6, k1, k2, nI_leI, nI_ltI, nI_eq, N_z, nI_add, pk_sub, pk_mul, kL_i, kL_r, kL_d, kL_l, kL_k, kL_f, Option.toList_some, Option.toList_none, List.cons_append, List.nil_append, bI_z, N_and, N_or, N_shl, N_shr, Nat.one_mul, Nat.reduceAdd, lg_cmp_eq, L_and, L_or, bI_1, bI_0, if_true, if_false, reduceIte, N_m1x, ite_not]
theorem l_M_countNow1 (c : M0 σ g hj) {x : Int32} : ∀ (k i : Nat), i + k = σ 2 0 → wp X d m_M_countNow 9 [.ref 51, .int x, .int (nI (cnt1 (fun r => decide (σ 4 r = 0)) i)), .int (nI i)] [] (HP g hj) Q = Q (some (.int (nI (cnt1 (fun r => decide (σ 4 r = 0)) (σ 2 0))))) (HP g hj)
  | 0, i, hi => by
    have w := c.1.2.1.1
    have e0 := c.2.1.1
    have : i = σ 2 0 := by omega
    subst this
    rw [s_M_countNow_9]
    simp (disch := omega) only [↓s_M_countNow_10, ↓s_M_countNow_11, ↓s_M_countNow_14, ↓s_M_countNow_41, ↓s_M_countNow_72, ↓s_M_countNow_73, nI_leI, nI_ltI, nI_eq, N_z, nI_add, pk_sub, pk_mul, kL_i, kL_r, kL_d, kL_l, kL_k, kL_f, Option.toList_some, Option.toList_none, List.cons_append, List.nil_append, bI_z, N_and, N_or, N_shl, N_shr, Nat.one_mul, Nat.reduceAdd, lg_cmp_eq, L_and, L_or, bI_1, bI_0, if_true, if_false, reduceIte, N_m1x, ite_not, e0, Nat.le_refl]
  | k + 1, i, hi => by
    have w := c.1.2.1.1
    have e0 := c.2.1.1
    have f := (c.2.1.2 i (by omega)).2.1
    have f2 := (c.1.2.1.2 i (by omega)).2.1
    have e : cnt1 (fun r => decide (σ 4 r = 0)) (i + 1) = cnt1 (fun r => decide (σ 4 r = 0)) i + (if decide (σ 4 i = 0) = true then 1 else 0) := rfl
    rw [s_M_countNow_9]
    simp (disch := omega) only [↓s_M_countNow_10, ↓s_M_countNow_11, ↓s_M_countNow_14, ↓s_M_countNow_17, ↓s_M_countNow_18, ↓s_M_countNow_19, ↓s_M_countNow_22, ↓s_M_countNow_23, ↓s_M_countNow_24, ↓s_M_countNow_25, ↓s_M_countNow_28, ↓s_M_countNow_29, ↓s_M_countNow_32, ↓s_M_countNow_33, ↓s_M_countNow_34, ↓s_M_countNow_35, ↓s_M_countNow_38, nI_leI, nI_ltI, nI_eq, N_z, nI_add, pk_sub, pk_mul, kL_i, kL_r, kL_d, kL_l, kL_k, kL_f, Option.toList_some, Option.toList_none, List.cons_append, List.nil_append, bI_z, N_and, N_or, N_shl, N_shr, Nat.one_mul, Nat.reduceAdd, lg_cmp_eq, L_and, L_or, bI_1, bI_0, if_true, if_false, reduceIte, N_m1x, ite_not, e0, f, oI_m1]
    rw [if_neg (by omega)]
    by_cases h1 : σ 4 i = 0
    · rw [if_pos h1]
      rw [if_pos (decide_eq_true h1)] at e
      rw [← e]
      exact l_M_countNow1 c k (i + 1) (by omega)
    · rw [if_neg h1]
      rw [if_neg (by simpa using h1)] at e
      rw [← e]
      exact l_M_countNow1 c k (i + 1) (by omega)
theorem l_M_countNow2 (c : M0 σ g hj) {x : Int32} : ∀ (k i : Nat), i + k = σ 11 0 → wp X (d + 1) m_M_countNow 46 [.ref 51, .int x, .int (nI (usn σ i)), .int (nI i)] [] (HP g hj) Q = Q (some (.int (nI (usn σ (σ 11 0))))) (HP g hj)
  | 0, i, hi => by
    have w := c.1.2.2.2.1.1
    have e0 := c.2.2.2.1
    have : i = σ 11 0 := by omega
    subst this
    rw [s_M_countNow_46]
    simp (disch := omega) only [↓s_M_countNow_47, ↓s_M_countNow_48, ↓s_M_countNow_51, ↓s_M_countNow_72, ↓s_M_countNow_73, nI_leI, nI_ltI, nI_eq, N_z, nI_add, pk_sub, pk_mul, kL_i, kL_r, kL_d, kL_l, kL_k, kL_f, Option.toList_some, Option.toList_none, List.cons_append, List.nil_append, bI_z, N_and, N_or, N_shl, N_shr, Nat.one_mul, Nat.reduceAdd, lg_cmp_eq, L_and, L_or, bI_1, bI_0, if_true, if_false, reduceIte, N_m1x, ite_not, e0, Nat.le_refl]
  | k + 1, i, hi => by
    have w := c.1.2.2.2.1.1
    have e0 := c.2.2.2.1
    have f := (c.2.2.2.2.2 i (by omega)).2.1
    have f2 := (c.1.2.2.2.1.2 i (by omega)).2.1
    have e : usn σ (i + 1) = usn σ i + pcn (σ 13 i) 16 := rfl
    rw [s_M_countNow_46]
    simp (disch := omega) only [↓s_M_countNow_47, ↓s_M_countNow_48, ↓s_M_countNow_51, ↓s_M_countNow_54, ↓s_M_countNow_55, ↓s_M_countNow_56, ↓s_M_countNow_59, ↓s_M_countNow_60, ↓s_M_countNow_61, ↓s_M_countNow_64, ↓s_M_countNow_65, ↓s_M_countNow_66, ↓s_M_countNow_69, nI_leI, nI_ltI, nI_eq, N_z, nI_add, pk_sub, pk_mul, kL_i, kL_r, kL_d, kL_l, kL_k, kL_f, Option.toList_some, Option.toList_none, List.cons_append, List.nil_append, bI_z, N_and, N_or, N_shl, N_shr, Nat.one_mul, Nat.reduceAdd, lg_cmp_eq, L_and, L_or, bI_1, bI_0, if_true, if_false, reduceIte, N_m1x, ite_not, e0, f, c_M_onesOf, ← e]
    rw [if_neg (by omega)]
    exact l_M_countNow2 c k (i + 1) (by omega)
theorem p_M_countA (c : MR t n σ τ g hj) : cwp X (d + 2) m_M_count [.ref 51, .int a1] (HP g hj) Q = Q (some (.int (ctA n σ τ a1))) (HP g hj) := by
  have e1 := c.1.1
  have e2 := c.2.1.2.1.1
  have e3 := c.2.1.2.2.1.1
  have e4 := c.2.1.2.2.2.1
  have e5 := c.2.1.2.2.2.2.1
  have e6 := c.2.2.2.2.1
  unfold ctA
  have k1 : ∀ Q', cwp X (d + 1) m_M_countNow [.ref 51, .int (nI 1)] (HP g hj) Q' = Q' (some (.int (nI (cnt1 (fun r => decide (σ 4 r = 0)) (σ 2 0))))) (HP g hj) := fun Q' => by
    simp only [e_M_countNow, ↓s_M_countNow_0, ↓s_M_countNow_1, ↓s_M_countNow_2, ↓s_M_countNow_3, ↓s_M_countNow_4, ↓s_M_countNow_7, ↓s_M_countNow_8, kL_i, kL_d, kL_r, not_true_eq_false, if_false]
    exact l_M_countNow1 c.2.1 (σ 2 0) 0 (by omega)
  have k2 : ∀ Q', cwp X (d + 1) m_M_countNow [.ref 51, .int (nI 6)] (HP g hj) Q' = Q' (some (.int (nI (usn σ (σ 11 0))))) (HP g hj) := fun Q' => by
    simp only [e_M_countNow, ↓s_M_countNow_0, ↓s_M_countNow_1, ↓s_M_countNow_2, ↓s_M_countNow_3, ↓s_M_countNow_4, kL_i, kL_d, kL_r]
    rw [if_pos (by decide)]
    simp only [↓s_M_countNow_44, ↓s_M_countNow_45, kL_i, kL_d, kL_r]
    exact l_M_countNow2 c.2.1 (σ 11 0) 0 (by omega)
  simp only [e_M_count, ↓s_M_count_0, ↓s_M_count_1, ↓s_M_count_52, ↓s_M_count_53, ↓s_M_count_56, ↓s_M_count_63, ↓s_M_count_64, ↓s_M_count_67, ↓s_M_count_68, ↓s_M_count_69, ↓s_M_count_72, ↓s_M_count_73, ↓s_M_count_74, ↓s_M_count_77, ↓s_M_count_78, ↓s_M_count_79, ↓s_M_count_82, ↓s_M_count_83, ↓s_M_count_84, ↓s_M_count_87, ↓s_M_count_88, ↓s_M_count_90, Qi, e1, e2, e3, e4, e5, e6]
  by_cases h1 : a1 = nI 1
  · subst h1
    simp only [↓s_M_count_57, ↓s_M_count_58, ↓s_M_count_59, ↓s_M_count_62, k1, Option.toList_some, List.cons_append, List.nil_append, if_true, if_false, eq_self, show (nI 1 = nI 0) = False from eq_false (by decide)]
  by_cases h2 : a1 = nI 6
  · subst h2
    simp only [↓s_M_count_57, ↓s_M_count_58, ↓s_M_count_59, ↓s_M_count_62, k2, Option.toList_some, List.cons_append, List.nil_append, if_true, if_false, eq_self, show (nI 6 = nI 0) = False from eq_false (by decide), show (nI 6 = nI 1) = False from eq_false (by decide), show (nI 6 = nI 2) = False from eq_false (by decide), show (nI 6 = nI 3) = False from eq_false (by decide), show (nI 6 = nI 4) = False from eq_false (by decide), show (nI 6 = nI 5) = False from eq_false (by decide)]
  simp only [h1, h2, if_false]
theorem p_C_count (c : CR t n σ τ g hj) (K : KC g hj Q (ctS t n σ τ a1)) : cwp X (d + 2) m_C_count [.ref 0, .int a1] (HP g hj) Q := by
  rw [p_C_countA c]; exact KC_0 c K
theorem p_M_count (c : MR t n σ τ g hj) (K : KM g hj Q (ctS t n σ τ a1)) : cwp X (d + 2) m_M_count [.ref 51, .int a1] (HP g hj) Q := by
  rw [p_M_countA c]; exact KM_0 c K
end GAP
