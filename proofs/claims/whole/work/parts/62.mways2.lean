/-! the model: empty, clean, write -/
theorem clF_ok (σ : ST) : ∀ l, (clF σ l).1 ≤ l ∧ ((clF σ l).1 = 0 → (clF σ l).2 = 0) ∧ ((clF σ l).1 ≠ 0 → (clF σ l).2 = wthC σ ((clF σ l).1 - 1) ∧ 0 < wthC σ ((clF σ l).1 - 1))
  | 0 => ⟨Nat.le_refl 0, fun _ => rfl, fun h => absurd rfl h⟩
  | l + 1 => by
    obtain ⟨h1, h2, h3⟩ := clF_ok σ l
    unfold clF
    split
    · rename_i hc
      refine ⟨Nat.le_refl _, fun z => by simp at z, fun _ => ⟨rfl, ?_⟩⟩
      show 0 < wthC σ l
      omega
    · exact ⟨by omega, h2, h3⟩
noncomputable def cms (σ : ST) (l : Nat) : Nat := if (clF σ l).1 = 0 then 0 else 100 * stN σ ((clF σ l).1 - 1) + pcn (σ 13 ((clF σ l).1 - 1)) 16
theorem wth_pos {σ : ST} {l : Nat} (h : 0 < wthC σ l) : 2 ≤ stN σ l ∧ 1 ≤ pcn (σ 13 l) 16 ∧ wthC σ l = stN σ l * 17 + pcn (σ 13 l) 16 := by
  unfold wthC at h ⊢
  by_cases hc : stN σ l < 2 ∨ pcn (σ 13 l) 16 < 1
  · rw [if_pos hc] at h; omega
  · rw [if_neg hc]; omega
theorem cms_cmp {σ : ST} {l k : Nat} : (clF σ l).2 < wthC σ k ↔ (200 ≤ 100 * stN σ k + pcn (σ 13 k) 16 ∧ 0 < pcn (σ 13 k) 16 ∧ cms σ l < 100 * stN σ k + pcn (σ 13 k) 16) := by
  obtain ⟨h1, h2, h3⟩ := clF_ok σ l
  have p1 := pcn_le (σ 13 k) 16
  unfold cms
  by_cases hw : 0 < wthC σ k
  · obtain ⟨w1, w2, w3⟩ := wth_pos hw
    by_cases h0 : (clF σ l).1 = 0
    · rw [if_pos h0, h2 h0]
      omega
    · obtain ⟨a1, a2⟩ := h3 h0
      obtain ⟨b1, b2, b3⟩ := wth_pos a2
      have p2 := pcn_le (σ 13 ((clF σ l).1 - 1)) 16
      rw [if_neg h0, a1, w3, b3]
      omega
  · constructor
    · intro z; omega
    · rintro ⟨z1, z2, z3⟩
      exfalso
      apply hw
      unfold wthC
      rw [if_neg (by omega)]
      omega
noncomputable def wrT (σ : ST) (s : Nat) : Nat → Nat → ST → ST
  | 0, _, τ => τ
  | m + 1, l, τ => wrT σ s m (l + 1) (puT τ s l (bstA σ l 0))
noncomputable def wrS (t : Nat → Nat) (n : Nat) (σ τ : ST) (a : Int32) : SS := if inR a 4 then (if τ 19 (nn a) = 0 then (t, n, σ, fnT τ 1, fnA 1) else if rf σ = 0 then (t, n, σ, wrT σ (nn a) (min (τ 21 (nn a)) (σ 11 0)) 0 τ, nI (min (τ 21 (nn a)) (σ 11 0))) else (t, n, σ, τ, rf σ)) else (t, n, σ, τ, -2)
section MW2
variable {X : AX} {d : Nat} {Q : Option Value → AH → Prop} {g : Nat → Nat → Int32} {hj : Nat → Nat → Int64} {σ τ : ST} {t : Nat → Nat} {n : Nat} {a a1 a2 : Int32}
theorem l_M_empty2 {h : Nat} {v1 v2 : Value} {P : Prop} (c : M0 σ g hj) (f : FM σ g hj) (hh : h < σ 6 0) : ∀ (m l : Nat) (acc : Bool), l + m = σ 11 0 → (wp X (d + 2) m_M_emptyNow 64 [.ref 51, v1, v2, .int (nI h), .int (bI ((acc && !anyF (fun l => isB σ l h) m l) = true)), .int (nI (σ 11 0))] [] (HP g hj) Q = P) → wp X (d + 2) m_M_emptyNow 27 [.ref 51, v1, v2, .int (nI h), .int (bI (acc = true)), .int (nI l)] [] (HP g hj) Q = P
  | 0, l, acc, hl, K => by
    have w := c.1.2.2.2.1.1
    have e0 := c.2.2.2.1
    have : l = σ 11 0 := by omega
    subst this
    rw [s_M_emptyNow_27]
    simp (disch := omega) only [↓s_M_emptyNow_29, ↓s_M_emptyNow_30, ↓s_M_emptyNow_33, nI_leI, nI_ltI, nI_eq, N_z, nI_add, pk_sub, pk_mul, kL_i, kL_r, kL_d, kL_l, kL_k, kL_f, Option.toList_some, Option.toList_none, List.cons_append, List.nil_append, bI_z, N_and, N_or, N_shl, N_shr, Nat.one_mul, Nat.reduceAdd, lg_cmp_eq, L_and, L_or, bI_1, bI_0, if_true, if_false, reduceIte, N_m1x, ite_not, e0, Nat.le_refl]
    have e : (acc && !anyF (fun l => isB σ l h) 0 (σ 11 0)) = acc := by unfold anyF; simp
    rw [e] at K
    exact K
  | m + 1, l, acc, hl, K => by
    have w := c.1.2.2.2.1.1
    have e0 := c.2.2.2.1
    have e : anyF (fun l => isB σ l h) (m + 1) l = (isB σ l h || anyF (fun l => isB σ l h) m (l + 1)) := rfl
    rw [e] at K
    rw [s_M_emptyNow_27]
    simp (disch := first | assumption | omega) only [↓s_M_emptyNow_29, ↓s_M_emptyNow_30, ↓s_M_emptyNow_33, ↓s_M_emptyNow_36, ↓s_M_emptyNow_38, ↓s_M_emptyNow_41, ↓s_M_emptyNow_42, ↓s_M_emptyNow_44, ↓s_M_emptyNow_45, ↓s_M_emptyNow_48, ↓s_M_emptyNow_51, ↓s_M_emptyNow_52, ↓s_M_emptyNow_55, ↓s_M_emptyNow_56, ↓s_M_emptyNow_58, ↓s_M_emptyNow_61, nI_leI, nI_ltI, nI_eq, N_z, nI_add, pk_sub, pk_mul, kL_i, kL_r, kL_d, kL_l, kL_k, kL_f, Option.toList_some, Option.toList_none, List.cons_append, List.nil_append, bI_z, N_and, N_or, N_shl, N_shr, Nat.one_mul, Nat.reduceAdd, lg_cmp_eq, L_and, L_or, bI_1, bI_0, if_true, if_false, reduceIte, N_m1x, ite_not, e0, c_M_isBy c f]
    rw [if_neg (by omega)]
    cases acc
    · rw [if_neg (by simp)]
      have ih := l_M_empty2 (v1 := v1) (v2 := v2) (P := P) c f hh m (l + 1) false (by omega) (by simpa using K)
      rw [bI_f (by simp)] at ih
      exact ih
    · rw [if_pos rfl]
      by_cases h1 : isB σ l h = true
      · rw [if_pos h1]
        have ih := l_M_empty2 (v1 := v1) (v2 := v2) (P := P) c f hh m (l + 1) false (by omega) (by simpa [h1] using K)
        rw [bI_f (by simp)] at ih
        exact ih
      · rw [if_neg h1]
        have h1' : isB σ l h = false := by simpa using h1
        have ih := l_M_empty2 (v1 := v1) (v2 := v2) (P := P) c f hh m (l + 1) true (by omega) (by rw [h1', Bool.false_or] at K; exact K)
        rw [bI_t rfl] at ih
        exact ih
theorem l_M_empty1 (c : M0 σ g hj) (f : FM σ g hj) : ∀ (m h : Nat) (v4 v5 : Value), h + m = σ 6 0 → wp X (d + 2) m_M_emptyNow 9 [.ref 51, .int (nI 0), .int (nI (bts (fun h => !anyF (fun l => isB σ l h) (σ 11 0) 0) h)), .int (nI h), v4, v5] [] (HP g hj) Q = Q (some (.int (nI (bts (fun h => !anyF (fun l => isB σ l h) (σ 11 0) 0) (σ 6 0))))) (HP g hj)
  | 0, h, v4, v5, hh => by
    have w := c.1.2.2.1.1
    have e0 := c.2.2.1.1
    have : h = σ 6 0 := by omega
    subst this
    rw [s_M_emptyNow_9]
    simp (disch := omega) only [↓s_M_emptyNow_10, ↓s_M_emptyNow_11, ↓s_M_emptyNow_14, ↓s_M_emptyNow_17, ↓s_M_emptyNow_18, ↓s_M_emptyNow_85, ↓s_M_emptyNow_86, ↓s_M_emptyNow_89, ↓s_M_emptyNow_90, ↓s_M_emptyNow_93, ↓s_M_emptyNow_94, nI_leI, nI_ltI, nI_eq, N_z, nI_add, pk_sub, pk_mul, kL_i, kL_r, kL_d, kL_l, kL_k, kL_f, Option.toList_some, Option.toList_none, List.cons_append, List.nil_append, bI_z, N_and, N_or, N_shl, N_shr, Nat.one_mul, Nat.reduceAdd, lg_cmp_eq, L_and, L_or, bI_1, bI_0, if_true, if_false, reduceIte, N_m1x, ite_not, Nat.one_ne_zero, Nat.zero_ne_one, eq_self, not_true_eq_false, not_false_eq_true, e0, Nat.le_refl]
  | m + 1, h, v4, v5, hh => by
    have w := c.1.2.2.1.1
    have e0 := c.2.2.1.1
    have e : bts (fun h => !anyF (fun l => isB σ l h) (σ 11 0) 0) (h + 1) = bts (fun h => !anyF (fun l => isB σ l h) (σ 11 0) 0) h ||| (if (!anyF (fun l => isB σ l h) (σ 11 0) 0) = true then 2 ^ h else 0) := rfl
    rw [s_M_emptyNow_9]
    simp (disch := omega) only [↓s_M_emptyNow_10, ↓s_M_emptyNow_11, ↓s_M_emptyNow_14, ↓s_M_emptyNow_17, ↓s_M_emptyNow_18, ↓s_M_emptyNow_21, ↓s_M_emptyNow_22, ↓s_M_emptyNow_24, ↓s_M_emptyNow_25, nI_leI, nI_ltI, nI_eq, N_z, nI_add, pk_sub, pk_mul, kL_i, kL_r, kL_d, kL_l, kL_k, kL_f, Option.toList_some, Option.toList_none, List.cons_append, List.nil_append, bI_z, N_and, N_or, N_shl, N_shr, Nat.one_mul, Nat.reduceAdd, lg_cmp_eq, L_and, L_or, bI_1, bI_0, if_true, if_false, reduceIte, N_m1x, ite_not, Nat.one_ne_zero, Nat.zero_ne_one, eq_self, not_true_eq_false, not_false_eq_true, e0]
    rw [if_neg (by omega)]
    refine l_M_empty2 c f (by omega) (σ 11 0) 0 true (by omega) ?_
    rw [Bool.true_and]
    simp (disch := omega) only [↓s_M_emptyNow_64, ↓s_M_emptyNow_65, ↓s_M_emptyNow_67, ↓s_M_emptyNow_70, ↓s_M_emptyNow_71, ↓s_M_emptyNow_72, ↓s_M_emptyNow_73, ↓s_M_emptyNow_76, ↓s_M_emptyNow_77, ↓s_M_emptyNow_78, ↓s_M_emptyNow_79, ↓s_M_emptyNow_82, nI_leI, nI_ltI, nI_eq, N_z, nI_add, pk_sub, pk_mul, kL_i, kL_r, kL_d, kL_l, kL_k, kL_f, Option.toList_some, Option.toList_none, List.cons_append, List.nil_append, bI_z, N_and, N_or, N_shl, N_shr, Nat.one_mul, Nat.reduceAdd, lg_cmp_eq, L_and, L_or, bI_1, bI_0, if_true, if_false, reduceIte, N_m1x, ite_not]
    by_cases h1 : (!anyF (fun l => isB σ l h) (σ 11 0) 0) = true
    · rw [if_pos h1] at e ⊢
      rw [← e]
      exact l_M_empty1 c f m (h + 1) _ _ (by omega)
    · rw [if_neg h1] at e ⊢
      rw [← e]
      exact l_M_empty1 c f m (h + 1) _ _ (by omega)
theorem c_M_emptyNow (c : MR t n σ τ g hj) (K : KFr g hj Q t n σ τ (aEmpty σ)) : cwp X (d + 8) m_M_emptyNow [.ref 51] (HP g hj) Q := by
  simp only [e_M_emptyNow, ↓s_M_emptyNow_0, ↓s_M_emptyNow_1]
  refine c_M_refuses c (fun g' hj' c' e1 e2 => ?_)
  have := K g' hj' c' e1 e2
  have w := c'.1.2.1.1.2.2.1.1
  have e0 := c'.1.2.1.2.2.1.1
  unfold aEmpty at this
  simp (disch := omega) only [↓s_M_emptyNow_4, ↓s_M_emptyNow_5, ↓s_M_emptyNow_6, ↓s_M_emptyNow_7, ↓s_M_emptyNow_8, Option.toList_some, List.cons_append, List.nil_append, kL_r, kL_i]
  by_cases h0 : rf σ = 0
  · rw [orR_0 h0] at this
    obtain ⟨h1, h2⟩ := rf_0 h0
    rw [h0]
    exact (l_M_empty1 c'.1.2.1 (c'.2 h1).2 (σ 6 0) 0 _ _ (by omega)).mpr this
  · rw [orR_n h0] at this
    rw [s_M_emptyNow_9]
    simp (disch := omega) only [↓s_M_emptyNow_10, ↓s_M_emptyNow_11, ↓s_M_emptyNow_14, ↓s_M_emptyNow_17, ↓s_M_emptyNow_18, ↓s_M_emptyNow_85, ↓s_M_emptyNow_86, ↓s_M_emptyNow_89, ↓s_M_emptyNow_90, ↓s_M_emptyNow_93, ↓s_M_emptyNow_94, nI_leI, nI_ltI, nI_eq, N_z, nI_add, pk_sub, pk_mul, kL_i, kL_r, kL_d, kL_l, kL_k, kL_f, Option.toList_some, Option.toList_none, List.cons_append, List.nil_append, bI_z, N_and, N_or, N_shl, N_shr, Nat.one_mul, Nat.reduceAdd, lg_cmp_eq, L_and, L_or, bI_1, bI_0, if_true, if_false, reduceIte, N_m1x, ite_not, e0, h0, ite_self]
    exact this
theorem p_M_empty (c : MR t n σ τ g hj) (K : KM g hj Q (t, n, σ, τ, aEmpty σ)) : cwp X (d + 9) m_M_empty [.ref 51] (HP g hj) Q := by
  simp only [e_M_empty, ↓s_M_empty_0, ↓s_M_empty_1]
  refine c_M_emptyNow c (fun g' hj' c' e1 e2 => ?_)
  simp (disch := omega) only [↓s_M_empty_4, nI_leI, nI_ltI, nI_eq, N_z, nI_add, pk_sub, pk_mul, kL_i, kL_r, kL_d, kL_l, kL_k, kL_f, Option.toList_some, Option.toList_none, List.cons_append, List.nil_append, bI_z, N_and, N_or, N_shl, N_shr, Nat.one_mul, Nat.reduceAdd, lg_cmp_eq, L_and, L_or, bI_1, bI_0, if_true, if_false, reduceIte, N_m1x, ite_not]
  exact K g' hj' c'.1 e1 e2
theorem l_M_clean {v1 : Value} (c : M0 σ g hj) (f : FM σ g hj) : ∀ (m l : Nat) (v5 v6 : Value), l + m = σ 11 0 → wp X (d + 2) m_M_clean 18 [.ref 51, v1, .int (oI (clF σ l).1), .int (nI (cms σ l)), .int (nI l), v5, v6] [] (HP g hj) Q = Q (some (.int (oI (clF σ (σ 11 0)).1))) (HP g hj)
  | 0, l, v5, v6, hl => by
    have w := c.1.2.2.2.1.1
    have e0 := c.2.2.2.1
    have : l = σ 11 0 := by omega
    subst this
    rw [s_M_clean_18]
    simp (disch := omega) only [↓s_M_clean_20, ↓s_M_clean_21, ↓s_M_clean_24, ↓s_M_clean_96, ↓s_M_clean_97, nI_leI, nI_ltI, nI_eq, N_z, nI_add, pk_sub, pk_mul, kL_i, kL_r, kL_d, kL_l, kL_k, kL_f, Option.toList_some, Option.toList_none, List.cons_append, List.nil_append, bI_z, N_and, N_or, N_shl, N_shr, Nat.one_mul, Nat.reduceAdd, lg_cmp_eq, L_and, L_or, bI_1, bI_0, if_true, if_false, reduceIte, N_m1x, ite_not, e0, Nat.le_refl]
  | m + 1, l, v5, v6, hl => by
    have w := c.1.2.2.2.1.1
    have e0 := c.2.2.2.1
    have w3 : 2 ^ σ 11 0 ≤ 2 ^ 12 := pow_le w
    have w4 := prs_lt σ
    have sn := stN_le (σ := σ) (l := l)
    have f1 := (c.2.2.2.2.2 l (by omega)).2.1
    have x1 := (c.1.2.2.2.1.2 l (by omega)).2.1
    have pn := pcn_le (σ 13 l) 16
    have cmb : cms σ l ≤ 1616 := by
      have s2 := stN_le (σ := σ) (l := (clF σ l).1 - 1)
      have p2 := pcn_le (σ 13 ((clF σ l).1 - 1)) 16
      unfold cms
      split <;> omega
    have cc := cms_cmp (σ := σ) (l := l) (k := l)
    have e : clF σ (l + 1) = if (clF σ l).2 < wthC σ l then (l + 1, wthC σ l) else clF σ l := rfl
    have z0 : (nI (pcn (σ 13 l) 16) ≤ 0) = (pcn (σ 13 l) 16 = 0) := by
      rw [show (0 : Int32) = nI 0 from rfl]
      apply propext
      rw [nI_leI (by omega) (by omega)]
      omega
    have no : ∀ v5 v6, ¬ (clF σ l).2 < wthC σ l → wp X (d + 2) m_M_clean 90 [.ref 51, v1, .int (oI (clF σ l).1), .int (nI (cms σ l)), .int (nI l), v5, v6] [] (HP g hj) Q = Q (some (.int (oI (clF σ (σ 11 0)).1))) (HP g hj) := by
      intro v5 v6 hn
      rw [if_neg hn] at e
      simp (disch := omega) only [↓s_M_clean_90, ↓s_M_clean_93, nI_leI, nI_ltI, nI_eq, N_z, nI_add, pk_sub, pk_mul, kL_i, kL_r, kL_d, kL_l, kL_k, kL_f, Option.toList_some, Option.toList_none, List.cons_append, List.nil_append, bI_z, N_and, N_or, N_shl, N_shr, Nat.one_mul, Nat.reduceAdd, lg_cmp_eq, L_and, L_or, bI_1, bI_0, if_true, if_false, reduceIte, N_m1x, ite_not]
      have ec : cms σ (l + 1) = cms σ l := by unfold cms; rw [e]
      rw [← e, ← ec]
      exact l_M_clean c f m (l + 1) _ _ (by omega)
    rw [s_M_clean_18]
    simp (disch := omega) only [↓s_M_clean_20, ↓s_M_clean_21, ↓s_M_clean_24, ↓s_M_clean_27, ↓s_M_clean_28, ↓s_M_clean_31, ↓s_M_clean_33, ↓s_M_clean_34, ↓s_M_clean_37, ↓s_M_clean_39, ↓s_M_clean_41, ↓s_M_clean_42, ↓s_M_clean_44, ↓s_M_clean_47, ↓s_M_clean_48, ↓s_M_clean_50, ↓s_M_clean_51, ↓s_M_clean_53, ↓s_M_clean_54, ↓s_M_clean_57, ↓s_M_clean_59, ↓s_M_clean_62, ↓s_M_clean_65, ↓s_M_clean_67, ↓s_M_clean_70, ↓s_M_clean_73, ↓s_M_clean_75, ↓s_M_clean_78, ↓s_M_clean_80, ↓s_M_clean_81, nI_leI, nI_ltI, nI_eq, N_z, nI_add, pk_sub, pk_mul, kL_i, kL_r, kL_d, kL_l, kL_k, kL_f, Option.toList_some, Option.toList_none, List.cons_append, List.nil_append, bI_z, N_and, N_or, N_shl, N_shr, Nat.one_mul, Nat.reduceAdd, lg_cmp_eq, L_and, L_or, bI_1, bI_0, if_true, if_false, reduceIte, N_m1x, ite_not, e0, f1, c_M_onesOf, c_M_stonesOf c (FM_may f (show l < σ 11 0 by omega)), c_M_present c, c_M_has, z0]
    rw [if_neg (by omega), prs_tb (by omega) w]
    by_cases hA : (σ 18 0).testBit l = true
    · rw [if_neg (by simp [hA])]
      refine no _ _ ?_
      have s0 := stN_0 hA
      omega
    rw [if_pos (by simp [hA])]
    by_cases h1 : 100 * stN σ l + pcn (σ 13 l) 16 < 200
    · rw [if_pos h1]
      exact no _ _ (by omega)
    rw [if_neg h1]
    by_cases h2 : pcn (σ 13 l) 16 = 0
    · rw [if_pos h2]
      exact no _ _ (by omega)
    rw [if_neg h2]
    by_cases h3 : 100 * stN σ l + pcn (σ 13 l) 16 ≤ cms σ l
    · rw [if_pos h3]
      exact no _ _ (by omega)
    rw [if_neg h3]
    have hw : (clF σ l).2 < wthC σ l := cc.mpr ⟨by omega, by omega, by omega⟩
    rw [if_pos hw] at e
    have ec : cms σ (l + 1) = 100 * stN σ l + pcn (σ 13 l) 16 := by unfold cms; rw [e]; rfl
    have eo : oI (clF σ (l + 1)).1 = nI l := by rw [e]; rfl
    simp (disch := omega) only [↓s_M_clean_84, ↓s_M_clean_86, ↓s_M_clean_87, ↓s_M_clean_89, ↓s_M_clean_90, ↓s_M_clean_93, nI_leI, nI_ltI, nI_eq, N_z, nI_add, pk_sub, pk_mul, kL_i, kL_r, kL_d, kL_l, kL_k, kL_f, Option.toList_some, Option.toList_none, List.cons_append, List.nil_append, bI_z, N_and, N_or, N_shl, N_shr, Nat.one_mul, Nat.reduceAdd, lg_cmp_eq, L_and, L_or, bI_1, bI_0, if_true, if_false, reduceIte, N_m1x, ite_not]
    rw [← ec, ← eo]
    exact l_M_clean c f m (l + 1) _ _ (by omega)
theorem p_M_clean (c : MR t n σ τ g hj) (K : KM g hj Q (t, n, σ, τ, aClean σ)) : cwp X (d + 8) m_M_clean [.ref 51] (HP g hj) Q := by
  simp only [e_M_clean, ↓s_M_clean_0, ↓s_M_clean_1]
  refine c_M_refuses c (fun g' hj' c' e1 e2 => ?_)
  have := K g' hj' c'.1 e1 e2
  change Q (some (.int (aClean σ))) (HP g' hj') at this
  unfold aClean at this
  simp (disch := omega) only [↓s_M_clean_4, ↓s_M_clean_5, ↓s_M_clean_6, ↓s_M_clean_9, ↓s_M_clean_10, Option.toList_some, List.cons_append, List.nil_append, kL_r, kL_i]
  by_cases h0 : rf σ = 0
  · rw [orR_0 h0] at this
    obtain ⟨h1, h2⟩ := rf_0 h0
    rw [if_pos h0]
    simp (disch := omega) only [↓s_M_clean_11, ↓s_M_clean_12, ↓s_M_clean_13, ↓s_M_clean_14, ↓s_M_clean_15, ↓s_M_clean_16, kL_r, kL_i]
    exact (l_M_clean c'.1.2.1 (c'.2 h1).2 (σ 11 0) 0 _ _ (by omega)).mpr this
  · rw [orR_n h0] at this
    rw [if_neg h0]
    exact this
theorem l_M_write {s M : Nat} {v2 : Value} {g0 : Nat → Nat → Int32} {hj0 : Nat → Nat → Int64} (hs : s < 4) (hr : rf σ = 0) (hM : M ≤ 12) : ∀ (m l : Nat) (τ : ST) (g : Nat → Nat → Int32) (hj : Nat → Nat → Int64), l + m = M → min (τ 21 s) (σ 11 0) = M → τ 19 s ≠ 0 → MR t n σ τ g hj → (∀ k, k ≤ 50 → g k = g0 k) → (∀ k, k ≤ 50 → hj k = hj0 k) → KM g0 hj0 Q (t, n, σ, wrT σ s m l τ, nI M) →
    wp X (d + 9) m_M_write 38 [.ref 51, .int (nI s), v2, .int (nI l)] [] (HP g hj) Q
  | 0, l, τ, g, hj, hl, hm, h0, c, f1, f2, K => by
    have w := c.2.1.1.2.2.2.1.1
    have e0 := c.2.1.2.2.2.1
    have wt := c.2.2.2.1.1 s hs
    have ms := (c.2.2.2.2.2 s hs).2 (by omega)
    have : l = M := by omega
    subst this
    rw [s_M_write_38]
    simp (disch := omega) only [↓s_M_write_39, ↓s_M_write_40, ↓s_M_write_43, ↓s_M_write_46, ↓s_M_write_47, ↓s_M_write_48, ↓s_M_write_51, ↓s_M_write_52, ↓s_M_write_53, ↓s_M_write_74, ↓s_M_write_75, nI_leI, nI_ltI, nI_eq, N_z, nI_add, pk_sub, pk_mul, kL_i, kL_r, kL_d, kL_l, kL_k, kL_f, Option.toList_some, Option.toList_none, List.cons_append, List.nil_append, bI_z, N_and, N_or, N_shl, N_shr, Nat.one_mul, Nat.reduceAdd, lg_cmp_eq, L_and, L_or, bI_1, bI_0, if_true, if_false, reduceIte, N_m1x, ite_not, e0, ms.1]
    have fin := K g hj c f1 f2
    by_cases h1 : σ 11 0 ≤ l
    · rw [if_pos h1]; exact fin
    · rw [if_neg h1, if_pos (by omega)]; exact fin
  | m + 1, l, τ, g, hj, hl, hm, h0, c, f1, f2, K => by
    have w := c.2.1.1.2.2.2.1.1
    have e0 := c.2.1.2.2.2.1
    have wt := c.2.2.2.1.1 s hs
    have ms := (c.2.2.2.2.2 s hs).2 (by omega)
    rw [s_M_write_38]
    simp (disch := omega) only [↓s_M_write_39, ↓s_M_write_40, ↓s_M_write_43, ↓s_M_write_46, ↓s_M_write_47, ↓s_M_write_48, ↓s_M_write_51, ↓s_M_write_52, ↓s_M_write_53, ↓s_M_write_56, ↓s_M_write_57, ↓s_M_write_58, ↓s_M_write_59, ↓s_M_write_60, ↓s_M_write_61, ↓s_M_write_62, nI_leI, nI_ltI, nI_eq, N_z, nI_add, pk_sub, pk_mul, kL_i, kL_r, kL_d, kL_l, kL_k, kL_f, Option.toList_some, Option.toList_none, List.cons_append, List.nil_append, bI_z, N_and, N_or, N_shl, N_shr, Nat.one_mul, Nat.reduceAdd, lg_cmp_eq, L_and, L_or, bI_1, bI_0, if_true, if_false, reduceIte, N_m1x, ite_not, e0, ms.1]
    rw [if_neg (by omega), if_neg (by omega)]
    refine c_M_bestNow c (by omega) (by omega) (fun g' hj' c' e1 e2 => ?_)
    have ev : aBestN σ l 0 = bstA σ l 0 := orR_0 hr
    rw [ev]
    simp (disch := omega) only [↓s_M_write_65, nI_leI, nI_ltI, nI_eq, N_z, nI_add, pk_sub, pk_mul, kL_i, kL_r, kL_d, kL_l, kL_k, kL_f, Option.toList_some, Option.toList_none, List.cons_append, List.nil_append, bI_z, N_and, N_or, N_shl, N_shr, Nat.one_mul, Nat.reduceAdd, lg_cmp_eq, L_and, L_or, bI_1, bI_0, if_true, if_false, reduceIte, N_m1x, ite_not]
    rw [c_M_keep c'.1.2.2.2 hs h0 (by omega)]
    simp (disch := omega) only [↓s_M_write_68, ↓s_M_write_71, nI_leI, nI_ltI, nI_eq, N_z, nI_add, pk_sub, pk_mul, kL_i, kL_r, kL_d, kL_l, kL_k, kL_f, Option.toList_some, Option.toList_none, List.cons_append, List.nil_append, bI_z, N_and, N_or, N_shl, N_shr, Nat.one_mul, Nat.reduceAdd, lg_cmp_eq, L_and, L_or, bI_1, bI_0, if_true, if_false, reduceIte, N_m1x, ite_not]
    have pt21 : puT τ s l (bstA σ l 0) 21 = τ 21 := by unfold puT; simp (disch := omega) only [u2_r]
    have pt19 : puT τ s l (bstA σ l 0) 19 = τ 19 := by unfold puT; simp (disch := omega) only [u2_r]
    refine l_M_write hs hr hM m (l + 1) (puT τ s l (bstA σ l 0)) _ _ (by omega) (by rw [pt21]; exact hm) (by rw [pt19]; exact h0) (MR_sh c'.1 (MS_st c'.1.2.2.2 hs (by omega)) (fun k hk => by simp (disch := omega) only [u2_s, u2_n, u2_m]) (fun k h1 h2 => by simp (disch := omega) only [u2_r])) (fun k hk => ?_) (fun k hk => (e2 k hk).trans (f2 k hk)) K
    rw [u2_r _ _ _ (by omega)]
    exact (e1 k hk).trans (f1 k hk)
theorem p_M_write (c : MR t n σ τ g hj) (K : KM g hj Q (wrS t n σ τ a)) : cwp X (d + 9) m_M_write [.ref 51, .int a] (HP g hj) Q := by
  unfold wrS at K
  simp (disch := omega) only [e_M_write, ↓s_M_write_0, ↓s_M_write_1, ↓s_M_write_4, ↓s_M_write_7, ↓s_M_write_9, c_M_isSheet, nI_leI, nI_ltI, nI_eq, N_z, nI_add, pk_sub, pk_mul, kL_i, kL_r, kL_d, kL_l, kL_k, kL_f, Option.toList_some, Option.toList_none, List.cons_append, List.nil_append, bI_z, N_and, N_or, N_shl, N_shr, Nat.one_mul, Nat.reduceAdd, lg_cmp_eq, L_and, L_or, bI_1, bI_0, if_true, if_false, reduceIte, N_m1x, ite_not]
  by_cases h1 : inR a 4
  case neg =>
    rw [if_neg h1] at K ⊢
    exact KM_0 c K
  rw [if_pos h1] at K ⊢
  obtain ⟨s, hs, rfl⟩ := inR_n h1 (by omega)
  rw [nn_n (by omega)] at K
  have c5 := c.2.2.2
  simp (disch := omega) only [↓s_M_write_10, ↓s_M_write_11, ↓s_M_write_14, ↓s_M_write_15, ↓s_M_write_16, ↓s_M_write_19, ↓s_M_write_20, ↓s_M_write_21, ↓s_M_write_24, c_M_meets, nI_leI, nI_ltI, nI_eq, N_z, nI_add, pk_sub, pk_mul, kL_i, kL_r, kL_d, kL_l, kL_k, kL_f, Option.toList_some, Option.toList_none, List.cons_append, List.nil_append, bI_z, N_and, N_or, N_shl, N_shr, Nat.one_mul, Nat.reduceAdd, lg_cmp_eq, L_and, L_or, bI_1, bI_0, if_true, if_false, reduceIte, N_m1x, ite_not, MS_0 c5 hs]
  by_cases h2 : τ 19 s = 0
  · rw [if_pos h2] at K ⊢
    exact K _ _ (MR_fn c (by omega)) (fun k h1 => by simp (disch := omega) only [u2_r]) (fun _ _ => rfl)
  rw [if_neg h2] at K ⊢
  simp only [↓s_M_write_25, ↓s_M_write_26]
  refine c_M_refuses c (fun g' hj' c' e1 e2 => ?_)
  simp (disch := omega) only [↓s_M_write_29, ↓s_M_write_30, ↓s_M_write_31, ↓s_M_write_34, ↓s_M_write_35, Option.toList_some, List.cons_append, List.nil_append, kL_r, kL_i]
  by_cases h0 : rf σ = 0
  · rw [if_pos h0] at K ⊢
    simp (disch := omega) only [↓s_M_write_36, ↓s_M_write_37, kL_i]
    have w := c.2.1.1.2.2.2.1.1
    exact l_M_write hs h0 (Nat.le_trans (Nat.min_le_right _ _) w) (min (τ 21 s) (σ 11 0)) 0 τ g' hj' (by omega) rfl h2 c'.1 e1 e2 K
  · rw [if_neg h0] at K ⊢
    exact K g' hj' c'.1 e1 e2
end MW2
