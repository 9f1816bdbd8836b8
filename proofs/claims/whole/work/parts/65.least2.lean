section ML
variable {X : AX} {d : Nat} {Q : Option Value → AH → Prop} {g0 : Nat → Nat → Int32} {g : Nat → Nat → Int32} {hj : Nat → Nat → Int64} {σ τ : ST} {t : Nat → Nat} {n : Nat} {a1 : Int32}
theorem l_M_leastO {s : Nat} {v3 : Value} (c : M0 σ g0 hj) (hs : s < 65536) (Kc : ∀ g v2, (∀ k, k ≠ 51 → k ≠ 73 → g k = g0 k) → (∀ i, i ≠ 30 → g 51 i = g0 51 i) → g 51 30 = nI (sl s (σ 11 0)).length → (∀ p, p < (sl s (σ 11 0)).length → g 73 p = nI ((sl s (σ 11 0)).getD p 0)) → wp X (d + 5) m_M_leastNow 66 [.ref 51, .int (nI s), v2, v3] [] (HP g hj) Q) :
    ∀ (m l : Nat) (g : Nat → Nat → Int32), l + m = σ 11 0 → (∀ k, k ≠ 51 → k ≠ 73 → g k = g0 k) → (∀ i, i ≠ 30 → g 51 i = g0 51 i) → g 51 30 = nI (sl s l).length → (∀ p, p < (sl s l).length → g 73 p = nI ((sl s l).getD p 0)) →
    wp X (d + 5) m_M_leastNow 24 [.ref 51, .int (nI s), .int (nI l), v3] [] (HP g hj) Q
  | 0, l, g, hl, e1, e2, e3, e4 => by
    have w := c.1.2.2.2.1.1
    have e0 : g 51 14 = nI (σ 11 0) := by rw [e2 _ (by omega)]; exact c.2.2.2.1
    have : l = σ 11 0 := by omega
    subst this
    rw [s_M_leastNow_24]
    simp (disch := omega) only [↓s_M_leastNow_25, ↓s_M_leastNow_26, ↓s_M_leastNow_29, nI_leI, nI_ltI, nI_eq, N_z, nI_add, pk_sub, pk_mul, kL_i, kL_r, kL_d, kL_l, kL_k, kL_f, Option.toList_some, Option.toList_none, List.cons_append, List.nil_append, bI_z, N_and, N_or, N_shl, N_shr, Nat.one_mul, Nat.reduceAdd, lg_cmp_eq, L_and, L_or, bI_1, bI_0, if_true, if_false, reduceIte, N_m1x, ite_not, e0, Nat.le_refl]
    exact Kc g _ e1 e2 e3 e4
  | m + 1, l, g, hl, e1, e2, e3, e4 => by
    have w := c.1.2.2.2.1.1
    have e0 : g 51 14 = nI (σ 11 0) := by rw [e2 _ (by omega)]; exact c.2.2.2.1
    have sln := sl_len (s := s) l
    have e : sl s (l + 1) = if s.testBit l = true then sl s l ++ [l] else sl s l := rfl
    rw [s_M_leastNow_24]
    simp (disch := omega) only [↓s_M_leastNow_25, ↓s_M_leastNow_26, ↓s_M_leastNow_29, ↓s_M_leastNow_32, ↓s_M_leastNow_33, ↓s_M_leastNow_34, ↓s_M_leastNow_37, ↓s_M_leastNow_40, ↓s_M_leastNow_41, ↓s_M_leastNow_44, ↓s_M_leastNow_45, ↓s_M_leastNow_48, ↓s_M_leastNow_49, ↓s_M_leastNow_50, ↓s_M_leastNow_51, ↓s_M_leastNow_52, ↓s_M_leastNow_55, ↓s_M_leastNow_56, ↓s_M_leastNow_57, ↓s_M_leastNow_60, ↓s_M_leastNow_63, nI_leI, nI_ltI, nI_eq, N_z, nI_add, pk_sub, pk_mul, kL_i, kL_r, kL_d, kL_l, kL_k, kL_f, Option.toList_some, Option.toList_none, List.cons_append, List.nil_append, bI_z, N_and, N_or, N_shl, N_shr, Nat.one_mul, Nat.reduceAdd, lg_cmp_eq, L_and, L_or, bI_1, bI_0, if_true, if_false, reduceIte, N_m1x, ite_not, e0, c_M_has, e3, u2_s, u2_n, u2_m]
    rw [if_neg (by omega)]
    by_cases h1 : s.testBit l = true
    · rw [if_pos h1] at e ⊢
      have el : (sl s l).length + 1 = (sl s (l + 1)).length := by rw [e, List.length_append]; rfl
      refine l_M_leastO c hs Kc m (l + 1) _ (by omega) (fun k k1 k2 => ?_) (fun i hi => ?_) ?_ (fun p hp => ?_)
      · rw [u2_r _ _ _ k1, u2_r _ _ _ k2]; exact e1 k k1 k2
      · rw [u2_m _ _ _ _ hi, u2_n _ _ _ _ (by omega)]; exact e2 i hi
      · rw [u2_s, el]
      · rw [u2_n _ _ _ _ (by omega), e]
        rw [← el] at hp
        by_cases ep : p = (sl s l).length
        · subst ep; rw [u2_s, gD_r]
        · rw [u2_m _ _ _ _ ep, gD_l (by omega)]; exact e4 p (by omega)
    · rw [if_neg h1] at e ⊢
      rw [← e] at e3 e4
      exact l_M_leastO c hs Kc m (l + 1) g (by omega) e1 e2 e3 e4
theorem l_M_leastB {Ls : List Nat} {k : Nat} {v1 : Int32} (c : M0 σ g0 hj) (hk : k < Ls.length) (hn : Ls.length ≤ 8) (hm : ∀ p, p < Ls.length → g0 73 p = nI (Ls.getD p 0) ∧ Ls.getD p 0 < σ 11 0) (Kc : ∀ g, (∀ i, i ≠ 80 → g i = g0 i) → (∀ i, i ≠ k → g 80 i = g0 80 i) → g 80 k = nI (bts (apb σ Ls k) k) → wp X (d + 5) m_M_leastNow 131 [.ref 51, .int v1, .int (nI k), .int (nI k)] [] (HP g hj) Q) :
    ∀ (m j : Nat) (g : Nat → Nat → Int32), j + m = k → (∀ i, i ≠ 80 → g i = g0 i) → (∀ i, i ≠ k → g 80 i = g0 80 i) → g 80 k = nI (bts (apb σ Ls k) j) →
    wp X (d + 5) m_M_leastNow 85 [.ref 51, .int v1, .int (nI k), .int (nI j)] [] (HP g hj) Q
  | 0, j, g, hj2, e1, e2, e3 => by
    have : j = k := by omega
    subst this
    rw [s_M_leastNow_85]
    simp (disch := omega) only [↓s_M_leastNow_86, ↓s_M_leastNow_87, nI_leI, nI_ltI, nI_eq, N_z, nI_add, pk_sub, pk_mul, kL_i, kL_r, kL_d, kL_l, kL_k, kL_f, Option.toList_some, Option.toList_none, List.cons_append, List.nil_append, bI_z, N_and, N_or, N_shl, N_shr, Nat.one_mul, Nat.reduceAdd, lg_cmp_eq, L_and, L_or, bI_1, bI_0, if_true, if_false, reduceIte, N_m1x, ite_not, Nat.le_refl]
    exact Kc g e1 e2 e3
  | m + 1, j, g, hj2, e1, e2, e3 => by
    have c2 : M0 σ g hj := M0_cg c (by rw [e1 51 (by omega)]) (by rw [e1 51 (by omega)]) (by rw [e1 51 (by omega)]) (by rw [e1 51 (by omega)]) (fun i _ _ => e1 i (by omega))
    obtain ⟨a1, a2⟩ := hm j (by omega)
    obtain ⟨b1, b2⟩ := hm k hk
    rw [← e1 73 (by omega)] at a1 b1
    have e : bts (apb σ Ls k) (j + 1) = bts (apb σ Ls k) j ||| (if apb σ Ls k j = true then 2 ^ j else 0) := rfl
    rw [s_M_leastNow_85]
    simp (disch := first | assumption | omega) only [↓s_M_leastNow_86, ↓s_M_leastNow_87, ↓s_M_leastNow_90, ↓s_M_leastNow_91, ↓s_M_leastNow_94, ↓s_M_leastNow_95, ↓s_M_leastNow_96, ↓s_M_leastNow_97, ↓s_M_leastNow_98, ↓s_M_leastNow_99, ↓s_M_leastNow_102, ↓s_M_leastNow_103, ↓s_M_leastNow_104, ↓s_M_leastNow_105, ↓s_M_leastNow_108, ↓s_M_leastNow_109, ↓s_M_leastNow_110, ↓s_M_leastNow_113, ↓s_M_leastNow_116, ↓s_M_leastNow_117, ↓s_M_leastNow_120, ↓s_M_leastNow_121, ↓s_M_leastNow_122, ↓s_M_leastNow_123, ↓s_M_leastNow_124, ↓s_M_leastNow_125, ↓s_M_leastNow_128, nI_leI, nI_ltI, nI_eq, N_z, nI_add, pk_sub, pk_mul, kL_i, kL_r, kL_d, kL_l, kL_k, kL_f, Option.toList_some, Option.toList_none, List.cons_append, List.nil_append, bI_z, N_and, N_or, N_shl, N_shr, Nat.one_mul, Nat.reduceAdd, lg_cmp_eq, L_and, L_or, bI_1, bI_0, if_true, if_false, reduceIte, N_m1x, ite_not, e3, a1, b1, c_M_joins c2]
    rw [if_neg (by omega)]
    by_cases h1 : jn σ (Ls.getD j 0) (Ls.getD k 0) = true
    · rw [if_pos h1]
      rw [if_neg (by unfold apb; rw [h1]; decide)] at e
      rw [← e]
      refine l_M_leastB c hk hn hm Kc m (j + 1) _ (by omega) (fun i hi => ?_) (fun i hi => ?_) (u2_s _ _ _ _)
      · rw [u2_r _ _ _ hi]; exact e1 i hi
      · rw [u2_m _ _ _ _ hi]; exact e2 i hi
    · rw [if_neg h1]
      rw [if_pos (by unfold apb; simpa using h1)] at e
      rw [← e]
      refine l_M_leastB c hk hn hm Kc m (j + 1) _ (by omega) (fun i hi => ?_) (fun i hi => ?_) (u2_s _ _ _ _)
      · rw [u2_r _ _ _ hi]; exact e1 i hi
      · rw [u2_m _ _ _ _ hi]; exact e2 i hi
theorem l_M_leastA {Ls : List Nat} {v1 : Int32} (c : M0 σ g0 hj) (ho : g0 51 30 = nI Ls.length) (hn : Ls.length ≤ 8) (hm : ∀ p, p < Ls.length → g0 73 p = nI (Ls.getD p 0) ∧ Ls.getD p 0 < σ 11 0) (Kc : ∀ g v2 v3, (∀ i, i ≠ 80 → g i = g0 i) → (∀ k, k < Ls.length → g 80 k = nI (bts (apb σ Ls k) k)) → wp X (d + 5) m_M_leastNow 137 [.ref 51, .int v1, v2, v3] [] (HP g hj) Q) :
    ∀ (m k : Nat) (g : Nat → Nat → Int32) (v3 : Value), k + m = Ls.length → (∀ i, i ≠ 80 → g i = g0 i) → (∀ p, p < k → g 80 p = nI (bts (apb σ Ls p) p)) →
    wp X (d + 5) m_M_leastNow 68 [.ref 51, .int v1, .int (nI k), v3] [] (HP g hj) Q
  | 0, k, g, v3, hk, e1, e2 => by
    have e0 : g 51 30 = nI Ls.length := by rw [e1 51 (by omega)]; exact ho
    have : k = Ls.length := by omega
    subst this
    rw [s_M_leastNow_68]
    simp (disch := omega) only [↓s_M_leastNow_69, ↓s_M_leastNow_70, ↓s_M_leastNow_73, nI_leI, nI_ltI, nI_eq, N_z, nI_add, pk_sub, pk_mul, kL_i, kL_r, kL_d, kL_l, kL_k, kL_f, Option.toList_some, Option.toList_none, List.cons_append, List.nil_append, bI_z, N_and, N_or, N_shl, N_shr, Nat.one_mul, Nat.reduceAdd, lg_cmp_eq, L_and, L_or, bI_1, bI_0, if_true, if_false, reduceIte, N_m1x, ite_not, e0, Nat.le_refl]
    exact Kc g _ _ e1 e2
  | m + 1, k, g, v3, hk, e1, e2 => by
    have e0 : g 51 30 = nI Ls.length := by rw [e1 51 (by omega)]; exact ho
    have c2 : M0 σ (up2 g 80 k (nI 0)) hj := M0_cg c (by rw [u2_r _ _ _ (by omega), e1 51 (by omega)]) (by rw [u2_r _ _ _ (by omega), e1 51 (by omega)]) (by rw [u2_r _ _ _ (by omega), e1 51 (by omega)]) (by rw [u2_r _ _ _ (by omega), e1 51 (by omega)]) (fun i _ _ => by rw [u2_r _ _ _ (by omega), e1 i (by omega)])
    rw [s_M_leastNow_68]
    simp (disch := omega) only [↓s_M_leastNow_69, ↓s_M_leastNow_70, ↓s_M_leastNow_73, ↓s_M_leastNow_76, ↓s_M_leastNow_77, ↓s_M_leastNow_80, ↓s_M_leastNow_81, ↓s_M_leastNow_82, ↓s_M_leastNow_83, ↓s_M_leastNow_84, nI_leI, nI_ltI, nI_eq, N_z, nI_add, pk_sub, pk_mul, kL_i, kL_r, kL_d, kL_l, kL_k, kL_f, Option.toList_some, Option.toList_none, List.cons_append, List.nil_append, bI_z, N_and, N_or, N_shl, N_shr, Nat.one_mul, Nat.reduceAdd, lg_cmp_eq, L_and, L_or, bI_1, bI_0, if_true, if_false, reduceIte, N_m1x, ite_not, e0]
    rw [if_neg (by omega)]
    refine l_M_leastB (g0 := up2 g 80 k (nI 0)) c2 (show k < Ls.length by omega) hn (fun p hp => by rw [u2_r _ _ _ (by omega), e1 73 (by omega)]; exact hm p hp) (fun g' q1 q2 q3 => ?_) k 0 _ (by omega) (fun _ _ => rfl) (fun _ _ => rfl) (u2_s _ _ _ _)
    simp (disch := omega) only [↓s_M_leastNow_131, ↓s_M_leastNow_134, nI_leI, nI_ltI, nI_eq, N_z, nI_add, pk_sub, pk_mul, kL_i, kL_r, kL_d, kL_l, kL_k, kL_f, Option.toList_some, Option.toList_none, List.cons_append, List.nil_append, bI_z, N_and, N_or, N_shl, N_shr, Nat.one_mul, Nat.reduceAdd, lg_cmp_eq, L_and, L_or, bI_1, bI_0, if_true, if_false, reduceIte, N_m1x, ite_not]
    refine l_M_leastA c ho hn hm Kc m (k + 1) g' _ (by omega) (fun i hi => ?_) (fun p hp => ?_)
    · rw [q1 i hi, u2_r _ _ _ hi]; exact e1 i hi
    · by_cases e : p = k
      · subst e; exact q3
      · rw [q2 p e, u2_m _ _ _ _ e]; exact e2 p (by omega)
theorem VR_top {Ls : List Nat} : VR σ Ls Ls.length (fun k => k) := ⟨fun k hk => hk, fun p q h1 h2 h3 => by dsimp only at h3; omega⟩
theorem l_M_leastG {Ls : List Nat} {v1 v3 : Value} (ho : g0 51 30 = nI Ls.length) (hn : Ls.length ≤ 8) (ha : ∀ k, k < Ls.length → g0 80 k = nI (bts (apb σ Ls k) k)) (Kc : ∀ g m x, LR σ Ls m x → (∀ i, i ≠ 79 → g i = g0 i) → (∀ p, p < Ls.length → g 79 p = nI (x p)) → m ≤ Ls.length → Q (some (.int (nI m))) (HP g hj)) :
    ∀ (r ms : Nat) (g : Nat → Nat → Int32), ms + r = Ls.length + 1 → (∀ i, i ≠ 79 → g i = g0 i) → (∀ k, k < ms → ∀ y, ¬ VR σ Ls k y) →
    wp X (d + 5) m_M_leastNow 139 [.ref 51, v1, .int (nI ms), v3] [] (HP g hj) Q
  | 0, ms, g, hm, e1, e2 => absurd VR_top (e2 Ls.length (by omega) _)
  | r + 1, ms, g, hm, e1, e2 => by
    rw [s_M_leastNow_139]
    simp (disch := omega) only [↓s_M_leastNow_140, ↓s_M_leastNow_141]
    refine c_M_gives (Ls := Ls) hn (by omega) (by rw [e1 51 (by omega)]; exact ho) (fun k hk => by rw [e1 80 (by omega)]; exact ha k hk) (fun g' x' h1 h2 h3 h4 => ?_) (fun g' h1 h2 => ?_)
    · simp (disch := omega) only [↓s_M_leastNow_144, ↓s_M_leastNow_147, ↓s_M_leastNow_150, ↓s_M_leastNow_153, ↓s_M_leastNow_154, nI_leI, nI_ltI, nI_eq, N_z, nI_add, pk_sub, pk_mul, kL_i, kL_r, kL_d, kL_l, kL_k, kL_f, Option.toList_some, Option.toList_none, List.cons_append, List.nil_append, bI_z, N_and, N_or, N_shl, N_shr, Nat.one_mul, Nat.reduceAdd, lg_cmp_eq, L_and, L_or, bI_1, bI_0, if_true, if_false, reduceIte, N_m1x, ite_not, Nat.one_ne_zero, Nat.zero_ne_one, eq_self, not_true_eq_false, not_false_eq_true]
      exact Kc g' ms x' ⟨h1, h2, e2⟩ (fun i hi => (h3 i hi).trans (e1 i hi)) h4 (by omega)
    · simp (disch := omega) only [↓s_M_leastNow_144, ↓s_M_leastNow_147, ↓s_M_leastNow_150, nI_leI, nI_ltI, nI_eq, N_z, nI_add, pk_sub, pk_mul, kL_i, kL_r, kL_d, kL_l, kL_k, kL_f, Option.toList_some, Option.toList_none, List.cons_append, List.nil_append, bI_z, N_and, N_or, N_shl, N_shr, Nat.one_mul, Nat.reduceAdd, lg_cmp_eq, L_and, L_or, bI_1, bI_0, if_true, if_false, reduceIte, N_m1x, ite_not, Nat.one_ne_zero, Nat.zero_ne_one, eq_self, not_true_eq_false, not_false_eq_true]
      refine l_M_leastG ho hn ha Kc r (ms + 1) g' (by omega) (fun i hi => (h2 i hi).trans (e1 i hi)) (fun k hk y => ?_)
      by_cases e : k = ms
      · subst e; exact h1 y
      · exact e2 k (by omega) y
/-- cells that least() of the model works in -/
theorem MR_least {g2 : Nat → Nat → Int32} (c : MR t n σ τ g hj) (e1 : ∀ k, k ≠ 51 → k ≠ 73 → k ≠ 79 → k ≠ 80 → g2 k = g k) (e2 : ∀ i, i ≠ 30 → g2 51 i = g 51 i) : MR t n σ τ g2 hj :=
  ⟨rdL_cg c.1 (e2 0 (by omega)) (e1 52 (by omega) (by omega) (by omega) (by omega)), M0_cg c.2.1 (e2 _ (by omega)) (e2 _ (by omega)) (e2 _ (by omega)) (e2 _ (by omega)) (fun k _ _ => e1 k (by omega) (by omega) (by omega) (by omega)), MW_cg c.2.2.1 (e2 _ (by omega)) (e2 _ (by omega)) (e2 _ (by omega)) (fun k hk => e1 k (by omega) (by omega) (by omega) (by omega)) rfl, MS_cg c.2.2.2 (e2 _ (by omega)) (fun k _ _ => e1 k (by omega) (by omega) (by omega) (by omega))⟩
theorem c_M_leastNow (c : MR t n σ τ g hj) (K : ∀ g', MR t n σ τ g' hj → (∀ k, k ≤ 50 → g' k = g k) → ((PL σ).length ≤ 8 → LR σ (PL σ) (lst σ).1 (lst σ).2 ∧ g' 51 30 = nI (PL σ).length ∧ ∀ p, p < (PL σ).length → g' 73 p = nI ((PL σ).getD p 0) ∧ g' 79 p = nI ((lst σ).2 p)) → Q (some (.int (aLeast σ))) (HP g' hj)) : cwp X (d + 5) m_M_leastNow [.ref 51] (HP g hj) Q := by
  have w := c.2.1.1.2.2.2.1.1
  have hp := prs_16 w
  have hl : (PL σ).length ≤ 12 := Nat.le_trans (pl_len _) w
  unfold aLeast at K
  simp (disch := omega) only [e_M_leastNow, ↓s_M_leastNow_0, ↓s_M_leastNow_1, ↓s_M_leastNow_4, ↓s_M_leastNow_5, ↓s_M_leastNow_6, ↓s_M_leastNow_9, ↓s_M_leastNow_11, ↓s_M_leastNow_14, ↓s_M_leastNow_16, c_M_present c.2.1, c_M_onesOf, len_PL w, nI_leI, nI_ltI, nI_eq, N_z, nI_add, pk_sub, pk_mul, kL_i, kL_r, kL_d, kL_l, kL_k, kL_f, Option.toList_some, Option.toList_none, List.cons_append, List.nil_append, bI_z, N_and, N_or, N_shl, N_shr, Nat.one_mul, Nat.reduceAdd, lg_cmp_eq, L_and, L_or, bI_1, bI_0, if_true, if_false, reduceIte, N_m1x, ite_not]
  by_cases h8 : 8 < (PL σ).length
  · rw [if_pos h8] at K
    rw [if_neg (by omega)]
    exact K g c (fun _ _ => rfl) (fun z => by omega)
  rw [if_neg h8] at K
  rw [if_pos (by omega)]
  simp (disch := omega) only [↓s_M_leastNow_17, ↓s_M_leastNow_18, ↓s_M_leastNow_19, ↓s_M_leastNow_22, ↓s_M_leastNow_23, nI_leI, nI_ltI, nI_eq, N_z, nI_add, pk_sub, pk_mul, kL_i, kL_r, kL_d, kL_l, kL_k, kL_f, Option.toList_some, Option.toList_none, List.cons_append, List.nil_append, bI_z, N_and, N_or, N_shl, N_shr, Nat.one_mul, Nat.reduceAdd, lg_cmp_eq, L_and, L_or, bI_1, bI_0, if_true, if_false, reduceIte, N_m1x, ite_not]
  have espl : sl (prs σ) (σ 11 0) = PL σ := sl_pl w _ (Nat.le_refl _)
  refine l_M_leastO c.2.1 hp (fun g2 v2 e1 e2 e3 e4 => ?_) (σ 11 0) 0 _ (by omega) (fun k k1 k2 => u2_r _ _ _ k1) (fun i hi => u2_m _ _ _ _ hi) (u2_s _ _ _ _) (fun p hp => by simp [sl] at hp)
  rw [espl] at e3 e4
  have c2 : M0 σ g2 hj := M0_cg c.2.1 (e2 _ (by omega)) (e2 _ (by omega)) (e2 _ (by omega)) (e2 _ (by omega)) (fun k _ _ => e1 k (by omega) (by omega))
  simp (disch := omega) only [↓s_M_leastNow_66, ↓s_M_leastNow_67, nI_leI, nI_ltI, nI_eq, N_z, nI_add, pk_sub, pk_mul, kL_i, kL_r, kL_d, kL_l, kL_k, kL_f, Option.toList_some, Option.toList_none, List.cons_append, List.nil_append, bI_z, N_and, N_or, N_shl, N_shr, Nat.one_mul, Nat.reduceAdd, lg_cmp_eq, L_and, L_or, bI_1, bI_0, if_true, if_false, reduceIte, N_m1x, ite_not]
  refine l_M_leastA c2 e3 (by omega) (fun p hp => ⟨e4 p hp, (PL_mem.mp (gD_mem hp)).1⟩) (fun g3 v2 v3 q1 q2 => ?_) (PL σ).length 0 g2 _ (by omega) (fun _ _ => rfl) (fun p hp => by omega)
  simp (disch := omega) only [↓s_M_leastNow_137, ↓s_M_leastNow_138, kL_i, kL_k]
  refine l_M_leastG (g0 := g3) (by rw [q1 51 (by omega)]; exact e3) (by omega) q2 (fun g4 m x hr f1 f2 hm => ?_) ((PL σ).length + 1) 0 g3 (by omega) (fun _ _ => rfl) (fun k hk => by omega)
  obtain ⟨l1, l2⟩ := lst_eq hr
  rw [← l1]
  refine K g4 (MR_least c (fun k k1 k2 k3 k4 => ?_) (fun i hi => ?_)) (fun k hk => ?_) (fun _ => ⟨lst_ok hr, ?_, fun p hp => ⟨?_, ?_⟩⟩)
  · rw [f1 k k3, q1 k k4, e1 k k1 k2]
  · rw [f1 51 (by omega), q1 51 (by omega), e2 i hi]
  · rw [f1 k (by omega), q1 k (by omega), e1 k (by omega) (by omega)]
  · rw [f1 51 (by omega), q1 51 (by omega), e3]
  · rw [f1 73 (by omega), q1 73 (by omega), e4 p hp]
  · rw [f2 p hp, l2 p hp]
theorem p_M_least (c : MR t n σ τ g hj) (K : KM g hj Q (t, n, σ, τ, aLeast σ)) : cwp X (d + 6) m_M_least [.ref 51] (HP g hj) Q := by
  simp only [e_M_least, ↓s_M_least_0, ↓s_M_least_1]
  refine c_M_leastNow c (fun g' c' e1 _ => ?_)
  simp (disch := omega) only [↓s_M_least_4, nI_leI, nI_ltI, nI_eq, N_z, nI_add, pk_sub, pk_mul, kL_i, kL_r, kL_d, kL_l, kL_k, kL_f, Option.toList_some, Option.toList_none, List.cons_append, List.nil_append, bI_z, N_and, N_or, N_shl, N_shr, Nat.one_mul, Nat.reduceAdd, lg_cmp_eq, L_and, L_or, bI_1, bI_0, if_true, if_false, reduceIte, N_m1x, ite_not]
  exact K g' hj c' e1 (fun _ _ => rfl)
noncomputable def onesS (t : Nat → Nat) (n : Nat) (σ τ : ST) (a1 : Int32) : SS := (t, n, σ, τ, if inR a1 (σ 11 0) then aOnesN σ (nn a1) else -2)
theorem l_M_ones {l : Nat} (hn : (PL σ).length ≤ 8) (hl : l < 100) (ho : g 51 30 = nI (PL σ).length) (hr : ∀ p, p < (PL σ).length → g 73 p = nI ((PL σ).getD p 0) ∧ g 79 p = nI ((lst σ).2 p) ∧ (PL σ).getD p 0 < 100) : ∀ (m k : Nat), k + m = (PL σ).length → wp X d m_M_ones 25 [.ref 51, .int (nI l), .int (nI k)] [] (HP g hj) Q = Q (some (.int (if fst1 (fun k => decide ((PL σ).getD k 0 = l)) m k = 0 then -1 else nI ((lst σ).2 (fst1 (fun k => decide ((PL σ).getD k 0 = l)) m k - 1))))) (HP g hj)
  | 0, k, hk => by
    have : k = (PL σ).length := by omega
    subst this
    rw [s_M_ones_25]
    simp (disch := omega) only [↓s_M_ones_26, ↓s_M_ones_27, ↓s_M_ones_30, ↓s_M_ones_56, ↓s_M_ones_57, nI_leI, nI_ltI, nI_eq, N_z, nI_add, pk_sub, pk_mul, kL_i, kL_r, kL_d, kL_l, kL_k, kL_f, Option.toList_some, Option.toList_none, List.cons_append, List.nil_append, bI_z, N_and, N_or, N_shl, N_shr, Nat.one_mul, Nat.reduceAdd, lg_cmp_eq, L_and, L_or, bI_1, bI_0, if_true, if_false, reduceIte, N_m1x, ite_not, ho, Nat.le_refl]
    rfl
  | m + 1, k, hk => by
    obtain ⟨r1, r2, r3⟩ := hr k (by omega)
    rw [s_M_ones_25]
    simp (disch := omega) only [↓s_M_ones_26, ↓s_M_ones_27, ↓s_M_ones_30, ↓s_M_ones_33, ↓s_M_ones_34, ↓s_M_ones_37, ↓s_M_ones_38, ↓s_M_ones_39, ↓s_M_ones_40, ↓s_M_ones_43, ↓s_M_ones_44, ↓s_M_ones_47, ↓s_M_ones_48, ↓s_M_ones_49, ↓s_M_ones_50, ↓s_M_ones_53, nI_leI, nI_ltI, nI_eq, N_z, nI_add, pk_sub, pk_mul, kL_i, kL_r, kL_d, kL_l, kL_k, kL_f, Option.toList_some, Option.toList_none, List.cons_append, List.nil_append, bI_z, N_and, N_or, N_shl, N_shr, Nat.one_mul, Nat.reduceAdd, lg_cmp_eq, L_and, L_or, bI_1, bI_0, if_true, if_false, reduceIte, N_m1x, ite_not, ho, r1, r2]
    rw [if_neg (by omega)]
    have ef : fst1 (fun k => decide ((PL σ).getD k 0 = l)) (m + 1) k = if decide ((PL σ).getD k 0 = l) = true then k + 1 else fst1 (fun k => decide ((PL σ).getD k 0 = l)) m (k + 1) := rfl
    rw [ef]
    by_cases h1 : (PL σ).getD k 0 = l
    · rw [if_pos h1, if_pos (decide_eq_true h1), if_neg (by omega)]
      rfl
    · rw [if_neg h1, if_neg (show ¬ decide ((PL σ).getD k 0 = l) = true from fun z => h1 (of_decide_eq_true z))]
      exact l_M_ones hn hl ho hr m (k + 1) (by omega)
theorem p_M_ones (c : MR t n σ τ g hj) (K : KM g hj Q (onesS t n σ τ a1)) : cwp X (d + 6) m_M_ones [.ref 51, .int a1] (HP g hj) Q := by
  have w := c.2.1.1.2.2.2.1.1
  unfold onesS at K
  simp (disch := omega) only [e_M_ones, ↓s_M_ones_0, ↓s_M_ones_1, ↓s_M_ones_2, ↓s_M_ones_5, ↓s_M_ones_8, ↓s_M_ones_10, c_M_isLump c.2.1, nI_leI, nI_ltI, nI_eq, N_z, nI_add, pk_sub, pk_mul, kL_i, kL_r, kL_d, kL_l, kL_k, kL_f, Option.toList_some, Option.toList_none, List.cons_append, List.nil_append, bI_z, N_and, N_or, N_shl, N_shr, Nat.one_mul, Nat.reduceAdd, lg_cmp_eq, L_and, L_or, bI_1, bI_0, if_true, if_false, reduceIte, N_m1x, ite_not]
  by_cases h1 : inR a1 (σ 11 0)
  case neg =>
    rw [if_neg h1] at K ⊢
    exact KM_0 c K
  rw [if_pos h1] at K ⊢
  obtain ⟨l, hl, rfl⟩ := inR_n h1 (by omega)
  rw [nn_n (by omega)] at K
  simp only [↓s_M_ones_11, ↓s_M_ones_12]
  refine c_M_leastNow c (fun g' c' e1 e2 => ?_)
  have K2 := K g' hj c' e1 (fun _ _ => rfl)
  change Q (some (.int (aOnesN σ l))) (HP g' hj) at K2
  unfold aOnesN at K2
  unfold aLeast
  simp (disch := omega) only [↓s_M_ones_15, ↓s_M_ones_17, ↓s_M_ones_20, ↓s_M_ones_22, Option.toList_some, List.cons_append, List.nil_append]
  by_cases h8 : 8 < (PL σ).length
  · rw [if_pos h8] at K2 ⊢
    rw [if_neg (fun z => z rfl)]
    exact K2
  rw [if_neg h8] at K2 ⊢
  obtain ⟨x1, x2, x3⟩ := e2 (by omega)
  have lm : (lst σ).1 ≤ (PL σ).length := by
    rcases Nat.lt_or_ge (PL σ).length (lst σ).1 with h | h
    · exact absurd VR_top (x1.2.2 _ h _)
    · exact h
  rw [if_pos (by intro z; have := nI_pos (n := (lst σ).1) (by omega); rw [z] at this; exact this (by decide))]
  simp (disch := omega) only [↓s_M_ones_23, ↓s_M_ones_24, kL_i]
  refine (l_M_ones (by omega) (by omega) x2 (fun p hp => ⟨(x3 p hp).1, (x3 p hp).2, ?_⟩) (PL σ).length 0 (by omega)).mpr K2
  have := (PL_mem.mp (gD_mem hp)).1
  omega
end ML
