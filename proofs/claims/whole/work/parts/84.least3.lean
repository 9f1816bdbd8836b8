/-! the class: least, ones -/
section CLEAST
variable {X : AX} {d : Nat} {Q : Option Value → AH → Prop} {g g0 : Nat → Nat → Int32} {hj : Nat → Nat → Int64} {σ τ : ST} {t : Nat → Nat} {n : Nat} {a1 : Int32}
theorem l_sg3 {p : Nat} (c : C0 σ g0 hj) (h8 : (PL σ).length ≤ 8) (hp : p < (PL σ).length) (e5 : g0 42 5 = nI (PL σ).length) (e43 : ∀ q, q < (PL σ).length → g0 43 q = nI ((PL σ).getD q 0)) (Kc : ∀ g, (∀ i, i ≠ 44 → g i = g0 i) → (∀ q, q ≠ p → g 44 q = g0 44 q) → g 44 p = nI (bts (fun j => jn σ ((PL σ).getD j 0) ((PL σ).getD p 0)) p) → wp X (d + 2) m_Strangers_gather 142 [.ref 42, .int (nI p), .int (nI p)] [] (HP g hj) Q) :
    ∀ (m j : Nat) (g : Nat → Nat → Int32), j + m = p → (∀ i, i ≠ 44 → g i = g0 i) → (∀ q, q ≠ p → g 44 q = g0 44 q) → g 44 p = nI (bts (fun j => jn σ ((PL σ).getD j 0) ((PL σ).getD p 0)) j) → wp X (d + 2) m_Strangers_gather 97 [.ref 42, .int (nI p), .int (nI j)] [] (HP g hj) Q
  | 0, j, g, hj2, e1, e2, e3 => by
    have : j = p := by omega
    subst this
    rw [s_Strangers_gather_97]
    simp (disch := omega) only [↓s_Strangers_gather_98, ↓s_Strangers_gather_99, nI_leI, nI_ltI, nI_eq, N_z, nI_add, pk_sub, pk_mul, kL_i, kL_r, kL_d, kL_l, kL_k, kL_f, Option.toList_some, Option.toList_none, List.cons_append, List.nil_append, bI_z, N_and, N_or, N_shl, N_shr, Nat.one_mul, Nat.reduceAdd, lg_cmp_eq, L_and, L_or, bI_1, bI_0, if_true, if_false, reduceIte, N_m1x, ite_not, Nat.le_refl]
    exact Kc g e1 e2 e3
  | m + 1, j, g, hj2, e1, e2, e3 => by
    have w1 := c.1.2.2.2.1.1
    have c1 : C0 σ g hj := C0_cg c (fun k _ _ => e1 k (by omega)) rfl
    have q1 : g 43 j = nI ((PL σ).getD j 0) := by rw [e1 43 (by omega)]; exact e43 j (by omega)
    have q2 : g 43 p = nI ((PL σ).getD p 0) := by rw [e1 43 (by omega)]; exact e43 p (by omega)
    have m1 := (PL_mem.mp (gD_mem (show j < (PL σ).length by omega))).1
    have m2 := (PL_mem.mp (gD_mem hp)).1
    have b := bts_16 (fun j => jn σ ((PL σ).getD j 0) ((PL σ).getD p 0)) (show j ≤ 16 by omega)
    have eb : bts (fun j => jn σ ((PL σ).getD j 0) ((PL σ).getD p 0)) (j + 1) = if jn σ ((PL σ).getD j 0) ((PL σ).getD p 0) = true then bts (fun j => jn σ ((PL σ).getD j 0) ((PL σ).getD p 0)) j ||| 2 ^ j else bts (fun j => jn σ ((PL σ).getD j 0) ((PL σ).getD p 0)) j := by
      refine eq16 (bts_16 _ (by omega)) ?_ (fun e he => ?_)
      · split
        · exact Nat.or_lt_two_pow (n := 16) b (Nat.pow_lt_pow_right (by omega) (by omega))
        · exact b
      · by_cases hjn : jn σ ((PL σ).getD j 0) ((PL σ).getD p 0) = true
        · rw [if_pos hjn, or_tb, bts_tb, bts_tb]
          by_cases z : e = j
          · subst z; simpa using hjn
          · by_cases z2 : e < j
            · simp [z2, show e < j + 1 by omega, show ¬ j = e by omega]
            · simp [z2, show ¬ e < j + 1 by omega, show ¬ j = e by omega]
        · rw [if_neg hjn, bts_tb, bts_tb]
          by_cases z : e = j
          · subst z; simpa using hjn
          · by_cases z2 : e < j
            · simp [z2, show e < j + 1 by omega]
            · simp [z2, show ¬ e < j + 1 by omega]
    rw [s_Strangers_gather_97]
    simp (disch := omega) only [↓s_Strangers_gather_98, ↓s_Strangers_gather_99, ↓s_Strangers_gather_102, ↓s_Strangers_gather_103, ↓s_Strangers_gather_106, ↓s_Strangers_gather_107, ↓s_Strangers_gather_110, ↓s_Strangers_gather_111, ↓s_Strangers_gather_112, ↓s_Strangers_gather_113, ↓s_Strangers_gather_116, ↓s_Strangers_gather_117, ↓s_Strangers_gather_118, ↓s_Strangers_gather_121, nI_leI, nI_ltI, nI_eq, N_z, nI_add, pk_sub, pk_mul, kL_i, kL_r, kL_d, kL_l, kL_k, kL_f, Option.toList_some, Option.toList_none, List.cons_append, List.nil_append, bI_z, N_and, N_or, N_shl, N_shr, Nat.one_mul, Nat.reduceAdd, lg_cmp_eq, L_and, L_or, bI_1, bI_0, if_true, if_false, reduceIte, N_m1x, ite_not, q1, q2, c_canBeJoined c1 m1 m2]
    rw [if_neg (by omega)]
    by_cases hjn : jn σ ((PL σ).getD j 0) ((PL σ).getD p 0) = true
    · rw [if_pos hjn] at eb ⊢
      simp (disch := omega) only [↓s_Strangers_gather_124, ↓s_Strangers_gather_125, ↓s_Strangers_gather_128, ↓s_Strangers_gather_129, ↓s_Strangers_gather_130, ↓s_Strangers_gather_131, ↓s_Strangers_gather_132, ↓s_Strangers_gather_133, ↓s_Strangers_gather_134, ↓s_Strangers_gather_135, ↓s_Strangers_gather_136, ↓s_Strangers_gather_139, nI_leI, nI_ltI, nI_eq, N_z, nI_add, pk_sub, pk_mul, kL_i, kL_r, kL_d, kL_l, kL_k, kL_f, Option.toList_some, Option.toList_none, List.cons_append, List.nil_append, bI_z, N_and, N_or, N_shl, N_shr, Nat.one_mul, Nat.reduceAdd, lg_cmp_eq, L_and, L_or, bI_1, bI_0, if_true, if_false, reduceIte, N_m1x, ite_not, e3]
      refine l_sg3 c h8 hp e5 e43 Kc m (j + 1) _ (by omega) (fun i hi => by rw [u2_r _ _ _ hi]; exact e1 i hi) (fun q hq => by rw [u2_m _ _ _ _ hq]; exact e2 q hq) (by rw [u2_s, eb])
    · rw [if_neg hjn] at eb ⊢
      simp (disch := omega) only [↓s_Strangers_gather_136, ↓s_Strangers_gather_139, nI_leI, nI_ltI, nI_eq, N_z, nI_add, pk_sub, pk_mul, kL_i, kL_r, kL_d, kL_l, kL_k, kL_f, Option.toList_some, Option.toList_none, List.cons_append, List.nil_append, bI_z, N_and, N_or, N_shl, N_shr, Nat.one_mul, Nat.reduceAdd, lg_cmp_eq, L_and, L_or, bI_1, bI_0, if_true, if_false, reduceIte, N_m1x, ite_not]
      exact l_sg3 c h8 hp e5 e43 Kc m (j + 1) g (by omega) e1 e2 (by rw [eb]; exact e3)
theorem l_sg2 (c : C0 σ g0 hj) (h8 : (PL σ).length ≤ 8) (e5 : g0 42 5 = nI (PL σ).length) (e43 : ∀ q, q < (PL σ).length → g0 43 q = nI ((PL σ).getD q 0)) (Kc : ∀ g, (∀ i, i ≠ 44 → i ≠ 45 → g i = g0 i) → (∀ q, q < (PL σ).length → g 45 q = nI 0 ∧ g 44 q = nI (bts (fun j => jn σ ((PL σ).getD j 0) ((PL σ).getD q 0)) q)) → Q none (HP g hj)) :
    ∀ (m p : Nat) (v2 : Value) (g : Nat → Nat → Int32), p + m = (PL σ).length → (∀ i, i ≠ 44 → i ≠ 45 → g i = g0 i) → (∀ q, q < p → g 45 q = nI 0 ∧ g 44 q = nI (bts (fun j => jn σ ((PL σ).getD j 0) ((PL σ).getD q 0)) q)) → wp X (d + 2) m_Strangers_gather 73 [.ref 42, .int (nI p), v2] [] (HP g hj) Q
  | 0, p, v2, g, hp, e1, e2 => by
    have : p = (PL σ).length := by omega
    subst this
    have z : g 42 5 = nI (PL σ).length := by rw [e1 42 (by omega) (by omega)]; exact e5
    rw [s_Strangers_gather_73]
    simp (disch := omega) only [↓s_Strangers_gather_74, ↓s_Strangers_gather_75, ↓s_Strangers_gather_78, ↓s_Strangers_gather_148, nI_leI, nI_ltI, nI_eq, N_z, nI_add, pk_sub, pk_mul, kL_i, kL_r, kL_d, kL_l, kL_k, kL_f, Option.toList_some, Option.toList_none, List.cons_append, List.nil_append, bI_z, N_and, N_or, N_shl, N_shr, Nat.one_mul, Nat.reduceAdd, lg_cmp_eq, L_and, L_or, bI_1, bI_0, if_true, if_false, reduceIte, N_m1x, ite_not, z, Nat.le_refl]
    exact Kc g e1 e2
  | m + 1, p, v2, g, hp, e1, e2 => by
    have z : g 42 5 = nI (PL σ).length := by rw [e1 42 (by omega) (by omega)]; exact e5
    rw [s_Strangers_gather_73]
    simp (disch := omega) only [↓s_Strangers_gather_74, ↓s_Strangers_gather_75, ↓s_Strangers_gather_78, ↓s_Strangers_gather_81, ↓s_Strangers_gather_82, ↓s_Strangers_gather_85, ↓s_Strangers_gather_86, ↓s_Strangers_gather_87, ↓s_Strangers_gather_88, ↓s_Strangers_gather_89, ↓s_Strangers_gather_92, ↓s_Strangers_gather_93, ↓s_Strangers_gather_94, ↓s_Strangers_gather_95, ↓s_Strangers_gather_96, nI_leI, nI_ltI, nI_eq, N_z, nI_add, pk_sub, pk_mul, kL_i, kL_r, kL_d, kL_l, kL_k, kL_f, Option.toList_some, Option.toList_none, List.cons_append, List.nil_append, bI_z, N_and, N_or, N_shl, N_shr, Nat.one_mul, Nat.reduceAdd, lg_cmp_eq, L_and, L_or, bI_1, bI_0, if_true, if_false, reduceIte, N_m1x, ite_not, z]
    rw [if_neg (by omega)]
    refine l_sg3 (g0 := up2 (up2 g 45 p (nI 0)) 44 p (nI 0)) (C0_cg c (fun k _ _ => by rw [u2_r _ _ _ (by omega), u2_r _ _ _ (by omega)]; exact e1 k (by omega) (by omega)) rfl) h8 (by omega) (by rw [u2_r _ _ _ (by omega), u2_r _ _ _ (by omega)]; exact z) (fun q hq => by rw [u2_r _ _ _ (by omega), u2_r _ _ _ (by omega), e1 43 (by omega) (by omega)]; exact e43 q hq) (fun g2 f1 f2 f3 => ?_) p 0 _ (by omega) (fun _ _ => rfl) (fun _ _ => rfl) (by rw [u2_s]; rfl)
    simp (disch := omega) only [↓s_Strangers_gather_142, ↓s_Strangers_gather_145, nI_leI, nI_ltI, nI_eq, N_z, nI_add, pk_sub, pk_mul, kL_i, kL_r, kL_d, kL_l, kL_k, kL_f, Option.toList_some, Option.toList_none, List.cons_append, List.nil_append, bI_z, N_and, N_or, N_shl, N_shr, Nat.one_mul, Nat.reduceAdd, lg_cmp_eq, L_and, L_or, bI_1, bI_0, if_true, if_false, reduceIte, N_m1x, ite_not]
    refine l_sg2 c h8 e5 e43 Kc m (p + 1) _ g2 (by omega) (fun i i1 i2 => by rw [f1 i i1, u2_r _ _ _ i1, u2_r _ _ _ i2]; exact e1 i i1 i2) (fun q hq => ?_)
    by_cases e : q = p
    · subst e
      exact ⟨by rw [f1 45 (by omega), u2_r _ _ _ (by omega), u2_s], f3⟩
    · refine ⟨?_, ?_⟩
      · rw [f1 45 (by omega), u2_r _ _ _ (by omega), u2_m _ _ _ _ e]; exact (e2 q (by omega)).1
      · rw [f2 q e, u2_m _ _ _ _ e, u2_r _ _ _ (by omega)]; exact (e2 q (by omega)).2
theorem l_sg1 {v2 : Value} (c : C0 σ g0 hj) (h8 : (PL σ).length ≤ 8) (Kc : ∀ g, (∀ i, i ≠ 42 → i ≠ 43 → i ≠ 46 → g i = g0 i) → (∀ i, i ≠ 5 → g 42 i = g0 42 i) → g 42 5 = nI (PL σ).length → (∀ p, p < (PL σ).length → g 43 p = nI ((PL σ).getD p 0)) → (∀ q, q < σ 11 0 → g 46 q = -1) → wp X (d + 2) m_Strangers_gather 71 [.ref 42, .int (nI (σ 11 0)), v2] [] (HP g hj) Q) :
    ∀ (m l : Nat) (g : Nat → Nat → Int32), l + m = σ 11 0 → (∀ i, i ≠ 42 → i ≠ 43 → i ≠ 46 → g i = g0 i) → (∀ i, i ≠ 5 → g 42 i = g0 42 i) → g 42 5 = nI (pl σ l).length → (∀ p, p < (pl σ l).length → g 43 p = nI ((pl σ l).getD p 0)) → (∀ q, q < l → g 46 q = -1) → wp X (d + 2) m_Strangers_gather 7 [.ref 42, .int (nI l), v2] [] (HP g hj) Q
  | 0, l, g, hl, e1, e2, e3, e4, e5 => by
    have w := c.1.2.2.2.1.1
    have c1 : C0 σ g hj := C0_cg c (fun k _ _ => e1 k (by omega) (by omega) (by omega)) rfl
    have z := c1.2.2.2.1
    have : l = σ 11 0 := by omega
    subst this
    rw [s_Strangers_gather_7]
    simp (disch := omega) only [↓s_Strangers_gather_8, ↓s_Strangers_gather_9, ↓s_Strangers_gather_12, ↓s_Strangers_gather_15, nI_leI, nI_ltI, nI_eq, N_z, nI_add, pk_sub, pk_mul, kL_i, kL_r, kL_d, kL_l, kL_k, kL_f, Option.toList_some, Option.toList_none, List.cons_append, List.nil_append, bI_z, N_and, N_or, N_shl, N_shr, Nat.one_mul, Nat.reduceAdd, lg_cmp_eq, L_and, L_or, bI_1, bI_0, if_true, if_false, reduceIte, N_m1x, ite_not, z, Nat.le_refl]
    exact Kc g e1 e2 e3 e4 e5
  | m + 1, l, g, hl, e1, e2, e3, e4, e5 => by
    have w := c.1.2.2.2.1.1
    have c1 : C0 σ (up2 g 46 l (-1)) hj := C0_cg c (fun k _ _ => by rw [u2_r _ _ _ (by omega)]; exact e1 k (by omega) (by omega) (by omega)) rfl
    have c0 : C0 σ g hj := C0_cg c (fun k _ _ => e1 k (by omega) (by omega) (by omega)) rfl
    have z := c0.2.2.2.1
    have lb := pl_len (σ := σ) l
    rw [s_Strangers_gather_7]
    simp (disch := omega) only [↓s_Strangers_gather_8, ↓s_Strangers_gather_9, ↓s_Strangers_gather_12, ↓s_Strangers_gather_15, ↓s_Strangers_gather_18, ↓s_Strangers_gather_19, ↓s_Strangers_gather_22, ↓s_Strangers_gather_23, ↓s_Strangers_gather_24, ↓s_Strangers_gather_25, ↓s_Strangers_gather_26, ↓s_Strangers_gather_29, ↓s_Strangers_gather_30, ↓s_Strangers_gather_33, nI_leI, nI_ltI, nI_eq, N_z, nI_add, pk_sub, pk_mul, kL_i, kL_r, kL_d, kL_l, kL_k, kL_f, Option.toList_some, Option.toList_none, List.cons_append, List.nil_append, bI_z, N_and, N_or, N_shl, N_shr, Nat.one_mul, Nat.reduceAdd, lg_cmp_eq, L_and, L_or, bI_1, bI_0, if_true, if_false, reduceIte, N_m1x, ite_not, z, c_Lumps_isAside c1]
    rw [if_neg (by omega)]
    have f46 : ∀ q, q < l + 1 → up2 g 46 l (-1) 46 q = -1 := fun q hq => by
      by_cases e : q = l
      · subst e; rw [u2_s]
      · rw [u2_m _ _ _ _ e]; exact e5 q (by omega)
    by_cases ha : (σ 18 0).testBit l = true
    · have ep : pl σ (l + 1) = pl σ l := by rw [pl, if_pos ha]
      first | rw [if_pos ha] | rw [if_neg (fun z => z ha)]
      simp (disch := omega) only [↓s_Strangers_gather_65, ↓s_Strangers_gather_68, nI_leI, nI_ltI, nI_eq, N_z, nI_add, pk_sub, pk_mul, kL_i, kL_r, kL_d, kL_l, kL_k, kL_f, Option.toList_some, Option.toList_none, List.cons_append, List.nil_append, bI_z, N_and, N_or, N_shl, N_shr, Nat.one_mul, Nat.reduceAdd, lg_cmp_eq, L_and, L_or, bI_1, bI_0, if_true, if_false, reduceIte, N_m1x, ite_not]
      refine l_sg1 c h8 Kc m (l + 1) _ (by omega) (fun i i1 i2 i3 => by rw [u2_r _ _ _ i3]; exact e1 i i1 i2 i3) (fun i hi => by rw [u2_r _ _ _ (by omega)]; exact e2 i hi) (by rw [u2_r _ _ _ (by omega), ep]; exact e3) (fun p hp => ?_) f46
      rw [ep] at hp ⊢
      rw [u2_r _ _ _ (by omega)]
      exact e4 p hp
    · have ep : pl σ (l + 1) = pl σ l ++ [l] := by rw [pl, if_neg ha]
      have bd := pl_bd (σ := σ) (show l + 1 ≤ σ 11 0 by omega)
      rw [ep, List.length_append, List.length_singleton] at bd
      first | rw [if_neg ha] | rw [if_pos ha]
      simp (disch := omega) only [↓s_Strangers_gather_36, ↓s_Strangers_gather_37, ↓s_Strangers_gather_40, ↓s_Strangers_gather_42, nI_leI, nI_ltI, nI_eq, N_z, nI_add, pk_sub, pk_mul, kL_i, kL_r, kL_d, kL_l, kL_k, kL_f, Option.toList_some, Option.toList_none, List.cons_append, List.nil_append, bI_z, N_and, N_or, N_shl, N_shr, Nat.one_mul, Nat.reduceAdd, lg_cmp_eq, L_and, L_or, bI_1, bI_0, if_true, if_false, reduceIte, N_m1x, ite_not, u2_s, u2_n, u2_m, e3]
      rw [if_neg (by omega)]
      simp (disch := omega) only [↓s_Strangers_gather_45, ↓s_Strangers_gather_46, ↓s_Strangers_gather_49, ↓s_Strangers_gather_50, ↓s_Strangers_gather_53, ↓s_Strangers_gather_54, ↓s_Strangers_gather_55, ↓s_Strangers_gather_56, ↓s_Strangers_gather_57, ↓s_Strangers_gather_60, ↓s_Strangers_gather_61, ↓s_Strangers_gather_62, ↓s_Strangers_gather_65, ↓s_Strangers_gather_68, nI_leI, nI_ltI, nI_eq, N_z, nI_add, pk_sub, pk_mul, kL_i, kL_r, kL_d, kL_l, kL_k, kL_f, Option.toList_some, Option.toList_none, List.cons_append, List.nil_append, bI_z, N_and, N_or, N_shl, N_shr, Nat.one_mul, Nat.reduceAdd, lg_cmp_eq, L_and, L_or, bI_1, bI_0, if_true, if_false, reduceIte, N_m1x, ite_not, u2_s, u2_n, u2_m, e3]
      refine l_sg1 c h8 Kc m (l + 1) _ (by omega) (fun i i1 i2 i3 => by rw [u2_r _ _ _ i1, u2_r _ _ _ i2, u2_r _ _ _ i3]; exact e1 i i1 i2 i3) (fun i hi => by rw [u2_m _ _ _ _ hi, u2_r _ _ _ (by omega), u2_r _ _ _ (by omega)]; exact e2 i hi) (by rw [u2_s, ep, List.length_append, List.length_singleton]) (fun p hp => ?_) (fun q hq => by rw [u2_r _ _ _ (by omega), u2_r _ _ _ (by omega)]; exact f46 q hq)
      rw [ep, List.length_append, List.length_singleton] at hp
      rw [ep, u2_r _ _ _ (by omega)]
      by_cases e : p = (pl σ l).length
      · subst e; rw [u2_s, gD_r]
      · rw [u2_m _ _ _ _ e, u2_r _ _ _ (by omega), gD_l (by omega)]
        exact e4 p (by omega)
theorem c_sgather (c : C0 σ g hj) (h8 : (PL σ).length ≤ 8) (Kc : ∀ g', (∀ i, i < 42 ∨ 47 ≤ i → g' i = g i) → (∀ i, i ≠ 5 → g' 42 i = g 42 i) → g' 42 5 = nI (PL σ).length → (∀ p, p < (PL σ).length → g' 43 p = nI ((PL σ).getD p 0) ∧ g' 44 p = nI (bts (fun j => jn σ ((PL σ).getD j 0) ((PL σ).getD p 0)) p)) → (∀ p, p < (PL σ).length → g' 45 p = nI 0) → (∀ q, q < σ 11 0 → g' 46 q = -1) → Q none (HP g' hj)) : cwp X (d + 2) m_Strangers_gather [.ref 42] (HP g hj) Q := by
  simp only [e_Strangers_gather, ↓s_Strangers_gather_0, ↓s_Strangers_gather_1, ↓s_Strangers_gather_2, ↓s_Strangers_gather_5, ↓s_Strangers_gather_6, kL_i]
  refine l_sg1 (g0 := up2 g 42 5 (nI 0)) (C0_cg c (fun k _ _ => u2_r _ _ _ (by omega)) rfl) h8 (fun g2 f1 f2 f3 f4 f5 => ?_) (σ 11 0) 0 _ (by omega) (fun _ _ _ _ => rfl) (fun _ _ => rfl) (by rw [u2_s]; rfl) (fun p hp => by simp [pl] at hp) (fun q hq => by omega)
  simp (disch := omega) only [↓s_Strangers_gather_71, ↓s_Strangers_gather_72, kL_i]
  refine l_sg2 (g0 := g2) (C0_cg c (fun k _ _ => by rw [f1 k (by omega) (by omega) (by omega), u2_r _ _ _ (by omega)]) rfl) h8 f3 f4 (fun g3 q1 q2 => ?_) (PL σ).length 0 _ g2 (by omega) (fun _ _ _ => rfl) (fun q hq => by omega)
  refine Kc g3 (fun i hi => ?_) (fun i hi => ?_) ?_ (fun p hp => ⟨?_, (q2 p hp).2⟩) (fun p hp => (q2 p hp).1) (fun q hq => ?_)
  · rw [q1 i (by omega) (by omega), f1 i (by omega) (by omega) (by omega), u2_r _ _ _ (by omega)]
  · rw [q1 42 (by omega) (by omega), f2 i hi, u2_m _ _ _ _ hi]
  · rw [q1 42 (by omega) (by omega)]; exact f3
  · rw [q1 43 (by omega) (by omega)]; exact f4 p hp
  · rw [q1 46 (by omega) (by omega)]; exact f5 q hq
/-- refresh: the least row stands -/
theorem c_refresh (c : CR t n σ τ g hj) (h8 : (PL σ).length ≤ 8) (Kc : ∀ g' m x, CR t n σ τ g' hj → (∀ k, 51 ≤ k → g' k = g k) → LR σ (PL σ) m x → g' 42 6 = nI m → (∀ k, k < (PL σ).length → g' 46 ((PL σ).getD k 0) = nI (x k)) → (∀ l, l < σ 11 0 → (σ 18 0).testBit l = true → g' 46 l = -1) → Q none (HP g' hj)) : cwp X (d + 9) m_Strangers_refresh [.ref 42] (HP g hj) Q := by
  have w := c.2.1.1.2.2.2.1.1
  rcases c.2.2.2.1 with hz | ⟨hz, _, m, x, h1, h2, h3, h4⟩
  case inr =>
    simp (disch := omega) only [e_Strangers_refresh, ↓s_Strangers_refresh_0, ↓s_Strangers_refresh_1, ↓s_Strangers_refresh_4, ↓s_Strangers_refresh_7, nI_leI, nI_ltI, nI_eq, N_z, nI_add, pk_sub, pk_mul, kL_i, kL_r, kL_d, kL_l, kL_k, kL_f, Option.toList_some, Option.toList_none, List.cons_append, List.nil_append, bI_z, N_and, N_or, N_shl, N_shr, Nat.one_mul, Nat.reduceAdd, lg_cmp_eq, L_and, L_or, bI_1, bI_0, if_true, if_false, reduceIte, N_m1x, ite_not, Nat.one_ne_zero, Nat.zero_ne_one, eq_self, not_true_eq_false, not_false_eq_true, hz]
    exact Kc g m x c (fun _ _ => rfl) h1 h2 h3 h4
  simp (disch := omega) only [e_Strangers_refresh, ↓s_Strangers_refresh_0, ↓s_Strangers_refresh_1, ↓s_Strangers_refresh_4, ↓s_Strangers_refresh_7, ↓s_Strangers_refresh_8, ↓s_Strangers_refresh_9, ↓s_Strangers_refresh_10_0, ↓s_Strangers_refresh_10_1, ↓s_Strangers_refresh_13, ↓s_Strangers_refresh_14, nI_leI, nI_ltI, nI_eq, N_z, nI_add, pk_sub, pk_mul, kL_i, kL_r, kL_d, kL_l, kL_k, kL_f, Option.toList_some, Option.toList_none, List.cons_append, List.nil_append, bI_z, N_and, N_or, N_shl, N_shr, Nat.one_mul, Nat.reduceAdd, lg_cmp_eq, L_and, L_or, bI_1, bI_0, if_true, if_false, reduceIte, N_m1x, ite_not, Nat.one_ne_zero, Nat.zero_ne_one, eq_self, not_true_eq_false, not_false_eq_true, hz]
  rw [show d + 8 = (d + 6) + 2 by omega]
  refine c_sgather (C0_cg c.2.1 (fun k _ _ => u2_r _ _ _ (by omega)) rfl) h8 (fun g1 f1 f2 f3 f4 f5 f6 => ?_)
  have fin : ∀ (g3 : Nat → Nat → Int32) (m : Nat) (x : Nat → Nat), (∀ i, i < 42 ∨ 47 ≤ i → g3 i = g1 i) → (∀ i, i ≠ 6 → g3 42 i = g1 42 i) → g3 42 6 = nI m → LR σ (PL σ) m x → (∀ p, p < (PL σ).length → g3 46 ((PL σ).getD p 0) = nI (x p)) → (∀ l, l ∉ PL σ → g3 46 l = g1 46 l) → Q none (HP g3 hj) := by
    intro g3 m x e1 e2 e3 lr e4 e5
    have fr : ∀ i, i < 42 ∨ 47 ≤ i → g3 i = g i := fun i hi => by rw [e1 i hi, f1 i hi, u2_r _ _ _ (by omega)]
    have a46 : ∀ l, l < σ 11 0 → (σ 18 0).testBit l = true → g3 46 l = -1 := fun l h1 h2 => by
      rw [e5 l (fun z => (PL_mem.mp z).2 h2)]; exact f6 l h1
    have e7 : g3 42 7 = nI 1 := by rw [e2 7 (by omega), f2 7 (by omega), u2_s]
    refine Kc g3 m x ⟨rdL_cg c.1 (by rw [fr 1 (by omega)]) (fr 2 (by omega)), C0_cg c.2.1 (fun k _ _ => fr k (by omega)) rfl, CW_cg c.2.2.1 (fun k _ _ => fr k (by omega)) rfl, Or.inr ⟨e7, h8, m, x, lr, e3, e4, a46⟩, CS_cg c.2.2.2.2 (fun k _ _ => fr k (by omega))⟩ (fun k hk => fr k (by omega)) lr e3 e4 a46
  have step : ∀ (m : Nat) (g2 : Nat → Nat → Int32), m ≤ (PL σ).length → (∀ i, i ≠ 42 → i ≠ 45 → i ≠ 46 → g2 i = g1 i) → (∀ i, i ≠ 6 → g2 42 i = g1 42 i) → g2 42 6 = nI m → MB (PL σ) g2 0 (fun _ => 0) → (∀ l, l ∉ PL σ → g2 46 l = g1 46 l) → (∀ k, k < m → ∀ y, ¬ VR σ (PL σ) k y) →
      (m < (PL σ).length → ∀ g2 : Nat → Nat → Int32, (∀ i, i ≠ 42 → i ≠ 45 → i ≠ 46 → g2 i = g1 i) → (∀ i, i ≠ 6 → g2 42 i = g1 42 i) → g2 42 6 = nI (m + 1) → MB (PL σ) g2 0 (fun _ => 0) → (∀ l, l ∉ PL σ → g2 46 l = g1 46 l) → (∀ k, k < m + 1 → ∀ y, ¬ VR σ (PL σ) k y) → wp X (d + 9) m_Strangers_refresh 22 [.ref 42] [] (HP g2 hj) Q) → wp X (d + 9) m_Strangers_refresh 22 [.ref 42] [] (HP g2 hj) Q := by
    intro m g2 hm e1 e2 e3 e4 e5 e6 nx
    have st : ST0 σ (PL σ) m g2 := ⟨by rw [e2 5 (by omega)]; exact f3, e3, by rw [e1 43 (by omega) (by omega) (by omega), e1 44 (by omega) (by omega) (by omega)]; exact f4⟩
    rw [s_Strangers_refresh_22]
    rw [show d + 9 = (d + (8 - (PL σ).length)) + (PL σ).length + 1 by omega] at nx ⊢
    simp (disch := omega) only [↓s_Strangers_refresh_23, ↓s_Strangers_refresh_24, ↓s_Strangers_refresh_25, nI_leI, nI_ltI, nI_eq, N_z, nI_add, pk_sub, pk_mul, kL_i, kL_r, kL_d, kL_l, kL_k, kL_f, Option.toList_some, Option.toList_none, List.cons_append, List.nil_append, bI_z, N_and, N_or, N_shl, N_shr, Nat.one_mul, Nat.reduceAdd, lg_cmp_eq, L_and, L_or, bI_1, bI_0, if_true, if_false, reduceIte, N_m1x, ite_not]
    refine share_all h8 hm (pl_nd _) (fun l hl => by have := (PL_mem.mp hl).1; omega) (PL σ).length 0 0 (fun _ => 0) g2 _ _ (by omega) (by omega) (fun p hp => by omega) ⟨fun p hp => by omega, fun p q h1 h2 => by omega⟩ st e4 (fun p hp => by omega) (fun g3 x v1 v2 v3 q1 q2 q3 q4 => ?_) (fun g3 v1 q1 q2 q3 q4 => ?_)
    · simp (disch := omega) only [↓s_Strangers_refresh_28, ↓s_Strangers_refresh_55, nI_leI, nI_ltI, nI_eq, N_z, nI_add, pk_sub, pk_mul, kL_i, kL_r, kL_d, kL_l, kL_k, kL_f, Option.toList_some, Option.toList_none, List.cons_append, List.nil_append, bI_z, N_and, N_or, N_shl, N_shr, Nat.one_mul, Nat.reduceAdd, lg_cmp_eq, L_and, L_or, bI_1, bI_0, if_true, if_false, reduceIte, N_m1x, ite_not, Nat.one_ne_zero, Nat.zero_ne_one, eq_self, not_true_eq_false, not_false_eq_true]
      refine fin g3 m x (fun i hi => by rw [q1 i (by omega) (by omega)]; exact e1 i (by omega) (by omega) (by omega)) (fun i hi => by rw [q1 42 (by omega) (by omega)]; exact e2 i hi) (by rw [q1 42 (by omega) (by omega)]; exact e3) ⟨v1, fun y hy => v3 y hy (fun p hp => by omega), e6⟩ q3 (fun l hl => by rw [q4 l hl]; exact e5 l hl)
    · have g5 : g3 42 5 = nI (PL σ).length := by rw [q1 42 (by omega) (by omega), e2 5 (by omega)]; exact f3
      have g6 : g3 42 6 = nI m := by rw [q1 42 (by omega) (by omega)]; exact e3
      have hlt : m < (PL σ).length := by
        by_cases h : m = (PL σ).length
        · subst h; exact absurd (fun p hp => by omega) (v1 _ VR_top)
        · omega
      simp (disch := omega) only [↓s_Strangers_refresh_28, ↓s_Strangers_refresh_31, ↓s_Strangers_refresh_32, ↓s_Strangers_refresh_35, ↓s_Strangers_refresh_36, ↓s_Strangers_refresh_39, nI_leI, nI_ltI, nI_eq, N_z, nI_add, pk_sub, pk_mul, kL_i, kL_r, kL_d, kL_l, kL_k, kL_f, Option.toList_some, Option.toList_none, List.cons_append, List.nil_append, bI_z, N_and, N_or, N_shl, N_shr, Nat.one_mul, Nat.reduceAdd, lg_cmp_eq, L_and, L_or, bI_1, bI_0, if_true, if_false, reduceIte, N_m1x, ite_not, Nat.one_ne_zero, Nat.zero_ne_one, eq_self, not_true_eq_false, not_false_eq_true, g5, g6]
      rw [if_neg (by omega)]
      simp (disch := omega) only [↓s_Strangers_refresh_42, ↓s_Strangers_refresh_43, ↓s_Strangers_refresh_44, ↓s_Strangers_refresh_47, ↓s_Strangers_refresh_48, ↓s_Strangers_refresh_49, ↓s_Strangers_refresh_52, nI_leI, nI_ltI, nI_eq, N_z, nI_add, pk_sub, pk_mul, kL_i, kL_r, kL_d, kL_l, kL_k, kL_f, Option.toList_some, Option.toList_none, List.cons_append, List.nil_append, bI_z, N_and, N_or, N_shl, N_shr, Nat.one_mul, Nat.reduceAdd, lg_cmp_eq, L_and, L_or, bI_1, bI_0, if_true, if_false, reduceIte, N_m1x, ite_not, Nat.one_ne_zero, Nat.zero_ne_one, eq_self, not_true_eq_false, not_false_eq_true, g6]
      refine nx hlt _ (fun i i1 i2 i3 => by rw [u2_r _ _ _ i1, q1 i i2 i3]; exact e1 i i1 i2 i3) (fun i hi => by rw [u2_m _ _ _ _ hi, q1 42 (by omega) (by omega)]; exact e2 i hi) (u2_s _ _ _ _) (fun i hi => by rw [u2_r _ _ _ (by omega)]; exact q2 i hi) (fun l hl => by rw [u2_r _ _ _ (by omega), q4 l hl]; exact e5 l hl) (fun k hk y => ?_)
      by_cases e : k = m
      · subst e; exact fun z => v1 y z (fun p hp => by omega)
      · exact e6 k (by omega) y
  have loop : ∀ (f m : Nat) (g2 : Nat → Nat → Int32), m + f = (PL σ).length → (∀ i, i ≠ 42 → i ≠ 45 → i ≠ 46 → g2 i = g1 i) → (∀ i, i ≠ 6 → g2 42 i = g1 42 i) → g2 42 6 = nI m → MB (PL σ) g2 0 (fun _ => 0) → (∀ l, l ∉ PL σ → g2 46 l = g1 46 l) → (∀ k, k < m → ∀ y, ¬ VR σ (PL σ) k y) → wp X (d + 9) m_Strangers_refresh 22 [.ref 42] [] (HP g2 hj) Q := by
    intro f
    induction f with
    | zero => exact fun m g2 hm e1 e2 e3 e4 e5 e6 => step m g2 (by omega) e1 e2 e3 e4 e5 e6 (fun z => by omega)
    | succ f ih => exact fun m g2 hm e1 e2 e3 e4 e5 e6 => step m g2 (by omega) e1 e2 e3 e4 e5 e6 (fun _ g3 h1 h2 h3 h4 h5 h6 => ih (m + 1) g3 (by omega) h1 h2 h3 h4 h5 h6)
  simp (disch := omega) only [↓s_Strangers_refresh_17, ↓s_Strangers_refresh_18, ↓s_Strangers_refresh_19, nI_leI, nI_ltI, nI_eq, N_z, nI_add, pk_sub, pk_mul, kL_i, kL_r, kL_d, kL_l, kL_k, kL_f, Option.toList_some, Option.toList_none, List.cons_append, List.nil_append, bI_z, N_and, N_or, N_shl, N_shr, Nat.one_mul, Nat.reduceAdd, lg_cmp_eq, L_and, L_or, bI_1, bI_0, if_true, if_false, reduceIte, N_m1x, ite_not]
  refine loop (PL σ).length 0 _ (by omega) (fun i i1 i2 i3 => u2_r _ _ _ i1) (fun i hi => u2_m _ _ _ _ hi) (u2_s _ _ _ _) (fun i hi => ?_) (fun l hl => by rw [u2_r _ _ _ (by omega)]) (fun k hk => by omega)
  rw [u2_r _ _ _ (by omega), f5 i hi, bts_f (fun p => by simp)]
theorem p_C_least (c : CR t n σ τ g hj) (K : KC g hj Q (t, n, σ, τ, aLeast σ)) : cwp X (d + 10) m_C_least [.ref 0] (HP g hj) Q := by
  simp (disch := omega) only [e_C_least, ↓s_C_least_0, ↓s_C_least_1, ↓s_C_least_4, ↓s_C_least_7, ↓s_C_least_10, nI_leI, nI_ltI, nI_eq, N_z, nI_add, pk_sub, pk_mul, kL_i, kL_r, kL_d, kL_l, kL_k, kL_f, Option.toList_some, Option.toList_none, List.cons_append, List.nil_append, bI_z, N_and, N_or, N_shl, N_shr, Nat.one_mul, Nat.reduceAdd, lg_cmp_eq, L_and, L_or, bI_1, bI_0, if_true, if_false, reduceIte, N_m1x, ite_not, c_areTooMany c.2.1]
  by_cases h8 : 8 < (PL σ).length
  · rw [if_pos h8]
    have := KC_0 c K
    unfold aLeast at this
    rw [if_pos h8] at this
    simp (disch := omega) only [↓s_C_least_10, ↓s_C_least_12, nI_leI, nI_ltI, nI_eq, N_z, nI_add, pk_sub, pk_mul, kL_i, kL_r, kL_d, kL_l, kL_k, kL_f, Option.toList_some, Option.toList_none, List.cons_append, List.nil_append, bI_z, N_and, N_or, N_shl, N_shr, Nat.one_mul, Nat.reduceAdd, lg_cmp_eq, L_and, L_or, bI_1, bI_0, if_true, if_false, reduceIte, N_m1x, ite_not]
    exact this
  · rw [if_neg h8]
    simp (disch := omega) only [↓s_C_least_13, ↓s_C_least_14, ↓s_C_least_17, nI_leI, nI_ltI, nI_eq, N_z, nI_add, pk_sub, pk_mul, kL_i, kL_r, kL_d, kL_l, kL_k, kL_f, Option.toList_some, Option.toList_none, List.cons_append, List.nil_append, bI_z, N_and, N_or, N_shl, N_shr, Nat.one_mul, Nat.reduceAdd, lg_cmp_eq, L_and, L_or, bI_1, bI_0, if_true, if_false, reduceIte, N_m1x, ite_not]
    refine c_refresh c (by omega) (fun g' m x c' e1 lr e6 e46 ea => ?_)
    have := K g' hj c' e1 (fun _ _ => rfl)
    change Q (some (.int (aLeast σ))) (HP g' hj) at this
    unfold aLeast at this
    rw [if_neg h8, (lst_eq lr).1] at this
    simp (disch := omega) only [↓s_C_least_20, ↓s_C_least_21, ↓s_C_least_24, ↓s_C_least_27, nI_leI, nI_ltI, nI_eq, N_z, nI_add, pk_sub, pk_mul, kL_i, kL_r, kL_d, kL_l, kL_k, kL_f, Option.toList_some, Option.toList_none, List.cons_append, List.nil_append, bI_z, N_and, N_or, N_shl, N_shr, Nat.one_mul, Nat.reduceAdd, lg_cmp_eq, L_and, L_or, bI_1, bI_0, if_true, if_false, reduceIte, N_m1x, ite_not, e6]
    exact this
theorem fst1_0 (p : Nat → Bool) : ∀ n i, fst1 p n i = 0 → ∀ k, i ≤ k → k < i + n → p k = false
  | 0, i, _, k, h1, h2 => by omega
  | n + 1, i, h, k, h1, h2 => by
    unfold fst1 at h
    by_cases e : p i = true
    · rw [if_pos e] at h; omega
    · rw [if_neg e] at h
      by_cases e2 : k = i
      · subst e2; simpa using e
      · exact fst1_0 p n (i + 1) h k (by omega) (by omega)
theorem p_C_ones (c : CR t n σ τ g hj) (K : KC g hj Q (onesS t n σ τ a1)) : cwp X (d + 10) m_C_ones [.ref 0, .int a1] (HP g hj) Q := by
  have w := c.2.1.1.2.2.2.1.1
  unfold onesS at K
  simp (disch := omega) only [e_C_ones, ↓s_C_ones_0, ↓s_C_ones_1, ↓s_C_ones_2, ↓s_C_ones_5, ↓s_C_ones_8, ↓s_C_ones_10, c_C_isLump c.2.1, nI_leI, nI_ltI, nI_eq, N_z, nI_add, pk_sub, pk_mul, kL_i, kL_r, kL_d, kL_l, kL_k, kL_f, Option.toList_some, Option.toList_none, List.cons_append, List.nil_append, bI_z, N_and, N_or, N_shl, N_shr, Nat.one_mul, Nat.reduceAdd, lg_cmp_eq, L_and, L_or, bI_1, bI_0, if_true, if_false, reduceIte, N_m1x, ite_not]
  by_cases h1 : inR a1 (σ 11 0)
  case neg =>
    rw [if_neg h1] at K ⊢
    exact KC_0 c K
  rw [if_pos h1] at K ⊢
  obtain ⟨l, hl, rfl⟩ := inR_n h1 (by omega)
  rw [nn_n (by omega)] at K
  simp (disch := omega) only [↓s_C_ones_11, ↓s_C_ones_12, ↓s_C_ones_15, ↓s_C_ones_18, ↓s_C_ones_21, ↓s_C_ones_23, nI_leI, nI_ltI, nI_eq, N_z, nI_add, pk_sub, pk_mul, kL_i, kL_r, kL_d, kL_l, kL_k, kL_f, Option.toList_some, Option.toList_none, List.cons_append, List.nil_append, bI_z, N_and, N_or, N_shl, N_shr, Nat.one_mul, Nat.reduceAdd, lg_cmp_eq, L_and, L_or, bI_1, bI_0, if_true, if_false, reduceIte, N_m1x, ite_not, c_areTooMany c.2.1]
  by_cases h8 : 8 < (PL σ).length
  · rw [if_pos h8]
    have := KC_0 c K
    unfold aOnesN at this
    rw [if_pos h8] at this
    exact this
  · rw [if_neg h8]
    simp (disch := omega) only [↓s_C_ones_24, ↓s_C_ones_25, ↓s_C_ones_28, nI_leI, nI_ltI, nI_eq, N_z, nI_add, pk_sub, pk_mul, kL_i, kL_r, kL_d, kL_l, kL_k, kL_f, Option.toList_some, Option.toList_none, List.cons_append, List.nil_append, bI_z, N_and, N_or, N_shl, N_shr, Nat.one_mul, Nat.reduceAdd, lg_cmp_eq, L_and, L_or, bI_1, bI_0, if_true, if_false, reduceIte, N_m1x, ite_not]
    refine c_refresh c (by omega) (fun g' m x c' e1 lr e6 e46 ea => ?_)
    have := K g' hj c' e1 (fun _ _ => rfl)
    change Q (some (.int (aOnesN σ l))) (HP g' hj) at this
    unfold aOnesN at this
    rw [if_neg h8] at this
    simp (disch := omega) only [↓s_C_ones_31, ↓s_C_ones_32, ↓s_C_ones_35, ↓s_C_ones_38, ↓s_C_ones_39, ↓s_C_ones_40, nI_leI, nI_ltI, nI_eq, N_z, nI_add, pk_sub, pk_mul, kL_i, kL_r, kL_d, kL_l, kL_k, kL_f, Option.toList_some, Option.toList_none, List.cons_append, List.nil_append, bI_z, N_and, N_or, N_shl, N_shr, Nat.one_mul, Nat.reduceAdd, lg_cmp_eq, L_and, L_or, bI_1, bI_0, if_true, if_false, reduceIte, N_m1x, ite_not]
    have key : g' 46 l = if plc σ l = 0 then -1 else nI ((lst σ).2 (plc σ l - 1)) := by
      by_cases hp : plc σ l = 0
      · rw [if_pos hp]
        have h0 := fst1_0 _ _ _ hp
        refine ea l hl ?_
        by_cases ha : (σ 18 0).testBit l = true
        · exact ha
        · obtain ⟨p, hp2, e⟩ := List.getElem_of_mem (PL_mem.mpr ⟨hl, ha⟩)
          have := h0 p (by omega) (by omega)
          rw [List.getD_eq_getElem?_getD, List.getElem?_eq_getElem hp2] at this
          simp [e] at this
      · rw [if_neg hp]
        have h2 := fst1_p _ _ _ hp
        have h3 := fst1_le (fun k => decide ((PL σ).getD k 0 = l)) (PL σ).length 0
        have h4 : plc σ l ≤ (PL σ).length := by unfold plc; omega
        have h5 : (PL σ).getD (plc σ l - 1) 0 = l := of_decide_eq_true h2
        rw [(lst_eq lr).2 _ (by omega), ← e46 _ (by omega), h5]
    rw [key]
    exact this
end CLEAST
